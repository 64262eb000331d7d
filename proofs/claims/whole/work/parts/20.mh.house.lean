-- OneJoy.house, which throws; OneJoyLaw.house, which catches
def m_Joy_house : fw_M := (⟨"OneJoy", "house", "(II)I"⟩, prog_1_method_8_code, 3, (some .int), [(0, .aload_n 0, 1), (1, .getfield 35, 4), (4, .iload_n 1, 5), (5, .invokevirtual 146, 8), (8, .ifCond .eq 13, 11), (11, .iload_n 2, 12), (12, .ifCond .lt 9, 15), (15, .iload_n 2, 16), (16, .bipush 6, 18), (18, .if_icmp .le 11, 21), (21, .new 149, 24), (24, .dup, 25), (25, .invokespecial 151, 28), (28, .athrow, 29), (29, .iload_n 2, 30), (30, .iconst 5, 31), (31, .if_icmp .ge 13, 34), (34, .aload_n 0, 35), (35, .getfield 35, 38), (38, .iload_n 1, 39), (39, .iload_n 2, 40), (40, .invokevirtual 152, 43), (43, .ireturn, 44), (44, .iload_n 2, 45), (45, .iconst 5, 46), (46, .if_icmp .ne 20, 49), (49, .aload_n 0, 50), (50, .getfield 35, 53), (53, .getfield 156, 56), (56, .iload_n 1, 57), (57, .invokestatic 159, 60), (60, .invokestatic 165, 63), (63, .goto 14, 66), (66, .aload_n 0, 67), (67, .getfield 35, 70), (70, .getfield 169, 73), (73, .iload_n 1, 74), (74, .invokestatic 173, 77), (77, .ireturn, 78)])
theorem dec_Joy_house : ∀ e ∈ m_Joy_house.2.2.2.2, e.1 < e.2.2 ∧ decode m_Joy_house.2.1 e.1 = .ok (e.2.1, e.2.2 - e.1) := by decide +kernel
/-- the same without a name: it may end by a throw -/
def m_Joy_houseX : fw_M := (⟨"OneJoy", "", "(II)I"⟩, m_Joy_house.2)
def m_Law0_house : fw_M := (yL_house, method_3_code, 5, (some .int), [(0, .aload_n 3, 1), (1, .iconst 0, 2), (2, .aload_n 0, 3), (3, .iload_n 1, 4), (4, .iload_n 2, 5), (5, .invokevirtual 7, 8), (8, .i2l, 9), (9, .lastore, 10), (10, .goto 7, 13), (13, .astore 4, 15), (15, .iconst 1, 16), (16, .ireturn, 17), (17, .iconst 0, 18), (18, .ireturn, 19)])
theorem dec_Law0_house : ∀ e ∈ m_Law0_house.2.2.2.2, e.1 < e.2.2 ∧ decode m_Law0_house.2.1 e.1 = .ok (e.2.1, e.2.2 - e.1) := by decide +kernel
def fw_eT (h : fw_H) (o : Option Int32) : Option fw_V × fw_H := (o.map fw_i, h)
/-- none within: it throws -/
def s_Joy_house (h : fw_H) (v0 : Option Nat) (v1 v2 : Int32) : Option (Option Int32) :=
(f_ck h v0 11).bind fun _ =>
(f_gR h v0 11 3).bind fun x1 =>
(s_Vil_hasHouse h x1 v1).bind fun x5 =>
if x5 = true then
(if v2 < 0 then some none else
(if v2 ≤ 6 then
(if 5 ≤ v2 then
(if ¬ v2 = 5 then
(f_gR h v0 11 3).bind fun x6 =>
(f_gR h x6 7 3).bind fun x7 =>
(s_Rows_get h x7 v1).bind fun x8 =>
some (some x8) else
(f_gR h v0 11 3).bind fun x6 =>
(f_gI h x6 7 7).bind fun x7 =>
(s_Rows_has x7 v1).bind fun x8 =>
(s_Joy_bit x8).bind fun x9 =>
some (some x9)) else
(f_gR h v0 11 3).bind fun x6 =>
(s_Vil_trait h x6 v1 v2).bind fun x8 =>
some (some x8)) else some none)) else some none
theorem cx_Joy_house {G : fw_G} {h : fw_H} {v0 : Option Nat} {v1 v2 : Int32} : fw_R G m_Joy_houseX (fw_eT h) 8 0 0 0 [(0, some (fw_r v0)), (1, some (fw_i v1)), (2, some (fw_i v2))] [] h (s_Joy_house h v0 v1 v2) := by
  refine r_ck ?_
  refine r_aload_n (i := 0) rfl rfl rfl ?_
  refine r_gR (i := 1) (ci := 11) (kf := 3) rfl (Nat.le_of_ble_eq_true rfl) wF_Joy_35 rfl rfl fun x1 => ?_
  refine r_iload_n (i := 2) rfl rfl rfl ?_
  refine r_VB1 (i := 3) (k2 := 0) (n2 := 0) ok_Vil_hasHouse wM_Joy_146 (c_Vil_hasHouse) (fun _ e => fw_ckb e) (Nat.le_of_ble_eq_true rfl) (Nat.le_of_ble_eq_true rfl) (Nat.le_of_ble_eq_true rfl) (Nat.le_of_ble_eq_true rfl) rfl rfl fun x5 => ?_
  refine r_ifeqB (i := 4) (tgt := 21) rfl rfl rfl (r_thr rfl rfl rfl) ?_
  refine r_iload_n (i := 5) rfl rfl rfl ?_
  refine r_if_lt (i := 6) (tgt := 21) rfl rfl rfl (r_thr rfl rfl rfl) ?_
  refine r_iload_n (i := 7) rfl rfl rfl ?_
  refine r_bipush (i := 8) (6 : Int32) (by decide) rfl rfl ?_
  refine r_icmp_le (i := 9) (tgt := 29) rfl rfl rfl ?_ (r_thr rfl rfl rfl)
  refine r_iload_n (i := 14) rfl rfl rfl ?_
  refine r_iconst (i := 15) (5 : Int32) (by decide) rfl rfl ?_
  refine r_icmp_ge (i := 16) (tgt := 44) rfl rfl rfl ?_ ?_
  · refine r_iload_n (i := 23) rfl rfl rfl ?_
    refine r_iconst (i := 24) (5 : Int32) (by decide) rfl rfl ?_
    refine r_icmp_ne (i := 25) (tgt := 66) rfl rfl rfl ?_ ?_
    · refine r_aload_n (i := 33) rfl rfl rfl ?_
      refine r_gR (i := 34) (ci := 11) (kf := 3) rfl (Nat.le_of_ble_eq_true rfl) wF_Joy_35 rfl rfl fun x6 => ?_
      refine r_gR (i := 35) (ci := 7) (kf := 3) rfl (Nat.le_of_ble_eq_true rfl) wF_Joy_169 rfl rfl fun x7 => ?_
      refine r_iload_n (i := 36) rfl rfl rfl ?_
      refine r_SI2 (i := 37) (k2 := 0) (n2 := 0) ok_Rows_get wM_Joy_173 (c_Rows_get) (Nat.le_of_ble_eq_true rfl) (Nat.le_of_ble_eq_true rfl) (Nat.le_of_ble_eq_true rfl) (Nat.le_of_ble_eq_true rfl) rfl rfl fun x8 => ?_
      exact r_retI (i := 38) rfl rfl rfl rfl
    · refine r_aload_n (i := 26) rfl rfl rfl ?_
      refine r_gR (i := 27) (ci := 11) (kf := 3) rfl (Nat.le_of_ble_eq_true rfl) wF_Joy_35 rfl rfl fun x6 => ?_
      refine r_gI (i := 28) (ci := 7) (kf := 7) rfl (Nat.le_of_ble_eq_true rfl) wF_Joy_156 rfl rfl fun x7 => ?_
      refine r_iload_n (i := 29) rfl rfl rfl ?_
      refine r_SB2 (i := 30) (k2 := 0) (n2 := 0) ok_Rows_has wM_Joy_159 (c_Rows_has) (Nat.le_of_ble_eq_true rfl) (Nat.le_of_ble_eq_true rfl) (Nat.le_of_ble_eq_true rfl) (Nat.le_of_ble_eq_true rfl) rfl rfl fun x8 => ?_
      refine r_SI1 (i := 31) (k2 := 0) (n2 := 0) ok_Joy_bit wM_Joy_165 (c_Joy_bit) (Nat.le_of_ble_eq_true rfl) (Nat.le_of_ble_eq_true rfl) (Nat.le_of_ble_eq_true rfl) (Nat.le_of_ble_eq_true rfl) rfl rfl fun x9 => ?_
      refine r_goto (i := 32) (tgt := 77) rfl rfl rfl ?_
      exact r_retI (i := 38) rfl rfl rfl rfl
  · refine r_aload_n (i := 17) rfl rfl rfl ?_
    refine r_gR (i := 18) (ci := 11) (kf := 3) rfl (Nat.le_of_ble_eq_true rfl) wF_Joy_35 rfl rfl fun x6 => ?_
    refine r_iload_n (i := 19) rfl rfl rfl ?_
    refine r_iload_n (i := 20) rfl rfl rfl ?_
    refine r_VI2 (i := 21) (k2 := 0) (n2 := 0) ok_Vil_trait wM_Joy_152 (c_Vil_trait) (fun _ e => fw_ckb e) (Nat.le_of_ble_eq_true rfl) (Nat.le_of_ble_eq_true rfl) (Nat.le_of_ble_eq_true rfl) (Nat.le_of_ble_eq_true rfl) rfl rfl fun x8 => ?_
    exact r_retI (i := 22) rfl rfl rfl rfl
theorem hx_x0 : ∀ w ∈ (vx_at0 RX11 151 "java/util/NoSuchElementException" ["java/lang/RuntimeException", "java/lang/Exception"]).filter goodWord, w ∈ lw_tbl := by decide +kernel
theorem hx_x1 : ∀ w ∈ (vx_at0 RX11 151 "java/util/NoSuchElementException" ["java/lang/RuntimeException", "java/lang/Exception"]).filter (fun w => !goodWord w), w ∈ fw_nw := by decide +kernel
theorem hx_x2 : (Cond.classLink RX11 149 "java/util/NoSuchElementException" :: Cond.initialized "java/util/NoSuchElementException" :: vx_at0 RX11 151 "java/util/NoSuchElementException" ["java/lang/RuntimeException", "java/lang/Exception"]).all vx_ot = true := by decide +kernel
theorem hx_x3 : fw_nw.all Cond.onTables = true := by decide +kernel
theorem hx_w1 : Cond.classLink RX11 149 "java/util/NoSuchElementException" ∈ fw_tb := by decide +kernel
theorem hx_w2 : Cond.initialized "java/util/NoSuchElementException" ∈ fw_tb := by decide +kernel
theorem hx_fit : Bundle.fit "java/util/NoSuchElementException" = true ∧ ∀ n ∈ ["java/lang/RuntimeException", "java/lang/Exception"], Bundle.fit n = true := by decide +kernel
theorem hx_nw {args : Array Value} {s : State} (hK : ∀ w ∈ fw_nw, w.before #[] s = true) : ∀ w ∈ fw_nw, w.before args s = true := fun w hw => va_tabs (List.all_eq_true.mp hx_x3 w hw) rfl (hK w hw)
theorem hx_at {args : Array Value} {s : State} (hts : ∀ w ∈ fw_tb, w.before args s = true) (hK : ∀ w ∈ fw_nw, w.before #[] s = true) : ∀ w ∈ vx_at0 RX11 151 "java/util/NoSuchElementException" ["java/lang/RuntimeException", "java/lang/Exception"], w.before args s = true :=
  vx_hat (B := fw_nw) (fun w hw => hts w (List.mem_filter.mpr ⟨hx_x0 w hw, (List.mem_filter.mp hw).2⟩)) hx_x1 (hx_nw hK)
theorem hx_d : decode prog_1_method_8_code 21 = .ok (.new 149, 3) ∧ decode prog_1_method_8_code 24 = .ok (.dup, 1) ∧ decode prog_1_method_8_code 25 = .ok (.invokespecial 151, 3) ∧ decode prog_1_method_8_code 28 = .ok (.athrow, 1) := by decide +kernel
theorem hx_met {G : fw_G} {h : fw_H} {v0 : Option Nat} {v1 v2 : Int32} {r : Option Int32} (hr : s_Joy_house h v0 v1 v2 = some r) (l : Launch) (D : Nat) (hst9 : l.stackTraces = false) (hD : 8 ≤ D) :
    vx_Met l m_Joy_house.1 (fw_ws m_Joy_house) { frames := D, cells := 1, slots := 6, locals := 60 * D } (va_Pc ([fw_r v0, fw_i v1, fw_i v2].map (fw_tr G)) (fw_Pre G h)) (fun a st o t => ∃ x, r = some x ∧ fw_Post G (some (fw_i x), h) a st o t) (fun E st t => E = "java/util/NoSuchElementException" ∧ r = none ∧ fw_P G t.heap (h ++ [fw_opq]) ∧ st.heap.size ≤ t.heap.size) 1 6 (fw_A G) := by
  refine vx_ofW (cc := m_Joy_house.2.1) (maxL := m_Joy_house.2.2.1) (ret := m_Joy_house.2.2.2.1) (by decide +kernel) rfl ?_
  intro p e s m args below meth c s₁ B hml hout hv
  obtain ⟨rfl, hP, hK, hb⟩ := hv
  have hts := atoms_spec (ws := fw_ws m_Joy_house) B.pre
  have hts' := fun w (hw : w ∈ fw_tb) => hts w (List.mem_cons_of_mem _ hw)
  have hown : s.vm.findClass RX11 = some m.cls := findClass_of_methodNamed B.named
  rw [lg_entry_eq]
  have hl := lv_entry ([fw_r v0, fw_i v1, fw_i v2].map (fw_tr G)) (n := 3) (by rw [fw_sl_len]; exact Nat.le_of_ble_eq_true rfl)
  have e9 : fw_ent 0 [fw_r v0, fw_i v1, fw_i v2] = [(0, some (fw_r v0)), (1, some (fw_i v1)), (2, some (fw_i v2))] := rfl
  refine cx_Joy_house (G := G) r hr l p e _ s m _ below meth c s.heap _ [] 0 0 _ ⟨B.exec, B.bytes, hml, B.returns, B.notSynchronized, hown, fun z => absurd z (by decide), hts', hK, hb, dec_Joy_house, hst9⟩
    ⟨hD, Nat.mul_le_mul_left 60 hD, by show 0 + 0 ≤ 1; omega, by show 0 + 0 ≤ 6; omega, hP, Nat.le_refl _, ⟨hl.1, hl.2.1, fun j v hv => hl.2.2 _ (fw_ent_mem G [fw_r v0, fw_i v1, fw_i v2] 0 j v (by rw [e9]; exact hv))⟩, (fun q hq => by cases hq), ?_⟩
  intro H' ls' locs' cells' slots' pc' hP' hz hl' hc' hs' hend
  cases r with
  | some x =>
    have hdg : decode m_Joy_house.2.1 pc' = .ok (.ireturn, 1) := hend.elim (fun z => z.1) (fun z => (Option.some_ne_none _ z.1).elim)
    refine vx_ret (W.widen (k := 1) (n := 6) (by omega) (by omega) ?_)
    exact W.zret B.exec B.bytes B.returns rfl (fun t ht hW => ⟨x, rfl, rfl, by rw [ht]; exact hP', by rw [ht]; exact hz⟩) hl' hdg
  | none =>
    obtain ⟨h21, hsz⟩ : pc' = 21 ∧ ls'.size = 3 := hend.elim (fun z => (Option.some_ne_none _ z.2).elim) (fun z => ⟨z.2.1, z.2.2.2⟩)
    subst h21
    have hX := hK.2.2.2.2.2.2.2
    exact fx_throw0 (cc := prog_1_method_8_code) (pc := 21) (rest := []) B.exec B.bytes hst9 (own := RX11) (cls := "java/util/NoSuchElementException") (names := ["java/lang/RuntimeException", "java/lang/Exception"]) (ik := 149) (ic := 151) (A := fw_A G)
      hown hx_fit.1 hx_fit.2 (hts' _ hx_w1) (hts' _ hx_w2) (hx_at hts' hX.2.2) (fun w hw => List.all_eq_true.mp hx_x2 w hw)
      (hX.1.kept (fun a ha _ => hP.2.2.1 a ha)) (hX.2.1.kept (fun a ha _ => hP.2.2.1 a ha))
      ⟨hz, fun q hq hn => (hP'.2.2.1 q (Nat.lt_of_not_le hn)).trans (hP.2.2.1 q (Nat.lt_of_not_le hn)).symm, hl'⟩ (hsz.trans hml.symm) hx_d.1 hx_d.2.1 hx_d.2.2.1 hx_d.2.2.2
      (fun x hx => (hout x hx).elim) (by show 2 + 3 < D; omega) (by show 0 + (13 * (2 + 1) + 42) ≤ 60 * D; omega) (by show cells' + 1 ≤ 1; omega) (by show slots' + 6 ≤ 6; omega) B.notSynchronized
      (fun t hA hle hq hsz1 => ⟨rfl, rfl, fw_P.push hP' hsz1 hq (fw_at_opq hP'.1), Nat.le_trans hz hle⟩) hl' (by omega) (by omega)
