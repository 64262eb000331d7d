-- OneJoyLaw.house: it catches
def hl_ws : List Cond := Cond.codeWith yL_house method_3_code 5 (some .int) [(0, 10, 13, 13)] :: fw_tb
def s_Law0_house (h : fw_H) (v0 : Option Nat) (v1 v2 : Int32) (v3 : Option Nat) : Option (Int32 × fw_H) :=
(s_Joy_house h v0 v1 v2).bind fun o => match o with
  | some x => (f_sJ h v3 (0 : Int32) x.toInt64).bind fun h1 => some ((0 : Int32), h1)
  | none => some ((1 : Int32), h ++ [fw_opq])
def fw_eW (x : Int32 × fw_H) : Option fw_V × fw_H := (some (fw_i x.1), x.2)
theorem hl_8 {G : fw_G} {h : fw_H} {lv : fw_L} {v3 : Option Nat} {x : Int32} : fw_R G m_Law0_house fw_eW 8 0 0 8 lv [fw_i x, fw_i 0, fw_r v3] h ((f_sJ h v3 (0 : Int32) x.toInt64).bind fun h1 => some ((0 : Int32), h1)) := by
  refine r_i2l (i := 6) rfl rfl ?_
  refine r_sJ (i := 7) rfl rfl fun h1 => ?_
  refine r_goto (i := 8) (tgt := 17) rfl rfl rfl ?_
  refine r_iconst (i := 12) (0 : Int32) (by decide) rfl rfl ?_
  exact r_retI (i := 13) rfl rfl rfl rfl
theorem hl_15 {G : fw_G} {h : fw_H} {lv : fw_L} : fw_R G m_Law0_house fw_eW 8 0 0 15 lv [] h (some ((1 : Int32), h)) := by
  refine r_iconst (i := 10) (1 : Int32) (by decide) rfl rfl ?_
  exact r_retI (i := 11) rfl rfl rfl rfl
theorem hl_w1 : Cond.classLink RL 13 "java/util/NoSuchElementException" ∈ fw_tb := by decide +kernel
theorem hl_w2 : Cond.methodLink RL 7 m_Joy_house.1 ∈ fw_tb := by decide +kernel
theorem hl_w3 : Cond.instanceMethod m_Joy_house.1 ∈ fw_tb := by decide +kernel
theorem hl_w4 : Cond.selects m_Joy_house.1.cls m_Joy_house.1 m_Joy_house.1 ∈ fw_tb := by decide +kernel
theorem hl_w5 : Cond.initialized m_Joy_house.1.cls ∈ fw_tb := by decide +kernel
theorem hl_w6 : Cond.code m_Joy_house.1 m_Joy_house.2.1 m_Joy_house.2.2.1 m_Joy_house.2.2.2.1 ∈ fw_tb := by decide +kernel
theorem hl_d : decode method_3_code 0 = .ok (.aload_n 3, 1) ∧ decode method_3_code 1 = .ok (.iconst 0, 1) ∧ decode method_3_code 2 = .ok (.aload_n 0, 1) ∧ decode method_3_code 3 = .ok (.iload_n 1, 1) ∧ decode method_3_code 4 = .ok (.iload_n 2, 1) ∧ decode method_3_code 5 = .ok (.invokevirtual 7, 3) ∧ decode method_3_code 13 = .ok (.astore 4, 2) := by decide +kernel
theorem hl_met {G : fw_G} {h : fw_H} {v0 v3 : Option Nat} {v1 v2 : Int32} {r : Int32 × fw_H} (hr : s_Law0_house h v0 v1 v2 v3 = some r) (l : Launch) (D : Nat) (hst9 : l.stackTraces = false) (hD : 12 ≤ D) :
    vx_Met l yL_house hl_ws { frames := D, cells := 1, slots := 6, locals := 60 * D } (va_Pc ([fw_r v0, fw_i v1, fw_i v2, fw_r v3].map (fw_tr G)) (fw_Pre G h)) (fw_Post G (some (fw_i r.1), r.2)) (fun _ _ _ => False) 1 6 (fw_A G) := by
  refine vx_ofWH (cc := method_3_code) (maxL := 5) (ret := some .int) (hh := [(0, 10, 13, 13)]) (by decide +kernel) rfl ?_
  intro p e s m args below meth c s₁ B hml hv
  obtain ⟨rfl, hP, hK, hb⟩ := hv
  have hts := atoms_spec (ws := hl_ws) B.pre
  have hts' := fun w (hw : w ∈ fw_tb) => hts w (List.mem_cons_of_mem _ hw)
  have htab := vx_table (x := yL_house) B (hts _ List.mem_cons_self)
  rw [lg_entry_eq]
  have hl := lv_entry ([fw_r v0, fw_i v1, fw_i v2, fw_r v3].map (fw_tr G)) (n := 5) (by rw [fw_sl_len]; exact Nat.le_of_ble_eq_true rfl)
  have e9 : fw_ent 0 [fw_r v0, fw_i v1, fw_i v2, fw_r v3] = [(0, some (fw_r v0)), (1, some (fw_i v1)), (2, some (fw_i v2)), (3, some (fw_r v3))] := rfl
  obtain ⟨o, ho, hK2⟩ := fw_bd hr
  obtain ⟨fs, ho1, -⟩ := fw_bd (fw_ckb (show (f_ck h v0 11).bind _ = some o from ho))
  obtain ⟨a, rfl, ho'⟩ := fw_obj_at ho1
  generalize (lg_sl ([fw_r (some a), fw_i v1, fw_i v2, fw_r v3].map (fw_tr G)) ++ List.replicate (5 - (lg_sl ([fw_r (some a), fw_i v1, fw_i v2, fw_r v3].map (fw_tr G))).length) Slot.unset).toArray = ls at hl ⊢
  have hL : fw_lh G ls 5 [(0, some (fw_r (some a))), (1, some (fw_i v1)), (2, some (fw_i v2)), (3, some (fw_r v3))] := ⟨hl.1, hl.2.1, fun j v hv => hl.2.2 _ (fw_ent_mem G [fw_r (some a), fw_i v1, fw_i v2, fw_r v3] 0 j v (by rw [e9]; exact hv))⟩
  have hown := findClass_of_methodNamed B.named
  have C : fw_C G m_Law0_house l p s m (([fw_r (some a), fw_i v1, fw_i v2, fw_r v3].map (fw_tr G)).toArray) meth c := ⟨B.exec, B.bytes, hml, B.returns, B.notSynchronized, hown, fun z => absurd z (by decide), hts', hK, hb, dec_Law0_house, hst9⟩
  have fin : ∀ (H' : Heap) (ls' : Array Slot) (locs' : List Loc) (cells' slots' pc' : Nat), fw_P G H' r.2 → s.heap.size ≤ H'.size → (∀ q ∈ locs', fw_base G ≤ q.base) → cells' ≤ 1 → slots' ≤ 6 → fw_end m_Law0_house (some (fw_i r.1)) ls' pc' →
      W p l e (headSpec hl_ws { frames := D, cells := 1, slots := 6, locals := 60 * D }).room s m (([fw_r (some a), fw_i v1, fw_i v2, fw_r v3].map (fw_tr G)).toArray) below meth c H' locs' cells' slots' (vx_MQ below (fw_Post G (some (fw_i r.1), r.2)) (fun _ _ _ => False) (([fw_r (some a), fw_i v1, fw_i v2, fw_r v3].map (fw_tr G)).toArray) s 1 6 (fw_A G)) (F0 m pc' ls' [.int r.1]) := by
    intro H' ls' locs' cells' slots' pc' hP' hz hl' hc' hs' hend
    have hdg : decode method_3_code pc' = .ok (.ireturn, 1) := hend.elim (fun z => z.1) (fun z => (Option.some_ne_none _ z.1).elim)
    refine vx_ret (W.widen (k := 1) (n := 6) hc' hs' ?_)
    exact W.zret B.exec B.bytes B.returns rfl (fun t ht hW => ⟨rfl, by rw [ht]; exact hP', by rw [ht]; exact hz⟩) hl' hdg
  have h3 : ls[3]? = some (.val (va_rf (v3.map (fw_ad G)))) := fw_lat (j := 3) (v := fw_r v3) hL rfl
  have key : W p l e (headSpec hl_ws { frames := D, cells := 1, slots := 6, locals := 60 * D }).room s m (([fw_r (some a), fw_i v1, fw_i v2, fw_r v3].map (fw_tr G)).toArray) below meth c s.heap [] 0 0 (vx_MQ below (fw_Post G (some (fw_i r.1), r.2)) (fun _ _ _ => False) (([fw_r (some a), fw_i v1, fw_i v2, fw_r v3].map (fw_tr G)).toArray) s 1 6 (fw_A G)) (F0 m (0 + 1) ls [va_rf (v3.map (fw_ad G))]) := by
    refine lv_iconst B.exec B.bytes (v := 0) hl_d.2.1 (by decide) ?_
    refine lv_aload_n B.exec B.bytes (x := fw_ad G a) hl_d.2.2.1 rfl (fw_lat (j := 0) (v := fw_r (some a)) hL rfl) ?_
    refine lv_iload_n B.exec B.bytes (x := v1) hl_d.2.2.2.1 rfl (fw_lat (j := 1) (v := fw_i v1) hL rfl) ?_
    refine lv_iload_n B.exec B.bytes (x := v2) hl_d.2.2.2.2.1 rfl (fw_lat (j := 2) (v := fw_i v2) hL rfl) ?_
    obtain ⟨h11, r'', g0, g00, cellB, g1, g2, g3, -⟩ := hP.2.2.2 a _ ho'
    have hcls := (hK.1.1 11 _ (show fw_cls[11]? = some (RX11, TX11, 16) from rfl)).2
    have cw := cwV (R := (headSpec hl_ws { frames := D, cells := 1, slots := 6, locals := 60 * D }).room) (rm := { frames := D - 1, cells := 1, slots := 6, locals := 60 * (D - 1) }) (mc := 1) (ms := 6) (bytes := m_Joy_house.2.1) (maxL := 3) (ret := m_Joy_house.2.2.2.1) (own := RL) (index := 7) (C := RX11) (y := m_Joy_house.1) (ws := fw_ws m_Joy_house) (ws' := fw_tb) 2 hts' (fw_GoodIn (fun w hw => by
        simp only [wsV, fw_ws, List.cons_append, List.nil_append, List.mem_cons] at hw
        rcases hw with rfl | rfl | rfl | rfl | rfl | hw
        · exact hl_w2
        · exact hl_w3
        · exact hl_w4
        · exact hl_w5
        · exact hl_w6
        · exact hw)) rfl rfl rfl ⟨rfl, by decide +kernel, by decide +kernel, by decide +kernel⟩ ⟨by show D - 1 + 1 ≤ D; omega, by show 8 + (3 + 11) + 60 * (D - 1) ≤ 60 * D; omega⟩
    have hrun := vx_runV (p := p) (l := l) (e := e) (s := s) (m := m) (below := below) (meth := meth) (c := c) (H := s.heap) (locs := []) (cells := 0) (slots := 0) (C := RX11) (b := fw_ad G a) (As := [.int v1, .int v2]) (rest := [.int 0, va_rf (v3.map (fw_ad G))]) (g := F0 m 5 ls [.int v2, .int v1, .ref (fw_ad G a), .int 0, va_rf (v3.map (fw_ad G))]) ⟨B.exec, B.bytes, hml, hown, hts'⟩ (hx_met (G := G) ho l (D - 1) hst9 (by omega)) cw
      ⟨fw_Pre.blind, ⟨cellB, g1, by rw [g3]; rfl, by rw [g2]; exact hcls.1⟩, fun U hU hW => ⟨rfl, by rw [hU]; exact hP, hK.warm hW, by rw [hU]; exact hb⟩⟩
      rfl rfl hl.1 rfl (by cases v3 <;> exact Nat.le_of_ble_eq_true rfl) hl_d.2.2.2.2.2.1 ⟨by show 0 + 1 ≤ 1; omega, by show 0 + 6 ≤ 6; omega⟩
    intro T hT X
    rcases hrun T hT X with ⟨v, st₀, t, T', L, h0, X', hL', e1, e2, ⟨x, hx, hv, hP', hz⟩, hst⟩ | ⟨q9, st₀, t, T', L, E, ce, h0, X', hL', e1, e2, ⟨hE, hn, hP2, hz2⟩, hce, hcv, hcl, hst⟩
    · subst hx
      have hv : v = some (.int x) := Outcome.returned.inj hv
      subst hv
      obtain ⟨t2, a1, b1⟩ := hl_8 (G := G) r hK2 l p e _ s m _ below meth c T'.heap ls ([] ++ L) (0 + 1) (0 + 6) _ C
        ⟨by show 8 ≤ D; omega, by show 60 * 8 ≤ 60 * D; omega, Nat.le_refl _, Nat.le_refl _, by rw [e1]; exact hP', by rw [e1]; rw [h0] at hz; exact hz, hL, fun q hq => hL' q hq,
         fun H' ls' locs' cells' slots' pc' y1 y2 y3 y4 y5 y6 => fin H' ls' locs' cells' slots' pc' y1 y2 y3 (by omega) (by omega) y6⟩ T' rfl X'
      exact ⟨t2, hst t2 a1, b1⟩
    · subst hn
      subst hE
      obtain ⟨ls', e', hL2⟩ := lv_store1 (v := .ref q9) (i := 4) (fw_kl_has hL) (by omega) rfl
      have hr2 : some ((1 : Int32), h ++ [fw_opq]) = some r := hK2
      have k13 : W p l e (headSpec hl_ws { frames := D, cells := 1, slots := 6, locals := 60 * D }).room s m (([fw_r (some a), fw_i v1, fw_i v2, fw_r v3].map (fw_tr G)).toArray) below meth c T'.heap ([] ++ L) (0 + 1) (0 + 6) (vx_MQ below (fw_Post G (some (fw_i r.1), r.2)) (fun _ _ _ => False) (([fw_r (some a), fw_i v1, fw_i v2, fw_r v3].map (fw_tr G)).toArray) s 1 6 (fw_A G)) (F0 m 13 ls [.ref q9]) := by
        intro T2 hT2 X2
        obtain ⟨t2, a1, b1⟩ := hl_15 (G := G) (lv := []) r hr2 l p e _ s m _ below meth c T'.heap ls' ([] ++ L) (0 + 1) (0 + 6) _ C
          ⟨by show 8 ≤ D; omega, by show 60 * 8 ≤ 60 * D; omega, Nat.le_refl _, Nat.le_refl _, by rw [e1]; exact hP2, by rw [e1]; rw [h0] at hz2; exact hz2, ⟨hL2.1, hL2.2.1, fun i v hv => by cases hv⟩, fun q hq => hL' q hq,
           fun H' ls' locs' cells' slots' pc' y1 y2 y3 y4 y5 y6 => fin H' ls' locs' cells' slots' pc' y1 y2 y3 (by omega) (by omega) y6⟩ T2 hT2 X2
        refine ⟨t2, ?_, b1⟩
        have hbb : c.code = method_3_code := B.bytes
        have hdg := hl_d.2.2.2.2.2.2
        jvm_step X2.here [X2.here.top, ↓top_set X2.here.top, B.exec, hbb, hdg, e', Value.isRef]
        exact a1
      have hw := vx_catch (Q := vx_MQ below (fw_Post G (some (fw_i r.1), r.2)) (fun _ _ _ => False) (([fw_r (some a), fw_i v1, fw_i v2, fw_r v3].map (fw_tr G)).toArray) s 1 6 (fw_A G)) (pc := 5) (rest := [.int 0, va_rf (v3.map (fw_ad G))]) hown [] ⟨0, 10, 13, 13⟩ [] htab (fun z hz => nomatch hz) rfl (by decide) (hts' _ hl_w1) (hx_nw hK.2.2.2.2.2.2.2.2.2 _ List.mem_cons_self) (by rw [e1]; exact hce) hcv hcl k13
      obtain ⟨t2, a1, b1⟩ := hw T' rfl X'
      exact ⟨t2, hst.trans a1, b1⟩
  cases v3 with
  | none => exact lv_aload_nN B.exec B.bytes hl_d.1 rfl h3 key
  | some a3 => exact lv_aload_n B.exec B.bytes hl_d.1 rfl h3 key
theorem hl_c : Cond.codeWith yL_house method_3_code 5 (some .int) [(0, 10, 13, 13)] ∈ fw_tb ∧ Cond.static yL_house ∈ fw_tb ∧ Cond.initialized yL_house.cls ∈ fw_tb := by decide +kernel
theorem vx_noX {p : Program} {l : Launch} {e : Env} {R : Room} {s : State} {m : MethodId} {args : Array Value} {below : List Frame} {meth : Method} {c : Code} {H : Heap} {locs : List Loc} {cells slots mc ms : Nat} {g : JFrame} {rest : List Value} {Qa : State → Outcome → State → Prop} {free : Addr → Prop}
    (hr : vx_Run p l e R s m args below meth c H locs cells slots mc ms g rest Qa (fun _ _ _ => False) free) : va_Run p l e R s m args below meth c H locs cells slots mc ms g rest Qa free := by
  intro T hT X
  rcases hr T hT X with h | ⟨_, _, _, _, _, _, _, _, _, _, _, _, hx, _⟩
  · exact h
  · exact hx.elim
section HL
variable {G : fw_G} {M : fw_M} {α : Type} {E : α → Option fw_V × fw_H} {d k n i pc q : Nat} {lv : fw_L} {st : List fw_V} {h : fw_H} {t : Option α}
theorem r_houseL {v0 v3 : Option Nat} {v1 v2 : Int32} {k2 n2 idx : Nat} {K : Int32 × fw_H → Option α} (hml : Cond.methodLink M.1.cls idx ⟨"OneJoyLaw", "house", "(LOneJoy;II[J)I"⟩ ∈ fw_tb) (hdd : 20 ≤ d) (hk : 1 + k2 ≤ k) (hn : 8 + n2 ≤ n) (hs : fw_sz st ≤ 8) (hd : M.2.2.2.2[i]? = some (pc, .invokestatic idx, q)) (hq : pc + 3 = q) (kk : ∀ x, fw_R G M E d k2 n2 q lv (fw_i x.1 :: st) x.2 (K x)) : fw_R G M E d k n pc lv (fw_r v3 :: fw_i v2 :: fw_i v1 :: fw_r v0 :: st) h ((s_Law0_house h v0 v1 v2 v3).bind K) := by
  subst hq
  intro r hr l p e R s m args below meth c H ls locs cells slots Q C X
  obtain ⟨x, hx, hK⟩ := fw_bd hr
  have hts := C.2.2.2.2.2.2.2.1
  have cw := vx_cwSW (R := R) (s := s) (args := args) (rm := { frames := d - 1, cells := 1, slots := 6, locals := 60 * (d - 1) }) (mc := 1) (ms := 6) (bytes := method_3_code) (maxL := 5) (ret := some .int) (hh := [(0, 10, 13, 13)]) (own := M.1.cls) (index := idx) (y := yL_house) (ws := hl_ws) (ws' := fw_tb) 4 hts (fw_GoodIn (fun w hw => by
      simp only [va_wsS, hl_ws, List.cons_append, List.nil_append, List.mem_cons] at hw
      rcases hw with rfl | rfl | rfl | rfl | hw
      · exact hml
      · exact hl_c.2.1
      · exact hl_c.2.2
      · exact hl_c.1
      · exact hw)) rfl rfl rfl (by decide +kernel) (fw_rm (d' := 12) (by omega) X.1 X.2.1 (by omega))
  have hrun := vx_runSX (p := p) (l := l) (e := e) (R := R) (s := s) (m := m) (args := args) (below := below) (meth := meth) (c := c) (H := H) (locs := locs) (cells := cells) (slots := slots) (As := [fw_r v0, fw_i v1, fw_i v2, fw_r v3].map (fw_tr G)) (rest := st.map (fw_tr G)) (g := F0 m pc ls ((fw_r v3 :: fw_i v2 :: fw_i v1 :: fw_r v0 :: st).map (fw_tr G))) ⟨C.1, C.2.1, C.2.2.1, C.2.2.2.2.2.1, hts⟩ (hl_met (G := G) hx l (d - 1) C.2.2.2.2.2.2.2.2.2.2.2 (by omega)) cw
    ⟨fw_Pre.blind, fun U hU hW => ⟨rfl, by rw [hU]; exact X.2.2.2.2.1, C.2.2.2.2.2.2.2.2.1.warm hW, by rw [hU]; have h7 := C.2.2.2.2.2.2.2.2.2.1; have h8 := X.2.2.2.2.2.1; omega⟩⟩
    rfl rfl X.2.2.2.2.2.2.1.1 rfl (by rw [fw_sz_tr]; show 2 * 0 + _ ≤ 8; omega) (C.dec hd (by omega)) ⟨by have := X.2.2.1; omega, by have := X.2.2.2.1; omega⟩
  exact fw_after (E' := fw_eW) (x := x) C X hk (show 6 + n2 ≤ n by omega) (vx_noX hrun) hK (kk x)
end HL
