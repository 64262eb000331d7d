-- Walk_nextHouse
def l_Walk_nextHouse_6 (h : fw_H) (v0 : Option Nat) : Nat → Int32 → Int32 → Int32 → Option Int32
  | 0, _, _, _ => none
  | nn + 1, a6_1, a6_2, a6_3 =>
    (s_Walk_doorCount h v0).bind fun x8 =>
    if x8 ≤ a6_3 then (some a6_1) else
    (s_Walk_door h v0 a6_3).bind fun x16 =>
    (f_gI h v0 9 3).bind fun x24 =>
    if ¬ x16 = x24 then ((s_Walk_wishOf h v0 x16).bind fun x36 =>
    if a6_1 = (-1 : Int32) then (l_Walk_nextHouse_6 h v0 nn x16 x36 (a6_3 + (1 : Int32))) else
    if a6_2 ≤ x36 then (l_Walk_nextHouse_6 h v0 nn a6_1 a6_2 (a6_3 + (1 : Int32))) else
    l_Walk_nextHouse_6 h v0 nn x16 x36 (a6_3 + (1 : Int32))) else
    l_Walk_nextHouse_6 h v0 nn a6_1 a6_2 (a6_3 + (1 : Int32))
theorem cl_Walk_nextHouse_6 {G : fw_G} {h : fw_H} {v0 : Option Nat} : ∀ (nn : Nat) (a6_1 : Int32) (a6_2 : Int32) (a6_3 : Int32), fw_R G m_Walk_nextHouse (fw_eI h) 2 0 0 6 [(0, some (fw_r v0)), (1, some (fw_i a6_1)), (2, some (fw_i a6_2)), (3, some (fw_i a6_3))] [] h (l_Walk_nextHouse_6 h v0 nn a6_1 a6_2 a6_3) := by
  intro nn
  induction nn with
  | zero => intros; exact r_none
  | succ nn ih =>
    intro a6_1 a6_2 a6_3
    rw [l_Walk_nextHouse_6]
    refine r_iload_n (i := 6) rfl rfl rfl ?_
    refine r_aload_n (i := 7) rfl rfl rfl ?_
    refine r_VI0 (i := 8) (k2 := 0) (n2 := 0) ok_Walk_doorCount wM_Walk_118 (c_Walk_doorCount) (fun _ e => fw_ckb e) (Nat.le_of_ble_eq_true rfl) (Nat.le_of_ble_eq_true rfl) (Nat.le_of_ble_eq_true rfl) (Nat.le_of_ble_eq_true rfl) rfl rfl fun x8 => ?_
    refine r_icmp_ge (i := 9) (tgt := 64) rfl rfl rfl ?_ ?_
    · refine r_iload_n (i := 35) rfl rfl rfl ?_
      exact r_retI (i := 36) rfl rfl rfl rfl
    · refine r_aload_n (i := 10) rfl rfl rfl ?_
      refine r_iload_n (i := 11) rfl rfl rfl ?_
      refine r_VI1 (i := 12) (k2 := 0) (n2 := 0) ok_Walk_door wM_Walk_121 (c_Walk_door) (fun _ e => fw_ckb e) (Nat.le_of_ble_eq_true rfl) (Nat.le_of_ble_eq_true rfl) (Nat.le_of_ble_eq_true rfl) (Nat.le_of_ble_eq_true rfl) rfl rfl fun x16 => ?_
      refine r_istore (i := 13) rfl rfl (Nat.le_of_ble_eq_true rfl) rfl ?_
      refine r_iload (i := 14) rfl rfl rfl ?_
      refine r_aload_n (i := 15) rfl rfl rfl ?_
      refine r_gI (i := 16) (ci := 9) (kf := 3) rfl (Nat.le_of_ble_eq_true rfl) wF_Walk_87 rfl rfl fun x24 => ?_
      refine r_icmp_ne (i := 17) (tgt := 33) rfl rfl rfl ?_ ?_
      · refine r_aload_n (i := 19) rfl rfl rfl ?_
        refine r_iload (i := 20) rfl rfl rfl ?_
        refine r_VI1 (i := 21) (k2 := 0) (n2 := 0) ok_Walk_wishOf wM_Walk_128 (c_Walk_wishOf) (fun _ e => fw_ckb e) (Nat.le_of_ble_eq_true rfl) (Nat.le_of_ble_eq_true rfl) (Nat.le_of_ble_eq_true rfl) (Nat.le_of_ble_eq_true rfl) rfl rfl fun x36 => ?_
        refine r_istore (i := 22) rfl rfl (Nat.le_of_ble_eq_true rfl) rfl ?_
        refine r_iload_n (i := 23) rfl rfl rfl ?_
        refine r_iconst (i := 24) (-1 : Int32) kc_iconst_m1 rfl rfl ?_
        refine r_icmp_eq (i := 25) (tgt := 52) rfl rfl rfl ?_ ?_
        · refine r_iload (i := 29) rfl rfl rfl ?_
          refine r_istore_n (i := 30) rfl rfl (Nat.le_of_ble_eq_true rfl) rfl ?_
          refine r_iload (i := 31) rfl rfl rfl ?_
          refine r_istore_n (i := 32) rfl rfl (Nat.le_of_ble_eq_true rfl) rfl ?_
          refine r_iinc (i := 33) (1 : Int32) kc_iconst_1 rfl rfl rfl (Nat.le_of_ble_eq_true rfl) ?_
          refine r_goto (i := 34) (tgt := 6) rfl rfl rfl ?_
          exact r_lv (fw_sub1 rfl (fw_sub1 rfl (fw_sub1 rfl (fw_sub1 rfl fw_sub0)))) (ih x16 x36 (a6_3 + (1 : Int32)))
        · refine r_iload (i := 26) rfl rfl rfl ?_
          refine r_iload_n (i := 27) rfl rfl rfl ?_
          refine r_icmp_ge (i := 28) (tgt := 58) rfl rfl rfl ?_ ?_
          · refine r_iinc (i := 33) (1 : Int32) kc_iconst_1 rfl rfl rfl (Nat.le_of_ble_eq_true rfl) ?_
            refine r_goto (i := 34) (tgt := 6) rfl rfl rfl ?_
            exact r_lv (fw_sub1 rfl (fw_sub1 rfl (fw_sub1 rfl (fw_sub1 rfl fw_sub0)))) (ih a6_1 a6_2 (a6_3 + (1 : Int32)))
          · refine r_iload (i := 29) rfl rfl rfl ?_
            refine r_istore_n (i := 30) rfl rfl (Nat.le_of_ble_eq_true rfl) rfl ?_
            refine r_iload (i := 31) rfl rfl rfl ?_
            refine r_istore_n (i := 32) rfl rfl (Nat.le_of_ble_eq_true rfl) rfl ?_
            refine r_iinc (i := 33) (1 : Int32) kc_iconst_1 rfl rfl rfl (Nat.le_of_ble_eq_true rfl) ?_
            refine r_goto (i := 34) (tgt := 6) rfl rfl rfl ?_
            exact r_lv (fw_sub1 rfl (fw_sub1 rfl (fw_sub1 rfl (fw_sub1 rfl fw_sub0)))) (ih x16 x36 (a6_3 + (1 : Int32)))
      · refine r_goto (i := 18) (tgt := 58) rfl rfl rfl ?_
        refine r_iinc (i := 33) (1 : Int32) kc_iconst_1 rfl rfl rfl (Nat.le_of_ble_eq_true rfl) ?_
        refine r_goto (i := 34) (tgt := 6) rfl rfl rfl ?_
        exact r_lv (fw_sub1 rfl (fw_sub1 rfl (fw_sub1 rfl (fw_sub1 rfl fw_sub0)))) (ih a6_1 a6_2 (a6_3 + (1 : Int32)))
def s_Walk_nextHouse (F : Nat) (h : fw_H) (v0 : Option Nat) : Option Int32 :=
(f_ck h v0 9).bind fun _ =>
l_Walk_nextHouse_6 h v0 F (-1 : Int32) (0 : Int32) (0 : Int32)
theorem c_Walk_nextHouse {G : fw_G} (F : Nat) {h : fw_H} {v0 : Option Nat} : fw_Call G m_Walk_nextHouse (fw_eI h) 2 0 0 [fw_r v0] h (s_Walk_nextHouse F h v0) := by
  refine fw_Call.of ok_Walk_nextHouse.1 (Nat.le_of_ble_eq_true rfl) [(0, some (fw_r v0))] rfl ?_
  refine r_ck ?_
  refine r_iconst (i := 0) (-1 : Int32) kc_iconst_m1 rfl rfl ?_
  refine r_istore_n (i := 1) rfl rfl (Nat.le_of_ble_eq_true rfl) rfl ?_
  refine r_iconst (i := 2) (0 : Int32) kc_iconst_0 rfl rfl ?_
  refine r_istore_n (i := 3) rfl rfl (Nat.le_of_ble_eq_true rfl) rfl ?_
  refine r_iconst (i := 4) (0 : Int32) kc_iconst_0 rfl rfl ?_
  refine r_istore_n (i := 5) rfl rfl (Nat.le_of_ble_eq_true rfl) rfl ?_
  refine r_lv (fw_sub1 rfl (fw_sub1 rfl (fw_sub1 rfl (fw_sub1 rfl fw_sub0)))) (cl_Walk_nextHouse_6 F _ _ _)
-- Walk_hour
def s_Walk_hour (F : Nat) (h : fw_H) (v0 : Option Nat) : Option fw_H :=
(f_ck h v0 9).bind fun _ =>
(s_Walk_isCalled F h v0).bind fun x1 =>
fw_jn (fun (t15_0 : Int32) =>
if t15_0 = (-1 : Int32) then ((f_gI h v0 9 4).bind fun x36 =>
(f_irem (x36 + (1 : Int32)) (24 : Int32)).bind fun x43 =>
(f_pI h v0 9 4 x43).bind fun h44 =>
some h44) else
(f_gI h v0 9 2).bind fun x23 =>
(f_pI h v0 9 3 x23).bind fun h26 =>
(f_pI h26 v0 9 2 t15_0).bind fun h31 =>
(f_gI h31 v0 9 4).bind fun x36 =>
(f_irem (x36 + (1 : Int32)) (24 : Int32)).bind fun x43 =>
(f_pI h31 v0 9 4 x43).bind fun h44 =>
some h44) fun J15 =>
if x1 = true then ((s_Walk_nextHouse F h v0).bind fun x8 =>
J15 x8) else
J15 (-1 : Int32)
theorem c_Walk_hour {G : fw_G} (F : Nat) {h : fw_H} {v0 : Option Nat} : fw_Call G m_Walk_hour fw_eV 3 0 0 [fw_r v0] h (s_Walk_hour F h v0) := by
  refine fw_Call.of ok_Walk_hour.1 (Nat.le_of_ble_eq_true rfl) [(0, some (fw_r v0))] rfl ?_
  refine r_ck ?_
  refine r_aload_n (i := 0) rfl rfl rfl ?_
  refine r_VB0 (i := 1) (k2 := 0) (n2 := 0) ok_Walk_isCalled wM_Walk_109 (c_Walk_isCalled F) (fun _ e => fw_ckb e) (Nat.le_of_ble_eq_true rfl) (Nat.le_of_ble_eq_true rfl) (Nat.le_of_ble_eq_true rfl) (Nat.le_of_ble_eq_true rfl) rfl rfl fun x1 => ?_
  refine r_join (P := fun J15 => ∀ (t15_0 : Int32), fw_R G m_Walk_hour fw_eV 3 (0) (0) 15 [(0, some (fw_r v0))] [fw_i t15_0] h (J15 t15_0)) ?_ (fun J15 hJ15 => ?_)
  · intro t15_0
    refine r_istore_n (i := 7) rfl rfl (Nat.le_of_ble_eq_true rfl) rfl ?_
    refine r_iload_n (i := 8) rfl rfl rfl ?_
    refine r_iconst (i := 9) (-1 : Int32) kc_iconst_m1 rfl rfl ?_
    refine r_icmp_eq (i := 10) (tgt := 34) rfl rfl rfl ?_ ?_
    · refine r_aload_n (i := 18) rfl rfl rfl ?_
      refine r_aload_n (i := 19) rfl rfl rfl ?_
      refine r_gI (i := 20) (ci := 9) (kf := 4) rfl (Nat.le_of_ble_eq_true rfl) wF_Walk_88 rfl rfl fun x36 => ?_
      refine r_iconst (i := 21) (1 : Int32) kc_iconst_1 rfl rfl ?_
      refine r_iadd (i := 22) rfl rfl ?_
      refine r_bipush (i := 23) (24 : Int32) kc_bipush_24 rfl rfl ?_
      refine r_iremN (i := 24) rfl rfl fun x43 => ?_
      refine r_pI (i := 25) (ci := 9) (kf := 4) rfl (Nat.le_of_ble_eq_true rfl) wF_Walk_88 rfl (tyX9_ok 4 (Nat.le_of_ble_eq_true rfl)) rfl rfl fun h44 => ?_
      exact r_retV (i := 26) rfl rfl rfl rfl
    · refine r_aload_n (i := 11) rfl rfl rfl ?_
      refine r_aload_n (i := 12) rfl rfl rfl ?_
      refine r_gI (i := 13) (ci := 9) (kf := 2) rfl (Nat.le_of_ble_eq_true rfl) wF_Walk_86 rfl rfl fun x23 => ?_
      refine r_pI (i := 14) (ci := 9) (kf := 3) rfl (Nat.le_of_ble_eq_true rfl) wF_Walk_87 rfl (tyX9_ok 3 (Nat.le_of_ble_eq_true rfl)) rfl rfl fun h26 => ?_
      refine r_aload_n (i := 15) rfl rfl rfl ?_
      refine r_iload_n (i := 16) rfl rfl rfl ?_
      refine r_pI (i := 17) (ci := 9) (kf := 2) rfl (Nat.le_of_ble_eq_true rfl) wF_Walk_86 rfl (tyX9_ok 2 (Nat.le_of_ble_eq_true rfl)) rfl rfl fun h31 => ?_
      refine r_aload_n (i := 18) rfl rfl rfl ?_
      refine r_aload_n (i := 19) rfl rfl rfl ?_
      refine r_gI (i := 20) (ci := 9) (kf := 4) rfl (Nat.le_of_ble_eq_true rfl) wF_Walk_88 rfl rfl fun x36 => ?_
      refine r_iconst (i := 21) (1 : Int32) kc_iconst_1 rfl rfl ?_
      refine r_iadd (i := 22) rfl rfl ?_
      refine r_bipush (i := 23) (24 : Int32) kc_bipush_24 rfl rfl ?_
      refine r_iremN (i := 24) rfl rfl fun x43 => ?_
      refine r_pI (i := 25) (ci := 9) (kf := 4) rfl (Nat.le_of_ble_eq_true rfl) wF_Walk_88 rfl (tyX9_ok 4 (Nat.le_of_ble_eq_true rfl)) rfl rfl fun h44 => ?_
      exact r_retV (i := 26) rfl rfl rfl rfl
  · refine r_ifeqB (i := 2) (tgt := 14) rfl rfl rfl ?_ ?_
    · refine r_iconst (i := 6) (-1 : Int32) kc_iconst_m1 rfl rfl ?_
      exact r_lv (fw_sub1 rfl fw_sub0) (hJ15 (-1 : Int32))
    · refine r_aload_n (i := 3) rfl rfl rfl ?_
      refine r_VI0 (i := 4) (k2 := 0) (n2 := 0) ok_Walk_nextHouse wM_Walk_113 (c_Walk_nextHouse F) (fun _ e => fw_ckb e) (Nat.le_of_ble_eq_true rfl) (Nat.le_of_ble_eq_true rfl) (Nat.le_of_ble_eq_true rfl) (Nat.le_of_ble_eq_true rfl) rfl rfl fun x8 => ?_
      refine r_goto (i := 5) (tgt := 15) rfl rfl rfl ?_
      exact r_lv (fw_sub1 rfl fw_sub0) (hJ15 x8)
-- Seen_fits
def l_Seen_fits_17 (F : Nat) (v0 : Option Nat) : Nat → Int32 → fw_H → Option (Bool × fw_H)
  | 0, _, _ => none
  | nn + 1, a17_2, g17 =>
    (f_gI g17 v0 4 5).bind fun x19 =>
    if x19 < a17_2 then (some (true, g17)) else
    (f_gR g17 v0 4 0).bind fun x26 =>
    (s_Walk_hour F g17 x26).bind fun h29 =>
    (f_gR h29 v0 4 4).bind fun x33 =>
    (s_Rows_get h29 x33 a17_2).bind fun x37 =>
    (f_gR h29 v0 4 0).bind fun x41 =>
    (f_gI h29 x41 9 2).bind fun x44 =>
    (s_Rows_has x37 x44).bind fun x47 =>
    if x47 = true then (l_Seen_fits_17 F v0 nn (a17_2 + (1 : Int32)) h29) else
    some (false, h29)
theorem cl_Seen_fits_17 {G : fw_G} {F : Nat} {v0 : Option Nat} : ∀ (nn : Nat) (a17_2 : Int32) (g17 : fw_H), fw_R G m_Seen_fits fw_wB 4 0 0 17 [(0, some (fw_r v0)), (2, some (fw_i a17_2))] [] g17 (l_Seen_fits_17 F v0 nn a17_2 g17) := by
  intro nn
  induction nn with
  | zero => intros; exact r_none
  | succ nn ih =>
    intro a17_2 g17
    rw [l_Seen_fits_17]
    refine r_iload_n (i := 9) rfl rfl rfl ?_
    refine r_aload_n (i := 10) rfl rfl rfl ?_
    refine r_gI (i := 11) (ci := 4) (kf := 5) rfl (Nat.le_of_ble_eq_true rfl) wF_Seen_41 rfl rfl fun x19 => ?_
    refine r_icmp_gt (i := 12) (tgt := 61) rfl rfl rfl ?_ ?_
    · refine r_iconst (i := 29) (1 : Int32) kc_iconst_1 rfl rfl ?_
      exact r_retB (x := true) (i := 30) rfl rfl rfl rfl
    · refine r_aload_n (i := 13) rfl rfl rfl ?_
      refine r_gR (i := 14) (ci := 4) (kf := 0) rfl (Nat.le_of_ble_eq_true rfl) wF_Seen_21 rfl rfl fun x26 => ?_
      refine r_VV0 (i := 15) (k2 := 0) (n2 := 0) ok_Walk_hour wM_Seen_62 (c_Walk_hour F) (fun _ e => fw_ckb e) (Nat.le_of_ble_eq_true rfl) (Nat.le_of_ble_eq_true rfl) (Nat.le_of_ble_eq_true rfl) (Nat.le_of_ble_eq_true rfl) rfl rfl fun h29 => ?_
      refine r_aload_n (i := 16) rfl rfl rfl ?_
      refine r_gR (i := 17) (ci := 4) (kf := 4) rfl (Nat.le_of_ble_eq_true rfl) wF_Seen_18 rfl rfl fun x33 => ?_
      refine r_iload_n (i := 18) rfl rfl rfl ?_
      refine r_SI2 (i := 19) (k2 := 0) (n2 := 0) ok_Rows_get wM_Seen_44 (c_Rows_get) (Nat.le_of_ble_eq_true rfl) (Nat.le_of_ble_eq_true rfl) (Nat.le_of_ble_eq_true rfl) (Nat.le_of_ble_eq_true rfl) rfl rfl fun x37 => ?_
      refine r_aload_n (i := 20) rfl rfl rfl ?_
      refine r_gR (i := 21) (ci := 4) (kf := 0) rfl (Nat.le_of_ble_eq_true rfl) wF_Seen_21 rfl rfl fun x41 => ?_
      refine r_gI (i := 22) (ci := 9) (kf := 2) rfl (Nat.le_of_ble_eq_true rfl) wF_Seen_65 rfl rfl fun x44 => ?_
      refine r_SB2 (i := 23) (k2 := 0) (n2 := 0) ok_Rows_has wM_Seen_68 (c_Rows_has) (Nat.le_of_ble_eq_true rfl) (Nat.le_of_ble_eq_true rfl) (Nat.le_of_ble_eq_true rfl) (Nat.le_of_ble_eq_true rfl) rfl rfl fun x47 => ?_
      refine r_ifneB (i := 24) (tgt := 55) rfl rfl rfl ?_ ?_
      · refine r_iinc (i := 27) (1 : Int32) kc_iconst_1 rfl rfl rfl (Nat.le_of_ble_eq_true rfl) ?_
        refine r_goto (i := 28) (tgt := 17) rfl rfl rfl ?_
        exact r_lv (fw_sub1 rfl (fw_sub1 rfl fw_sub0)) (ih (a17_2 + (1 : Int32)) h29)
      · refine r_iconst (i := 25) (0 : Int32) kc_iconst_0 rfl rfl ?_
        exact r_retB (x := false) (i := 26) rfl rfl rfl rfl
def s_Seen_fits (F : Nat) (h : fw_H) (v0 : Option Nat) (v1 : Int32) : Option (Bool × fw_H) :=
(f_ck h v0 4).bind fun _ =>
(f_gR h v0 4 0).bind fun x1 =>
(f_pI h x1 9 6 v1).bind fun h5 =>
(f_gR h5 v0 4 0).bind fun x9 =>
(s_Walk_restart h5 x9).bind fun h12 =>
l_Seen_fits_17 F v0 F (1 : Int32) h12
theorem c_Seen_fits {G : fw_G} (F : Nat) {h : fw_H} {v0 : Option Nat} {v1 : Int32} : fw_Call G m_Seen_fits fw_wB 4 0 0 [fw_r v0, fw_i v1] h (s_Seen_fits F h v0 v1) := by
  refine fw_Call.of ok_Seen_fits.1 (Nat.le_of_ble_eq_true rfl) [(0, some (fw_r v0)), (1, some (fw_i v1))] rfl ?_
  refine r_ck ?_
  refine r_aload_n (i := 0) rfl rfl rfl ?_
  refine r_gR (i := 1) (ci := 4) (kf := 0) rfl (Nat.le_of_ble_eq_true rfl) wF_Seen_21 rfl rfl fun x1 => ?_
  refine r_iload_n (i := 2) rfl rfl rfl ?_
  refine r_pI (i := 3) (ci := 9) (kf := 6) rfl (Nat.le_of_ble_eq_true rfl) wF_Seen_54 rfl (tyX9_ok 6 (Nat.le_of_ble_eq_true rfl)) rfl rfl fun h5 => ?_
  refine r_aload_n (i := 4) rfl rfl rfl ?_
  refine r_gR (i := 5) (ci := 4) (kf := 0) rfl (Nat.le_of_ble_eq_true rfl) wF_Seen_21 rfl rfl fun x9 => ?_
  refine r_VV0 (i := 6) (k2 := 0) (n2 := 0) ok_Walk_restart wM_Seen_59 (c_Walk_restart) (fun _ e => fw_ckb e) (Nat.le_of_ble_eq_true rfl) (Nat.le_of_ble_eq_true rfl) (Nat.le_of_ble_eq_true rfl) (Nat.le_of_ble_eq_true rfl) rfl rfl fun h12 => ?_
  refine r_iconst (i := 7) (1 : Int32) kc_iconst_1 rfl rfl ?_
  refine r_istore_n (i := 8) rfl rfl (Nat.le_of_ble_eq_true rfl) rfl ?_
  refine r_lv (fw_sub1 rfl (fw_sub1 rfl fw_sub0)) (cl_Seen_fits_17 F _ _)
-- Seen_ask
def l_Seen_ask_21 (F : Nat) (v0 : Option Nat) (v1 : Int32) (v2 : Int32) : Nat → Int32 → fw_H → Option fw_H
  | 0, _, _ => none
  | nn + 1, a21_3, g21 =>
    if v1 < a21_3 then (some g21) else
    (s_Seen_fits F g21 v0 a21_3).bind fun x28 =>
    if x28.1 = true then ((f_gI x28.2 v0 4 6).bind fun x35 =>
    if ¬ x35 = v2 then ((f_gI x28.2 v0 4 6).bind fun x49 =>
    (f_pI x28.2 v0 4 6 (x49 + (1 : Int32))).bind fun h54 =>
    (f_gI h54 v0 4 7).bind fun x59 =>
    (f_pI h54 v0 4 7 (x59 &&& a21_3)).bind fun h64 =>
    l_Seen_ask_21 F v0 v1 v2 nn (a21_3 + (1 : Int32)) h64) else
    (f_pI x28.2 v0 4 8 a21_3).bind fun h44 =>
    (f_gI h44 v0 4 6).bind fun x49 =>
    (f_pI h44 v0 4 6 (x49 + (1 : Int32))).bind fun h54 =>
    (f_gI h54 v0 4 7).bind fun x59 =>
    (f_pI h54 v0 4 7 (x59 &&& a21_3)).bind fun h64 =>
    l_Seen_ask_21 F v0 v1 v2 nn (a21_3 + (1 : Int32)) h64) else
    l_Seen_ask_21 F v0 v1 v2 nn (a21_3 + (1 : Int32)) x28.2
theorem cl_Seen_ask_21 {G : fw_G} {F : Nat} {v0 : Option Nat} {v1 : Int32} {v2 : Int32} : ∀ (nn : Nat) (a21_3 : Int32) (g21 : fw_H), fw_R G m_Seen_ask fw_eV 5 0 0 21 [(0, some (fw_r v0)), (1, some (fw_i v1)), (2, some (fw_i v2)), (3, some (fw_i a21_3))] [] g21 (l_Seen_ask_21 F v0 v1 v2 nn a21_3 g21) := by
  intro nn
  induction nn with
  | zero => intros; exact r_none
  | succ nn ih =>
    intro a21_3 g21
    rw [l_Seen_ask_21]
    refine r_iload_n (i := 13) rfl rfl rfl ?_
    refine r_iload_n (i := 14) rfl rfl rfl ?_
    refine r_icmp_gt (i := 15) (tgt := 73) rfl rfl rfl ?_ ?_
    · exact r_retV (i := 41) rfl rfl rfl rfl
    · refine r_aload_n (i := 16) rfl rfl rfl ?_
      refine r_iload_n (i := 17) rfl rfl rfl ?_
      refine r_VwB1 (i := 18) (k2 := 0) (n2 := 0) ok_Seen_fits wM_Seen_84 (c_Seen_fits F) (fun _ e => fw_ckb e) (Nat.le_of_ble_eq_true rfl) (Nat.le_of_ble_eq_true rfl) (Nat.le_of_ble_eq_true rfl) (Nat.le_of_ble_eq_true rfl) rfl rfl fun x28 => ?_
      refine r_ifeqB (i := 19) (tgt := 67) rfl rfl rfl ?_ ?_
      · refine r_iinc (i := 39) (1 : Int32) kc_iconst_1 rfl rfl rfl (Nat.le_of_ble_eq_true rfl) ?_
        refine r_goto (i := 40) (tgt := 21) rfl rfl rfl ?_
        exact r_lv (fw_sub1 rfl (fw_sub1 rfl (fw_sub1 rfl (fw_sub1 rfl fw_sub0)))) (ih (a21_3 + (1 : Int32)) x28.2)
      · refine r_aload_n (i := 20) rfl rfl rfl ?_
        refine r_gI (i := 21) (ci := 4) (kf := 6) rfl (Nat.le_of_ble_eq_true rfl) wF_Seen_75 rfl rfl fun x35 => ?_
        refine r_iload_n (i := 22) rfl rfl rfl ?_
        refine r_icmp_ne (i := 23) (tgt := 47) rfl rfl rfl ?_ ?_
        · refine r_aload_n (i := 27) rfl rfl rfl ?_
          refine r_dup_r (i := 28) rfl rfl ?_
          refine r_gI (i := 29) (ci := 4) (kf := 6) rfl (Nat.le_of_ble_eq_true rfl) wF_Seen_75 rfl rfl fun x49 => ?_
          refine r_iconst (i := 30) (1 : Int32) kc_iconst_1 rfl rfl ?_
          refine r_iadd (i := 31) rfl rfl ?_
          refine r_pI (i := 32) (ci := 4) (kf := 6) rfl (Nat.le_of_ble_eq_true rfl) wF_Seen_75 rfl (tyX4_ok 6 (Nat.le_of_ble_eq_true rfl)) rfl rfl fun h54 => ?_
          refine r_aload_n (i := 33) rfl rfl rfl ?_
          refine r_dup_r (i := 34) rfl rfl ?_
          refine r_gI (i := 35) (ci := 4) (kf := 7) rfl (Nat.le_of_ble_eq_true rfl) wF_Seen_78 rfl rfl fun x59 => ?_
          refine r_iload_n (i := 36) rfl rfl rfl ?_
          refine r_iand (i := 37) rfl rfl ?_
          refine r_pI (i := 38) (ci := 4) (kf := 7) rfl (Nat.le_of_ble_eq_true rfl) wF_Seen_78 rfl (tyX4_ok 7 (Nat.le_of_ble_eq_true rfl)) rfl rfl fun h64 => ?_
          refine r_iinc (i := 39) (1 : Int32) kc_iconst_1 rfl rfl rfl (Nat.le_of_ble_eq_true rfl) ?_
          refine r_goto (i := 40) (tgt := 21) rfl rfl rfl ?_
          exact r_lv (fw_sub1 rfl (fw_sub1 rfl (fw_sub1 rfl (fw_sub1 rfl fw_sub0)))) (ih (a21_3 + (1 : Int32)) h64)
        · refine r_aload_n (i := 24) rfl rfl rfl ?_
          refine r_iload_n (i := 25) rfl rfl rfl ?_
          refine r_pI (i := 26) (ci := 4) (kf := 8) rfl (Nat.le_of_ble_eq_true rfl) wF_Seen_81 rfl (tyX4_ok 8 (Nat.le_of_ble_eq_true rfl)) rfl rfl fun h44 => ?_
          refine r_aload_n (i := 27) rfl rfl rfl ?_
          refine r_dup_r (i := 28) rfl rfl ?_
          refine r_gI (i := 29) (ci := 4) (kf := 6) rfl (Nat.le_of_ble_eq_true rfl) wF_Seen_75 rfl rfl fun x49 => ?_
          refine r_iconst (i := 30) (1 : Int32) kc_iconst_1 rfl rfl ?_
          refine r_iadd (i := 31) rfl rfl ?_
          refine r_pI (i := 32) (ci := 4) (kf := 6) rfl (Nat.le_of_ble_eq_true rfl) wF_Seen_75 rfl (tyX4_ok 6 (Nat.le_of_ble_eq_true rfl)) rfl rfl fun h54 => ?_
          refine r_aload_n (i := 33) rfl rfl rfl ?_
          refine r_dup_r (i := 34) rfl rfl ?_
          refine r_gI (i := 35) (ci := 4) (kf := 7) rfl (Nat.le_of_ble_eq_true rfl) wF_Seen_78 rfl rfl fun x59 => ?_
          refine r_iload_n (i := 36) rfl rfl rfl ?_
          refine r_iand (i := 37) rfl rfl ?_
          refine r_pI (i := 38) (ci := 4) (kf := 7) rfl (Nat.le_of_ble_eq_true rfl) wF_Seen_78 rfl (tyX4_ok 7 (Nat.le_of_ble_eq_true rfl)) rfl rfl fun h64 => ?_
          refine r_iinc (i := 39) (1 : Int32) kc_iconst_1 rfl rfl rfl (Nat.le_of_ble_eq_true rfl) ?_
          refine r_goto (i := 40) (tgt := 21) rfl rfl rfl ?_
          exact r_lv (fw_sub1 rfl (fw_sub1 rfl (fw_sub1 rfl (fw_sub1 rfl fw_sub0)))) (ih (a21_3 + (1 : Int32)) h64)
def s_Seen_ask (F : Nat) (h : fw_H) (v0 : Option Nat) (v1 : Int32) (v2 : Int32) : Option fw_H :=
(f_ck h v0 4).bind fun _ =>
(s_Seen_gather F h v0).bind fun h1 =>
(f_pI h1 v0 4 6 (0 : Int32)).bind fun h6 =>
(f_pI h6 v0 4 7 v1).bind fun h11 =>
(f_pI h11 v0 4 8 (-1 : Int32)).bind fun h16 =>
l_Seen_ask_21 F v0 v1 v2 F (0 : Int32) h16
theorem c_Seen_ask {G : fw_G} (F : Nat) {h : fw_H} {v0 : Option Nat} {v1 : Int32} {v2 : Int32} : fw_Call G m_Seen_ask fw_eV 5 0 0 [fw_r v0, fw_i v1, fw_i v2] h (s_Seen_ask F h v0 v1 v2) := by
  refine fw_Call.of ok_Seen_ask.1 (Nat.le_of_ble_eq_true rfl) [(0, some (fw_r v0)), (1, some (fw_i v1)), (2, some (fw_i v2))] rfl ?_
  refine r_ck ?_
  refine r_aload_n (i := 0) rfl rfl rfl ?_
  refine r_VV0 (i := 1) (k2 := 0) (n2 := 0) ok_Seen_gather wM_Seen_72 (c_Seen_gather F) (fun _ e => fw_ckb e) (Nat.le_of_ble_eq_true rfl) (Nat.le_of_ble_eq_true rfl) (Nat.le_of_ble_eq_true rfl) (Nat.le_of_ble_eq_true rfl) rfl rfl fun h1 => ?_
  refine r_aload_n (i := 2) rfl rfl rfl ?_
  refine r_iconst (i := 3) (0 : Int32) kc_iconst_0 rfl rfl ?_
  refine r_pI (i := 4) (ci := 4) (kf := 6) rfl (Nat.le_of_ble_eq_true rfl) wF_Seen_75 rfl (tyX4_ok 6 (Nat.le_of_ble_eq_true rfl)) rfl rfl fun h6 => ?_
  refine r_aload_n (i := 5) rfl rfl rfl ?_
  refine r_iload_n (i := 6) rfl rfl rfl ?_
  refine r_pI (i := 7) (ci := 4) (kf := 7) rfl (Nat.le_of_ble_eq_true rfl) wF_Seen_78 rfl (tyX4_ok 7 (Nat.le_of_ble_eq_true rfl)) rfl rfl fun h11 => ?_
  refine r_aload_n (i := 8) rfl rfl rfl ?_
  refine r_iconst (i := 9) (-1 : Int32) kc_iconst_m1 rfl rfl ?_
  refine r_pI (i := 10) (ci := 4) (kf := 8) rfl (Nat.le_of_ble_eq_true rfl) wF_Seen_81 rfl (tyX4_ok 8 (Nat.le_of_ble_eq_true rfl)) rfl rfl fun h16 => ?_
  refine r_iconst (i := 11) (0 : Int32) kc_iconst_0 rfl rfl ?_
  refine r_istore_n (i := 12) rfl rfl (Nat.le_of_ble_eq_true rfl) rfl ?_
  refine r_lv (fw_sub1 rfl (fw_sub1 rfl (fw_sub1 rfl (fw_sub1 rfl fw_sub0)))) (cl_Seen_ask_21 F _ _)
-- Spread_init
def s_Spread_init (h : fw_H) (v0 : Option Nat) (v1 : Option Nat) : Option fw_H :=
fw_new h (fw_J 156 (fun _ => 0)) fun q8 h8 =>
(f_pR h8 v0 5 1 q8).bind fun h10 =>
fw_new h10 (fw_J 156 (fun _ => 0)) fun q17 h17 =>
(f_pR h17 v0 5 2 q17).bind fun h19 =>
(f_pR h19 v0 5 0 v1).bind fun h24 =>
some h24
theorem c_Spread_init {G : fw_G} {h : fw_H} {v0 : Option Nat} {v1 : Option Nat} (hv0 : v0.isSome = true) : fw_Call G m_Spread_init fw_eV 1 2 312 [fw_r v0, fw_r v1] h (s_Spread_init h v0 v1) := by
  refine fw_Call.of ok_Spread_init.1 (Nat.le_of_ble_eq_true rfl) [(0, some (fw_r v0)), (1, some (fw_r v1))] rfl ?_
  refine r_aload_n (i := 0) rfl rfl rfl ?_
  refine r_obji (i := 1) hv0 (Nat.le_of_ble_eq_true rfl) (Nat.le_of_ble_eq_true rfl) wM_Spread_3 wO_1 wO_2 rfl rfl ?_
  refine r_aload_n (i := 2) rfl rfl rfl ?_
  refine r_sipush (i := 3) (156 : Int32) kc_sipush_156 rfl rfl ?_
  refine r_newJN (i := 4) (k2 := 1) (n2 := 156) (N := 156) (by decide) (by decide) (Nat.le_of_ble_eq_true rfl) (Nat.le_of_ble_eq_true rfl) (Nat.le_of_ble_eq_true rfl) wA_long rfl rfl fun q8 h8 => ?_
  refine r_pR (i := 5) (ci := 5) (kf := 1) rfl (Nat.le_of_ble_eq_true rfl) wF_Spread_11 rfl ⟨_, (tyX5_ok 1 (Nat.le_of_ble_eq_true rfl)), Or.inr ⟨_, rfl⟩⟩ rfl rfl fun h10 => ?_
  refine r_aload_n (i := 6) rfl rfl rfl ?_
  refine r_sipush (i := 7) (156 : Int32) kc_sipush_156 rfl rfl ?_
  refine r_newJN (i := 8) (k2 := 0) (n2 := 0) (N := 156) (by decide) (by decide) (Nat.le_of_ble_eq_true rfl) (Nat.le_of_ble_eq_true rfl) (Nat.le_of_ble_eq_true rfl) wA_long rfl rfl fun q17 h17 => ?_
  refine r_pR (i := 9) (ci := 5) (kf := 2) rfl (Nat.le_of_ble_eq_true rfl) wF_Spread_17 rfl ⟨_, (tyX5_ok 2 (Nat.le_of_ble_eq_true rfl)), Or.inr ⟨_, rfl⟩⟩ rfl rfl fun h19 => ?_
  refine r_aload_n (i := 10) rfl rfl rfl ?_
  refine r_aload_n (i := 11) rfl rfl rfl ?_
  refine r_pRF (i := 12) (ci := 5) (kf := 0) rfl (Nat.le_of_ble_eq_true rfl) wF_Spread_20 rfl rfl rfl ⟨_, (tyX5_ok 0 (Nat.le_of_ble_eq_true rfl)), Or.inl ⟨_, rfl⟩⟩ rfl rfl fun h24 => ?_
  exact r_retV (i := 13) rfl rfl rfl rfl
-- Spread_walkFrom
def s_Spread_walkFrom (h : fw_H) (v0 : Option Nat) (v1 : Int32) (v2 : Int32) : Option fw_H :=
(f_ck h v0 5).bind fun _ =>
(f_irem v1 (13 : Int32)).bind fun x3 =>
(f_gR h v0 5 0).bind fun x6 =>
(f_idiv v1 (13 : Int32)).bind fun x12 =>
if ¬ x3 = (12 : Int32) then ((s_Walk_standAt h x6 x12 x3 v2).bind fun h25 =>
some h25) else
(s_Walk_standAt h x6 x12 (-1 : Int32) v2).bind fun h25 =>
some h25
theorem c_Spread_walkFrom {G : fw_G} {h : fw_H} {v0 : Option Nat} {v1 : Int32} {v2 : Int32} : fw_Call G m_Spread_walkFrom fw_eV 1 0 0 [fw_r v0, fw_i v1, fw_i v2] h (s_Spread_walkFrom h v0 v1 v2) := by
  refine fw_Call.of ok_Spread_walkFrom.1 (Nat.le_of_ble_eq_true rfl) [(0, some (fw_r v0)), (1, some (fw_i v1)), (2, some (fw_i v2))] rfl ?_
  refine r_ck ?_
  refine r_iload_n (i := 0) rfl rfl rfl ?_
  refine r_bipush (i := 1) (13 : Int32) kc_bipush_13 rfl rfl ?_
  refine r_iremN (i := 2) rfl rfl fun x3 => ?_
  refine r_istore_n (i := 3) rfl rfl (Nat.le_of_ble_eq_true rfl) rfl ?_
  refine r_aload_n (i := 4) rfl rfl rfl ?_
  refine r_gR (i := 5) (ci := 5) (kf := 0) rfl (Nat.le_of_ble_eq_true rfl) wF_Spread_20 rfl rfl fun x6 => ?_
  refine r_iload_n (i := 6) rfl rfl rfl ?_
  refine r_bipush (i := 7) (13 : Int32) kc_bipush_13 rfl rfl ?_
  refine r_idivN (i := 8) rfl rfl fun x12 => ?_
  refine r_iload_n (i := 9) rfl rfl rfl ?_
  refine r_bipush (i := 10) (12 : Int32) kc_bipush_12 rfl rfl ?_
  refine r_icmp_ne (i := 11) (tgt := 23) rfl rfl rfl ?_ ?_
  · refine r_iload_n (i := 14) rfl rfl rfl ?_
    refine r_iload_n (i := 15) rfl rfl rfl ?_
    refine r_VV3 (i := 16) (k2 := 0) (n2 := 0) ok_Walk_standAt wM_Spread_24 (c_Walk_standAt) (fun _ e => fw_ckb e) (Nat.le_of_ble_eq_true rfl) (Nat.le_of_ble_eq_true rfl) (Nat.le_of_ble_eq_true rfl) (Nat.le_of_ble_eq_true rfl) rfl rfl fun h25 => ?_
    exact r_retV (i := 17) rfl rfl rfl rfl
  · refine r_iconst (i := 12) (-1 : Int32) kc_iconst_m1 rfl rfl ?_
    refine r_goto (i := 13) (tgt := 24) rfl rfl rfl ?_
    refine r_iload_n (i := 15) rfl rfl rfl ?_
    refine r_VV3 (i := 16) (k2 := 0) (n2 := 0) ok_Walk_standAt wM_Spread_24 (c_Walk_standAt) (fun _ e => fw_ckb e) (Nat.le_of_ble_eq_true rfl) (Nat.le_of_ble_eq_true rfl) (Nat.le_of_ble_eq_true rfl) (Nat.le_of_ble_eq_true rfl) rfl rfl fun h25 => ?_
    exact r_retV (i := 17) rfl rfl rfl rfl
-- Spread_get
def s_Spread_get (h : fw_H) (v0 : Option Nat) (v1 : Int32) : Option Int64 :=
if v0 = none then (some (0 : Int64)) else
if v1 < (0 : Int32) then (some (0 : Int64)) else
(f_lnJ h v0).bind fun x10 =>
if x10 ≤ v1 then (some (0 : Int64)) else
(f_aJ h v0 v1).bind fun x16 =>
some x16
theorem c_Spread_get {G : fw_G} {h : fw_H} {v0 : Option Nat} {v1 : Int32} : fw_Call G m_Spread_get (fw_eJ h) 0 0 0 [fw_r v0, fw_i v1] h (s_Spread_get h v0 v1) := by
  refine fw_Call.of ok_Spread_get.1 (Nat.le_of_ble_eq_true rfl) [(0, some (fw_r v0)), (1, some (fw_i v1))] rfl ?_
  refine r_aload_n (i := 0) rfl rfl rfl ?_
  refine r_ifnull (i := 1) (tgt := 20) rfl rfl rfl ?_ ?_
  · refine r_lconst (i := 12) (0 : Int64) rfl rfl rfl ?_
    exact r_retJ (i := 13) rfl rfl rfl rfl
  · refine r_iload_n (i := 2) rfl rfl rfl ?_
    refine r_if_lt (i := 3) (tgt := 20) rfl rfl rfl ?_ ?_
    · refine r_lconst (i := 12) (0 : Int64) rfl rfl rfl ?_
      exact r_retJ (i := 13) rfl rfl rfl rfl
    · refine r_iload_n (i := 4) rfl rfl rfl ?_
      refine r_aload_n (i := 5) rfl rfl rfl ?_
      refine r_lnJ (i := 6) rfl rfl fun x10 => ?_
      refine r_icmp_ge (i := 7) (tgt := 20) rfl rfl rfl ?_ ?_
      · refine r_lconst (i := 12) (0 : Int64) rfl rfl rfl ?_
        exact r_retJ (i := 13) rfl rfl rfl rfl
      · refine r_aload_n (i := 8) rfl rfl rfl ?_
        refine r_iload_n (i := 9) rfl rfl rfl ?_
        refine r_aJ (i := 10) rfl rfl fun x16 => ?_
        refine r_goto (i := 11) (tgt := 21) rfl rfl rfl ?_
        exact r_retJ (i := 13) rfl rfl rfl rfl
-- Spread_put
def s_Spread_put (h : fw_H) (v0 : Option Nat) (v1 : Int32) (v2 : Int64) : Option fw_H :=
if v0 = none then (some h) else
if v1 < (0 : Int32) then (some h) else
(f_lnJ h v0).bind fun x10 =>
if x10 ≤ v1 then (some h) else
(f_sJ h v0 v1 v2).bind fun h17 =>
some h17
theorem c_Spread_put {G : fw_G} {h : fw_H} {v0 : Option Nat} {v1 : Int32} {v2 : Int64} : fw_Call G m_Spread_put fw_eV 0 0 0 [fw_r v0, fw_i v1, fw_j v2] h (s_Spread_put h v0 v1 v2) := by
  refine fw_Call.of ok_Spread_put.1 (Nat.le_of_ble_eq_true rfl) [(0, some (fw_r v0)), (1, some (fw_i v1)), (2, some (fw_j v2))] rfl ?_
  refine r_aload_n (i := 0) rfl rfl rfl ?_
  refine r_ifnull (i := 1) (tgt := 18) rfl rfl rfl ?_ ?_
  · exact r_retV (i := 12) rfl rfl rfl rfl
  · refine r_iload_n (i := 2) rfl rfl rfl ?_
    refine r_if_lt (i := 3) (tgt := 18) rfl rfl rfl ?_ ?_
    · exact r_retV (i := 12) rfl rfl rfl rfl
    · refine r_iload_n (i := 4) rfl rfl rfl ?_
      refine r_aload_n (i := 5) rfl rfl rfl ?_
      refine r_lnJ (i := 6) rfl rfl fun x10 => ?_
      refine r_icmp_ge (i := 7) (tgt := 18) rfl rfl rfl ?_ ?_
      · exact r_retV (i := 12) rfl rfl rfl rfl
      · refine r_aload_n (i := 8) rfl rfl rfl ?_
        refine r_iload_n (i := 9) rfl rfl rfl ?_
        refine r_lload_n (i := 10) rfl rfl rfl ?_
        refine r_sJ (i := 11) rfl rfl fun h17 => ?_
        exact r_retV (i := 12) rfl rfl rfl rfl
-- Jdk_fillJ
def l_Jdk_fillJ_6 (v0 : Option Nat) (v1 : Int64) (x3 : Int32) : Nat → Int32 → fw_H → Option fw_H
  | 0, _, _ => none
  | nn + 1, a6_3, g6 =>
    if x3 ≤ a6_3 then (some g6) else
    (f_sJ g6 v0 a6_3 v1).bind fun h15 =>
    l_Jdk_fillJ_6 v0 v1 x3 nn (a6_3 + (1 : Int32)) h15
theorem cl_Jdk_fillJ_6 {G : fw_G} {v0 : Option Nat} {v1 : Int64} {x3 : Int32} : ∀ (nn : Nat) (a6_3 : Int32) (g6 : fw_H), fw_R G m_Jdk_fillJ fw_eV 0 0 0 6 [(0, some (fw_r v0)), (1, some (fw_j v1)), (3, some (fw_i a6_3)), (4, some (fw_i x3))] [] g6 (l_Jdk_fillJ_6 v0 v1 x3 nn a6_3 g6) := by
  intro nn
  induction nn with
  | zero => intros; exact r_none
  | succ nn ih =>
    intro a6_3 g6
    rw [l_Jdk_fillJ_6]
    refine r_iload_n (i := 5) rfl rfl rfl ?_
    refine r_iload (i := 6) rfl rfl rfl ?_
    refine r_icmp_ge (i := 7) (tgt := 22) rfl rfl rfl ?_ ?_
    · exact r_retV (i := 14) rfl rfl rfl rfl
    · refine r_aload_n (i := 8) rfl rfl rfl ?_
      refine r_iload_n (i := 9) rfl rfl rfl ?_
      refine r_lload_n (i := 10) rfl rfl rfl ?_
      refine r_sJ (i := 11) rfl rfl fun h15 => ?_
      refine r_iinc (i := 12) (1 : Int32) kc_iconst_1 rfl rfl rfl (Nat.le_of_ble_eq_true rfl) ?_
      refine r_goto (i := 13) (tgt := 6) rfl rfl rfl ?_
      exact r_lv (fw_sub1 rfl (fw_sub1 rfl (fw_sub1 rfl (fw_sub1 rfl fw_sub0)))) (ih (a6_3 + (1 : Int32)) h15)
def s_Jdk_fillJ (F : Nat) (h : fw_H) (v0 : Option Nat) (v1 : Int64) : Option fw_H :=
(f_lnJ h v0).bind fun x3 =>
l_Jdk_fillJ_6 v0 v1 x3 F (0 : Int32) h
theorem c_Jdk_fillJ {G : fw_G} (F : Nat) {h : fw_H} {v0 : Option Nat} {v1 : Int64} : fw_Call G m_Jdk_fillJ fw_eV 0 0 0 [fw_r v0, fw_j v1] h (s_Jdk_fillJ F h v0 v1) := by
  refine fw_Call.of ok_Jdk_fillJ.1 (Nat.le_of_ble_eq_true rfl) [(0, some (fw_r v0)), (1, some (fw_j v1))] rfl ?_
  refine r_iconst (i := 0) (0 : Int32) kc_iconst_0 rfl rfl ?_
  refine r_istore_n (i := 1) rfl rfl (Nat.le_of_ble_eq_true rfl) rfl ?_
  refine r_aload_n (i := 2) rfl rfl rfl ?_
  refine r_lnJ (i := 3) rfl rfl fun x3 => ?_
  refine r_istore (i := 4) rfl rfl (Nat.le_of_ble_eq_true rfl) rfl ?_
  refine r_lv (fw_sub1 rfl (fw_sub1 rfl (fw_sub1 rfl (fw_sub1 rfl fw_sub0)))) (cl_Jdk_fillJ_6 F _ _)
-- Walk_placeNow
def s_Walk_placeNow (h : fw_H) (v0 : Option Nat) : Option Int32 :=
(f_ck h v0 9).bind fun _ =>
(f_gI h v0 9 2).bind fun x1 =>
(f_gI h v0 9 3).bind fun x8 =>
if ¬ x8 = (-1 : Int32) then ((f_gI h v0 9 3).bind fun x21 =>
some ((x1 * (13 : Int32)) + x21)) else
some ((x1 * (13 : Int32)) + (12 : Int32))
theorem c_Walk_placeNow {G : fw_G} {h : fw_H} {v0 : Option Nat} : fw_Call G m_Walk_placeNow (fw_eI h) 0 0 0 [fw_r v0] h (s_Walk_placeNow h v0) := by
  refine fw_Call.of ok_Walk_placeNow.1 (Nat.le_of_ble_eq_true rfl) [(0, some (fw_r v0))] rfl ?_
  refine r_ck ?_
  refine r_aload_n (i := 0) rfl rfl rfl ?_
  refine r_gI (i := 1) (ci := 9) (kf := 2) rfl (Nat.le_of_ble_eq_true rfl) wF_Walk_86 rfl rfl fun x1 => ?_
  refine r_bipush (i := 2) (13 : Int32) kc_bipush_13 rfl rfl ?_
  refine r_imul (i := 3) rfl rfl ?_
  refine r_aload_n (i := 4) rfl rfl rfl ?_
  refine r_gI (i := 5) (ci := 9) (kf := 3) rfl (Nat.le_of_ble_eq_true rfl) wF_Walk_87 rfl rfl fun x8 => ?_
  refine r_iconst (i := 6) (-1 : Int32) kc_iconst_m1 rfl rfl ?_
  refine r_icmp_ne (i := 7) (tgt := 20) rfl rfl rfl ?_ ?_
  · refine r_aload_n (i := 10) rfl rfl rfl ?_
    refine r_gI (i := 11) (ci := 9) (kf := 3) rfl (Nat.le_of_ble_eq_true rfl) wF_Walk_87 rfl rfl fun x21 => ?_
    refine r_iadd (i := 12) rfl rfl ?_
    exact r_retI (i := 13) rfl rfl rfl rfl
  · refine r_bipush (i := 8) (12 : Int32) kc_bipush_12 rfl rfl ?_
    refine r_goto (i := 9) (tgt := 24) rfl rfl rfl ?_
    refine r_iadd (i := 12) rfl rfl ?_
    exact r_retI (i := 13) rfl rfl rfl rfl
-- Spread_begin
def s_Spread_begin (F : Nat) (h : fw_H) (v0 : Option Nat) (v1 : Int64) (v2 : Int64) : Option fw_H :=
(f_ck h v0 5).bind fun _ =>
(f_gR h v0 5 1).bind fun x1 =>
(s_Jdk_fillJ F h x1 v1).bind fun h5 =>
(f_gR h5 v0 5 1).bind fun x9 =>
(f_gR h5 v0 5 0).bind fun x13 =>
(s_Walk_placeNow h5 x13).bind fun x16 =>
(s_Spread_put h5 x9 x16 v2).bind fun h20 =>
some h20
theorem c_Spread_begin {G : fw_G} (F : Nat) {h : fw_H} {v0 : Option Nat} {v1 : Int64} {v2 : Int64} : fw_Call G m_Spread_begin fw_eV 1 0 0 [fw_r v0, fw_j v1, fw_j v2] h (s_Spread_begin F h v0 v1 v2) := by
  refine fw_Call.of ok_Spread_begin.1 (Nat.le_of_ble_eq_true rfl) [(0, some (fw_r v0)), (1, some (fw_j v1)), (3, some (fw_j v2))] rfl ?_
  refine r_ck ?_
  refine r_aload_n (i := 0) rfl rfl rfl ?_
  refine r_gR (i := 1) (ci := 5) (kf := 1) rfl (Nat.le_of_ble_eq_true rfl) wF_Spread_11 rfl rfl fun x1 => ?_
  refine r_lload_n (i := 2) rfl rfl rfl ?_
  refine r_SV2 (i := 3) (k2 := 0) (n2 := 0) ok_Jdk_fillJ wM_Spread_28 (c_Jdk_fillJ F) (Nat.le_of_ble_eq_true rfl) (Nat.le_of_ble_eq_true rfl) (Nat.le_of_ble_eq_true rfl) (Nat.le_of_ble_eq_true rfl) rfl rfl fun h5 => ?_
  refine r_aload_n (i := 4) rfl rfl rfl ?_
  refine r_gR (i := 5) (ci := 5) (kf := 1) rfl (Nat.le_of_ble_eq_true rfl) wF_Spread_11 rfl rfl fun x9 => ?_
  refine r_aload_n (i := 6) rfl rfl rfl ?_
  refine r_gR (i := 7) (ci := 5) (kf := 0) rfl (Nat.le_of_ble_eq_true rfl) wF_Spread_20 rfl rfl fun x13 => ?_
  refine r_VI0 (i := 8) (k2 := 0) (n2 := 0) ok_Walk_placeNow wM_Spread_34 (c_Walk_placeNow) (fun _ e => fw_ckb e) (Nat.le_of_ble_eq_true rfl) (Nat.le_of_ble_eq_true rfl) (Nat.le_of_ble_eq_true rfl) (Nat.le_of_ble_eq_true rfl) rfl rfl fun x16 => ?_
  refine r_lload_n (i := 9) rfl rfl rfl ?_
  refine r_SV3 (i := 10) (k2 := 0) (n2 := 0) ok_Spread_put wM_Spread_38 (c_Spread_put) (Nat.le_of_ble_eq_true rfl) (Nat.le_of_ble_eq_true rfl) (Nat.le_of_ble_eq_true rfl) (Nat.le_of_ble_eq_true rfl) rfl rfl fun h20 => ?_
  exact r_retV (i := 11) rfl rfl rfl rfl
-- Spread_turnOver
def s_Spread_turnOver (h : fw_H) (v0 : Option Nat) : Option fw_H :=
(f_ck h v0 5).bind fun _ =>
(f_gR h v0 5 1).bind fun x1 =>
(f_gR h v0 5 2).bind fun x7 =>
(f_pR h v0 5 1 x7).bind fun h10 =>
(f_pR h10 v0 5 2 x1).bind fun h15 =>
some h15
theorem c_Spread_turnOver {G : fw_G} {h : fw_H} {v0 : Option Nat} : fw_Call G m_Spread_turnOver fw_eV 0 0 0 [fw_r v0] h (s_Spread_turnOver h v0) := by
  refine fw_Call.of ok_Spread_turnOver.1 (Nat.le_of_ble_eq_true rfl) [(0, some (fw_r v0))] rfl ?_
  refine r_ck ?_
  refine r_aload_n (i := 0) rfl rfl rfl ?_
  refine r_gR (i := 1) (ci := 5) (kf := 1) rfl (Nat.le_of_ble_eq_true rfl) wF_Spread_11 rfl rfl fun x1 => ?_
  refine r_astore_n (i := 2) rfl rfl (Nat.le_of_ble_eq_true rfl) rfl ?_
  refine r_aload_n (i := 3) rfl rfl rfl ?_
  refine r_aload_n (i := 4) rfl rfl rfl ?_
  refine r_gR (i := 5) (ci := 5) (kf := 2) rfl (Nat.le_of_ble_eq_true rfl) wF_Spread_17 rfl rfl fun x7 => ?_
  refine r_pR (i := 6) (ci := 5) (kf := 1) rfl (Nat.le_of_ble_eq_true rfl) wF_Spread_11 rfl ⟨_, (tyX5_ok 1 (Nat.le_of_ble_eq_true rfl)), Or.inr ⟨_, rfl⟩⟩ rfl rfl fun h10 => ?_
  refine r_aload_n (i := 7) rfl rfl rfl ?_
  refine r_aload_n (i := 8) rfl rfl rfl ?_
  refine r_pR (i := 9) (ci := 5) (kf := 2) rfl (Nat.le_of_ble_eq_true rfl) wF_Spread_17 rfl ⟨_, (tyX5_ok 2 (Nat.le_of_ble_eq_true rfl)), Or.inr ⟨_, rfl⟩⟩ rfl rfl fun h15 => ?_
  exact r_retV (i := 10) rfl rfl rfl rfl
-- Spread_fogHour
def l_Spread_fogHour_18 (F : Nat) (v0 : Option Nat) (v1 : Int32) (x4 : Int32) (K124 : fw_H → Option fw_H) : Nat → Int32 → fw_H → Option fw_H
  | 0, _, _ => none
  | nn + 1, a18_3, g18 =>
    if (156 : Int32) ≤ a18_3 then (K124 g18) else
    (f_gR g18 v0 5 1).bind fun x26 =>
    (s_Spread_get g18 x26 a18_3).bind fun x30 =>
    if (lg_cmp x30 (0 : Int64)) ≤ (0 : Int32) then (l_Spread_fogHour_18 F v0 v1 x4 K124 nn (a18_3 + (1 : Int32)) g18) else
    (f_ldiv (x30 * (Int32.toInt64 v1)) (100 : Int64)).bind fun x50 =>
    (f_gR g18 v0 5 2).bind fun x54 =>
    (f_gR g18 v0 5 2).bind fun x59 =>
    (s_Spread_get g18 x59 a18_3).bind fun x63 =>
    (s_Spread_put g18 x54 a18_3 (x63 + x50)).bind fun h69 =>
    (s_Spread_walkFrom h69 v0 a18_3 x4).bind fun h75 =>
    (f_gR h75 v0 5 0).bind fun x79 =>
    (s_Walk_hour F h75 x79).bind fun h82 =>
    (f_gR h82 v0 5 0).bind fun x86 =>
    (s_Walk_placeNow h82 x86).bind fun x89 =>
    (f_gR h82 v0 5 2).bind fun x95 =>
    (f_gR h82 v0 5 2).bind fun x101 =>
    (s_Spread_get h82 x101 x89).bind fun x106 =>
    (s_Spread_put h82 x95 x89 ((x106 + x30) - x50)).bind fun h115 =>
    l_Spread_fogHour_18 F v0 v1 x4 K124 nn (a18_3 + (1 : Int32)) h115
theorem cl_Spread_fogHour_18 {G : fw_G} {F : Nat} {v0 : Option Nat} {v1 : Int32} {x4 : Int32} {K124 : fw_H → Option fw_H} (hK124 : ∀ (he124 : fw_H), fw_R G m_Spread_fogHour fw_eV 4 0 0 124 [(0, some (fw_r v0)), (2, some (fw_i x4))] [] he124 (K124 he124)) : ∀ (nn : Nat) (a18_3 : Int32) (g18 : fw_H), fw_R G m_Spread_fogHour fw_eV 4 0 0 18 [(0, some (fw_r v0)), (1, some (fw_i v1)), (2, some (fw_i x4)), (3, some (fw_i a18_3))] [] g18 (l_Spread_fogHour_18 F v0 v1 x4 K124 nn a18_3 g18) := by
  intro nn
  induction nn with
  | zero => intros; exact r_none
  | succ nn ih =>
    intro a18_3 g18
    rw [l_Spread_fogHour_18]
    refine r_iload_n (i := 10) rfl rfl rfl ?_
    refine r_sipush (i := 11) (156 : Int32) kc_sipush_156 rfl rfl ?_
    refine r_icmp_ge (i := 12) (tgt := 124) rfl rfl rfl ?_ ?_
    · exact r_lv (fw_sub1 rfl (fw_sub1 rfl fw_sub0)) (hK124 g18)
    · refine r_aload_n (i := 13) rfl rfl rfl ?_
      refine r_gR (i := 14) (ci := 5) (kf := 1) rfl (Nat.le_of_ble_eq_true rfl) wF_Spread_11 rfl rfl fun x26 => ?_
      refine r_iload_n (i := 15) rfl rfl rfl ?_
      refine r_SJ2 (i := 16) (k2 := 0) (n2 := 0) ok_Spread_get wM_Spread_46 (c_Spread_get) (Nat.le_of_ble_eq_true rfl) (Nat.le_of_ble_eq_true rfl) (Nat.le_of_ble_eq_true rfl) (Nat.le_of_ble_eq_true rfl) rfl rfl fun x30 => ?_
      refine r_lstore (i := 17) rfl rfl (Nat.le_of_ble_eq_true rfl) rfl ?_
      refine r_lload (i := 18) rfl rfl rfl ?_
      refine r_lconst (i := 19) (0 : Int64) rfl rfl rfl ?_
      refine r_lcmp (i := 20) rfl rfl ?_
      refine r_if_le (i := 21) (tgt := 118) rfl rfl rfl ?_ ?_
      · refine r_iinc (i := 62) (1 : Int32) kc_iconst_1 rfl rfl rfl (Nat.le_of_ble_eq_true rfl) ?_
        refine r_goto (i := 63) (tgt := 18) rfl rfl rfl ?_
        exact r_lv (fw_sub1 rfl (fw_sub1 rfl (fw_sub1 rfl (fw_sub1 rfl fw_sub0)))) (ih (a18_3 + (1 : Int32)) g18)
      · refine r_lload (i := 22) rfl rfl rfl ?_
        refine r_iload_n (i := 23) rfl rfl rfl ?_
        refine r_i2l (i := 24) rfl rfl ?_
        refine r_lmul (i := 25) rfl rfl ?_
        refine r_ldc2 (i := 26) wL_Spread_50 rfl rfl ?_
        refine r_ldivN (i := 27) rfl rfl fun x50 => ?_
        refine r_lstore (i := 28) rfl rfl (Nat.le_of_ble_eq_true rfl) rfl ?_
        refine r_aload_n (i := 29) rfl rfl rfl ?_
        refine r_gR (i := 30) (ci := 5) (kf := 2) rfl (Nat.le_of_ble_eq_true rfl) wF_Spread_17 rfl rfl fun x54 => ?_
        refine r_iload_n (i := 31) rfl rfl rfl ?_
        refine r_aload_n (i := 32) rfl rfl rfl ?_
        refine r_gR (i := 33) (ci := 5) (kf := 2) rfl (Nat.le_of_ble_eq_true rfl) wF_Spread_17 rfl rfl fun x59 => ?_
        refine r_iload_n (i := 34) rfl rfl rfl ?_
        refine r_SJ2 (i := 35) (k2 := 0) (n2 := 0) ok_Spread_get wM_Spread_46 (c_Spread_get) (Nat.le_of_ble_eq_true rfl) (Nat.le_of_ble_eq_true rfl) (Nat.le_of_ble_eq_true rfl) (Nat.le_of_ble_eq_true rfl) rfl rfl fun x63 => ?_
        refine r_lload (i := 36) rfl rfl rfl ?_
        refine r_ladd (i := 37) rfl rfl ?_
        refine r_SV3 (i := 38) (k2 := 0) (n2 := 0) ok_Spread_put wM_Spread_38 (c_Spread_put) (Nat.le_of_ble_eq_true rfl) (Nat.le_of_ble_eq_true rfl) (Nat.le_of_ble_eq_true rfl) (Nat.le_of_ble_eq_true rfl) rfl rfl fun h69 => ?_
        refine r_aload_n (i := 39) rfl rfl rfl ?_
        refine r_iload_n (i := 40) rfl rfl rfl ?_
        refine r_iload_n (i := 41) rfl rfl rfl ?_
        refine r_VV2 (i := 42) (k2 := 0) (n2 := 0) ok_Spread_walkFrom wM_Spread_52 (c_Spread_walkFrom) (fun _ e => fw_ckb e) (Nat.le_of_ble_eq_true rfl) (Nat.le_of_ble_eq_true rfl) (Nat.le_of_ble_eq_true rfl) (Nat.le_of_ble_eq_true rfl) rfl rfl fun h75 => ?_
        refine r_aload_n (i := 43) rfl rfl rfl ?_
        refine r_gR (i := 44) (ci := 5) (kf := 0) rfl (Nat.le_of_ble_eq_true rfl) wF_Spread_20 rfl rfl fun x79 => ?_
        refine r_VV0 (i := 45) (k2 := 0) (n2 := 0) ok_Walk_hour wM_Spread_56 (c_Walk_hour F) (fun _ e => fw_ckb e) (Nat.le_of_ble_eq_true rfl) (Nat.le_of_ble_eq_true rfl) (Nat.le_of_ble_eq_true rfl) (Nat.le_of_ble_eq_true rfl) rfl rfl fun h82 => ?_
        refine r_aload_n (i := 46) rfl rfl rfl ?_
        refine r_gR (i := 47) (ci := 5) (kf := 0) rfl (Nat.le_of_ble_eq_true rfl) wF_Spread_20 rfl rfl fun x86 => ?_
        refine r_VI0 (i := 48) (k2 := 0) (n2 := 0) ok_Walk_placeNow wM_Spread_34 (c_Walk_placeNow) (fun _ e => fw_ckb e) (Nat.le_of_ble_eq_true rfl) (Nat.le_of_ble_eq_true rfl) (Nat.le_of_ble_eq_true rfl) (Nat.le_of_ble_eq_true rfl) rfl rfl fun x89 => ?_
        refine r_istore (i := 49) rfl rfl (Nat.le_of_ble_eq_true rfl) rfl ?_
        refine r_aload_n (i := 50) rfl rfl rfl ?_
        refine r_gR (i := 51) (ci := 5) (kf := 2) rfl (Nat.le_of_ble_eq_true rfl) wF_Spread_17 rfl rfl fun x95 => ?_
        refine r_iload (i := 52) rfl rfl rfl ?_
        refine r_aload_n (i := 53) rfl rfl rfl ?_
        refine r_gR (i := 54) (ci := 5) (kf := 2) rfl (Nat.le_of_ble_eq_true rfl) wF_Spread_17 rfl rfl fun x101 => ?_
        refine r_iload (i := 55) rfl rfl rfl ?_
        refine r_SJ2 (i := 56) (k2 := 0) (n2 := 0) ok_Spread_get wM_Spread_46 (c_Spread_get) (Nat.le_of_ble_eq_true rfl) (Nat.le_of_ble_eq_true rfl) (Nat.le_of_ble_eq_true rfl) (Nat.le_of_ble_eq_true rfl) rfl rfl fun x106 => ?_
        refine r_lload (i := 57) rfl rfl rfl ?_
        refine r_ladd (i := 58) rfl rfl ?_
        refine r_lload (i := 59) rfl rfl rfl ?_
        refine r_lsub (i := 60) rfl rfl ?_
        refine r_SV3 (i := 61) (k2 := 0) (n2 := 0) ok_Spread_put wM_Spread_38 (c_Spread_put) (Nat.le_of_ble_eq_true rfl) (Nat.le_of_ble_eq_true rfl) (Nat.le_of_ble_eq_true rfl) (Nat.le_of_ble_eq_true rfl) rfl rfl fun h115 => ?_
        refine r_iinc (i := 62) (1 : Int32) kc_iconst_1 rfl rfl rfl (Nat.le_of_ble_eq_true rfl) ?_
        refine r_goto (i := 63) (tgt := 18) rfl rfl rfl ?_
        exact r_lv (fw_sub1 rfl (fw_sub1 rfl (fw_sub1 rfl (fw_sub1 rfl fw_sub0)))) (ih (a18_3 + (1 : Int32)) h115)
def s_Spread_fogHour (F : Nat) (h : fw_H) (v0 : Option Nat) (v1 : Int32) : Option fw_H :=
(f_ck h v0 5).bind fun _ =>
(f_gR h v0 5 0).bind fun x1 =>
(f_gI h x1 9 4).bind fun x4 =>
(f_gR h v0 5 2).bind fun x9 =>
(s_Jdk_fillJ F h x9 (0 : Int64)).bind fun h13 =>
l_Spread_fogHour_18 F v0 v1 x4 (fun he124 =>
(f_gR he124 v0 5 0).bind fun x125 =>
(f_irem (x4 + (1 : Int32)) (24 : Int32)).bind fun x133 =>
(f_pI he124 x125 9 4 x133).bind fun h134 =>
(s_Spread_turnOver h134 v0).bind fun h138 =>
some h138) F (0 : Int32) h13
theorem c_Spread_fogHour {G : fw_G} (F : Nat) {h : fw_H} {v0 : Option Nat} {v1 : Int32} : fw_Call G m_Spread_fogHour fw_eV 4 0 0 [fw_r v0, fw_i v1] h (s_Spread_fogHour F h v0 v1) := by
  refine fw_Call.of ok_Spread_fogHour.1 (Nat.le_of_ble_eq_true rfl) [(0, some (fw_r v0)), (1, some (fw_i v1))] rfl ?_
  refine r_ck ?_
  refine r_aload_n (i := 0) rfl rfl rfl ?_
  refine r_gR (i := 1) (ci := 5) (kf := 0) rfl (Nat.le_of_ble_eq_true rfl) wF_Spread_20 rfl rfl fun x1 => ?_
  refine r_gI (i := 2) (ci := 9) (kf := 4) rfl (Nat.le_of_ble_eq_true rfl) wF_Spread_42 rfl rfl fun x4 => ?_
  refine r_istore_n (i := 3) rfl rfl (Nat.le_of_ble_eq_true rfl) rfl ?_
  refine r_aload_n (i := 4) rfl rfl rfl ?_
  refine r_gR (i := 5) (ci := 5) (kf := 2) rfl (Nat.le_of_ble_eq_true rfl) wF_Spread_17 rfl rfl fun x9 => ?_
  refine r_lconst (i := 6) (0 : Int64) rfl rfl rfl ?_
  refine r_SV2 (i := 7) (k2 := 0) (n2 := 0) ok_Jdk_fillJ wM_Spread_28 (c_Jdk_fillJ F) (Nat.le_of_ble_eq_true rfl) (Nat.le_of_ble_eq_true rfl) (Nat.le_of_ble_eq_true rfl) (Nat.le_of_ble_eq_true rfl) rfl rfl fun h13 => ?_
  refine r_iconst (i := 8) (0 : Int32) kc_iconst_0 rfl rfl ?_
  refine r_istore_n (i := 9) rfl rfl (Nat.le_of_ble_eq_true rfl) rfl ?_
  refine r_lv (fw_sub1 rfl (fw_sub1 rfl (fw_sub1 rfl (fw_sub1 rfl fw_sub0)))) (cl_Spread_fogHour_18 ?_ F _ _)
  · intro he124
    refine r_aload_n (i := 64) rfl rfl rfl ?_
    refine r_gR (i := 65) (ci := 5) (kf := 0) rfl (Nat.le_of_ble_eq_true rfl) wF_Spread_20 rfl rfl fun x125 => ?_
    refine r_iload_n (i := 66) rfl rfl rfl ?_
    refine r_iconst (i := 67) (1 : Int32) kc_iconst_1 rfl rfl ?_
    refine r_iadd (i := 68) rfl rfl ?_
    refine r_bipush (i := 69) (24 : Int32) kc_bipush_24 rfl rfl ?_
    refine r_iremN (i := 70) rfl rfl fun x133 => ?_
    refine r_pI (i := 71) (ci := 9) (kf := 4) rfl (Nat.le_of_ble_eq_true rfl) wF_Spread_42 rfl (tyX9_ok 4 (Nat.le_of_ble_eq_true rfl)) rfl rfl fun h134 => ?_
    refine r_aload_n (i := 72) rfl rfl rfl ?_
    refine r_VV0 (i := 73) (k2 := 0) (n2 := 0) ok_Spread_turnOver wM_Spread_59 (c_Spread_turnOver) (fun _ e => fw_ckb e) (Nat.le_of_ble_eq_true rfl) (Nat.le_of_ble_eq_true rfl) (Nat.le_of_ble_eq_true rfl) (Nat.le_of_ble_eq_true rfl) rfl rfl fun h138 => ?_
    exact r_retV (i := 74) rfl rfl rfl rfl
-- Spread_partsOf
def l_Spread_partsOf_5 (h : fw_H) (v0 : Option Nat) (v1 : Int32) : Nat → Int64 → Int32 → Option Int64
  | 0, _, _ => none
  | nn + 1, a5_2, a5_4 =>
    if (12 : Int32) < a5_4 then (some a5_2) else
    (f_gR h v0 5 1).bind fun x14 =>
    (s_Spread_get h x14 ((v1 * (13 : Int32)) + a5_4)).bind fun x24 =>
    l_Spread_partsOf_5 h v0 v1 nn (a5_2 + x24) (a5_4 + (1 : Int32))
theorem cl_Spread_partsOf_5 {G : fw_G} {h : fw_H} {v0 : Option Nat} {v1 : Int32} : ∀ (nn : Nat) (a5_2 : Int64) (a5_4 : Int32), fw_R G m_Spread_partsOf (fw_eJ h) 1 0 0 5 [(0, some (fw_r v0)), (1, some (fw_i v1)), (2, some (fw_j a5_2)), (4, some (fw_i a5_4))] [] h (l_Spread_partsOf_5 h v0 v1 nn a5_2 a5_4) := by
  intro nn
  induction nn with
  | zero => intros; exact r_none
  | succ nn ih =>
    intro a5_2 a5_4
    rw [l_Spread_partsOf_5]
    refine r_iload (i := 4) rfl rfl rfl ?_
    refine r_bipush (i := 5) (12 : Int32) kc_bipush_12 rfl rfl ?_
    refine r_icmp_gt (i := 6) (tgt := 35) rfl rfl rfl ?_ ?_
    · refine r_lload_n (i := 20) rfl rfl rfl ?_
      exact r_retJ (i := 21) rfl rfl rfl rfl
    · refine r_lload_n (i := 7) rfl rfl rfl ?_
      refine r_aload_n (i := 8) rfl rfl rfl ?_
      refine r_gR (i := 9) (ci := 5) (kf := 1) rfl (Nat.le_of_ble_eq_true rfl) wF_Spread_11 rfl rfl fun x14 => ?_
      refine r_iload_n (i := 10) rfl rfl rfl ?_
      refine r_bipush (i := 11) (13 : Int32) kc_bipush_13 rfl rfl ?_
      refine r_imul (i := 12) rfl rfl ?_
      refine r_iload (i := 13) rfl rfl rfl ?_
      refine r_iadd (i := 14) rfl rfl ?_
      refine r_SJ2 (i := 15) (k2 := 0) (n2 := 0) ok_Spread_get wM_Spread_46 (c_Spread_get) (Nat.le_of_ble_eq_true rfl) (Nat.le_of_ble_eq_true rfl) (Nat.le_of_ble_eq_true rfl) (Nat.le_of_ble_eq_true rfl) rfl rfl fun x24 => ?_
      refine r_ladd (i := 16) rfl rfl ?_
      refine r_lstore_n (i := 17) rfl rfl (Nat.le_of_ble_eq_true rfl) rfl ?_
      refine r_iinc (i := 18) (1 : Int32) kc_iconst_1 rfl rfl rfl (Nat.le_of_ble_eq_true rfl) ?_
      refine r_goto (i := 19) (tgt := 5) rfl rfl rfl ?_
      exact r_lv (fw_sub1 rfl (fw_sub1 rfl (fw_sub1 rfl (fw_sub1 rfl fw_sub0)))) (ih (a5_2 + x24) (a5_4 + (1 : Int32)))
def s_Spread_partsOf (F : Nat) (h : fw_H) (v0 : Option Nat) (v1 : Int32) : Option Int64 :=
(f_ck h v0 5).bind fun _ =>
l_Spread_partsOf_5 h v0 v1 F (0 : Int64) (0 : Int32)
theorem c_Spread_partsOf {G : fw_G} (F : Nat) {h : fw_H} {v0 : Option Nat} {v1 : Int32} : fw_Call G m_Spread_partsOf (fw_eJ h) 1 0 0 [fw_r v0, fw_i v1] h (s_Spread_partsOf F h v0 v1) := by
  refine fw_Call.of ok_Spread_partsOf.1 (Nat.le_of_ble_eq_true rfl) [(0, some (fw_r v0)), (1, some (fw_i v1))] rfl ?_
  refine r_ck ?_
  refine r_lconst (i := 0) (0 : Int64) rfl rfl rfl ?_
  refine r_lstore_n (i := 1) rfl rfl (Nat.le_of_ble_eq_true rfl) rfl ?_
  refine r_iconst (i := 2) (0 : Int32) kc_iconst_0 rfl rfl ?_
  refine r_istore (i := 3) rfl rfl (Nat.le_of_ble_eq_true rfl) rfl ?_
  refine r_lv (fw_sub1 rfl (fw_sub1 rfl (fw_sub1 rfl (fw_sub1 rfl fw_sub0)))) (cl_Spread_partsOf_5 F _ _)
-- Spread_partsAt
def l_Spread_partsAt_11 (F : Nat) (v0 : Option Nat) (v2 : Int32) (v3 : Int32) (K28 : fw_H → Option (Int64 × fw_H)) : Nat → Int32 → fw_H → Option (Int64 × fw_H)
  | 0, _, _ => none
  | nn + 1, a11_4, g11 =>
    if v2 ≤ a11_4 then (K28 g11) else
    (s_Spread_fogHour F g11 v0 v3).bind fun h19 =>
    l_Spread_partsAt_11 F v0 v2 v3 K28 nn (a11_4 + (1 : Int32)) h19
theorem cl_Spread_partsAt_11 {G : fw_G} {F : Nat} {v0 : Option Nat} {v1 : Int32} {v2 : Int32} {v3 : Int32} {K28 : fw_H → Option (Int64 × fw_H)} (hK28 : ∀ (he28 : fw_H), fw_R G m_Spread_partsAt fw_wJ 5 0 0 28 [(0, some (fw_r v0)), (1, some (fw_i v1))] [] he28 (K28 he28)) : ∀ (nn : Nat) (a11_4 : Int32) (g11 : fw_H), fw_R G m_Spread_partsAt fw_wJ 5 0 0 11 [(0, some (fw_r v0)), (1, some (fw_i v1)), (2, some (fw_i v2)), (3, some (fw_i v3)), (4, some (fw_i a11_4))] [] g11 (l_Spread_partsAt_11 F v0 v2 v3 K28 nn a11_4 g11) := by
  intro nn
  induction nn with
  | zero => intros; exact r_none
  | succ nn ih =>
    intro a11_4 g11
    rw [l_Spread_partsAt_11]
    refine r_iload (i := 6) rfl rfl rfl ?_
    refine r_iload_n (i := 7) rfl rfl rfl ?_
    refine r_icmp_ge (i := 8) (tgt := 28) rfl rfl rfl ?_ ?_
    · exact r_lv (fw_sub1 rfl (fw_sub1 rfl fw_sub0)) (hK28 g11)
    · refine r_aload_n (i := 9) rfl rfl rfl ?_
      refine r_iload_n (i := 10) rfl rfl rfl ?_
      refine r_VV1 (i := 11) (k2 := 0) (n2 := 0) ok_Spread_fogHour wM_Spread_68 (c_Spread_fogHour F) (fun _ e => fw_ckb e) (Nat.le_of_ble_eq_true rfl) (Nat.le_of_ble_eq_true rfl) (Nat.le_of_ble_eq_true rfl) (Nat.le_of_ble_eq_true rfl) rfl rfl fun h19 => ?_
      refine r_iinc (i := 12) (1 : Int32) kc_iconst_1 rfl rfl rfl (Nat.le_of_ble_eq_true rfl) ?_
      refine r_goto (i := 13) (tgt := 11) rfl rfl rfl ?_
      exact r_lv (fw_sub1 rfl (fw_sub1 rfl (fw_sub1 rfl (fw_sub1 rfl (fw_sub1 rfl fw_sub0))))) (ih (a11_4 + (1 : Int32)) h19)
def s_Spread_partsAt (F : Nat) (h : fw_H) (v0 : Option Nat) (v1 : Int32) (v2 : Int32) (v3 : Int32) : Option (Int64 × fw_H) :=
(f_ck h v0 5).bind fun _ =>
(s_Spread_begin F h v0 (0 : Int64) (1000000000 : Int64)).bind fun h5 =>
l_Spread_partsAt_11 F v0 v2 v3 (fun he28 =>
(s_Spread_partsOf F he28 v0 v1).bind fun x30 =>
some (x30, he28)) F (0 : Int32) h5
theorem c_Spread_partsAt {G : fw_G} (F : Nat) {h : fw_H} {v0 : Option Nat} {v1 : Int32} {v2 : Int32} {v3 : Int32} : fw_Call G m_Spread_partsAt fw_wJ 5 0 0 [fw_r v0, fw_i v1, fw_i v2, fw_i v3] h (s_Spread_partsAt F h v0 v1 v2 v3) := by
  refine fw_Call.of ok_Spread_partsAt.1 (Nat.le_of_ble_eq_true rfl) [(0, some (fw_r v0)), (1, some (fw_i v1)), (2, some (fw_i v2)), (3, some (fw_i v3))] rfl ?_
  refine r_ck ?_
  refine r_aload_n (i := 0) rfl rfl rfl ?_
  refine r_lconst (i := 1) (0 : Int64) rfl rfl rfl ?_
  refine r_ldc2 (i := 2) wL_Spread_62 rfl rfl ?_
  refine r_VV2 (i := 3) (k2 := 0) (n2 := 0) ok_Spread_begin wM_Spread_64 (c_Spread_begin F) (fun _ e => fw_ckb e) (Nat.le_of_ble_eq_true rfl) (Nat.le_of_ble_eq_true rfl) (Nat.le_of_ble_eq_true rfl) (Nat.le_of_ble_eq_true rfl) rfl rfl fun h5 => ?_
  refine r_iconst (i := 4) (0 : Int32) kc_iconst_0 rfl rfl ?_
  refine r_istore (i := 5) rfl rfl (Nat.le_of_ble_eq_true rfl) rfl ?_
  refine r_lv (fw_sub1 rfl (fw_sub1 rfl (fw_sub1 rfl (fw_sub1 rfl (fw_sub1 rfl fw_sub0))))) (cl_Spread_partsAt_11 ?_ F _ _)
  · intro he28
    refine r_aload_n (i := 14) rfl rfl rfl ?_
    refine r_iload_n (i := 15) rfl rfl rfl ?_
    refine r_VJ1 (i := 16) (k2 := 0) (n2 := 0) ok_Spread_partsOf wM_Spread_72 (c_Spread_partsOf F) (fun _ e => fw_ckb e) (Nat.le_of_ble_eq_true rfl) (Nat.le_of_ble_eq_true rfl) (Nat.le_of_ble_eq_true rfl) (Nat.le_of_ble_eq_true rfl) rfl rfl fun x30 => ?_
    exact r_retJ (i := 17) rfl rfl rfl rfl
-- Spread_partsTogether
def l_Spread_partsTogether_14 (F : Nat) (v0 : Option Nat) (v1 : Int32) (v2 : Int32) (v3 : Int32) : Nat → Int64 → Int32 → fw_H → Option (Int64 × fw_H)
  | 0, _, _, _ => none
  | nn + 1, a14_4, a14_6, g14 =>
    if v2 ≤ a14_6 then (some (a14_4, g14)) else
    (s_Spread_fogHour F g14 v0 v3).bind fun h22 =>
    (s_Spread_partsOf F h22 v0 v1).bind fun x29 =>
    l_Spread_partsTogether_14 F v0 v1 v2 v3 nn (a14_4 + x29) (a14_6 + (1 : Int32)) h22
theorem cl_Spread_partsTogether_14 {G : fw_G} {F : Nat} {v0 : Option Nat} {v1 : Int32} {v2 : Int32} {v3 : Int32} : ∀ (nn : Nat) (a14_4 : Int64) (a14_6 : Int32) (g14 : fw_H), fw_R G m_Spread_partsTogether fw_wJ 5 0 0 14 [(0, some (fw_r v0)), (1, some (fw_i v1)), (2, some (fw_i v2)), (3, some (fw_i v3)), (4, some (fw_j a14_4)), (6, some (fw_i a14_6))] [] g14 (l_Spread_partsTogether_14 F v0 v1 v2 v3 nn a14_4 a14_6 g14) := by
  intro nn
  induction nn with
  | zero => intros; exact r_none
  | succ nn ih =>
    intro a14_4 a14_6 g14
    rw [l_Spread_partsTogether_14]
    refine r_iload (i := 8) rfl rfl rfl ?_
    refine r_iload_n (i := 9) rfl rfl rfl ?_
    refine r_icmp_ge (i := 10) (tgt := 41) rfl rfl rfl ?_ ?_
    · refine r_lload (i := 22) rfl rfl rfl ?_
      exact r_retJ (i := 23) rfl rfl rfl rfl
    · refine r_aload_n (i := 11) rfl rfl rfl ?_
      refine r_iload_n (i := 12) rfl rfl rfl ?_
      refine r_VV1 (i := 13) (k2 := 0) (n2 := 0) ok_Spread_fogHour wM_Spread_68 (c_Spread_fogHour F) (fun _ e => fw_ckb e) (Nat.le_of_ble_eq_true rfl) (Nat.le_of_ble_eq_true rfl) (Nat.le_of_ble_eq_true rfl) (Nat.le_of_ble_eq_true rfl) rfl rfl fun h22 => ?_
      refine r_lload (i := 14) rfl rfl rfl ?_
      refine r_aload_n (i := 15) rfl rfl rfl ?_
      refine r_iload_n (i := 16) rfl rfl rfl ?_
      refine r_VJ1 (i := 17) (k2 := 0) (n2 := 0) ok_Spread_partsOf wM_Spread_72 (c_Spread_partsOf F) (fun _ e => fw_ckb e) (Nat.le_of_ble_eq_true rfl) (Nat.le_of_ble_eq_true rfl) (Nat.le_of_ble_eq_true rfl) (Nat.le_of_ble_eq_true rfl) rfl rfl fun x29 => ?_
      refine r_ladd (i := 18) rfl rfl ?_
      refine r_lstore (i := 19) rfl rfl (Nat.le_of_ble_eq_true rfl) rfl ?_
      refine r_iinc (i := 20) (1 : Int32) kc_iconst_1 rfl rfl rfl (Nat.le_of_ble_eq_true rfl) ?_
      refine r_goto (i := 21) (tgt := 14) rfl rfl rfl ?_
      exact r_lv (fw_sub1 rfl (fw_sub1 rfl (fw_sub1 rfl (fw_sub1 rfl (fw_sub1 rfl (fw_sub1 rfl fw_sub0)))))) (ih (a14_4 + x29) (a14_6 + (1 : Int32)) h22)
def s_Spread_partsTogether (F : Nat) (h : fw_H) (v0 : Option Nat) (v1 : Int32) (v2 : Int32) (v3 : Int32) : Option (Int64 × fw_H) :=
(f_ck h v0 5).bind fun _ =>
(s_Spread_begin F h v0 (0 : Int64) (1000000000 : Int64)).bind fun h5 =>
l_Spread_partsTogether_14 F v0 v1 v2 v3 F (0 : Int64) (0 : Int32) h5
theorem c_Spread_partsTogether {G : fw_G} (F : Nat) {h : fw_H} {v0 : Option Nat} {v1 : Int32} {v2 : Int32} {v3 : Int32} : fw_Call G m_Spread_partsTogether fw_wJ 5 0 0 [fw_r v0, fw_i v1, fw_i v2, fw_i v3] h (s_Spread_partsTogether F h v0 v1 v2 v3) := by
  refine fw_Call.of ok_Spread_partsTogether.1 (Nat.le_of_ble_eq_true rfl) [(0, some (fw_r v0)), (1, some (fw_i v1)), (2, some (fw_i v2)), (3, some (fw_i v3))] rfl ?_
  refine r_ck ?_
  refine r_aload_n (i := 0) rfl rfl rfl ?_
  refine r_lconst (i := 1) (0 : Int64) rfl rfl rfl ?_
  refine r_ldc2 (i := 2) wL_Spread_62 rfl rfl ?_
  refine r_VV2 (i := 3) (k2 := 0) (n2 := 0) ok_Spread_begin wM_Spread_64 (c_Spread_begin F) (fun _ e => fw_ckb e) (Nat.le_of_ble_eq_true rfl) (Nat.le_of_ble_eq_true rfl) (Nat.le_of_ble_eq_true rfl) (Nat.le_of_ble_eq_true rfl) rfl rfl fun h5 => ?_
  refine r_lconst (i := 4) (0 : Int64) rfl rfl rfl ?_
  refine r_lstore (i := 5) rfl rfl (Nat.le_of_ble_eq_true rfl) rfl ?_
  refine r_iconst (i := 6) (0 : Int32) kc_iconst_0 rfl rfl ?_
  refine r_istore (i := 7) rfl rfl (Nat.le_of_ble_eq_true rfl) rfl ?_
  refine r_lv (fw_sub1 rfl (fw_sub1 rfl (fw_sub1 rfl (fw_sub1 rfl (fw_sub1 rfl (fw_sub1 rfl fw_sub0)))))) (cl_Spread_partsTogether_14 F _ _ _)
-- Spread_reach
def s_Spread_reach (F : Nat) (h : fw_H) (v0 : Option Nat) (v1 : Int64) : Option fw_H :=
(f_ck h v0 5).bind fun _ =>
(f_gR h v0 5 0).bind fun x1 =>
(s_Walk_hour F h x1).bind fun h4 =>
(f_gR h4 v0 5 0).bind fun x8 =>
(s_Walk_placeNow h4 x8).bind fun x11 =>
(f_gR h4 v0 5 2).bind fun x16 =>
(f_gR h4 v0 5 2).bind fun x21 =>
(s_Spread_get h4 x21 x11).bind fun x25 =>
(s_Spread_put h4 x16 x11 (fw_minJ x25 v1)).bind fun h32 =>
some h32
theorem c_Spread_reach {G : fw_G} (F : Nat) {h : fw_H} {v0 : Option Nat} {v1 : Int64} : fw_Call G m_Spread_reach fw_eV 4 0 0 [fw_r v0, fw_j v1] h (s_Spread_reach F h v0 v1) := by
  refine fw_Call.of ok_Spread_reach.1 (Nat.le_of_ble_eq_true rfl) [(0, some (fw_r v0)), (1, some (fw_j v1))] rfl ?_
  refine r_ck ?_
  refine r_aload_n (i := 0) rfl rfl rfl ?_
  refine r_gR (i := 1) (ci := 5) (kf := 0) rfl (Nat.le_of_ble_eq_true rfl) wF_Spread_20 rfl rfl fun x1 => ?_
  refine r_VV0 (i := 2) (k2 := 0) (n2 := 0) ok_Walk_hour wM_Spread_56 (c_Walk_hour F) (fun _ e => fw_ckb e) (Nat.le_of_ble_eq_true rfl) (Nat.le_of_ble_eq_true rfl) (Nat.le_of_ble_eq_true rfl) (Nat.le_of_ble_eq_true rfl) rfl rfl fun h4 => ?_
  refine r_aload_n (i := 3) rfl rfl rfl ?_
  refine r_gR (i := 4) (ci := 5) (kf := 0) rfl (Nat.le_of_ble_eq_true rfl) wF_Spread_20 rfl rfl fun x8 => ?_
  refine r_VI0 (i := 5) (k2 := 0) (n2 := 0) ok_Walk_placeNow wM_Spread_34 (c_Walk_placeNow) (fun _ e => fw_ckb e) (Nat.le_of_ble_eq_true rfl) (Nat.le_of_ble_eq_true rfl) (Nat.le_of_ble_eq_true rfl) (Nat.le_of_ble_eq_true rfl) rfl rfl fun x11 => ?_
  refine r_istore_n (i := 6) rfl rfl (Nat.le_of_ble_eq_true rfl) rfl ?_
  refine r_aload_n (i := 7) rfl rfl rfl ?_
  refine r_gR (i := 8) (ci := 5) (kf := 2) rfl (Nat.le_of_ble_eq_true rfl) wF_Spread_17 rfl rfl fun x16 => ?_
  refine r_iload_n (i := 9) rfl rfl rfl ?_
  refine r_aload_n (i := 10) rfl rfl rfl ?_
  refine r_gR (i := 11) (ci := 5) (kf := 2) rfl (Nat.le_of_ble_eq_true rfl) wF_Spread_17 rfl rfl fun x21 => ?_
  refine r_iload_n (i := 12) rfl rfl rfl ?_
  refine r_SJ2 (i := 13) (k2 := 0) (n2 := 0) ok_Spread_get wM_Spread_46 (c_Spread_get) (Nat.le_of_ble_eq_true rfl) (Nat.le_of_ble_eq_true rfl) (Nat.le_of_ble_eq_true rfl) (Nat.le_of_ble_eq_true rfl) rfl rfl fun x25 => ?_
  refine r_lload_n (i := 14) rfl rfl rfl ?_
  refine r_minJ (i := 15) (Nat.le_of_ble_eq_true rfl) (Nat.le_of_ble_eq_true rfl) wM_Spread_76 rfl rfl ?_
  refine r_SV3 (i := 16) (k2 := 0) (n2 := 0) ok_Spread_put wM_Spread_38 (c_Spread_put) (Nat.le_of_ble_eq_true rfl) (Nat.le_of_ble_eq_true rfl) (Nat.le_of_ble_eq_true rfl) (Nat.le_of_ble_eq_true rfl) rfl rfl fun h32 => ?_
  exact r_retV (i := 17) rfl rfl rfl rfl
-- Vil_threeOn
def s_Vil_threeOn (h : fw_H) (v0 : Option Nat) (v1 : Int32) : Option Int32 :=
(f_ck h v0 7).bind fun _ =>
(f_gI h v0 7 0).bind fun x1 =>
if x1 ≤ (0 : Int32) then (some v1) else
(f_gI h v0 7 0).bind fun x11 =>
(f_irem (v1 + (3 : Int32)) x11).bind fun x14 =>
some x14
theorem c_Vil_threeOn {G : fw_G} {h : fw_H} {v0 : Option Nat} {v1 : Int32} : fw_Call G m_Vil_threeOn (fw_eI h) 0 0 0 [fw_r v0, fw_i v1] h (s_Vil_threeOn h v0 v1) := by
  refine fw_Call.of ok_Vil_threeOn.1 (Nat.le_of_ble_eq_true rfl) [(0, some (fw_r v0)), (1, some (fw_i v1))] rfl ?_
  refine r_ck ?_
  refine r_aload_n (i := 0) rfl rfl rfl ?_
  refine r_gI (i := 1) (ci := 7) (kf := 0) rfl (Nat.le_of_ble_eq_true rfl) wF_Vil_31 rfl rfl fun x1 => ?_
  refine r_if_le (i := 2) (tgt := 18) rfl rfl rfl ?_ ?_
  · refine r_iload_n (i := 10) rfl rfl rfl ?_
    exact r_retI (i := 11) rfl rfl rfl rfl
  · refine r_iload_n (i := 3) rfl rfl rfl ?_
    refine r_iconst (i := 4) (3 : Int32) kc_iconst_3 rfl rfl ?_
    refine r_iadd (i := 5) rfl rfl ?_
    refine r_aload_n (i := 6) rfl rfl rfl ?_
    refine r_gI (i := 7) (ci := 7) (kf := 0) rfl (Nat.le_of_ble_eq_true rfl) wF_Vil_31 rfl rfl fun x11 => ?_
    refine r_iremN (i := 8) rfl rfl fun x14 => ?_
    refine r_goto (i := 9) (tgt := 19) rfl rfl rfl ?_
    exact r_retI (i := 11) rfl rfl rfl rfl
-- Spread_lieHour
def l_Spread_lieHour_20 (F : Nat) (v0 : Option Nat) (x4 : Int32) (K116 : fw_H → Option fw_H) : Nat → Int32 → fw_H → Option fw_H
  | 0, _, _ => none
  | nn + 1, a20_2, g20 =>
    if (156 : Int32) ≤ a20_2 then (K116 g20) else
    (f_gR g20 v0 5 1).bind fun x28 =>
    (s_Spread_get g20 x28 a20_2).bind fun x32 =>
    if (0 : Int32) ≤ (lg_cmp x32 (1000 : Int64)) then (l_Spread_lieHour_20 F v0 x4 K116 nn (a20_2 + (1 : Int32)) g20) else
    (s_Spread_walkFrom g20 v0 a20_2 x4).bind fun h47 =>
    (s_Spread_reach F h47 v0 x32).bind fun h52 =>
    (s_Spread_walkFrom h52 v0 a20_2 x4).bind fun h58 =>
    (f_gR h58 v0 5 0).bind fun x62 =>
    (f_gI h58 x62 9 2).bind fun x65 =>
    (f_gR h58 v0 5 0).bind fun x71 =>
    (f_gR h58 x71 9 0).bind fun x74 =>
    (s_Vil_threeOn h58 x74 x65).bind fun x79 =>
    if x79 = x65 then (l_Spread_lieHour_20 F v0 x4 K116 nn (a20_2 + (1 : Int32)) h58) else
    (f_gR h58 v0 5 0).bind fun x92 =>
    (s_Walk_standAt h58 x92 x79 x65 x4).bind fun h100 =>
    (s_Spread_reach F h100 v0 (x32 + (1 : Int64))).bind fun h107 =>
    l_Spread_lieHour_20 F v0 x4 K116 nn (a20_2 + (1 : Int32)) h107
theorem cl_Spread_lieHour_20 {G : fw_G} {F : Nat} {v0 : Option Nat} {x4 : Int32} {K116 : fw_H → Option fw_H} (hK116 : ∀ (he116 : fw_H), fw_R G m_Spread_lieHour fw_eV 5 0 0 116 [(0, some (fw_r v0)), (1, some (fw_i x4))] [] he116 (K116 he116)) : ∀ (nn : Nat) (a20_2 : Int32) (g20 : fw_H), fw_R G m_Spread_lieHour fw_eV 5 0 0 20 [(0, some (fw_r v0)), (1, some (fw_i x4)), (2, some (fw_i a20_2))] [] g20 (l_Spread_lieHour_20 F v0 x4 K116 nn a20_2 g20) := by
  intro nn
  induction nn with
  | zero => intros; exact r_none
  | succ nn ih =>
    intro a20_2 g20
    rw [l_Spread_lieHour_20]
    refine r_iload_n (i := 10) rfl rfl rfl ?_
    refine r_sipush (i := 11) (156 : Int32) kc_sipush_156 rfl rfl ?_
    refine r_icmp_ge (i := 12) (tgt := 116) rfl rfl rfl ?_ ?_
    · exact r_lv (fw_sub1 rfl (fw_sub1 rfl fw_sub0)) (hK116 g20)
    · refine r_aload_n (i := 13) rfl rfl rfl ?_
      refine r_gR (i := 14) (ci := 5) (kf := 1) rfl (Nat.le_of_ble_eq_true rfl) wF_Spread_11 rfl rfl fun x28 => ?_
      refine r_iload_n (i := 15) rfl rfl rfl ?_
      refine r_SJ2 (i := 16) (k2 := 0) (n2 := 0) ok_Spread_get wM_Spread_46 (c_Spread_get) (Nat.le_of_ble_eq_true rfl) (Nat.le_of_ble_eq_true rfl) (Nat.le_of_ble_eq_true rfl) (Nat.le_of_ble_eq_true rfl) rfl rfl fun x32 => ?_
      refine r_lstore_n (i := 17) rfl rfl (Nat.le_of_ble_eq_true rfl) rfl ?_
      refine r_lload_n (i := 18) rfl rfl rfl ?_
      refine r_ldc2 (i := 19) wL_Spread_82 rfl rfl ?_
      refine r_lcmp (i := 20) rfl rfl ?_
      refine r_if_ge (i := 21) (tgt := 110) rfl rfl rfl ?_ ?_
      · refine r_iinc (i := 57) (1 : Int32) kc_iconst_1 rfl rfl rfl (Nat.le_of_ble_eq_true rfl) ?_
        refine r_goto (i := 58) (tgt := 20) rfl rfl rfl ?_
        exact r_lv (fw_sub1 rfl (fw_sub1 rfl (fw_sub1 rfl fw_sub0))) (ih (a20_2 + (1 : Int32)) g20)
      · refine r_aload_n (i := 22) rfl rfl rfl ?_
        refine r_iload_n (i := 23) rfl rfl rfl ?_
        refine r_iload_n (i := 24) rfl rfl rfl ?_
        refine r_VV2 (i := 25) (k2 := 0) (n2 := 0) ok_Spread_walkFrom wM_Spread_52 (c_Spread_walkFrom) (fun _ e => fw_ckb e) (Nat.le_of_ble_eq_true rfl) (Nat.le_of_ble_eq_true rfl) (Nat.le_of_ble_eq_true rfl) (Nat.le_of_ble_eq_true rfl) rfl rfl fun h47 => ?_
        refine r_aload_n (i := 26) rfl rfl rfl ?_
        refine r_lload_n (i := 27) rfl rfl rfl ?_
        refine r_VV1 (i := 28) (k2 := 0) (n2 := 0) ok_Spread_reach wM_Spread_84 (c_Spread_reach F) (fun _ e => fw_ckb e) (Nat.le_of_ble_eq_true rfl) (Nat.le_of_ble_eq_true rfl) (Nat.le_of_ble_eq_true rfl) (Nat.le_of_ble_eq_true rfl) rfl rfl fun h52 => ?_
        refine r_aload_n (i := 29) rfl rfl rfl ?_
        refine r_iload_n (i := 30) rfl rfl rfl ?_
        refine r_iload_n (i := 31) rfl rfl rfl ?_
        refine r_VV2 (i := 32) (k2 := 0) (n2 := 0) ok_Spread_walkFrom wM_Spread_52 (c_Spread_walkFrom) (fun _ e => fw_ckb e) (Nat.le_of_ble_eq_true rfl) (Nat.le_of_ble_eq_true rfl) (Nat.le_of_ble_eq_true rfl) (Nat.le_of_ble_eq_true rfl) rfl rfl fun h58 => ?_
        refine r_aload_n (i := 33) rfl rfl rfl ?_
        refine r_gR (i := 34) (ci := 5) (kf := 0) rfl (Nat.le_of_ble_eq_true rfl) wF_Spread_20 rfl rfl fun x62 => ?_
        refine r_gI (i := 35) (ci := 9) (kf := 2) rfl (Nat.le_of_ble_eq_true rfl) wF_Spread_88 rfl rfl fun x65 => ?_
        refine r_istore (i := 36) rfl rfl (Nat.le_of_ble_eq_true rfl) rfl ?_
        refine r_aload_n (i := 37) rfl rfl rfl ?_
        refine r_gR (i := 38) (ci := 5) (kf := 0) rfl (Nat.le_of_ble_eq_true rfl) wF_Spread_20 rfl rfl fun x71 => ?_
        refine r_gR (i := 39) (ci := 9) (kf := 0) rfl (Nat.le_of_ble_eq_true rfl) wF_Spread_91 rfl rfl fun x74 => ?_
        refine r_iload (i := 40) rfl rfl rfl ?_
        refine r_VI1 (i := 41) (k2 := 0) (n2 := 0) ok_Vil_threeOn wM_Spread_95 (c_Vil_threeOn) (fun _ e => fw_ckb e) (Nat.le_of_ble_eq_true rfl) (Nat.le_of_ble_eq_true rfl) (Nat.le_of_ble_eq_true rfl) (Nat.le_of_ble_eq_true rfl) rfl rfl fun x79 => ?_
        refine r_istore (i := 42) rfl rfl (Nat.le_of_ble_eq_true rfl) rfl ?_
        refine r_iload (i := 43) rfl rfl rfl ?_
        refine r_iload (i := 44) rfl rfl rfl ?_
        refine r_icmp_eq (i := 45) (tgt := 110) rfl rfl rfl ?_ ?_
        · refine r_iinc (i := 57) (1 : Int32) kc_iconst_1 rfl rfl rfl (Nat.le_of_ble_eq_true rfl) ?_
          refine r_goto (i := 58) (tgt := 20) rfl rfl rfl ?_
          exact r_lv (fw_sub1 rfl (fw_sub1 rfl (fw_sub1 rfl fw_sub0))) (ih (a20_2 + (1 : Int32)) h58)
        · refine r_aload_n (i := 46) rfl rfl rfl ?_
          refine r_gR (i := 47) (ci := 5) (kf := 0) rfl (Nat.le_of_ble_eq_true rfl) wF_Spread_20 rfl rfl fun x92 => ?_
          refine r_iload (i := 48) rfl rfl rfl ?_
          refine r_iload (i := 49) rfl rfl rfl ?_
          refine r_iload_n (i := 50) rfl rfl rfl ?_
          refine r_VV3 (i := 51) (k2 := 0) (n2 := 0) ok_Walk_standAt wM_Spread_24 (c_Walk_standAt) (fun _ e => fw_ckb e) (Nat.le_of_ble_eq_true rfl) (Nat.le_of_ble_eq_true rfl) (Nat.le_of_ble_eq_true rfl) (Nat.le_of_ble_eq_true rfl) rfl rfl fun h100 => ?_
          refine r_aload_n (i := 52) rfl rfl rfl ?_
          refine r_lload_n (i := 53) rfl rfl rfl ?_
          refine r_lconst (i := 54) (1 : Int64) rfl rfl rfl ?_
          refine r_ladd (i := 55) rfl rfl ?_
          refine r_VV1 (i := 56) (k2 := 0) (n2 := 0) ok_Spread_reach wM_Spread_84 (c_Spread_reach F) (fun _ e => fw_ckb e) (Nat.le_of_ble_eq_true rfl) (Nat.le_of_ble_eq_true rfl) (Nat.le_of_ble_eq_true rfl) (Nat.le_of_ble_eq_true rfl) rfl rfl fun h107 => ?_
          refine r_iinc (i := 57) (1 : Int32) kc_iconst_1 rfl rfl rfl (Nat.le_of_ble_eq_true rfl) ?_
          refine r_goto (i := 58) (tgt := 20) rfl rfl rfl ?_
          exact r_lv (fw_sub1 rfl (fw_sub1 rfl (fw_sub1 rfl fw_sub0))) (ih (a20_2 + (1 : Int32)) h107)
def s_Spread_lieHour (F : Nat) (h : fw_H) (v0 : Option Nat) : Option fw_H :=
(f_ck h v0 5).bind fun _ =>
(f_gR h v0 5 0).bind fun x1 =>
(f_gI h x1 9 4).bind fun x4 =>
(f_gR h v0 5 2).bind fun x9 =>
(s_Jdk_fillJ F h x9 (1000 : Int64)).bind fun h15 =>
l_Spread_lieHour_20 F v0 x4 (fun he116 =>
(f_gR he116 v0 5 0).bind fun x117 =>
(f_irem (x4 + (1 : Int32)) (24 : Int32)).bind fun x125 =>
(f_pI he116 x117 9 4 x125).bind fun h126 =>
(s_Spread_turnOver h126 v0).bind fun h130 =>
some h130) F (0 : Int32) h15
theorem c_Spread_lieHour {G : fw_G} (F : Nat) {h : fw_H} {v0 : Option Nat} : fw_Call G m_Spread_lieHour fw_eV 5 0 0 [fw_r v0] h (s_Spread_lieHour F h v0) := by
  refine fw_Call.of ok_Spread_lieHour.1 (Nat.le_of_ble_eq_true rfl) [(0, some (fw_r v0))] rfl ?_
  refine r_ck ?_
  refine r_aload_n (i := 0) rfl rfl rfl ?_
  refine r_gR (i := 1) (ci := 5) (kf := 0) rfl (Nat.le_of_ble_eq_true rfl) wF_Spread_20 rfl rfl fun x1 => ?_
  refine r_gI (i := 2) (ci := 9) (kf := 4) rfl (Nat.le_of_ble_eq_true rfl) wF_Spread_42 rfl rfl fun x4 => ?_
  refine r_istore_n (i := 3) rfl rfl (Nat.le_of_ble_eq_true rfl) rfl ?_
  refine r_aload_n (i := 4) rfl rfl rfl ?_
  refine r_gR (i := 5) (ci := 5) (kf := 2) rfl (Nat.le_of_ble_eq_true rfl) wF_Spread_17 rfl rfl fun x9 => ?_
  refine r_ldc2 (i := 6) wL_Spread_82 rfl rfl ?_
  refine r_SV2 (i := 7) (k2 := 0) (n2 := 0) ok_Jdk_fillJ wM_Spread_28 (c_Jdk_fillJ F) (Nat.le_of_ble_eq_true rfl) (Nat.le_of_ble_eq_true rfl) (Nat.le_of_ble_eq_true rfl) (Nat.le_of_ble_eq_true rfl) rfl rfl fun h15 => ?_
  refine r_iconst (i := 8) (0 : Int32) kc_iconst_0 rfl rfl ?_
  refine r_istore_n (i := 9) rfl rfl (Nat.le_of_ble_eq_true rfl) rfl ?_
  refine r_lv (fw_sub1 rfl (fw_sub1 rfl (fw_sub1 rfl fw_sub0))) (cl_Spread_lieHour_20 ?_ F _ _)
  · intro he116
    refine r_aload_n (i := 59) rfl rfl rfl ?_
    refine r_gR (i := 60) (ci := 5) (kf := 0) rfl (Nat.le_of_ble_eq_true rfl) wF_Spread_20 rfl rfl fun x117 => ?_
    refine r_iload_n (i := 61) rfl rfl rfl ?_
    refine r_iconst (i := 62) (1 : Int32) kc_iconst_1 rfl rfl ?_
    refine r_iadd (i := 63) rfl rfl ?_
    refine r_bipush (i := 64) (24 : Int32) kc_bipush_24 rfl rfl ?_
    refine r_iremN (i := 65) rfl rfl fun x125 => ?_
    refine r_pI (i := 66) (ci := 9) (kf := 4) rfl (Nat.le_of_ble_eq_true rfl) wF_Spread_42 rfl (tyX9_ok 4 (Nat.le_of_ble_eq_true rfl)) rfl rfl fun h126 => ?_
    refine r_aload_n (i := 67) rfl rfl rfl ?_
    refine r_VV0 (i := 68) (k2 := 0) (n2 := 0) ok_Spread_turnOver wM_Spread_59 (c_Spread_turnOver) (fun _ e => fw_ckb e) (Nat.le_of_ble_eq_true rfl) (Nat.le_of_ble_eq_true rfl) (Nat.le_of_ble_eq_true rfl) (Nat.le_of_ble_eq_true rfl) rfl rfl fun h130 => ?_
    exact r_retV (i := 69) rfl rfl rfl rfl
-- Spread_fewestLies
def l_Spread_fewestLies_10 (F : Nat) (v0 : Option Nat) (v2 : Int32) (K25 : fw_H → Option (Int32 × fw_H)) : Nat → Int32 → fw_H → Option (Int32 × fw_H)
  | 0, _, _ => none
  | nn + 1, a10_3, g10 =>
    if v2 ≤ a10_3 then (K25 g10) else
    (s_Spread_lieHour F g10 v0).bind fun h16 =>
    l_Spread_fewestLies_10 F v0 v2 K25 nn (a10_3 + (1 : Int32)) h16
theorem cl_Spread_fewestLies_10 {G : fw_G} {F : Nat} {v0 : Option Nat} {v1 : Int32} {v2 : Int32} {K25 : fw_H → Option (Int32 × fw_H)} (hK25 : ∀ (he25 : fw_H), fw_R G m_Spread_fewestLies fw_wI 6 0 0 25 [(0, some (fw_r v0)), (1, some (fw_i v1))] [] he25 (K25 he25)) : ∀ (nn : Nat) (a10_3 : Int32) (g10 : fw_H), fw_R G m_Spread_fewestLies fw_wI 6 0 0 10 [(0, some (fw_r v0)), (1, some (fw_i v1)), (2, some (fw_i v2)), (3, some (fw_i a10_3))] [] g10 (l_Spread_fewestLies_10 F v0 v2 K25 nn a10_3 g10) := by
  intro nn
  induction nn with
  | zero => intros; exact r_none
  | succ nn ih =>
    intro a10_3 g10
    rw [l_Spread_fewestLies_10]
    refine r_iload_n (i := 6) rfl rfl rfl ?_
    refine r_iload_n (i := 7) rfl rfl rfl ?_
    refine r_icmp_ge (i := 8) (tgt := 25) rfl rfl rfl ?_ ?_
    · exact r_lv (fw_sub1 rfl (fw_sub1 rfl fw_sub0)) (hK25 g10)
    · refine r_aload_n (i := 9) rfl rfl rfl ?_
      refine r_VV0 (i := 10) (k2 := 0) (n2 := 0) ok_Spread_lieHour wM_Spread_101 (c_Spread_lieHour F) (fun _ e => fw_ckb e) (Nat.le_of_ble_eq_true rfl) (Nat.le_of_ble_eq_true rfl) (Nat.le_of_ble_eq_true rfl) (Nat.le_of_ble_eq_true rfl) rfl rfl fun h16 => ?_
      refine r_iinc (i := 11) (1 : Int32) kc_iconst_1 rfl rfl rfl (Nat.le_of_ble_eq_true rfl) ?_
      refine r_goto (i := 12) (tgt := 10) rfl rfl rfl ?_
      exact r_lv (fw_sub1 rfl (fw_sub1 rfl (fw_sub1 rfl (fw_sub1 rfl fw_sub0)))) (ih (a10_3 + (1 : Int32)) h16)
def l_Spread_fewestLies_32 (v0 : Option Nat) (v1 : Int32) (he25 : fw_H) (K64 : Int64 → Option (Int32 × fw_H)) : Nat → Int64 → Int32 → Option (Int32 × fw_H)
  | 0, _, _ => none
  | nn + 1, a32_3, a32_5 =>
    if (12 : Int32) < a32_5 then (K64 a32_3) else
    (f_gR he25 v0 5 1).bind fun x41 =>
    (s_Spread_get he25 x41 ((v1 * (13 : Int32)) + a32_5)).bind fun x51 =>
    l_Spread_fewestLies_32 v0 v1 he25 K64 nn (fw_minJ a32_3 x51) (a32_5 + (1 : Int32))
theorem cl_Spread_fewestLies_32 {G : fw_G} {v0 : Option Nat} {v1 : Int32} {he25 : fw_H} {K64 : Int64 → Option (Int32 × fw_H)} (hK64 : ∀ (e64_3 : Int64), fw_R G m_Spread_fewestLies fw_wI 6 0 0 64 [(3, some (fw_j e64_3))] [] he25 (K64 e64_3)) : ∀ (nn : Nat) (a32_3 : Int64) (a32_5 : Int32), fw_R G m_Spread_fewestLies fw_wI 6 0 0 32 [(0, some (fw_r v0)), (1, some (fw_i v1)), (3, some (fw_j a32_3)), (5, some (fw_i a32_5))] [] he25 (l_Spread_fewestLies_32 v0 v1 he25 K64 nn a32_3 a32_5) := by
  intro nn
  induction nn with
  | zero => intros; exact r_none
  | succ nn ih =>
    intro a32_3 a32_5
    rw [l_Spread_fewestLies_32]
    refine r_iload (i := 17) rfl rfl rfl ?_
    refine r_bipush (i := 18) (12 : Int32) kc_bipush_12 rfl rfl ?_
    refine r_icmp_gt (i := 19) (tgt := 64) rfl rfl rfl ?_ ?_
    · exact r_lv (fw_sub1 rfl fw_sub0) (hK64 a32_3)
    · refine r_lload_n (i := 20) rfl rfl rfl ?_
      refine r_aload_n (i := 21) rfl rfl rfl ?_
      refine r_gR (i := 22) (ci := 5) (kf := 1) rfl (Nat.le_of_ble_eq_true rfl) wF_Spread_11 rfl rfl fun x41 => ?_
      refine r_iload_n (i := 23) rfl rfl rfl ?_
      refine r_bipush (i := 24) (13 : Int32) kc_bipush_13 rfl rfl ?_
      refine r_imul (i := 25) rfl rfl ?_
      refine r_iload (i := 26) rfl rfl rfl ?_
      refine r_iadd (i := 27) rfl rfl ?_
      refine r_SJ2 (i := 28) (k2 := 0) (n2 := 0) ok_Spread_get wM_Spread_46 (c_Spread_get) (Nat.le_of_ble_eq_true rfl) (Nat.le_of_ble_eq_true rfl) (Nat.le_of_ble_eq_true rfl) (Nat.le_of_ble_eq_true rfl) rfl rfl fun x51 => ?_
      refine r_minJ (i := 29) (Nat.le_of_ble_eq_true rfl) (Nat.le_of_ble_eq_true rfl) wM_Spread_76 rfl rfl ?_
      refine r_lstore_n (i := 30) rfl rfl (Nat.le_of_ble_eq_true rfl) rfl ?_
      refine r_iinc (i := 31) (1 : Int32) kc_iconst_1 rfl rfl rfl (Nat.le_of_ble_eq_true rfl) ?_
      refine r_goto (i := 32) (tgt := 32) rfl rfl rfl ?_
      exact r_lv (fw_sub1 rfl (fw_sub1 rfl (fw_sub1 rfl (fw_sub1 rfl fw_sub0)))) (ih (fw_minJ a32_3 x51) (a32_5 + (1 : Int32)))
def s_Spread_fewestLies (F : Nat) (h : fw_H) (v0 : Option Nat) (v1 : Int32) (v2 : Int32) : Option (Int32 × fw_H) :=
(f_ck h v0 5).bind fun _ =>
(s_Spread_begin F h v0 (1000 : Int64) (0 : Int64)).bind fun h5 =>
l_Spread_fewestLies_10 F v0 v2 (fun he25 =>
l_Spread_fewestLies_32 v0 v1 he25 (fun e64_3 =>
if (0 : Int32) ≤ (lg_cmp e64_3 (1000 : Int64)) then (some ((-1 : Int32), he25)) else
some ((Int64.toInt32 e64_3), he25)) F (1000 : Int64) (0 : Int32)) F (0 : Int32) h5
theorem c_Spread_fewestLies {G : fw_G} (F : Nat) {h : fw_H} {v0 : Option Nat} {v1 : Int32} {v2 : Int32} : fw_Call G m_Spread_fewestLies fw_wI 6 0 0 [fw_r v0, fw_i v1, fw_i v2] h (s_Spread_fewestLies F h v0 v1 v2) := by
  refine fw_Call.of ok_Spread_fewestLies.1 (Nat.le_of_ble_eq_true rfl) [(0, some (fw_r v0)), (1, some (fw_i v1)), (2, some (fw_i v2))] rfl ?_
  refine r_ck ?_
  refine r_aload_n (i := 0) rfl rfl rfl ?_
  refine r_ldc2 (i := 1) wL_Spread_82 rfl rfl ?_
  refine r_lconst (i := 2) (0 : Int64) rfl rfl rfl ?_
  refine r_VV2 (i := 3) (k2 := 0) (n2 := 0) ok_Spread_begin wM_Spread_64 (c_Spread_begin F) (fun _ e => fw_ckb e) (Nat.le_of_ble_eq_true rfl) (Nat.le_of_ble_eq_true rfl) (Nat.le_of_ble_eq_true rfl) (Nat.le_of_ble_eq_true rfl) rfl rfl fun h5 => ?_
  refine r_iconst (i := 4) (0 : Int32) kc_iconst_0 rfl rfl ?_
  refine r_istore_n (i := 5) rfl rfl (Nat.le_of_ble_eq_true rfl) rfl ?_
  refine r_lv (fw_sub1 rfl (fw_sub1 rfl (fw_sub1 rfl (fw_sub1 rfl fw_sub0)))) (cl_Spread_fewestLies_10 ?_ F _ _)
  · intro he25
    refine r_ldc2 (i := 13) wL_Spread_82 rfl rfl ?_
    refine r_lstore_n (i := 14) rfl rfl (Nat.le_of_ble_eq_true rfl) rfl ?_
    refine r_iconst (i := 15) (0 : Int32) kc_iconst_0 rfl rfl ?_
    refine r_istore (i := 16) rfl rfl (Nat.le_of_ble_eq_true rfl) rfl ?_
    refine r_lv (fw_sub1 rfl (fw_sub1 rfl (fw_sub1 rfl (fw_sub1 rfl fw_sub0)))) (cl_Spread_fewestLies_32 ?_ F _ _)
    · intro e64_3
      refine r_lload_n (i := 33) rfl rfl rfl ?_
      refine r_ldc2 (i := 34) wL_Spread_82 rfl rfl ?_
      refine r_lcmp (i := 35) rfl rfl ?_
      refine r_if_ge (i := 36) (tgt := 77) rfl rfl rfl ?_ ?_
      · refine r_iconst (i := 40) (-1 : Int32) kc_iconst_m1 rfl rfl ?_
        exact r_retI (i := 41) rfl rfl rfl rfl
      · refine r_lload_n (i := 37) rfl rfl rfl ?_
        refine r_l2i (i := 38) rfl rfl ?_
        refine r_goto (i := 39) (tgt := 78) rfl rfl rfl ?_
        exact r_retI (i := 41) rfl rfl rfl rfl
-- Tape_init
def s_Tape_init (h : fw_H) (v0 : Option Nat) : Option fw_H :=
fw_new h (fw_I 240 (fun _ => 0)) fun q8 h8 =>
(f_pR h8 v0 6 0 q8).bind fun h10 =>
(f_pI h10 v0 6 3 (-1 : Int32)).bind fun h15 =>
some h15
theorem c_Tape_init {G : fw_G} {h : fw_H} {v0 : Option Nat} (hv0 : v0.isSome = true) : fw_Call G m_Tape_init fw_eV 1 1 240 [fw_r v0] h (s_Tape_init h v0) := by
  refine fw_Call.of ok_Tape_init.1 (Nat.le_of_ble_eq_true rfl) [(0, some (fw_r v0))] rfl ?_
  refine r_aload_n (i := 0) rfl rfl rfl ?_
  refine r_obji (i := 1) hv0 (Nat.le_of_ble_eq_true rfl) (Nat.le_of_ble_eq_true rfl) wM_Tape_3 wO_1 wO_2 rfl rfl ?_
  refine r_aload_n (i := 2) rfl rfl rfl ?_
  refine r_sipush (i := 3) (240 : Int32) kc_sipush_240 rfl rfl ?_
  refine r_newIN (i := 4) (k2 := 0) (n2 := 0) (N := 240) (by decide) (by decide) (Nat.le_of_ble_eq_true rfl) (Nat.le_of_ble_eq_true rfl) (Nat.le_of_ble_eq_true rfl) wA_int rfl rfl fun q8 h8 => ?_
  refine r_pRF (i := 5) (ci := 6) (kf := 0) rfl (Nat.le_of_ble_eq_true rfl) wF_Tape_9 rfl rfl rfl ⟨_, (tyX6_ok 0 (Nat.le_of_ble_eq_true rfl)), Or.inr ⟨_, rfl⟩⟩ rfl rfl fun h10 => ?_
  refine r_aload_n (i := 6) rfl rfl rfl ?_
  refine r_iconst (i := 7) (-1 : Int32) kc_iconst_m1 rfl rfl ?_
  refine r_pI (i := 8) (ci := 6) (kf := 3) rfl (Nat.le_of_ble_eq_true rfl) wF_Tape_15 rfl (tyX6_ok 3 (Nat.le_of_ble_eq_true rfl)) rfl rfl fun h15 => ?_
  exact r_retV (i := 9) rfl rfl rfl rfl
-- Tape_signsOf
def l_Tape_signsOf_5 (v0 : Int32) : Nat → Int32 → Int32 → Option Int32
  | 0, _, _ => none
  | nn + 1, a5_1, a5_2 =>
    if a5_2 < (0 : Int32) then (some a5_1) else
    if ((fw_iushr v0 a5_2) &&& (255 : Int32)) = (0 : Int32) then (l_Tape_signsOf_5 v0 nn a5_1 (a5_2 + (-8 : Int32))) else
    l_Tape_signsOf_5 v0 nn (a5_1 + (1 : Int32)) (a5_2 + (-8 : Int32))
theorem cl_Tape_signsOf_5 {G : fw_G} {h : fw_H} {v0 : Int32} : ∀ (nn : Nat) (a5_1 : Int32) (a5_2 : Int32), fw_R G m_Tape_signsOf (fw_eI h) 0 0 0 5 [(0, some (fw_i v0)), (1, some (fw_i a5_1)), (2, some (fw_i a5_2))] [] h (l_Tape_signsOf_5 v0 nn a5_1 a5_2) := by
  intro nn
  induction nn with
  | zero => intros; exact r_none
  | succ nn ih =>
    intro a5_1 a5_2
    rw [l_Tape_signsOf_5]
    refine r_iload_n (i := 4) rfl rfl rfl ?_
    refine r_if_lt (i := 5) (tgt := 28) rfl rfl rfl ?_ ?_
    · refine r_iload_n (i := 15) rfl rfl rfl ?_
      exact r_retI (i := 16) rfl rfl rfl rfl
    · refine r_iload_n (i := 6) rfl rfl rfl ?_
      refine r_iload_n (i := 7) rfl rfl rfl ?_
      refine r_iushr (i := 8) rfl rfl ?_
      refine r_sipush (i := 9) (255 : Int32) kc_sipush_255 rfl rfl ?_
      refine r_iand (i := 10) rfl rfl ?_
      refine r_if_eq (i := 11) (tgt := 22) rfl rfl rfl ?_ ?_
      · refine r_iinc (i := 13) (-8 : Int32) kc_iconst_m8 rfl rfl rfl (Nat.le_of_ble_eq_true rfl) ?_
        refine r_goto (i := 14) (tgt := 5) rfl rfl rfl ?_
        exact r_lv (fw_sub1 rfl (fw_sub1 rfl (fw_sub1 rfl fw_sub0))) (ih a5_1 (a5_2 + (-8 : Int32)))
      · refine r_iinc (i := 12) (1 : Int32) kc_iconst_1 rfl rfl rfl (Nat.le_of_ble_eq_true rfl) ?_
        refine r_iinc (i := 13) (-8 : Int32) kc_iconst_m8 rfl rfl rfl (Nat.le_of_ble_eq_true rfl) ?_
        refine r_goto (i := 14) (tgt := 5) rfl rfl rfl ?_
        exact r_lv (fw_sub1 rfl (fw_sub1 rfl (fw_sub1 rfl fw_sub0))) (ih (a5_1 + (1 : Int32)) (a5_2 + (-8 : Int32)))
def s_Tape_signsOf (F : Nat) (v0 : Int32) : Option Int32 :=
l_Tape_signsOf_5 v0 F (0 : Int32) (24 : Int32)
theorem c_Tape_signsOf {G : fw_G} (F : Nat) {h : fw_H} {v0 : Int32} : fw_Call G m_Tape_signsOf (fw_eI h) 0 0 0 [fw_i v0] h (s_Tape_signsOf F v0) := by
  refine fw_Call.of ok_Tape_signsOf.1 (Nat.le_of_ble_eq_true rfl) [(0, some (fw_i v0))] rfl ?_
  refine r_iconst (i := 0) (0 : Int32) kc_iconst_0 rfl rfl ?_
  refine r_istore_n (i := 1) rfl rfl (Nat.le_of_ble_eq_true rfl) rfl ?_
  refine r_bipush (i := 2) (24 : Int32) kc_bipush_24 rfl rfl ?_
  refine r_istore_n (i := 3) rfl rfl (Nat.le_of_ble_eq_true rfl) rfl ?_
  refine r_lv (fw_sub1 rfl (fw_sub1 rfl (fw_sub1 rfl fw_sub0))) (cl_Tape_signsOf_5 F _ _)
-- Tape_size
def s_Tape_size (h : fw_H) (v0 : Option Nat) : Option Int32 :=
(f_ck h v0 6).bind fun _ =>
(f_gI h v0 6 1).bind fun x1 =>
some x1
theorem c_Tape_size {G : fw_G} {h : fw_H} {v0 : Option Nat} : fw_Call G m_Tape_size (fw_eI h) 0 0 0 [fw_r v0] h (s_Tape_size h v0) := by
  refine fw_Call.of ok_Tape_size.1 (Nat.le_of_ble_eq_true rfl) [(0, some (fw_r v0))] rfl ?_
  refine r_ck ?_
  refine r_aload_n (i := 0) rfl rfl rfl ?_
  refine r_gI (i := 1) (ci := 6) (kf := 1) rfl (Nat.le_of_ble_eq_true rfl) wF_Tape_19 rfl rfl fun x1 => ?_
  exact r_retI (i := 2) rfl rfl rfl rfl
-- Tape_add
def l_Tape_add_3 (v0 : Option Nat) (v1 : Int32) : Nat → Int32 → fw_H → Option fw_H
  | 0, _, _ => none
  | nn + 1, a3_2, g3 =>
    if a3_2 < (0 : Int32) then (some g3) else
    if ((fw_iushr v1 a3_2) &&& (255 : Int32)) = (0 : Int32) then (l_Tape_add_3 v0 v1 nn (a3_2 + (-8 : Int32)) g3) else
    (f_gI g3 v0 6 1).bind fun x20 =>
    (f_gR g3 v0 6 0).bind fun x24 =>
    (f_lnI g3 x24).bind fun x27 =>
    if x27 ≤ x20 then (l_Tape_add_3 v0 v1 nn (a3_2 + (-8 : Int32)) g3) else
    (f_gR g3 v0 6 0).bind fun x32 =>
    (f_gI g3 v0 6 1).bind fun x36 =>
    (s_Rows_put g3 x32 x36 ((fw_iushr v1 a3_2) &&& (255 : Int32))).bind fun h40 =>
    (f_gI h40 v0 6 1).bind fun x45 =>
    (f_pI h40 v0 6 1 (x45 + (1 : Int32))).bind fun h50 =>
    l_Tape_add_3 v0 v1 nn (a3_2 + (-8 : Int32)) h50
theorem cl_Tape_add_3 {G : fw_G} {v0 : Option Nat} {v1 : Int32} : ∀ (nn : Nat) (a3_2 : Int32) (g3 : fw_H), fw_R G m_Tape_add fw_eV 1 0 0 3 [(0, some (fw_r v0)), (1, some (fw_i v1)), (2, some (fw_i a3_2))] [] g3 (l_Tape_add_3 v0 v1 nn a3_2 g3) := by
  intro nn
  induction nn with
  | zero => intros; exact r_none
  | succ nn ih =>
    intro a3_2 g3
    rw [l_Tape_add_3]
    refine r_iload_n (i := 2) rfl rfl rfl ?_
    refine r_if_lt (i := 3) (tgt := 59) rfl rfl rfl ?_ ?_
    · exact r_retV (i := 32) rfl rfl rfl rfl
    · refine r_iload_n (i := 4) rfl rfl rfl ?_
      refine r_iload_n (i := 5) rfl rfl rfl ?_
      refine r_iushr (i := 6) rfl rfl ?_
      refine r_sipush (i := 7) (255 : Int32) kc_sipush_255 rfl rfl ?_
      refine r_iand (i := 8) rfl rfl ?_
      refine r_istore_n (i := 9) rfl rfl (Nat.le_of_ble_eq_true rfl) rfl ?_
      refine r_iload_n (i := 10) rfl rfl rfl ?_
      refine r_if_eq (i := 11) (tgt := 53) rfl rfl rfl ?_ ?_
      · refine r_iinc (i := 30) (-8 : Int32) kc_iconst_m8 rfl rfl rfl (Nat.le_of_ble_eq_true rfl) ?_
        refine r_goto (i := 31) (tgt := 3) rfl rfl rfl ?_
        exact r_lv (fw_sub1 rfl (fw_sub1 rfl (fw_sub1 rfl fw_sub0))) (ih (a3_2 + (-8 : Int32)) g3)
      · refine r_aload_n (i := 12) rfl rfl rfl ?_
        refine r_gI (i := 13) (ci := 6) (kf := 1) rfl (Nat.le_of_ble_eq_true rfl) wF_Tape_19 rfl rfl fun x20 => ?_
        refine r_aload_n (i := 14) rfl rfl rfl ?_
        refine r_gR (i := 15) (ci := 6) (kf := 0) rfl (Nat.le_of_ble_eq_true rfl) wF_Tape_9 rfl rfl fun x24 => ?_
        refine r_lnI (i := 16) rfl rfl fun x27 => ?_
        refine r_icmp_ge (i := 17) (tgt := 53) rfl rfl rfl ?_ ?_
        · refine r_iinc (i := 30) (-8 : Int32) kc_iconst_m8 rfl rfl rfl (Nat.le_of_ble_eq_true rfl) ?_
          refine r_goto (i := 31) (tgt := 3) rfl rfl rfl ?_
          exact r_lv (fw_sub1 rfl (fw_sub1 rfl (fw_sub1 rfl fw_sub0))) (ih (a3_2 + (-8 : Int32)) g3)
        · refine r_aload_n (i := 18) rfl rfl rfl ?_
          refine r_gR (i := 19) (ci := 6) (kf := 0) rfl (Nat.le_of_ble_eq_true rfl) wF_Tape_9 rfl rfl fun x32 => ?_
          refine r_aload_n (i := 20) rfl rfl rfl ?_
          refine r_gI (i := 21) (ci := 6) (kf := 1) rfl (Nat.le_of_ble_eq_true rfl) wF_Tape_19 rfl rfl fun x36 => ?_
          refine r_iload_n (i := 22) rfl rfl rfl ?_
          refine r_SV3 (i := 23) (k2 := 0) (n2 := 0) ok_Rows_put wM_Tape_22 (c_Rows_put) (Nat.le_of_ble_eq_true rfl) (Nat.le_of_ble_eq_true rfl) (Nat.le_of_ble_eq_true rfl) (Nat.le_of_ble_eq_true rfl) rfl rfl fun h40 => ?_
          refine r_aload_n (i := 24) rfl rfl rfl ?_
          refine r_dup_r (i := 25) rfl rfl ?_
          refine r_gI (i := 26) (ci := 6) (kf := 1) rfl (Nat.le_of_ble_eq_true rfl) wF_Tape_19 rfl rfl fun x45 => ?_
          refine r_iconst (i := 27) (1 : Int32) kc_iconst_1 rfl rfl ?_
          refine r_iadd (i := 28) rfl rfl ?_
          refine r_pI (i := 29) (ci := 6) (kf := 1) rfl (Nat.le_of_ble_eq_true rfl) wF_Tape_19 rfl (tyX6_ok 1 (Nat.le_of_ble_eq_true rfl)) rfl rfl fun h50 => ?_
          refine r_iinc (i := 30) (-8 : Int32) kc_iconst_m8 rfl rfl rfl (Nat.le_of_ble_eq_true rfl) ?_
          refine r_goto (i := 31) (tgt := 3) rfl rfl rfl ?_
          exact r_lv (fw_sub1 rfl (fw_sub1 rfl (fw_sub1 rfl fw_sub0))) (ih (a3_2 + (-8 : Int32)) h50)
def s_Tape_add (F : Nat) (h : fw_H) (v0 : Option Nat) (v1 : Int32) : Option fw_H :=
(f_ck h v0 6).bind fun _ =>
l_Tape_add_3 v0 v1 F (24 : Int32) h
theorem c_Tape_add {G : fw_G} (F : Nat) {h : fw_H} {v0 : Option Nat} {v1 : Int32} : fw_Call G m_Tape_add fw_eV 1 0 0 [fw_r v0, fw_i v1] h (s_Tape_add F h v0 v1) := by
  refine fw_Call.of ok_Tape_add.1 (Nat.le_of_ble_eq_true rfl) [(0, some (fw_r v0)), (1, some (fw_i v1))] rfl ?_
  refine r_ck ?_
  refine r_bipush (i := 0) (24 : Int32) kc_bipush_24 rfl rfl ?_
  refine r_istore_n (i := 1) rfl rfl (Nat.le_of_ble_eq_true rfl) rfl ?_
  refine r_lv (fw_sub1 rfl (fw_sub1 rfl (fw_sub1 rfl fw_sub0))) (cl_Tape_add_3 F _ _)
-- Tape_cut
def s_Tape_cut (h : fw_H) (v0 : Option Nat) (v1 : Int32) : Option (Bool × fw_H) :=
(f_ck h v0 6).bind fun _ =>
if v1 < (0 : Int32) then (some (false, h)) else
(f_gI h v0 6 1).bind fun x6 =>
if v1 ≤ x6 then ((f_pI h v0 6 1 v1).bind fun h16 =>
some (true, h16)) else
some (false, h)
theorem c_Tape_cut {G : fw_G} {h : fw_H} {v0 : Option Nat} {v1 : Int32} : fw_Call G m_Tape_cut fw_wB 0 0 0 [fw_r v0, fw_i v1] h (s_Tape_cut h v0 v1) := by
  refine fw_Call.of ok_Tape_cut.1 (Nat.le_of_ble_eq_true rfl) [(0, some (fw_r v0)), (1, some (fw_i v1))] rfl ?_
  refine r_ck ?_
  refine r_iload_n (i := 0) rfl rfl rfl ?_
  refine r_if_lt (i := 1) (tgt := 12) rfl rfl rfl ?_ ?_
  · refine r_iconst (i := 6) (0 : Int32) kc_iconst_0 rfl rfl ?_
    exact r_retB (x := false) (i := 7) rfl rfl rfl rfl
  · refine r_iload_n (i := 2) rfl rfl rfl ?_
    refine r_aload_n (i := 3) rfl rfl rfl ?_
    refine r_gI (i := 4) (ci := 6) (kf := 1) rfl (Nat.le_of_ble_eq_true rfl) wF_Tape_19 rfl rfl fun x6 => ?_
    refine r_icmp_le (i := 5) (tgt := 14) rfl rfl rfl ?_ ?_
    · refine r_aload_n (i := 8) rfl rfl rfl ?_
      refine r_iload_n (i := 9) rfl rfl rfl ?_
      refine r_pI (i := 10) (ci := 6) (kf := 1) rfl (Nat.le_of_ble_eq_true rfl) wF_Tape_19 rfl (tyX6_ok 1 (Nat.le_of_ble_eq_true rfl)) rfl rfl fun h16 => ?_
      refine r_iconst (i := 11) (1 : Int32) kc_iconst_1 rfl rfl ?_
      exact r_retB (x := true) (i := 12) rfl rfl rfl rfl
    · refine r_iconst (i := 6) (0 : Int32) kc_iconst_0 rfl rfl ?_
      exact r_retB (x := false) (i := 7) rfl rfl rfl rfl
-- Tape_failAtEnd
def s_Tape_failAtEnd (h : fw_H) (v0 : Option Nat) : Option fw_H :=
(f_ck h v0 6).bind fun _ =>
(f_gI h v0 6 1).bind fun x2 =>
(s_Tape_failAt h v0 x2).bind fun h5 =>
some h5
theorem c_Tape_failAtEnd {G : fw_G} {h : fw_H} {v0 : Option Nat} : fw_Call G m_Tape_failAtEnd fw_eV 1 0 0 [fw_r v0] h (s_Tape_failAtEnd h v0) := by
  refine fw_Call.of ok_Tape_failAtEnd.1 (Nat.le_of_ble_eq_true rfl) [(0, some (fw_r v0))] rfl ?_
  refine r_ck ?_
  refine r_aload_n (i := 0) rfl rfl rfl ?_
  refine r_aload_n (i := 1) rfl rfl rfl ?_
  refine r_gI (i := 2) (ci := 6) (kf := 1) rfl (Nat.le_of_ble_eq_true rfl) wF_Tape_19 rfl rfl fun x2 => ?_
  refine r_VV1 (i := 3) (k2 := 0) (n2 := 0) ok_Tape_failAt wM_Tape_31 (c_Tape_failAt) (fun _ e => fw_ckb e) (Nat.le_of_ble_eq_true rfl) (Nat.le_of_ble_eq_true rfl) (Nat.le_of_ble_eq_true rfl) (Nat.le_of_ble_eq_true rfl) rfl rfl fun h5 => ?_
  exact r_retV (i := 4) rfl rfl rfl rfl
-- Vil_init
def s_Vil_init (h : fw_H) (v0 : Option Nat) : Option fw_H :=
fw_new h (fw_I 60 (fun _ => 0)) fun q7 h7 =>
(f_pR h7 v0 7 2 q7).bind fun h9 =>
fw_new h9 (fw_I 12 (fun _ => 0)) fun q15 h15 =>
(f_pR h15 v0 7 3 q15).bind fun h17 =>
fw_new h17 (fw_I 32 (fun _ => 0)) fun q23 h23 =>
(f_pR h23 v0 7 4 q23).bind fun h25 =>
(f_pI h25 v0 7 10 (-1 : Int32)).bind fun h30 =>
(f_pI h30 v0 7 11 (-1 : Int32)).bind fun h35 =>
fw_new h35 (fw_I 100 (fun _ => 0)) fun q41 h41 =>
(f_pR h41 v0 7 13 q41).bind fun h43 =>
some h43
theorem c_Vil_init {G : fw_G} {h : fw_H} {v0 : Option Nat} (hv0 : v0.isSome = true) : fw_Call G m_Vil_init fw_eV 1 4 204 [fw_r v0] h (s_Vil_init h v0) := by
  refine fw_Call.of ok_Vil_init.1 (Nat.le_of_ble_eq_true rfl) [(0, some (fw_r v0))] rfl ?_
  refine r_aload_n (i := 0) rfl rfl rfl ?_
  refine r_obji (i := 1) hv0 (Nat.le_of_ble_eq_true rfl) (Nat.le_of_ble_eq_true rfl) wM_Vil_3 wO_1 wO_2 rfl rfl ?_
  refine r_aload_n (i := 2) rfl rfl rfl ?_
  refine r_bipush (i := 3) (60 : Int32) kc_bipush_60 rfl rfl ?_
  refine r_newIN (i := 4) (k2 := 3) (n2 := 144) (N := 60) (by decide) (by decide) (Nat.le_of_ble_eq_true rfl) (Nat.le_of_ble_eq_true rfl) (Nat.le_of_ble_eq_true rfl) wA_int rfl rfl fun q7 h7 => ?_
  refine r_pRF (i := 5) (ci := 7) (kf := 2) rfl (Nat.le_of_ble_eq_true rfl) wF_Vil_9 rfl rfl rfl ⟨_, (tyX7_ok 2 (Nat.le_of_ble_eq_true rfl)), Or.inr ⟨_, rfl⟩⟩ rfl rfl fun h9 => ?_
  refine r_aload_n (i := 6) rfl rfl rfl ?_
  refine r_bipush (i := 7) (12 : Int32) kc_bipush_12 rfl rfl ?_
  refine r_newIN (i := 8) (k2 := 2) (n2 := 132) (N := 12) (by decide) (by decide) (Nat.le_of_ble_eq_true rfl) (Nat.le_of_ble_eq_true rfl) (Nat.le_of_ble_eq_true rfl) wA_int rfl rfl fun q15 h15 => ?_
  refine r_pRF (i := 9) (ci := 7) (kf := 3) rfl (Nat.le_of_ble_eq_true rfl) wF_Vil_15 rfl rfl rfl ⟨_, (tyX7_ok 3 (Nat.le_of_ble_eq_true rfl)), Or.inr ⟨_, rfl⟩⟩ rfl rfl fun h17 => ?_
  refine r_aload_n (i := 10) rfl rfl rfl ?_
  refine r_bipush (i := 11) (32 : Int32) kc_bipush_32 rfl rfl ?_
  refine r_newIN (i := 12) (k2 := 1) (n2 := 100) (N := 32) (by decide) (by decide) (Nat.le_of_ble_eq_true rfl) (Nat.le_of_ble_eq_true rfl) (Nat.le_of_ble_eq_true rfl) wA_int rfl rfl fun q23 h23 => ?_
  refine r_pRF (i := 13) (ci := 7) (kf := 4) rfl (Nat.le_of_ble_eq_true rfl) wF_Vil_18 rfl rfl rfl ⟨_, (tyX7_ok 4 (Nat.le_of_ble_eq_true rfl)), Or.inr ⟨_, rfl⟩⟩ rfl rfl fun h25 => ?_
  refine r_aload_n (i := 14) rfl rfl rfl ?_
  refine r_iconst (i := 15) (-1 : Int32) kc_iconst_m1 rfl rfl ?_
  refine r_pI (i := 16) (ci := 7) (kf := 10) rfl (Nat.le_of_ble_eq_true rfl) wF_Vil_21 rfl (tyX7_ok 10 (Nat.le_of_ble_eq_true rfl)) rfl rfl fun h30 => ?_
  refine r_aload_n (i := 17) rfl rfl rfl ?_
  refine r_iconst (i := 18) (-1 : Int32) kc_iconst_m1 rfl rfl ?_
  refine r_pI (i := 19) (ci := 7) (kf := 11) rfl (Nat.le_of_ble_eq_true rfl) wF_Vil_25 rfl (tyX7_ok 11 (Nat.le_of_ble_eq_true rfl)) rfl rfl fun h35 => ?_
  refine r_aload_n (i := 20) rfl rfl rfl ?_
  refine r_bipush (i := 21) (100 : Int32) kc_bipush_100 rfl rfl ?_
  refine r_newIN (i := 22) (k2 := 0) (n2 := 0) (N := 100) (by decide) (by decide) (Nat.le_of_ble_eq_true rfl) (Nat.le_of_ble_eq_true rfl) (Nat.le_of_ble_eq_true rfl) wA_int rfl rfl fun q41 h41 => ?_
  refine r_pRF (i := 23) (ci := 7) (kf := 13) rfl (Nat.le_of_ble_eq_true rfl) wF_Vil_28 rfl rfl rfl ⟨_, (tyX7_ok 13 (Nat.le_of_ble_eq_true rfl)), Or.inr ⟨_, rfl⟩⟩ rfl rfl fun h43 => ?_
  exact r_retV (i := 24) rfl rfl rfl rfl
-- Vil_clear
def s_Vil_clear (F : Nat) (h : fw_H) (v0 : Option Nat) : Option fw_H :=
(f_ck h v0 7).bind fun _ =>
(f_pI h v0 7 0 (0 : Int32)).bind fun h2 =>
(f_pI h2 v0 7 1 (0 : Int32)).bind fun h7 =>
(f_gR h7 v0 7 3).bind fun x11 =>
(s_Jdk_fillI F h7 x11 (0 : Int32)).bind fun h15 =>
(f_pI h15 v0 7 5 (0 : Int32)).bind fun h20 =>
(f_pI h20 v0 7 6 (0 : Int32)).bind fun h25 =>
(f_pI h25 v0 7 7 (0 : Int32)).bind fun h30 =>
(f_pB h30 v0 7 8 false).bind fun h35 =>
(f_pB h35 v0 7 9 false).bind fun h40 =>
(f_pI h40 v0 7 10 (0 : Int32)).bind fun h45 =>
(f_pI h45 v0 7 11 (-1 : Int32)).bind fun h50 =>
(f_pI h50 v0 7 12 (0 : Int32)).bind fun h55 =>
(f_pI h55 v0 7 14 (0 : Int32)).bind fun h60 =>
some h60
theorem c_Vil_clear {G : fw_G} (F : Nat) {h : fw_H} {v0 : Option Nat} : fw_Call G m_Vil_clear fw_eV 1 0 0 [fw_r v0] h (s_Vil_clear F h v0) := by
  refine fw_Call.of ok_Vil_clear.1 (Nat.le_of_ble_eq_true rfl) [(0, some (fw_r v0))] rfl ?_
  refine r_ck ?_
  refine r_aload_n (i := 0) rfl rfl rfl ?_
  refine r_iconst (i := 1) (0 : Int32) kc_iconst_0 rfl rfl ?_
  refine r_pI (i := 2) (ci := 7) (kf := 0) rfl (Nat.le_of_ble_eq_true rfl) wF_Vil_31 rfl (tyX7_ok 0 (Nat.le_of_ble_eq_true rfl)) rfl rfl fun h2 => ?_
  refine r_aload_n (i := 3) rfl rfl rfl ?_
  refine r_iconst (i := 4) (0 : Int32) kc_iconst_0 rfl rfl ?_
  refine r_pI (i := 5) (ci := 7) (kf := 1) rfl (Nat.le_of_ble_eq_true rfl) wF_Vil_34 rfl (tyX7_ok 1 (Nat.le_of_ble_eq_true rfl)) rfl rfl fun h7 => ?_
  refine r_aload_n (i := 6) rfl rfl rfl ?_
  refine r_gR (i := 7) (ci := 7) (kf := 3) rfl (Nat.le_of_ble_eq_true rfl) wF_Vil_15 rfl rfl fun x11 => ?_
  refine r_iconst (i := 8) (0 : Int32) kc_iconst_0 rfl rfl ?_
  refine r_SV2 (i := 9) (k2 := 0) (n2 := 0) ok_Jdk_fillI wM_Vil_37 (c_Jdk_fillI F) (Nat.le_of_ble_eq_true rfl) (Nat.le_of_ble_eq_true rfl) (Nat.le_of_ble_eq_true rfl) (Nat.le_of_ble_eq_true rfl) rfl rfl fun h15 => ?_
  refine r_aload_n (i := 10) rfl rfl rfl ?_
  refine r_iconst (i := 11) (0 : Int32) kc_iconst_0 rfl rfl ?_
  refine r_pI (i := 12) (ci := 7) (kf := 5) rfl (Nat.le_of_ble_eq_true rfl) wF_Vil_43 rfl (tyX7_ok 5 (Nat.le_of_ble_eq_true rfl)) rfl rfl fun h20 => ?_
  refine r_aload_n (i := 13) rfl rfl rfl ?_
  refine r_iconst (i := 14) (0 : Int32) kc_iconst_0 rfl rfl ?_
  refine r_pI (i := 15) (ci := 7) (kf := 6) rfl (Nat.le_of_ble_eq_true rfl) wF_Vil_46 rfl (tyX7_ok 6 (Nat.le_of_ble_eq_true rfl)) rfl rfl fun h25 => ?_
  refine r_aload_n (i := 16) rfl rfl rfl ?_
  refine r_iconst (i := 17) (0 : Int32) kc_iconst_0 rfl rfl ?_
  refine r_pI (i := 18) (ci := 7) (kf := 7) rfl (Nat.le_of_ble_eq_true rfl) wF_Vil_49 rfl (tyX7_ok 7 (Nat.le_of_ble_eq_true rfl)) rfl rfl fun h30 => ?_
  refine r_aload_n (i := 19) rfl rfl rfl ?_
  refine r_iconst (i := 20) (0 : Int32) kc_iconst_0 rfl rfl ?_
  refine r_pB (y := false) (i := 21) (ci := 7) (kf := 8) rfl (Nat.le_of_ble_eq_true rfl) wF_Vil_52 rfl (tyX7_ok 8 (Nat.le_of_ble_eq_true rfl)) rfl rfl fun h35 => ?_
  refine r_aload_n (i := 22) rfl rfl rfl ?_
  refine r_iconst (i := 23) (0 : Int32) kc_iconst_0 rfl rfl ?_
  refine r_pB (y := false) (i := 24) (ci := 7) (kf := 9) rfl (Nat.le_of_ble_eq_true rfl) wF_Vil_56 rfl (tyX7_ok 9 (Nat.le_of_ble_eq_true rfl)) rfl rfl fun h40 => ?_
  refine r_aload_n (i := 25) rfl rfl rfl ?_
  refine r_iconst (i := 26) (0 : Int32) kc_iconst_0 rfl rfl ?_
  refine r_pI (i := 27) (ci := 7) (kf := 10) rfl (Nat.le_of_ble_eq_true rfl) wF_Vil_21 rfl (tyX7_ok 10 (Nat.le_of_ble_eq_true rfl)) rfl rfl fun h45 => ?_
  refine r_aload_n (i := 28) rfl rfl rfl ?_
  refine r_iconst (i := 29) (-1 : Int32) kc_iconst_m1 rfl rfl ?_
  refine r_pI (i := 30) (ci := 7) (kf := 11) rfl (Nat.le_of_ble_eq_true rfl) wF_Vil_25 rfl (tyX7_ok 11 (Nat.le_of_ble_eq_true rfl)) rfl rfl fun h50 => ?_
  refine r_aload_n (i := 31) rfl rfl rfl ?_
  refine r_iconst (i := 32) (0 : Int32) kc_iconst_0 rfl rfl ?_
  refine r_pI (i := 33) (ci := 7) (kf := 12) rfl (Nat.le_of_ble_eq_true rfl) wF_Vil_59 rfl (tyX7_ok 12 (Nat.le_of_ble_eq_true rfl)) rfl rfl fun h55 => ?_
  refine r_aload_n (i := 34) rfl rfl rfl ?_
  refine r_iconst (i := 35) (0 : Int32) kc_iconst_0 rfl rfl ?_
  refine r_pI (i := 36) (ci := 7) (kf := 14) rfl (Nat.le_of_ble_eq_true rfl) wF_Vil_62 rfl (tyX7_ok 14 (Nat.le_of_ble_eq_true rfl)) rfl rfl fun h60 => ?_
  exact r_retV (i := 37) rfl rfl rfl rfl
-- Vil_take
def s_Vil_take (F : Nat) (h : fw_H) (v0 : Option Nat) (v1 : Option Nat) : Option fw_H :=
(f_ck h v0 7).bind fun _ =>
(f_gI h v1 7 0).bind fun x2 =>
(f_pI h v0 7 0 x2).bind fun h5 =>
(f_gI h5 v1 7 1).bind fun x10 =>
(f_pI h5 v0 7 1 x10).bind fun h13 =>
(f_gR h13 v1 7 2).bind fun x17 =>
(f_gR h13 v0 7 2).bind fun x21 =>
(s_Rows_copy F h13 x17 x21).bind fun h24 =>
(f_gR h24 v1 7 3).bind fun x28 =>
(f_gR h24 v0 7 3).bind fun x32 =>
(s_Rows_copy F h24 x28 x32).bind fun h35 =>
(f_gR h35 v1 7 4).bind fun x39 =>
(f_gR h35 v0 7 4).bind fun x43 =>
(s_Rows_copy F h35 x39 x43).bind fun h46 =>
(f_gI h46 v1 7 5).bind fun x51 =>
(f_pI h46 v0 7 5 x51).bind fun h54 =>
(f_gI h54 v1 7 6).bind fun x59 =>
(f_pI h54 v0 7 6 x59).bind fun h62 =>
(f_gI h62 v1 7 7).bind fun x67 =>
(f_pI h62 v0 7 7 x67).bind fun h70 =>
(f_gB h70 v1 7 8).bind fun x75 =>
(f_pB h70 v0 7 8 x75).bind fun h78 =>
(f_gB h78 v1 7 9).bind fun x83 =>
(f_pB h78 v0 7 9 x83).bind fun h86 =>
(f_gI h86 v1 7 10).bind fun x91 =>
(f_pI h86 v0 7 10 x91).bind fun h94 =>
(f_gI h94 v1 7 11).bind fun x99 =>
(f_pI h94 v0 7 11 x99).bind fun h102 =>
(f_gI h102 v1 7 12).bind fun x107 =>
(f_pI h102 v0 7 12 x107).bind fun h110 =>
(f_gR h110 v1 7 13).bind fun x114 =>
(f_gR h110 v0 7 13).bind fun x118 =>
(s_Rows_copy F h110 x114 x118).bind fun h121 =>
(f_gI h121 v1 7 14).bind fun x126 =>
(f_pI h121 v0 7 14 x126).bind fun h129 =>
some h129
theorem c_Vil_take {G : fw_G} (F : Nat) {h : fw_H} {v0 : Option Nat} {v1 : Option Nat} : fw_Call G m_Vil_take fw_eV 1 0 0 [fw_r v0, fw_r v1] h (s_Vil_take F h v0 v1) := by
  refine fw_Call.of ok_Vil_take.1 (Nat.le_of_ble_eq_true rfl) [(0, some (fw_r v0)), (1, some (fw_r v1))] rfl ?_
  refine r_ck ?_
  refine r_aload_n (i := 0) rfl rfl rfl ?_
  refine r_aload_n (i := 1) rfl rfl rfl ?_
  refine r_gI (i := 2) (ci := 7) (kf := 0) rfl (Nat.le_of_ble_eq_true rfl) wF_Vil_31 rfl rfl fun x2 => ?_
  refine r_pI (i := 3) (ci := 7) (kf := 0) rfl (Nat.le_of_ble_eq_true rfl) wF_Vil_31 rfl (tyX7_ok 0 (Nat.le_of_ble_eq_true rfl)) rfl rfl fun h5 => ?_
  refine r_aload_n (i := 4) rfl rfl rfl ?_
  refine r_aload_n (i := 5) rfl rfl rfl ?_
  refine r_gI (i := 6) (ci := 7) (kf := 1) rfl (Nat.le_of_ble_eq_true rfl) wF_Vil_34 rfl rfl fun x10 => ?_
  refine r_pI (i := 7) (ci := 7) (kf := 1) rfl (Nat.le_of_ble_eq_true rfl) wF_Vil_34 rfl (tyX7_ok 1 (Nat.le_of_ble_eq_true rfl)) rfl rfl fun h13 => ?_
  refine r_aload_n (i := 8) rfl rfl rfl ?_
  refine r_gR (i := 9) (ci := 7) (kf := 2) rfl (Nat.le_of_ble_eq_true rfl) wF_Vil_9 rfl rfl fun x17 => ?_
  refine r_aload_n (i := 10) rfl rfl rfl ?_
  refine r_gR (i := 11) (ci := 7) (kf := 2) rfl (Nat.le_of_ble_eq_true rfl) wF_Vil_9 rfl rfl fun x21 => ?_
  refine r_SV2 (i := 12) (k2 := 0) (n2 := 0) ok_Rows_copy wM_Vil_65 (c_Rows_copy F) (Nat.le_of_ble_eq_true rfl) (Nat.le_of_ble_eq_true rfl) (Nat.le_of_ble_eq_true rfl) (Nat.le_of_ble_eq_true rfl) rfl rfl fun h24 => ?_
  refine r_aload_n (i := 13) rfl rfl rfl ?_
  refine r_gR (i := 14) (ci := 7) (kf := 3) rfl (Nat.le_of_ble_eq_true rfl) wF_Vil_15 rfl rfl fun x28 => ?_
  refine r_aload_n (i := 15) rfl rfl rfl ?_
  refine r_gR (i := 16) (ci := 7) (kf := 3) rfl (Nat.le_of_ble_eq_true rfl) wF_Vil_15 rfl rfl fun x32 => ?_
  refine r_SV2 (i := 17) (k2 := 0) (n2 := 0) ok_Rows_copy wM_Vil_65 (c_Rows_copy F) (Nat.le_of_ble_eq_true rfl) (Nat.le_of_ble_eq_true rfl) (Nat.le_of_ble_eq_true rfl) (Nat.le_of_ble_eq_true rfl) rfl rfl fun h35 => ?_
  refine r_aload_n (i := 18) rfl rfl rfl ?_
  refine r_gR (i := 19) (ci := 7) (kf := 4) rfl (Nat.le_of_ble_eq_true rfl) wF_Vil_18 rfl rfl fun x39 => ?_
  refine r_aload_n (i := 20) rfl rfl rfl ?_
  refine r_gR (i := 21) (ci := 7) (kf := 4) rfl (Nat.le_of_ble_eq_true rfl) wF_Vil_18 rfl rfl fun x43 => ?_
  refine r_SV2 (i := 22) (k2 := 0) (n2 := 0) ok_Rows_copy wM_Vil_65 (c_Rows_copy F) (Nat.le_of_ble_eq_true rfl) (Nat.le_of_ble_eq_true rfl) (Nat.le_of_ble_eq_true rfl) (Nat.le_of_ble_eq_true rfl) rfl rfl fun h46 => ?_
  refine r_aload_n (i := 23) rfl rfl rfl ?_
  refine r_aload_n (i := 24) rfl rfl rfl ?_
  refine r_gI (i := 25) (ci := 7) (kf := 5) rfl (Nat.le_of_ble_eq_true rfl) wF_Vil_43 rfl rfl fun x51 => ?_
  refine r_pI (i := 26) (ci := 7) (kf := 5) rfl (Nat.le_of_ble_eq_true rfl) wF_Vil_43 rfl (tyX7_ok 5 (Nat.le_of_ble_eq_true rfl)) rfl rfl fun h54 => ?_
  refine r_aload_n (i := 27) rfl rfl rfl ?_
  refine r_aload_n (i := 28) rfl rfl rfl ?_
  refine r_gI (i := 29) (ci := 7) (kf := 6) rfl (Nat.le_of_ble_eq_true rfl) wF_Vil_46 rfl rfl fun x59 => ?_
  refine r_pI (i := 30) (ci := 7) (kf := 6) rfl (Nat.le_of_ble_eq_true rfl) wF_Vil_46 rfl (tyX7_ok 6 (Nat.le_of_ble_eq_true rfl)) rfl rfl fun h62 => ?_
  refine r_aload_n (i := 31) rfl rfl rfl ?_
  refine r_aload_n (i := 32) rfl rfl rfl ?_
  refine r_gI (i := 33) (ci := 7) (kf := 7) rfl (Nat.le_of_ble_eq_true rfl) wF_Vil_49 rfl rfl fun x67 => ?_
  refine r_pI (i := 34) (ci := 7) (kf := 7) rfl (Nat.le_of_ble_eq_true rfl) wF_Vil_49 rfl (tyX7_ok 7 (Nat.le_of_ble_eq_true rfl)) rfl rfl fun h70 => ?_
  refine r_aload_n (i := 35) rfl rfl rfl ?_
  refine r_aload_n (i := 36) rfl rfl rfl ?_
  refine r_gB (i := 37) (ci := 7) (kf := 8) rfl (Nat.le_of_ble_eq_true rfl) wF_Vil_52 rfl rfl fun x75 => ?_
  refine r_pB (i := 38) (ci := 7) (kf := 8) rfl (Nat.le_of_ble_eq_true rfl) wF_Vil_52 rfl (tyX7_ok 8 (Nat.le_of_ble_eq_true rfl)) rfl rfl fun h78 => ?_
  refine r_aload_n (i := 39) rfl rfl rfl ?_
  refine r_aload_n (i := 40) rfl rfl rfl ?_
  refine r_gB (i := 41) (ci := 7) (kf := 9) rfl (Nat.le_of_ble_eq_true rfl) wF_Vil_56 rfl rfl fun x83 => ?_
  refine r_pB (i := 42) (ci := 7) (kf := 9) rfl (Nat.le_of_ble_eq_true rfl) wF_Vil_56 rfl (tyX7_ok 9 (Nat.le_of_ble_eq_true rfl)) rfl rfl fun h86 => ?_
  refine r_aload_n (i := 43) rfl rfl rfl ?_
  refine r_aload_n (i := 44) rfl rfl rfl ?_
  refine r_gI (i := 45) (ci := 7) (kf := 10) rfl (Nat.le_of_ble_eq_true rfl) wF_Vil_21 rfl rfl fun x91 => ?_
  refine r_pI (i := 46) (ci := 7) (kf := 10) rfl (Nat.le_of_ble_eq_true rfl) wF_Vil_21 rfl (tyX7_ok 10 (Nat.le_of_ble_eq_true rfl)) rfl rfl fun h94 => ?_
  refine r_aload_n (i := 47) rfl rfl rfl ?_
  refine r_aload_n (i := 48) rfl rfl rfl ?_
  refine r_gI (i := 49) (ci := 7) (kf := 11) rfl (Nat.le_of_ble_eq_true rfl) wF_Vil_25 rfl rfl fun x99 => ?_
  refine r_pI (i := 50) (ci := 7) (kf := 11) rfl (Nat.le_of_ble_eq_true rfl) wF_Vil_25 rfl (tyX7_ok 11 (Nat.le_of_ble_eq_true rfl)) rfl rfl fun h102 => ?_
  refine r_aload_n (i := 51) rfl rfl rfl ?_
  refine r_aload_n (i := 52) rfl rfl rfl ?_
  refine r_gI (i := 53) (ci := 7) (kf := 12) rfl (Nat.le_of_ble_eq_true rfl) wF_Vil_59 rfl rfl fun x107 => ?_
  refine r_pI (i := 54) (ci := 7) (kf := 12) rfl (Nat.le_of_ble_eq_true rfl) wF_Vil_59 rfl (tyX7_ok 12 (Nat.le_of_ble_eq_true rfl)) rfl rfl fun h110 => ?_
  refine r_aload_n (i := 55) rfl rfl rfl ?_
  refine r_gR (i := 56) (ci := 7) (kf := 13) rfl (Nat.le_of_ble_eq_true rfl) wF_Vil_28 rfl rfl fun x114 => ?_
  refine r_aload_n (i := 57) rfl rfl rfl ?_
  refine r_gR (i := 58) (ci := 7) (kf := 13) rfl (Nat.le_of_ble_eq_true rfl) wF_Vil_28 rfl rfl fun x118 => ?_
  refine r_SV2 (i := 59) (k2 := 0) (n2 := 0) ok_Rows_copy wM_Vil_65 (c_Rows_copy F) (Nat.le_of_ble_eq_true rfl) (Nat.le_of_ble_eq_true rfl) (Nat.le_of_ble_eq_true rfl) (Nat.le_of_ble_eq_true rfl) rfl rfl fun h121 => ?_
  refine r_aload_n (i := 60) rfl rfl rfl ?_
  refine r_aload_n (i := 61) rfl rfl rfl ?_
  refine r_gI (i := 62) (ci := 7) (kf := 14) rfl (Nat.le_of_ble_eq_true rfl) wF_Vil_62 rfl rfl fun x126 => ?_
  refine r_pI (i := 63) (ci := 7) (kf := 14) rfl (Nat.le_of_ble_eq_true rfl) wF_Vil_62 rfl (tyX7_ok 14 (Nat.le_of_ble_eq_true rfl)) rfl rfl fun h129 => ?_
  exact r_retV (i := 64) rfl rfl rfl rfl
-- Vil_begin
def s_Vil_begin (h : fw_H) (v0 : Option Nat) (v1 : Option Nat) : Option fw_H :=
(f_ck h v0 7).bind fun _ =>
(s_Rows_get h v1 (0 : Int32)).bind fun x3 =>
(f_pI h v0 7 10 x3).bind fun h6 =>
(s_Rows_get h6 v1 (1 : Int32)).bind fun x12 =>
(f_pI h6 v0 7 12 x12).bind fun h15 =>
(s_Rows_get h15 v1 (2 : Int32)).bind fun x21 =>
if ¬ x21 = (1 : Int32) then ((f_pB h15 v0 7 8 false).bind fun h33 =>
some h33) else
(f_pB h15 v0 7 8 true).bind fun h33 =>
some h33
theorem c_Vil_begin {G : fw_G} {h : fw_H} {v0 : Option Nat} {v1 : Option Nat} : fw_Call G m_Vil_begin fw_eV 1 0 0 [fw_r v0, fw_r v1] h (s_Vil_begin h v0 v1) := by
  refine fw_Call.of ok_Vil_begin.1 (Nat.le_of_ble_eq_true rfl) [(0, some (fw_r v0)), (1, some (fw_r v1))] rfl ?_
  refine r_ck ?_
  refine r_aload_n (i := 0) rfl rfl rfl ?_
  refine r_aload_n (i := 1) rfl rfl rfl ?_
  refine r_iconst (i := 2) (0 : Int32) kc_iconst_0 rfl rfl ?_
  refine r_SI2 (i := 3) (k2 := 0) (n2 := 0) ok_Rows_get wM_Vil_71 (c_Rows_get) (Nat.le_of_ble_eq_true rfl) (Nat.le_of_ble_eq_true rfl) (Nat.le_of_ble_eq_true rfl) (Nat.le_of_ble_eq_true rfl) rfl rfl fun x3 => ?_
  refine r_pI (i := 4) (ci := 7) (kf := 10) rfl (Nat.le_of_ble_eq_true rfl) wF_Vil_21 rfl (tyX7_ok 10 (Nat.le_of_ble_eq_true rfl)) rfl rfl fun h6 => ?_
  refine r_aload_n (i := 5) rfl rfl rfl ?_
  refine r_aload_n (i := 6) rfl rfl rfl ?_
  refine r_iconst (i := 7) (1 : Int32) kc_iconst_1 rfl rfl ?_
  refine r_SI2 (i := 8) (k2 := 0) (n2 := 0) ok_Rows_get wM_Vil_71 (c_Rows_get) (Nat.le_of_ble_eq_true rfl) (Nat.le_of_ble_eq_true rfl) (Nat.le_of_ble_eq_true rfl) (Nat.le_of_ble_eq_true rfl) rfl rfl fun x12 => ?_
  refine r_pI (i := 9) (ci := 7) (kf := 12) rfl (Nat.le_of_ble_eq_true rfl) wF_Vil_59 rfl (tyX7_ok 12 (Nat.le_of_ble_eq_true rfl)) rfl rfl fun h15 => ?_
  refine r_aload_n (i := 10) rfl rfl rfl ?_
  refine r_aload_n (i := 11) rfl rfl rfl ?_
  refine r_iconst (i := 12) (2 : Int32) kc_iconst_2 rfl rfl ?_
  refine r_SI2 (i := 13) (k2 := 0) (n2 := 0) ok_Rows_get wM_Vil_71 (c_Rows_get) (Nat.le_of_ble_eq_true rfl) (Nat.le_of_ble_eq_true rfl) (Nat.le_of_ble_eq_true rfl) (Nat.le_of_ble_eq_true rfl) rfl rfl fun x21 => ?_
  refine r_iconst (i := 14) (1 : Int32) kc_iconst_1 rfl rfl ?_
  refine r_icmp_ne (i := 15) (tgt := 32) rfl rfl rfl ?_ ?_
  · refine r_iconst (i := 18) (0 : Int32) kc_iconst_0 rfl rfl ?_
    refine r_pB (y := false) (i := 19) (ci := 7) (kf := 8) rfl (Nat.le_of_ble_eq_true rfl) wF_Vil_52 rfl (tyX7_ok 8 (Nat.le_of_ble_eq_true rfl)) rfl rfl fun h33 => ?_
    exact r_retV (i := 20) rfl rfl rfl rfl
  · refine r_iconst (i := 16) (1 : Int32) kc_iconst_1 rfl rfl ?_
    refine r_goto (i := 17) (tgt := 33) rfl rfl rfl ?_
    refine r_pB (y := true) (i := 19) (ci := 7) (kf := 8) rfl (Nat.le_of_ble_eq_true rfl) wF_Vil_52 rfl (tyX7_ok 8 (Nat.le_of_ble_eq_true rfl)) rfl rfl fun h33 => ?_
    exact r_retV (i := 20) rfl rfl rfl rfl
-- Vil_addHouse
def l_Vil_addHouse_2 (v0 : Option Nat) (v1 : Option Nat) (K33 : fw_H → Option fw_H) : Nat → Int32 → fw_H → Option fw_H
  | 0, _, _ => none
  | nn + 1, a2_2, g2 =>
    if (5 : Int32) ≤ a2_2 then (K33 g2) else
    (f_gR g2 v0 7 2).bind fun x8 =>
    (f_gI g2 v0 7 0).bind fun x12 =>
    (s_Rows_get g2 v1 a2_2).bind fun x21 =>
    (s_Rows_put g2 x8 ((x12 * (5 : Int32)) + a2_2) x21).bind fun h24 =>
    l_Vil_addHouse_2 v0 v1 K33 nn (a2_2 + (1 : Int32)) h24
theorem cl_Vil_addHouse_2 {G : fw_G} {v0 : Option Nat} {v1 : Option Nat} {K33 : fw_H → Option fw_H} (hK33 : ∀ (he33 : fw_H), fw_R G m_Vil_addHouse fw_eV 1 0 0 33 [(0, some (fw_r v0)), (1, some (fw_r v1))] [] he33 (K33 he33)) : ∀ (nn : Nat) (a2_2 : Int32) (g2 : fw_H), fw_R G m_Vil_addHouse fw_eV 1 0 0 2 [(0, some (fw_r v0)), (1, some (fw_r v1)), (2, some (fw_i a2_2))] [] g2 (l_Vil_addHouse_2 v0 v1 K33 nn a2_2 g2) := by
  intro nn
  induction nn with
  | zero => intros; exact r_none
  | succ nn ih =>
    intro a2_2 g2
    rw [l_Vil_addHouse_2]
    refine r_iload_n (i := 2) rfl rfl rfl ?_
    refine r_iconst (i := 3) (5 : Int32) kc_iconst_5 rfl rfl ?_
    refine r_icmp_ge (i := 4) (tgt := 33) rfl rfl rfl ?_ ?_
    · exact r_lv (fw_sub1 rfl (fw_sub1 rfl fw_sub0)) (hK33 g2)
    · refine r_aload_n (i := 5) rfl rfl rfl ?_
      refine r_gR (i := 6) (ci := 7) (kf := 2) rfl (Nat.le_of_ble_eq_true rfl) wF_Vil_9 rfl rfl fun x8 => ?_
      refine r_aload_n (i := 7) rfl rfl rfl ?_
      refine r_gI (i := 8) (ci := 7) (kf := 0) rfl (Nat.le_of_ble_eq_true rfl) wF_Vil_31 rfl rfl fun x12 => ?_
      refine r_iconst (i := 9) (5 : Int32) kc_iconst_5 rfl rfl ?_
      refine r_imul (i := 10) rfl rfl ?_
      refine r_iload_n (i := 11) rfl rfl rfl ?_
      refine r_iadd (i := 12) rfl rfl ?_
      refine r_aload_n (i := 13) rfl rfl rfl ?_
      refine r_iload_n (i := 14) rfl rfl rfl ?_
      refine r_SI2 (i := 15) (k2 := 0) (n2 := 0) ok_Rows_get wM_Vil_71 (c_Rows_get) (Nat.le_of_ble_eq_true rfl) (Nat.le_of_ble_eq_true rfl) (Nat.le_of_ble_eq_true rfl) (Nat.le_of_ble_eq_true rfl) rfl rfl fun x21 => ?_
      refine r_SV3 (i := 16) (k2 := 0) (n2 := 0) ok_Rows_put wM_Vil_75 (c_Rows_put) (Nat.le_of_ble_eq_true rfl) (Nat.le_of_ble_eq_true rfl) (Nat.le_of_ble_eq_true rfl) (Nat.le_of_ble_eq_true rfl) rfl rfl fun h24 => ?_
      refine r_iinc (i := 17) (1 : Int32) kc_iconst_1 rfl rfl rfl (Nat.le_of_ble_eq_true rfl) ?_
      refine r_goto (i := 18) (tgt := 2) rfl rfl rfl ?_
      exact r_lv (fw_sub1 rfl (fw_sub1 rfl (fw_sub1 rfl fw_sub0))) (ih (a2_2 + (1 : Int32)) h24)
def s_Vil_addHouse (F : Nat) (h : fw_H) (v0 : Option Nat) (v1 : Option Nat) : Option fw_H :=
(f_ck h v0 7).bind fun _ =>
l_Vil_addHouse_2 v0 v1 (fun he33 =>
(f_gI he33 v0 7 7).bind fun x35 =>
(s_Rows_get he33 v1 (5 : Int32)).bind fun x40 =>
(f_gI he33 v0 7 0).bind fun x44 =>
(f_pI he33 v0 7 7 (x35 ||| (x40 <<< (x44 &&& 31)))).bind fun h49 =>
(f_gI h49 v0 7 0).bind fun x54 =>
(f_pI h49 v0 7 0 (x54 + (1 : Int32))).bind fun h59 =>
some h59) F (0 : Int32) h
theorem c_Vil_addHouse {G : fw_G} (F : Nat) {h : fw_H} {v0 : Option Nat} {v1 : Option Nat} : fw_Call G m_Vil_addHouse fw_eV 1 0 0 [fw_r v0, fw_r v1] h (s_Vil_addHouse F h v0 v1) := by
  refine fw_Call.of ok_Vil_addHouse.1 (Nat.le_of_ble_eq_true rfl) [(0, some (fw_r v0)), (1, some (fw_r v1))] rfl ?_
  refine r_ck ?_
  refine r_iconst (i := 0) (0 : Int32) kc_iconst_0 rfl rfl ?_
  refine r_istore_n (i := 1) rfl rfl (Nat.le_of_ble_eq_true rfl) rfl ?_
  refine r_lv (fw_sub1 rfl (fw_sub1 rfl (fw_sub1 rfl fw_sub0))) (cl_Vil_addHouse_2 ?_ F _ _)
  · intro he33
    refine r_aload_n (i := 19) rfl rfl rfl ?_
    refine r_dup_r (i := 20) rfl rfl ?_
    refine r_gI (i := 21) (ci := 7) (kf := 7) rfl (Nat.le_of_ble_eq_true rfl) wF_Vil_49 rfl rfl fun x35 => ?_
    refine r_aload_n (i := 22) rfl rfl rfl ?_
    refine r_iconst (i := 23) (5 : Int32) kc_iconst_5 rfl rfl ?_
    refine r_SI2 (i := 24) (k2 := 0) (n2 := 0) ok_Rows_get wM_Vil_71 (c_Rows_get) (Nat.le_of_ble_eq_true rfl) (Nat.le_of_ble_eq_true rfl) (Nat.le_of_ble_eq_true rfl) (Nat.le_of_ble_eq_true rfl) rfl rfl fun x40 => ?_
    refine r_aload_n (i := 25) rfl rfl rfl ?_
    refine r_gI (i := 26) (ci := 7) (kf := 0) rfl (Nat.le_of_ble_eq_true rfl) wF_Vil_31 rfl rfl fun x44 => ?_
    refine r_ishl (i := 27) rfl rfl ?_
    refine r_ior (i := 28) rfl rfl ?_
    refine r_pI (i := 29) (ci := 7) (kf := 7) rfl (Nat.le_of_ble_eq_true rfl) wF_Vil_49 rfl (tyX7_ok 7 (Nat.le_of_ble_eq_true rfl)) rfl rfl fun h49 => ?_
    refine r_aload_n (i := 30) rfl rfl rfl ?_
    refine r_dup_r (i := 31) rfl rfl ?_
    refine r_gI (i := 32) (ci := 7) (kf := 0) rfl (Nat.le_of_ble_eq_true rfl) wF_Vil_31 rfl rfl fun x54 => ?_
    refine r_iconst (i := 33) (1 : Int32) kc_iconst_1 rfl rfl ?_
    refine r_iadd (i := 34) rfl rfl ?_
    refine r_pI (i := 35) (ci := 7) (kf := 0) rfl (Nat.le_of_ble_eq_true rfl) wF_Vil_31 rfl (tyX7_ok 0 (Nat.le_of_ble_eq_true rfl)) rfl rfl fun h59 => ?_
    exact r_retV (i := 36) rfl rfl rfl rfl
-- Vil_addWindow
def s_Vil_addWindow (h : fw_H) (v0 : Option Nat) (v1 : Option Nat) : Option fw_H :=
(f_ck h v0 7).bind fun _ =>
(f_gR h v0 7 4).bind fun x1 =>
(f_gI h v0 7 1).bind fun x5 =>
(s_Rows_get h v1 (0 : Int32)).bind fun x12 =>
(s_Rows_put h x1 (x5 * (2 : Int32)) x12).bind fun h15 =>
(f_gR h15 v0 7 4).bind fun x19 =>
(f_gI h15 v0 7 1).bind fun x23 =>
(s_Rows_get h15 v1 (1 : Int32)).bind fun x32 =>
(s_Rows_put h15 x19 ((x23 * (2 : Int32)) + (1 : Int32)) x32).bind fun h35 =>
(f_gI h35 v0 7 5).bind fun x40 =>
(s_Rows_get h35 v1 (2 : Int32)).bind fun x45 =>
(f_gI h35 v0 7 1).bind fun x49 =>
(f_pI h35 v0 7 5 (x40 ||| (x45 <<< (x49 &&& 31)))).bind fun h54 =>
(f_gI h54 v0 7 1).bind fun x59 =>
(f_pI h54 v0 7 1 (x59 + (1 : Int32))).bind fun h64 =>
some h64
theorem c_Vil_addWindow {G : fw_G} {h : fw_H} {v0 : Option Nat} {v1 : Option Nat} : fw_Call G m_Vil_addWindow fw_eV 1 0 0 [fw_r v0, fw_r v1] h (s_Vil_addWindow h v0 v1) := by
  refine fw_Call.of ok_Vil_addWindow.1 (Nat.le_of_ble_eq_true rfl) [(0, some (fw_r v0)), (1, some (fw_r v1))] rfl ?_
  refine r_ck ?_
  refine r_aload_n (i := 0) rfl rfl rfl ?_
  refine r_gR (i := 1) (ci := 7) (kf := 4) rfl (Nat.le_of_ble_eq_true rfl) wF_Vil_18 rfl rfl fun x1 => ?_
  refine r_aload_n (i := 2) rfl rfl rfl ?_
  refine r_gI (i := 3) (ci := 7) (kf := 1) rfl (Nat.le_of_ble_eq_true rfl) wF_Vil_34 rfl rfl fun x5 => ?_
  refine r_iconst (i := 4) (2 : Int32) kc_iconst_2 rfl rfl ?_
  refine r_imul (i := 5) rfl rfl ?_
  refine r_aload_n (i := 6) rfl rfl rfl ?_
  refine r_iconst (i := 7) (0 : Int32) kc_iconst_0 rfl rfl ?_
  refine r_SI2 (i := 8) (k2 := 0) (n2 := 0) ok_Rows_get wM_Vil_71 (c_Rows_get) (Nat.le_of_ble_eq_true rfl) (Nat.le_of_ble_eq_true rfl) (Nat.le_of_ble_eq_true rfl) (Nat.le_of_ble_eq_true rfl) rfl rfl fun x12 => ?_
  refine r_SV3 (i := 9) (k2 := 0) (n2 := 0) ok_Rows_put wM_Vil_75 (c_Rows_put) (Nat.le_of_ble_eq_true rfl) (Nat.le_of_ble_eq_true rfl) (Nat.le_of_ble_eq_true rfl) (Nat.le_of_ble_eq_true rfl) rfl rfl fun h15 => ?_
  refine r_aload_n (i := 10) rfl rfl rfl ?_
  refine r_gR (i := 11) (ci := 7) (kf := 4) rfl (Nat.le_of_ble_eq_true rfl) wF_Vil_18 rfl rfl fun x19 => ?_
  refine r_aload_n (i := 12) rfl rfl rfl ?_
  refine r_gI (i := 13) (ci := 7) (kf := 1) rfl (Nat.le_of_ble_eq_true rfl) wF_Vil_34 rfl rfl fun x23 => ?_
  refine r_iconst (i := 14) (2 : Int32) kc_iconst_2 rfl rfl ?_
  refine r_imul (i := 15) rfl rfl ?_
  refine r_iconst (i := 16) (1 : Int32) kc_iconst_1 rfl rfl ?_
  refine r_iadd (i := 17) rfl rfl ?_
  refine r_aload_n (i := 18) rfl rfl rfl ?_
  refine r_iconst (i := 19) (1 : Int32) kc_iconst_1 rfl rfl ?_
  refine r_SI2 (i := 20) (k2 := 0) (n2 := 0) ok_Rows_get wM_Vil_71 (c_Rows_get) (Nat.le_of_ble_eq_true rfl) (Nat.le_of_ble_eq_true rfl) (Nat.le_of_ble_eq_true rfl) (Nat.le_of_ble_eq_true rfl) rfl rfl fun x32 => ?_
  refine r_SV3 (i := 21) (k2 := 0) (n2 := 0) ok_Rows_put wM_Vil_75 (c_Rows_put) (Nat.le_of_ble_eq_true rfl) (Nat.le_of_ble_eq_true rfl) (Nat.le_of_ble_eq_true rfl) (Nat.le_of_ble_eq_true rfl) rfl rfl fun h35 => ?_
  refine r_aload_n (i := 22) rfl rfl rfl ?_
  refine r_dup_r (i := 23) rfl rfl ?_
  refine r_gI (i := 24) (ci := 7) (kf := 5) rfl (Nat.le_of_ble_eq_true rfl) wF_Vil_43 rfl rfl fun x40 => ?_
  refine r_aload_n (i := 25) rfl rfl rfl ?_
  refine r_iconst (i := 26) (2 : Int32) kc_iconst_2 rfl rfl ?_
  refine r_SI2 (i := 27) (k2 := 0) (n2 := 0) ok_Rows_get wM_Vil_71 (c_Rows_get) (Nat.le_of_ble_eq_true rfl) (Nat.le_of_ble_eq_true rfl) (Nat.le_of_ble_eq_true rfl) (Nat.le_of_ble_eq_true rfl) rfl rfl fun x45 => ?_
  refine r_aload_n (i := 28) rfl rfl rfl ?_
  refine r_gI (i := 29) (ci := 7) (kf := 1) rfl (Nat.le_of_ble_eq_true rfl) wF_Vil_34 rfl rfl fun x49 => ?_
  refine r_ishl (i := 30) rfl rfl ?_
  refine r_ior (i := 31) rfl rfl ?_
  refine r_pI (i := 32) (ci := 7) (kf := 5) rfl (Nat.le_of_ble_eq_true rfl) wF_Vil_43 rfl (tyX7_ok 5 (Nat.le_of_ble_eq_true rfl)) rfl rfl fun h54 => ?_
  refine r_aload_n (i := 33) rfl rfl rfl ?_
  refine r_dup_r (i := 34) rfl rfl ?_
  refine r_gI (i := 35) (ci := 7) (kf := 1) rfl (Nat.le_of_ble_eq_true rfl) wF_Vil_34 rfl rfl fun x59 => ?_
  refine r_iconst (i := 36) (1 : Int32) kc_iconst_1 rfl rfl ?_
  refine r_iadd (i := 37) rfl rfl ?_
  refine r_pI (i := 38) (ci := 7) (kf := 1) rfl (Nat.le_of_ble_eq_true rfl) wF_Vil_34 rfl (tyX7_ok 1 (Nat.le_of_ble_eq_true rfl)) rfl rfl fun h64 => ?_
  exact r_retV (i := 39) rfl rfl rfl rfl
-- Vil_endOf
def s_Vil_endOf (h : fw_H) (v0 : Option Nat) (v1 : Int32) (v2 : Int32) : Option Int32 :=
(f_ck h v0 7).bind fun _ =>
(f_gR h v0 7 4).bind fun x1 =>
(s_Rows_get h x1 ((v1 * (2 : Int32)) + v2)).bind fun x9 =>
some x9
theorem c_Vil_endOf {G : fw_G} {h : fw_H} {v0 : Option Nat} {v1 : Int32} {v2 : Int32} : fw_Call G m_Vil_endOf (fw_eI h) 1 0 0 [fw_r v0, fw_i v1, fw_i v2] h (s_Vil_endOf h v0 v1 v2) := by
  refine fw_Call.of ok_Vil_endOf.1 (Nat.le_of_ble_eq_true rfl) [(0, some (fw_r v0)), (1, some (fw_i v1)), (2, some (fw_i v2))] rfl ?_
  refine r_ck ?_
  refine r_aload_n (i := 0) rfl rfl rfl ?_
  refine r_gR (i := 1) (ci := 7) (kf := 4) rfl (Nat.le_of_ble_eq_true rfl) wF_Vil_18 rfl rfl fun x1 => ?_
  refine r_iload_n (i := 2) rfl rfl rfl ?_
  refine r_iconst (i := 3) (2 : Int32) kc_iconst_2 rfl rfl ?_
  refine r_imul (i := 4) rfl rfl ?_
  refine r_iload_n (i := 5) rfl rfl rfl ?_
  refine r_iadd (i := 6) rfl rfl ?_
  refine r_SI2 (i := 7) (k2 := 0) (n2 := 0) ok_Rows_get wM_Vil_71 (c_Rows_get) (Nat.le_of_ble_eq_true rfl) (Nat.le_of_ble_eq_true rfl) (Nat.le_of_ble_eq_true rfl) (Nat.le_of_ble_eq_true rfl) rfl rfl fun x9 => ?_
  exact r_retI (i := 8) rfl rfl rfl rfl
-- Vil_hasHouse
def s_Vil_hasHouse (h : fw_H) (v0 : Option Nat) (v1 : Int32) : Option Bool :=
(f_ck h v0 7).bind fun _ =>
if v1 < (0 : Int32) then (some false) else
(f_gI h v0 7 0).bind fun x6 =>
if x6 ≤ v1 then (some false) else
some true
theorem c_Vil_hasHouse {G : fw_G} {h : fw_H} {v0 : Option Nat} {v1 : Int32} : fw_Call G m_Vil_hasHouse (fw_eB h) 0 0 0 [fw_r v0, fw_i v1] h (s_Vil_hasHouse h v0 v1) := by
  refine fw_Call.of ok_Vil_hasHouse.1 (Nat.le_of_ble_eq_true rfl) [(0, some (fw_r v0)), (1, some (fw_i v1))] rfl ?_
  refine r_ck ?_
  refine r_iload_n (i := 0) rfl rfl rfl ?_
  refine r_if_lt (i := 1) (tgt := 16) rfl rfl rfl ?_ ?_
  · refine r_iconst (i := 8) (0 : Int32) kc_iconst_0 rfl rfl ?_
    exact r_retB (x := false) (i := 9) rfl rfl rfl rfl
  · refine r_iload_n (i := 2) rfl rfl rfl ?_
    refine r_aload_n (i := 3) rfl rfl rfl ?_
    refine r_gI (i := 4) (ci := 7) (kf := 0) rfl (Nat.le_of_ble_eq_true rfl) wF_Vil_31 rfl rfl fun x6 => ?_
    refine r_icmp_ge (i := 5) (tgt := 16) rfl rfl rfl ?_ ?_
    · refine r_iconst (i := 8) (0 : Int32) kc_iconst_0 rfl rfl ?_
      exact r_retB (x := false) (i := 9) rfl rfl rfl rfl
    · refine r_iconst (i := 6) (1 : Int32) kc_iconst_1 rfl rfl ?_
      refine r_goto (i := 7) (tgt := 17) rfl rfl rfl ?_
      exact r_retB (x := true) (i := 9) rfl rfl rfl rfl
-- Vil_areTwo
def s_Vil_areTwo (h : fw_H) (v0 : Option Nat) (v1 : Int32) (v2 : Int32) : Option Bool :=
(f_ck h v0 7).bind fun _ =>
(s_Vil_hasHouse h v0 v1).bind fun x2 =>
if x2 = true then ((s_Vil_hasHouse h v0 v2).bind fun x10 =>
if x10 = true then (if v1 = v2 then (some false) else
some true) else
some false) else
some false
theorem c_Vil_areTwo {G : fw_G} {h : fw_H} {v0 : Option Nat} {v1 : Int32} {v2 : Int32} : fw_Call G m_Vil_areTwo (fw_eB h) 1 0 0 [fw_r v0, fw_i v1, fw_i v2] h (s_Vil_areTwo h v0 v1 v2) := by
  refine fw_Call.of ok_Vil_areTwo.1 (Nat.le_of_ble_eq_true rfl) [(0, some (fw_r v0)), (1, some (fw_i v1)), (2, some (fw_i v2))] rfl ?_
  refine r_ck ?_
  refine r_aload_n (i := 0) rfl rfl rfl ?_
  refine r_iload_n (i := 1) rfl rfl rfl ?_
  refine r_VB1 (i := 2) (k2 := 0) (n2 := 0) ok_Vil_hasHouse wM_Vil_87 (c_Vil_hasHouse) (fun _ e => fw_ckb e) (Nat.le_of_ble_eq_true rfl) (Nat.le_of_ble_eq_true rfl) (Nat.le_of_ble_eq_true rfl) (Nat.le_of_ble_eq_true rfl) rfl rfl fun x2 => ?_
  refine r_ifeqB (i := 3) (tgt := 25) rfl rfl rfl ?_ ?_
  · refine r_iconst (i := 13) (0 : Int32) kc_iconst_0 rfl rfl ?_
    exact r_retB (x := false) (i := 14) rfl rfl rfl rfl
  · refine r_aload_n (i := 4) rfl rfl rfl ?_
    refine r_iload_n (i := 5) rfl rfl rfl ?_
    refine r_VB1 (i := 6) (k2 := 0) (n2 := 0) ok_Vil_hasHouse wM_Vil_87 (c_Vil_hasHouse) (fun _ e => fw_ckb e) (Nat.le_of_ble_eq_true rfl) (Nat.le_of_ble_eq_true rfl) (Nat.le_of_ble_eq_true rfl) (Nat.le_of_ble_eq_true rfl) rfl rfl fun x10 => ?_
    refine r_ifeqB (i := 7) (tgt := 25) rfl rfl rfl ?_ ?_
    · refine r_iconst (i := 13) (0 : Int32) kc_iconst_0 rfl rfl ?_
      exact r_retB (x := false) (i := 14) rfl rfl rfl rfl
    · refine r_iload_n (i := 8) rfl rfl rfl ?_
      refine r_iload_n (i := 9) rfl rfl rfl ?_
      refine r_icmp_eq (i := 10) (tgt := 25) rfl rfl rfl ?_ ?_
      · refine r_iconst (i := 13) (0 : Int32) kc_iconst_0 rfl rfl ?_
        exact r_retB (x := false) (i := 14) rfl rfl rfl rfl
      · refine r_iconst (i := 11) (1 : Int32) kc_iconst_1 rfl rfl ?_
        refine r_goto (i := 12) (tgt := 26) rfl rfl rfl ?_
        exact r_retB (x := true) (i := 14) rfl rfl rfl rfl
-- Vil_holdsTogether
def l_Vil_holdsTogether_2 (h : fw_H) (v0 : Option Nat) (K37 : Unit → Option Bool) : Nat → Int32 → Option Bool
  | 0, _ => none
  | nn + 1, a2_1 =>
    (f_gI h v0 7 1).bind fun x4 =>
    if x4 ≤ a2_1 then (K37 ()) else
    (s_Vil_endOf h v0 a2_1 (0 : Int32)).bind fun x14 =>
    (s_Vil_endOf h v0 a2_1 (1 : Int32)).bind fun x20 =>
    (s_Vil_areTwo h v0 x14 x20).bind fun x23 =>
    if x23 = true then (l_Vil_holdsTogether_2 h v0 K37 nn (a2_1 + (1 : Int32))) else
    some false
theorem cl_Vil_holdsTogether_2 {G : fw_G} {h : fw_H} {v0 : Option Nat} {K37 : Unit → Option Bool} (hK37 : ∀ (uu : Unit), fw_R G m_Vil_holdsTogether (fw_eB h) 2 0 0 37 [(0, some (fw_r v0))] [] h (K37 uu)) : ∀ (nn : Nat) (a2_1 : Int32), fw_R G m_Vil_holdsTogether (fw_eB h) 2 0 0 2 [(0, some (fw_r v0)), (1, some (fw_i a2_1))] [] h (l_Vil_holdsTogether_2 h v0 K37 nn a2_1) := by
  intro nn
  induction nn with
  | zero => intros; exact r_none
  | succ nn ih =>
    intro a2_1
    rw [l_Vil_holdsTogether_2]
    refine r_iload_n (i := 2) rfl rfl rfl ?_
    refine r_aload_n (i := 3) rfl rfl rfl ?_
    refine r_gI (i := 4) (ci := 7) (kf := 1) rfl (Nat.le_of_ble_eq_true rfl) wF_Vil_34 rfl rfl fun x4 => ?_
    refine r_icmp_ge (i := 5) (tgt := 37) rfl rfl rfl ?_ ?_
    · exact r_lv (fw_sub1 rfl fw_sub0) (hK37 ())
    · refine r_aload_n (i := 6) rfl rfl rfl ?_
      refine r_aload_n (i := 7) rfl rfl rfl ?_
      refine r_iload_n (i := 8) rfl rfl rfl ?_
      refine r_iconst (i := 9) (0 : Int32) kc_iconst_0 rfl rfl ?_
      refine r_VI2 (i := 10) (k2 := 0) (n2 := 0) ok_Vil_endOf wM_Vil_79 (c_Vil_endOf) (fun _ e => fw_ckb e) (Nat.le_of_ble_eq_true rfl) (Nat.le_of_ble_eq_true rfl) (Nat.le_of_ble_eq_true rfl) (Nat.le_of_ble_eq_true rfl) rfl rfl fun x14 => ?_
      refine r_aload_n (i := 11) rfl rfl rfl ?_
      refine r_iload_n (i := 12) rfl rfl rfl ?_
      refine r_iconst (i := 13) (1 : Int32) kc_iconst_1 rfl rfl ?_
      refine r_VI2 (i := 14) (k2 := 0) (n2 := 0) ok_Vil_endOf wM_Vil_79 (c_Vil_endOf) (fun _ e => fw_ckb e) (Nat.le_of_ble_eq_true rfl) (Nat.le_of_ble_eq_true rfl) (Nat.le_of_ble_eq_true rfl) (Nat.le_of_ble_eq_true rfl) rfl rfl fun x20 => ?_
      refine r_VB2 (i := 15) (k2 := 0) (n2 := 0) ok_Vil_areTwo wM_Vil_83 (c_Vil_areTwo) (fun _ e => fw_ckb e) (Nat.le_of_ble_eq_true rfl) (Nat.le_of_ble_eq_true rfl) (Nat.le_of_ble_eq_true rfl) (Nat.le_of_ble_eq_true rfl) rfl rfl fun x23 => ?_
      refine r_ifneB (i := 16) (tgt := 31) rfl rfl rfl ?_ ?_
      · refine r_iinc (i := 19) (1 : Int32) kc_iconst_1 rfl rfl rfl (Nat.le_of_ble_eq_true rfl) ?_
        refine r_goto (i := 20) (tgt := 2) rfl rfl rfl ?_
        exact r_lv (fw_sub1 rfl (fw_sub1 rfl fw_sub0)) (ih (a2_1 + (1 : Int32)))
      · refine r_iconst (i := 17) (0 : Int32) kc_iconst_0 rfl rfl ?_
        exact r_retB (x := false) (i := 18) rfl rfl rfl rfl
def s_Vil_holdsTogether (F : Nat) (h : fw_H) (v0 : Option Nat) : Option Bool :=
(f_ck h v0 7).bind fun _ =>
l_Vil_holdsTogether_2 h v0 (fun (_ : Unit) =>
(f_gI h v0 7 10).bind fun x39 =>
(s_Vil_hasHouse h v0 x39).bind fun x42 =>
some x42) F (0 : Int32)
theorem c_Vil_holdsTogether {G : fw_G} (F : Nat) {h : fw_H} {v0 : Option Nat} : fw_Call G m_Vil_holdsTogether (fw_eB h) 2 0 0 [fw_r v0] h (s_Vil_holdsTogether F h v0) := by
  refine fw_Call.of ok_Vil_holdsTogether.1 (Nat.le_of_ble_eq_true rfl) [(0, some (fw_r v0))] rfl ?_
  refine r_ck ?_
  refine r_iconst (i := 0) (0 : Int32) kc_iconst_0 rfl rfl ?_
  refine r_istore_n (i := 1) rfl rfl (Nat.le_of_ble_eq_true rfl) rfl ?_
  refine r_lv (fw_sub1 rfl (fw_sub1 rfl fw_sub0)) (cl_Vil_holdsTogether_2 ?_ F _)
  · intro _
    refine r_aload_n (i := 21) rfl rfl rfl ?_
    refine r_aload_n (i := 22) rfl rfl rfl ?_
    refine r_gI (i := 23) (ci := 7) (kf := 10) rfl (Nat.le_of_ble_eq_true rfl) wF_Vil_21 rfl rfl fun x39 => ?_
    refine r_VB1 (i := 24) (k2 := 0) (n2 := 0) ok_Vil_hasHouse wM_Vil_87 (c_Vil_hasHouse) (fun _ e => fw_ckb e) (Nat.le_of_ble_eq_true rfl) (Nat.le_of_ble_eq_true rfl) (Nat.le_of_ble_eq_true rfl) (Nat.le_of_ble_eq_true rfl) rfl rfl fun x42 => ?_
    exact r_retB (i := 25) rfl rfl rfl rfl
-- Vil_isNone
def s_Vil_isNone (h : fw_H) (v0 : Option Nat) : Option Bool :=
(f_ck h v0 7).bind fun _ =>
(f_gI h v0 7 0).bind fun x1 =>
if ¬ x1 = (0 : Int32) then (some false) else
some true
theorem c_Vil_isNone {G : fw_G} {h : fw_H} {v0 : Option Nat} : fw_Call G m_Vil_isNone (fw_eB h) 0 0 0 [fw_r v0] h (s_Vil_isNone h v0) := by
  refine fw_Call.of ok_Vil_isNone.1 (Nat.le_of_ble_eq_true rfl) [(0, some (fw_r v0))] rfl ?_
  refine r_ck ?_
  refine r_aload_n (i := 0) rfl rfl rfl ?_
  refine r_gI (i := 1) (ci := 7) (kf := 0) rfl (Nat.le_of_ble_eq_true rfl) wF_Vil_31 rfl rfl fun x1 => ?_
  refine r_if_ne (i := 2) (tgt := 11) rfl rfl rfl ?_ ?_
  · refine r_iconst (i := 5) (0 : Int32) kc_iconst_0 rfl rfl ?_
    exact r_retB (x := false) (i := 6) rfl rfl rfl rfl
  · refine r_iconst (i := 3) (1 : Int32) kc_iconst_1 rfl rfl ?_
    refine r_goto (i := 4) (tgt := 12) rfl rfl rfl ?_
    exact r_retB (x := true) (i := 6) rfl rfl rfl rfl
-- Vil_hasWindow
def s_Vil_hasWindow (h : fw_H) (v0 : Option Nat) (v1 : Int32) : Option Bool :=
(f_ck h v0 7).bind fun _ =>
if v1 < (0 : Int32) then (some false) else
(f_gI h v0 7 1).bind fun x6 =>
if x6 ≤ v1 then (some false) else
some true
theorem c_Vil_hasWindow {G : fw_G} {h : fw_H} {v0 : Option Nat} {v1 : Int32} : fw_Call G m_Vil_hasWindow (fw_eB h) 0 0 0 [fw_r v0, fw_i v1] h (s_Vil_hasWindow h v0 v1) := by
  refine fw_Call.of ok_Vil_hasWindow.1 (Nat.le_of_ble_eq_true rfl) [(0, some (fw_r v0)), (1, some (fw_i v1))] rfl ?_
  refine r_ck ?_
  refine r_iload_n (i := 0) rfl rfl rfl ?_
  refine r_if_lt (i := 1) (tgt := 16) rfl rfl rfl ?_ ?_
  · refine r_iconst (i := 8) (0 : Int32) kc_iconst_0 rfl rfl ?_
    exact r_retB (x := false) (i := 9) rfl rfl rfl rfl
  · refine r_iload_n (i := 2) rfl rfl rfl ?_
    refine r_aload_n (i := 3) rfl rfl rfl ?_
    refine r_gI (i := 4) (ci := 7) (kf := 1) rfl (Nat.le_of_ble_eq_true rfl) wF_Vil_34 rfl rfl fun x6 => ?_
    refine r_icmp_ge (i := 5) (tgt := 16) rfl rfl rfl ?_ ?_
    · refine r_iconst (i := 8) (0 : Int32) kc_iconst_0 rfl rfl ?_
      exact r_retB (x := false) (i := 9) rfl rfl rfl rfl
    · refine r_iconst (i := 6) (1 : Int32) kc_iconst_1 rfl rfl ?_
      refine r_goto (i := 7) (tgt := 17) rfl rfl rfl ?_
      exact r_retB (x := true) (i := 9) rfl rfl rfl rfl
-- Vil_all
def s_Vil_all (h : fw_H) (v0 : Option Nat) : Option Int32 :=
(f_ck h v0 7).bind fun _ =>
(f_gI h v0 7 0).bind fun x2 =>
some (((1 : Int32) <<< (x2 &&& 31)) - (1 : Int32))
theorem c_Vil_all {G : fw_G} {h : fw_H} {v0 : Option Nat} : fw_Call G m_Vil_all (fw_eI h) 0 0 0 [fw_r v0] h (s_Vil_all h v0) := by
  refine fw_Call.of ok_Vil_all.1 (Nat.le_of_ble_eq_true rfl) [(0, some (fw_r v0))] rfl ?_
  refine r_ck ?_
  refine r_iconst (i := 0) (1 : Int32) kc_iconst_1 rfl rfl ?_
  refine r_aload_n (i := 1) rfl rfl rfl ?_
  refine r_gI (i := 2) (ci := 7) (kf := 0) rfl (Nat.le_of_ble_eq_true rfl) wF_Vil_31 rfl rfl fun x2 => ?_
  refine r_ishl (i := 3) rfl rfl ?_
  refine r_iconst (i := 4) (1 : Int32) kc_iconst_1 rfl rfl ?_
  refine r_isub (i := 5) rfl rfl ?_
  exact r_retI (i := 6) rfl rfl rfl rfl
