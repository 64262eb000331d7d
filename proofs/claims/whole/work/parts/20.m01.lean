-- LText_atom, LText_sum, LText_term
def b_LText_atom (F : Nat) (g : Nat → fw_H → Option Nat → Int32 → Option fw_H) (h : fw_H) (v0 : Option Nat) (v1 : Int32) : Option fw_H :=
(f_ck h v0 2).bind fun _ =>
(f_gR h v0 2 0).bind fun x1 =>
(s_Tape_peek F h x1).bind fun x4 =>
fw_jn (fun (t24_0 : Int32) =>
if t24_0 < (0 : Int32) then (if x4.1 = (91 : Int32) then (if v1 < (6 : Int32) then ((f_gR x4.2 v0 2 0).bind fun x93 =>
(s_Tape_skip x4.2 x93).bind fun h96 =>
(g 1 h96 v0 (v1 + (1 : Int32))).bind fun h103 =>
(f_gR h103 v0 2 0).bind fun x107 =>
(s_Tape_expect F h103 x107 (93 : Int32)).bind fun h112 =>
some h112) else
(f_gR x4.2 v0 2 0).bind fun x83 =>
(s_Tape_fail x4.2 x83).bind fun h86 =>
some h86) else
(f_gR x4.2 v0 2 1).bind fun x55 =>
(f_gR x4.2 v0 2 0).bind fun x60 =>
(s_Tape_number F x4.2 x60 (4 : Int32) (9999 : Int32)).bind fun x67 =>
(s_Law_emit x67.2 x55 (0 : Int32) x67.1).bind fun h70 =>
some h70) else
(f_gR x4.2 v0 2 0).bind fun x30 =>
(s_Tape_skip x4.2 x30).bind fun h33 =>
(f_gR h33 v0 2 1).bind fun x37 =>
(s_Law_emit h33 x37 (1 : Int32) t24_0).bind fun h42 =>
some h42) fun J24 =>
if ¬ x4.1 = (-1 : Int32) then ((s_Jdk_indexOf1 F x4.2 (some 10) (fw_i2c x4.1)).bind fun x21 =>
J24 x21) else
J24 (-1 : Int32)
theorem cb_LText_atom {G : fw_G} {F : Nat} {g : Nat → fw_H → Option Nat → Int32 → Option fw_H} {dd : Nat} (hdd : 4 ≤ dd) (hg0 : ∀ (h : fw_H) (v0 : Option Nat) (v1 : Int32), fw_Call G m_LText_atom fw_eV dd 0 0 [fw_r v0, fw_i v1] h (g 0 h v0 v1)) (hk0 : ∀ {h : fw_H} {v0 : Option Nat} {v1 : Int32} {x : fw_H}, g 0 h v0 v1 = some x → f_ck h v0 2 = some ()) (hg1 : ∀ (h : fw_H) (v0 : Option Nat) (v1 : Int32), fw_Call G m_LText_sum fw_eV dd 0 0 [fw_r v0, fw_i v1] h (g 1 h v0 v1)) (hk1 : ∀ {h : fw_H} {v0 : Option Nat} {v1 : Int32} {x : fw_H}, g 1 h v0 v1 = some x → f_ck h v0 2 = some ()) (hg2 : ∀ (h : fw_H) (v0 : Option Nat) (v1 : Int32), fw_Call G m_LText_term fw_eV dd 0 0 [fw_r v0, fw_i v1] h (g 2 h v0 v1)) (hk2 : ∀ {h : fw_H} {v0 : Option Nat} {v1 : Int32} {x : fw_H}, g 2 h v0 v1 = some x → f_ck h v0 2 = some ()) {h : fw_H} {v0 : Option Nat} {v1 : Int32} : fw_Call G m_LText_atom fw_eV (dd + 1) 0 0 [fw_r v0, fw_i v1] h (b_LText_atom F g h v0 v1) := by
  refine fw_Call.of ok_LText_atom.1 (Nat.le_of_ble_eq_true rfl) [(0, some (fw_r v0)), (1, some (fw_i v1))] rfl ?_
  refine r_ck ?_
  refine r_aload_n (i := 0) rfl rfl rfl ?_
  refine r_gR (i := 1) (ci := 2) (kf := 0) rfl (Nat.le_of_ble_eq_true rfl) wF_LText_18 rfl rfl fun x1 => ?_
  refine r_VwI0 (i := 2) (k2 := 0) (n2 := 0) ok_Tape_peek wM_LText_33 (c_Tape_peek F) (fun _ e => fw_ckb e) (by omega) (Nat.le_of_ble_eq_true rfl) (Nat.le_of_ble_eq_true rfl) (Nat.le_of_ble_eq_true rfl) rfl rfl fun x4 => ?_
  refine r_istore_n (i := 3) rfl rfl (Nat.le_of_ble_eq_true rfl) rfl ?_
  refine r_iload_n (i := 4) rfl rfl rfl ?_
  refine r_iconst (i := 5) (-1 : Int32) kc_iconst_m1 rfl rfl ?_
  refine r_join (P := fun J24 => ∀ (t24_0 : Int32), fw_R G m_LText_atom fw_eV (dd + 1) (0) (0) 24 [(0, some (fw_r v0)), (1, some (fw_i v1)), (2, some (fw_i x4.1))] [fw_i t24_0] x4.2 (J24 t24_0)) ?_ (fun J24 hJ24 => ?_)
  · intro t24_0
    refine r_istore_n (i := 13) rfl rfl (Nat.le_of_ble_eq_true rfl) rfl ?_
    refine r_iload_n (i := 14) rfl rfl rfl ?_
    refine r_if_lt (i := 15) (tgt := 48) rfl rfl rfl ?_ ?_
    · refine r_iload_n (i := 25) rfl rfl rfl ?_
      refine r_bipush (i := 26) (91 : Int32) kc_bipush_91 rfl rfl ?_
      refine r_icmp_eq (i := 27) (tgt := 76) rfl rfl rfl ?_ ?_
      · refine r_iload_n (i := 38) rfl rfl rfl ?_
        refine r_bipush (i := 39) (6 : Int32) kc_bipush_6 rfl rfl ?_
        refine r_icmp_lt (i := 40) (tgt := 92) rfl rfl rfl ?_ ?_
        · refine r_aload_n (i := 45) rfl rfl rfl ?_
          refine r_gR (i := 46) (ci := 2) (kf := 0) rfl (Nat.le_of_ble_eq_true rfl) wF_LText_18 rfl rfl fun x93 => ?_
          refine r_VV0 (i := 47) (k2 := 0) (n2 := 0) ok_Tape_skip wM_LText_70 (c_Tape_skip) (fun _ e => fw_ckb e) (by omega) (Nat.le_of_ble_eq_true rfl) (Nat.le_of_ble_eq_true rfl) (Nat.le_of_ble_eq_true rfl) rfl rfl fun h96 => ?_
          refine r_aload_n (i := 48) rfl rfl rfl ?_
          refine r_iload_n (i := 49) rfl rfl rfl ?_
          refine r_iconst (i := 50) (1 : Int32) kc_iconst_1 rfl rfl ?_
          refine r_iadd (i := 51) rfl rfl ?_
          refine r_VV1 (i := 52) (k2 := 0) (n2 := 0) ok_LText_sum wM_LText_47 (hg1 _ _ _) (fun _ e => hk1 e) (Nat.le_refl _) (Nat.le_of_ble_eq_true rfl) (Nat.le_of_ble_eq_true rfl) (Nat.le_of_ble_eq_true rfl) rfl rfl fun h103 => ?_
          refine r_aload_n (i := 53) rfl rfl rfl ?_
          refine r_gR (i := 54) (ci := 2) (kf := 0) rfl (Nat.le_of_ble_eq_true rfl) wF_LText_18 rfl rfl fun x107 => ?_
          refine r_bipush (i := 55) (93 : Int32) kc_bipush_93 rfl rfl ?_
          refine r_VV1 (i := 56) (k2 := 0) (n2 := 0) ok_Tape_expect wM_LText_37 (c_Tape_expect F) (fun _ e => fw_ckb e) (by omega) (Nat.le_of_ble_eq_true rfl) (Nat.le_of_ble_eq_true rfl) (Nat.le_of_ble_eq_true rfl) rfl rfl fun h112 => ?_
          exact r_retV (i := 57) rfl rfl rfl rfl
        · refine r_aload_n (i := 41) rfl rfl rfl ?_
          refine r_gR (i := 42) (ci := 2) (kf := 0) rfl (Nat.le_of_ble_eq_true rfl) wF_LText_18 rfl rfl fun x83 => ?_
          refine r_VV0 (i := 43) (k2 := 0) (n2 := 0) ok_Tape_fail wM_LText_76 (c_Tape_fail) (fun _ e => fw_ckb e) (by omega) (Nat.le_of_ble_eq_true rfl) (Nat.le_of_ble_eq_true rfl) (Nat.le_of_ble_eq_true rfl) rfl rfl fun h86 => ?_
          refine r_goto (i := 44) (tgt := 115) rfl rfl rfl ?_
          exact r_retV (i := 57) rfl rfl rfl rfl
      · refine r_aload_n (i := 28) rfl rfl rfl ?_
        refine r_gR (i := 29) (ci := 2) (kf := 1) rfl (Nat.le_of_ble_eq_true rfl) wF_LText_12 rfl rfl fun x55 => ?_
        refine r_iconst (i := 30) (0 : Int32) kc_iconst_0 rfl rfl ?_
        refine r_aload_n (i := 31) rfl rfl rfl ?_
        refine r_gR (i := 32) (ci := 2) (kf := 0) rfl (Nat.le_of_ble_eq_true rfl) wF_LText_18 rfl rfl fun x60 => ?_
        refine r_iconst (i := 33) (4 : Int32) kc_iconst_4 rfl rfl ?_
        refine r_sipush (i := 34) (9999 : Int32) kc_sipush_9999 rfl rfl ?_
        refine r_VwI2 (i := 35) (k2 := 0) (n2 := 0) ok_Tape_number wM_LText_92 (c_Tape_number F) (fun _ e => fw_ckb e) (by omega) (Nat.le_of_ble_eq_true rfl) (Nat.le_of_ble_eq_true rfl) (Nat.le_of_ble_eq_true rfl) rfl rfl fun x67 => ?_
        refine r_VV2 (i := 36) (k2 := 0) (n2 := 0) ok_Law_emit wM_LText_63 (c_Law_emit) (fun _ e => fw_ckb e) (by omega) (Nat.le_of_ble_eq_true rfl) (Nat.le_of_ble_eq_true rfl) (Nat.le_of_ble_eq_true rfl) rfl rfl fun h70 => ?_
        refine r_goto (i := 37) (tgt := 115) rfl rfl rfl ?_
        exact r_retV (i := 57) rfl rfl rfl rfl
    · refine r_aload_n (i := 16) rfl rfl rfl ?_
      refine r_gR (i := 17) (ci := 2) (kf := 0) rfl (Nat.le_of_ble_eq_true rfl) wF_LText_18 rfl rfl fun x30 => ?_
      refine r_VV0 (i := 18) (k2 := 0) (n2 := 0) ok_Tape_skip wM_LText_70 (c_Tape_skip) (fun _ e => fw_ckb e) (by omega) (Nat.le_of_ble_eq_true rfl) (Nat.le_of_ble_eq_true rfl) (Nat.le_of_ble_eq_true rfl) rfl rfl fun h33 => ?_
      refine r_aload_n (i := 19) rfl rfl rfl ?_
      refine r_gR (i := 20) (ci := 2) (kf := 1) rfl (Nat.le_of_ble_eq_true rfl) wF_LText_12 rfl rfl fun x37 => ?_
      refine r_iconst (i := 21) (1 : Int32) kc_iconst_1 rfl rfl ?_
      refine r_iload_n (i := 22) rfl rfl rfl ?_
      refine r_VV2 (i := 23) (k2 := 0) (n2 := 0) ok_Law_emit wM_LText_63 (c_Law_emit) (fun _ e => fw_ckb e) (by omega) (Nat.le_of_ble_eq_true rfl) (Nat.le_of_ble_eq_true rfl) (Nat.le_of_ble_eq_true rfl) rfl rfl fun h42 => ?_
      refine r_goto (i := 24) (tgt := 115) rfl rfl rfl ?_
      exact r_retV (i := 57) rfl rfl rfl rfl
  · refine r_icmp_ne (i := 6) (tgt := 17) rfl rfl rfl ?_ ?_
    · refine r_ldcS (i := 9) (j := 3) (Nat.le_of_ble_eq_true rfl) rfl rfl rfl ?_
      refine r_iload_n (i := 10) rfl rfl rfl ?_
      refine r_i2c (i := 11) rfl rfl ?_
      refine r_TI1 (i := 12) (k2 := 0) (n2 := 0) ok_Jdk_indexOf1 wM_LText_87 (c_Jdk_indexOf1 F) (fun _ e => fw_ckbS e) (by omega) (Nat.le_of_ble_eq_true rfl) (Nat.le_of_ble_eq_true rfl) (Nat.le_of_ble_eq_true rfl) rfl rfl fun x21 => ?_
      exact r_lv (fw_sub1 rfl (fw_sub1 rfl (fw_sub1 rfl fw_sub0))) (hJ24 x21)
    · refine r_iconst (i := 7) (-1 : Int32) kc_iconst_m1 rfl rfl ?_
      refine r_goto (i := 8) (tgt := 24) rfl rfl rfl ?_
      exact r_lv (fw_sub1 rfl (fw_sub1 rfl (fw_sub1 rfl fw_sub0))) (hJ24 (-1 : Int32))
def l_LText_sum_7 (F : Nat) (g : Nat → fw_H → Option Nat → Int32 → Option fw_H) (v0 : Option Nat) (v1 : Int32) : Nat → Int32 → fw_H → Option fw_H
  | 0, _, _ => none
  | nn + 1, a7_2, g7 =>
    if (240 : Int32) ≤ a7_2 then (some g7) else
    (f_gR g7 v0 2 0).bind fun x15 =>
    (s_Tape_peek F g7 x15).bind fun x18 =>
    if x18.1 = (43 : Int32) then ((f_gR x18.2 v0 2 0).bind fun x36 =>
    (s_Tape_skip x18.2 x36).bind fun h39 =>
    (g 2 h39 v0 v1).bind fun h44 =>
    (f_gR h44 v0 2 1).bind fun x48 =>
    if ¬ x18.1 = (43 : Int32) then ((s_Law_emit h44 x48 (3 : Int32) (0 : Int32)).bind fun h63 =>
    l_LText_sum_7 F g v0 v1 nn (a7_2 + (1 : Int32)) h63) else
    (s_Law_emit h44 x48 (2 : Int32) (0 : Int32)).bind fun h63 =>
    l_LText_sum_7 F g v0 v1 nn (a7_2 + (1 : Int32)) h63) else
    if x18.1 = (45 : Int32) then ((f_gR x18.2 v0 2 0).bind fun x36 =>
    (s_Tape_skip x18.2 x36).bind fun h39 =>
    (g 2 h39 v0 v1).bind fun h44 =>
    (f_gR h44 v0 2 1).bind fun x48 =>
    if ¬ x18.1 = (43 : Int32) then ((s_Law_emit h44 x48 (3 : Int32) (0 : Int32)).bind fun h63 =>
    l_LText_sum_7 F g v0 v1 nn (a7_2 + (1 : Int32)) h63) else
    (s_Law_emit h44 x48 (2 : Int32) (0 : Int32)).bind fun h63 =>
    l_LText_sum_7 F g v0 v1 nn (a7_2 + (1 : Int32)) h63) else
    some x18.2
theorem cl_LText_sum_7 {G : fw_G} {F : Nat} {g : Nat → fw_H → Option Nat → Int32 → Option fw_H} {dd : Nat} {v0 : Option Nat} {v1 : Int32} (hdd : 4 ≤ dd) (hg0 : ∀ (h : fw_H) (v0 : Option Nat) (v1 : Int32), fw_Call G m_LText_atom fw_eV dd 0 0 [fw_r v0, fw_i v1] h (g 0 h v0 v1)) (hk0 : ∀ {h : fw_H} {v0 : Option Nat} {v1 : Int32} {x : fw_H}, g 0 h v0 v1 = some x → f_ck h v0 2 = some ()) (hg1 : ∀ (h : fw_H) (v0 : Option Nat) (v1 : Int32), fw_Call G m_LText_sum fw_eV dd 0 0 [fw_r v0, fw_i v1] h (g 1 h v0 v1)) (hk1 : ∀ {h : fw_H} {v0 : Option Nat} {v1 : Int32} {x : fw_H}, g 1 h v0 v1 = some x → f_ck h v0 2 = some ()) (hg2 : ∀ (h : fw_H) (v0 : Option Nat) (v1 : Int32), fw_Call G m_LText_term fw_eV dd 0 0 [fw_r v0, fw_i v1] h (g 2 h v0 v1)) (hk2 : ∀ {h : fw_H} {v0 : Option Nat} {v1 : Int32} {x : fw_H}, g 2 h v0 v1 = some x → f_ck h v0 2 = some ()) : ∀ (nn : Nat) (a7_2 : Int32) (g7 : fw_H), fw_R G m_LText_sum fw_eV (dd + 1) 0 0 7 [(0, some (fw_r v0)), (1, some (fw_i v1)), (2, some (fw_i a7_2))] [] g7 (l_LText_sum_7 F g v0 v1 nn a7_2 g7) := by
  intro nn
  induction nn with
  | zero => intros; exact r_none
  | succ nn ih =>
    intro a7_2 g7
    rw [l_LText_sum_7]
    refine r_iload_n (i := 5) rfl rfl rfl ?_
    refine r_sipush (i := 6) (240 : Int32) kc_sipush_240 rfl rfl ?_
    refine r_icmp_ge (i := 7) (tgt := 72) rfl rfl rfl ?_ ?_
    · exact r_retV (i := 37) rfl rfl rfl rfl
    · refine r_aload_n (i := 8) rfl rfl rfl ?_
      refine r_gR (i := 9) (ci := 2) (kf := 0) rfl (Nat.le_of_ble_eq_true rfl) wF_LText_18 rfl rfl fun x15 => ?_
      refine r_VwI0 (i := 10) (k2 := 0) (n2 := 0) ok_Tape_peek wM_LText_33 (c_Tape_peek F) (fun _ e => fw_ckb e) (by omega) (Nat.le_of_ble_eq_true rfl) (Nat.le_of_ble_eq_true rfl) (Nat.le_of_ble_eq_true rfl) rfl rfl fun x18 => ?_
      refine r_istore_n (i := 11) rfl rfl (Nat.le_of_ble_eq_true rfl) rfl ?_
      refine r_iload_n (i := 12) rfl rfl rfl ?_
      refine r_bipush (i := 13) (43 : Int32) kc_bipush_43 rfl rfl ?_
      refine r_icmp_eq (i := 14) (tgt := 35) rfl rfl rfl ?_ ?_
      · refine r_aload_n (i := 19) rfl rfl rfl ?_
        refine r_gR (i := 20) (ci := 2) (kf := 0) rfl (Nat.le_of_ble_eq_true rfl) wF_LText_18 rfl rfl fun x36 => ?_
        refine r_VV0 (i := 21) (k2 := 0) (n2 := 0) ok_Tape_skip wM_LText_70 (c_Tape_skip) (fun _ e => fw_ckb e) (by omega) (Nat.le_of_ble_eq_true rfl) (Nat.le_of_ble_eq_true rfl) (Nat.le_of_ble_eq_true rfl) rfl rfl fun h39 => ?_
        refine r_aload_n (i := 22) rfl rfl rfl ?_
        refine r_iload_n (i := 23) rfl rfl rfl ?_
        refine r_VV1 (i := 24) (k2 := 0) (n2 := 0) ok_LText_term wM_LText_79 (hg2 _ _ _) (fun _ e => hk2 e) (Nat.le_refl _) (Nat.le_of_ble_eq_true rfl) (Nat.le_of_ble_eq_true rfl) (Nat.le_of_ble_eq_true rfl) rfl rfl fun h44 => ?_
        refine r_aload_n (i := 25) rfl rfl rfl ?_
        refine r_gR (i := 26) (ci := 2) (kf := 1) rfl (Nat.le_of_ble_eq_true rfl) wF_LText_12 rfl rfl fun x48 => ?_
        refine r_iload_n (i := 27) rfl rfl rfl ?_
        refine r_bipush (i := 28) (43 : Int32) kc_bipush_43 rfl rfl ?_
        refine r_icmp_ne (i := 29) (tgt := 61) rfl rfl rfl ?_ ?_
        · refine r_iconst (i := 32) (3 : Int32) kc_iconst_3 rfl rfl ?_
          refine r_iconst (i := 33) (0 : Int32) kc_iconst_0 rfl rfl ?_
          refine r_VV2 (i := 34) (k2 := 0) (n2 := 0) ok_Law_emit wM_LText_63 (c_Law_emit) (fun _ e => fw_ckb e) (by omega) (Nat.le_of_ble_eq_true rfl) (Nat.le_of_ble_eq_true rfl) (Nat.le_of_ble_eq_true rfl) rfl rfl fun h63 => ?_
          refine r_iinc (i := 35) (1 : Int32) kc_iconst_1 rfl rfl rfl (Nat.le_of_ble_eq_true rfl) ?_
          refine r_goto (i := 36) (tgt := 7) rfl rfl rfl ?_
          exact r_lv (fw_sub1 rfl (fw_sub1 rfl (fw_sub1 rfl fw_sub0))) (ih (a7_2 + (1 : Int32)) h63)
        · refine r_iconst (i := 30) (2 : Int32) kc_iconst_2 rfl rfl ?_
          refine r_goto (i := 31) (tgt := 62) rfl rfl rfl ?_
          refine r_iconst (i := 33) (0 : Int32) kc_iconst_0 rfl rfl ?_
          refine r_VV2 (i := 34) (k2 := 0) (n2 := 0) ok_Law_emit wM_LText_63 (c_Law_emit) (fun _ e => fw_ckb e) (by omega) (Nat.le_of_ble_eq_true rfl) (Nat.le_of_ble_eq_true rfl) (Nat.le_of_ble_eq_true rfl) rfl rfl fun h63 => ?_
          refine r_iinc (i := 35) (1 : Int32) kc_iconst_1 rfl rfl rfl (Nat.le_of_ble_eq_true rfl) ?_
          refine r_goto (i := 36) (tgt := 7) rfl rfl rfl ?_
          exact r_lv (fw_sub1 rfl (fw_sub1 rfl (fw_sub1 rfl fw_sub0))) (ih (a7_2 + (1 : Int32)) h63)
      · refine r_iload_n (i := 15) rfl rfl rfl ?_
        refine r_bipush (i := 16) (45 : Int32) kc_bipush_45 rfl rfl ?_
        refine r_icmp_eq (i := 17) (tgt := 35) rfl rfl rfl ?_ ?_
        · refine r_aload_n (i := 19) rfl rfl rfl ?_
          refine r_gR (i := 20) (ci := 2) (kf := 0) rfl (Nat.le_of_ble_eq_true rfl) wF_LText_18 rfl rfl fun x36 => ?_
          refine r_VV0 (i := 21) (k2 := 0) (n2 := 0) ok_Tape_skip wM_LText_70 (c_Tape_skip) (fun _ e => fw_ckb e) (by omega) (Nat.le_of_ble_eq_true rfl) (Nat.le_of_ble_eq_true rfl) (Nat.le_of_ble_eq_true rfl) rfl rfl fun h39 => ?_
          refine r_aload_n (i := 22) rfl rfl rfl ?_
          refine r_iload_n (i := 23) rfl rfl rfl ?_
          refine r_VV1 (i := 24) (k2 := 0) (n2 := 0) ok_LText_term wM_LText_79 (hg2 _ _ _) (fun _ e => hk2 e) (Nat.le_refl _) (Nat.le_of_ble_eq_true rfl) (Nat.le_of_ble_eq_true rfl) (Nat.le_of_ble_eq_true rfl) rfl rfl fun h44 => ?_
          refine r_aload_n (i := 25) rfl rfl rfl ?_
          refine r_gR (i := 26) (ci := 2) (kf := 1) rfl (Nat.le_of_ble_eq_true rfl) wF_LText_12 rfl rfl fun x48 => ?_
          refine r_iload_n (i := 27) rfl rfl rfl ?_
          refine r_bipush (i := 28) (43 : Int32) kc_bipush_43 rfl rfl ?_
          refine r_icmp_ne (i := 29) (tgt := 61) rfl rfl rfl ?_ ?_
          · refine r_iconst (i := 32) (3 : Int32) kc_iconst_3 rfl rfl ?_
            refine r_iconst (i := 33) (0 : Int32) kc_iconst_0 rfl rfl ?_
            refine r_VV2 (i := 34) (k2 := 0) (n2 := 0) ok_Law_emit wM_LText_63 (c_Law_emit) (fun _ e => fw_ckb e) (by omega) (Nat.le_of_ble_eq_true rfl) (Nat.le_of_ble_eq_true rfl) (Nat.le_of_ble_eq_true rfl) rfl rfl fun h63 => ?_
            refine r_iinc (i := 35) (1 : Int32) kc_iconst_1 rfl rfl rfl (Nat.le_of_ble_eq_true rfl) ?_
            refine r_goto (i := 36) (tgt := 7) rfl rfl rfl ?_
            exact r_lv (fw_sub1 rfl (fw_sub1 rfl (fw_sub1 rfl fw_sub0))) (ih (a7_2 + (1 : Int32)) h63)
          · refine r_iconst (i := 30) (2 : Int32) kc_iconst_2 rfl rfl ?_
            refine r_goto (i := 31) (tgt := 62) rfl rfl rfl ?_
            refine r_iconst (i := 33) (0 : Int32) kc_iconst_0 rfl rfl ?_
            refine r_VV2 (i := 34) (k2 := 0) (n2 := 0) ok_Law_emit wM_LText_63 (c_Law_emit) (fun _ e => fw_ckb e) (by omega) (Nat.le_of_ble_eq_true rfl) (Nat.le_of_ble_eq_true rfl) (Nat.le_of_ble_eq_true rfl) rfl rfl fun h63 => ?_
            refine r_iinc (i := 35) (1 : Int32) kc_iconst_1 rfl rfl rfl (Nat.le_of_ble_eq_true rfl) ?_
            refine r_goto (i := 36) (tgt := 7) rfl rfl rfl ?_
            exact r_lv (fw_sub1 rfl (fw_sub1 rfl (fw_sub1 rfl fw_sub0))) (ih (a7_2 + (1 : Int32)) h63)
        · exact r_retV (i := 18) rfl rfl rfl rfl
def b_LText_sum (F : Nat) (g : Nat → fw_H → Option Nat → Int32 → Option fw_H) (h : fw_H) (v0 : Option Nat) (v1 : Int32) : Option fw_H :=
(f_ck h v0 2).bind fun _ =>
(g 2 h v0 v1).bind fun h2 =>
l_LText_sum_7 F g v0 v1 F (0 : Int32) h2
theorem cb_LText_sum {G : fw_G} {F : Nat} {g : Nat → fw_H → Option Nat → Int32 → Option fw_H} {dd : Nat} (hdd : 4 ≤ dd) (hg0 : ∀ (h : fw_H) (v0 : Option Nat) (v1 : Int32), fw_Call G m_LText_atom fw_eV dd 0 0 [fw_r v0, fw_i v1] h (g 0 h v0 v1)) (hk0 : ∀ {h : fw_H} {v0 : Option Nat} {v1 : Int32} {x : fw_H}, g 0 h v0 v1 = some x → f_ck h v0 2 = some ()) (hg1 : ∀ (h : fw_H) (v0 : Option Nat) (v1 : Int32), fw_Call G m_LText_sum fw_eV dd 0 0 [fw_r v0, fw_i v1] h (g 1 h v0 v1)) (hk1 : ∀ {h : fw_H} {v0 : Option Nat} {v1 : Int32} {x : fw_H}, g 1 h v0 v1 = some x → f_ck h v0 2 = some ()) (hg2 : ∀ (h : fw_H) (v0 : Option Nat) (v1 : Int32), fw_Call G m_LText_term fw_eV dd 0 0 [fw_r v0, fw_i v1] h (g 2 h v0 v1)) (hk2 : ∀ {h : fw_H} {v0 : Option Nat} {v1 : Int32} {x : fw_H}, g 2 h v0 v1 = some x → f_ck h v0 2 = some ()) {h : fw_H} {v0 : Option Nat} {v1 : Int32} : fw_Call G m_LText_sum fw_eV (dd + 1) 0 0 [fw_r v0, fw_i v1] h (b_LText_sum F g h v0 v1) := by
  refine fw_Call.of ok_LText_sum.1 (Nat.le_of_ble_eq_true rfl) [(0, some (fw_r v0)), (1, some (fw_i v1))] rfl ?_
  refine r_ck ?_
  refine r_aload_n (i := 0) rfl rfl rfl ?_
  refine r_iload_n (i := 1) rfl rfl rfl ?_
  refine r_VV1 (i := 2) (k2 := 0) (n2 := 0) ok_LText_term wM_LText_79 (hg2 _ _ _) (fun _ e => hk2 e) (Nat.le_refl _) (Nat.le_of_ble_eq_true rfl) (Nat.le_of_ble_eq_true rfl) (Nat.le_of_ble_eq_true rfl) rfl rfl fun h2 => ?_
  refine r_iconst (i := 3) (0 : Int32) kc_iconst_0 rfl rfl ?_
  refine r_istore_n (i := 4) rfl rfl (Nat.le_of_ble_eq_true rfl) rfl ?_
  refine r_lv (fw_sub1 rfl (fw_sub1 rfl (fw_sub1 rfl fw_sub0))) (cl_LText_sum_7 hdd hg0 hk0 hg1 hk1 hg2 hk2 F _ _)
def l_LText_term_7 (F : Nat) (g : Nat → fw_H → Option Nat → Int32 → Option fw_H) (v0 : Option Nat) (v1 : Int32) : Nat → Int32 → fw_H → Option fw_H
  | 0, _, _ => none
  | nn + 1, a7_2, g7 =>
    if (240 : Int32) ≤ a7_2 then (some g7) else
    (f_gR g7 v0 2 0).bind fun x15 =>
    (s_Tape_peek F g7 x15).bind fun x18 =>
    if x18.1 = (42 : Int32) then ((f_gR x18.2 v0 2 0).bind fun x36 =>
    (s_Tape_skip x18.2 x36).bind fun h39 =>
    (g 0 h39 v0 v1).bind fun h44 =>
    (f_gR h44 v0 2 1).bind fun x48 =>
    if ¬ x18.1 = (42 : Int32) then ((s_Law_emit h44 x48 (5 : Int32) (0 : Int32)).bind fun h63 =>
    l_LText_term_7 F g v0 v1 nn (a7_2 + (1 : Int32)) h63) else
    (s_Law_emit h44 x48 (4 : Int32) (0 : Int32)).bind fun h63 =>
    l_LText_term_7 F g v0 v1 nn (a7_2 + (1 : Int32)) h63) else
    if x18.1 = (47 : Int32) then ((f_gR x18.2 v0 2 0).bind fun x36 =>
    (s_Tape_skip x18.2 x36).bind fun h39 =>
    (g 0 h39 v0 v1).bind fun h44 =>
    (f_gR h44 v0 2 1).bind fun x48 =>
    if ¬ x18.1 = (42 : Int32) then ((s_Law_emit h44 x48 (5 : Int32) (0 : Int32)).bind fun h63 =>
    l_LText_term_7 F g v0 v1 nn (a7_2 + (1 : Int32)) h63) else
    (s_Law_emit h44 x48 (4 : Int32) (0 : Int32)).bind fun h63 =>
    l_LText_term_7 F g v0 v1 nn (a7_2 + (1 : Int32)) h63) else
    some x18.2
theorem cl_LText_term_7 {G : fw_G} {F : Nat} {g : Nat → fw_H → Option Nat → Int32 → Option fw_H} {dd : Nat} {v0 : Option Nat} {v1 : Int32} (hdd : 4 ≤ dd) (hg0 : ∀ (h : fw_H) (v0 : Option Nat) (v1 : Int32), fw_Call G m_LText_atom fw_eV dd 0 0 [fw_r v0, fw_i v1] h (g 0 h v0 v1)) (hk0 : ∀ {h : fw_H} {v0 : Option Nat} {v1 : Int32} {x : fw_H}, g 0 h v0 v1 = some x → f_ck h v0 2 = some ()) (hg1 : ∀ (h : fw_H) (v0 : Option Nat) (v1 : Int32), fw_Call G m_LText_sum fw_eV dd 0 0 [fw_r v0, fw_i v1] h (g 1 h v0 v1)) (hk1 : ∀ {h : fw_H} {v0 : Option Nat} {v1 : Int32} {x : fw_H}, g 1 h v0 v1 = some x → f_ck h v0 2 = some ()) (hg2 : ∀ (h : fw_H) (v0 : Option Nat) (v1 : Int32), fw_Call G m_LText_term fw_eV dd 0 0 [fw_r v0, fw_i v1] h (g 2 h v0 v1)) (hk2 : ∀ {h : fw_H} {v0 : Option Nat} {v1 : Int32} {x : fw_H}, g 2 h v0 v1 = some x → f_ck h v0 2 = some ()) : ∀ (nn : Nat) (a7_2 : Int32) (g7 : fw_H), fw_R G m_LText_term fw_eV (dd + 1) 0 0 7 [(0, some (fw_r v0)), (1, some (fw_i v1)), (2, some (fw_i a7_2))] [] g7 (l_LText_term_7 F g v0 v1 nn a7_2 g7) := by
  intro nn
  induction nn with
  | zero => intros; exact r_none
  | succ nn ih =>
    intro a7_2 g7
    rw [l_LText_term_7]
    refine r_iload_n (i := 5) rfl rfl rfl ?_
    refine r_sipush (i := 6) (240 : Int32) kc_sipush_240 rfl rfl ?_
    refine r_icmp_ge (i := 7) (tgt := 72) rfl rfl rfl ?_ ?_
    · exact r_retV (i := 37) rfl rfl rfl rfl
    · refine r_aload_n (i := 8) rfl rfl rfl ?_
      refine r_gR (i := 9) (ci := 2) (kf := 0) rfl (Nat.le_of_ble_eq_true rfl) wF_LText_18 rfl rfl fun x15 => ?_
      refine r_VwI0 (i := 10) (k2 := 0) (n2 := 0) ok_Tape_peek wM_LText_33 (c_Tape_peek F) (fun _ e => fw_ckb e) (by omega) (Nat.le_of_ble_eq_true rfl) (Nat.le_of_ble_eq_true rfl) (Nat.le_of_ble_eq_true rfl) rfl rfl fun x18 => ?_
      refine r_istore_n (i := 11) rfl rfl (Nat.le_of_ble_eq_true rfl) rfl ?_
      refine r_iload_n (i := 12) rfl rfl rfl ?_
      refine r_bipush (i := 13) (42 : Int32) kc_bipush_42 rfl rfl ?_
      refine r_icmp_eq (i := 14) (tgt := 35) rfl rfl rfl ?_ ?_
      · refine r_aload_n (i := 19) rfl rfl rfl ?_
        refine r_gR (i := 20) (ci := 2) (kf := 0) rfl (Nat.le_of_ble_eq_true rfl) wF_LText_18 rfl rfl fun x36 => ?_
        refine r_VV0 (i := 21) (k2 := 0) (n2 := 0) ok_Tape_skip wM_LText_70 (c_Tape_skip) (fun _ e => fw_ckb e) (by omega) (Nat.le_of_ble_eq_true rfl) (Nat.le_of_ble_eq_true rfl) (Nat.le_of_ble_eq_true rfl) rfl rfl fun h39 => ?_
        refine r_aload_n (i := 22) rfl rfl rfl ?_
        refine r_iload_n (i := 23) rfl rfl rfl ?_
        refine r_VV1 (i := 24) (k2 := 0) (n2 := 0) ok_LText_atom wM_LText_82 (hg0 _ _ _) (fun _ e => hk0 e) (Nat.le_refl _) (Nat.le_of_ble_eq_true rfl) (Nat.le_of_ble_eq_true rfl) (Nat.le_of_ble_eq_true rfl) rfl rfl fun h44 => ?_
        refine r_aload_n (i := 25) rfl rfl rfl ?_
        refine r_gR (i := 26) (ci := 2) (kf := 1) rfl (Nat.le_of_ble_eq_true rfl) wF_LText_12 rfl rfl fun x48 => ?_
        refine r_iload_n (i := 27) rfl rfl rfl ?_
        refine r_bipush (i := 28) (42 : Int32) kc_bipush_42 rfl rfl ?_
        refine r_icmp_ne (i := 29) (tgt := 61) rfl rfl rfl ?_ ?_
        · refine r_iconst (i := 32) (5 : Int32) kc_iconst_5 rfl rfl ?_
          refine r_iconst (i := 33) (0 : Int32) kc_iconst_0 rfl rfl ?_
          refine r_VV2 (i := 34) (k2 := 0) (n2 := 0) ok_Law_emit wM_LText_63 (c_Law_emit) (fun _ e => fw_ckb e) (by omega) (Nat.le_of_ble_eq_true rfl) (Nat.le_of_ble_eq_true rfl) (Nat.le_of_ble_eq_true rfl) rfl rfl fun h63 => ?_
          refine r_iinc (i := 35) (1 : Int32) kc_iconst_1 rfl rfl rfl (Nat.le_of_ble_eq_true rfl) ?_
          refine r_goto (i := 36) (tgt := 7) rfl rfl rfl ?_
          exact r_lv (fw_sub1 rfl (fw_sub1 rfl (fw_sub1 rfl fw_sub0))) (ih (a7_2 + (1 : Int32)) h63)
        · refine r_iconst (i := 30) (4 : Int32) kc_iconst_4 rfl rfl ?_
          refine r_goto (i := 31) (tgt := 62) rfl rfl rfl ?_
          refine r_iconst (i := 33) (0 : Int32) kc_iconst_0 rfl rfl ?_
          refine r_VV2 (i := 34) (k2 := 0) (n2 := 0) ok_Law_emit wM_LText_63 (c_Law_emit) (fun _ e => fw_ckb e) (by omega) (Nat.le_of_ble_eq_true rfl) (Nat.le_of_ble_eq_true rfl) (Nat.le_of_ble_eq_true rfl) rfl rfl fun h63 => ?_
          refine r_iinc (i := 35) (1 : Int32) kc_iconst_1 rfl rfl rfl (Nat.le_of_ble_eq_true rfl) ?_
          refine r_goto (i := 36) (tgt := 7) rfl rfl rfl ?_
          exact r_lv (fw_sub1 rfl (fw_sub1 rfl (fw_sub1 rfl fw_sub0))) (ih (a7_2 + (1 : Int32)) h63)
      · refine r_iload_n (i := 15) rfl rfl rfl ?_
        refine r_bipush (i := 16) (47 : Int32) kc_bipush_47 rfl rfl ?_
        refine r_icmp_eq (i := 17) (tgt := 35) rfl rfl rfl ?_ ?_
        · refine r_aload_n (i := 19) rfl rfl rfl ?_
          refine r_gR (i := 20) (ci := 2) (kf := 0) rfl (Nat.le_of_ble_eq_true rfl) wF_LText_18 rfl rfl fun x36 => ?_
          refine r_VV0 (i := 21) (k2 := 0) (n2 := 0) ok_Tape_skip wM_LText_70 (c_Tape_skip) (fun _ e => fw_ckb e) (by omega) (Nat.le_of_ble_eq_true rfl) (Nat.le_of_ble_eq_true rfl) (Nat.le_of_ble_eq_true rfl) rfl rfl fun h39 => ?_
          refine r_aload_n (i := 22) rfl rfl rfl ?_
          refine r_iload_n (i := 23) rfl rfl rfl ?_
          refine r_VV1 (i := 24) (k2 := 0) (n2 := 0) ok_LText_atom wM_LText_82 (hg0 _ _ _) (fun _ e => hk0 e) (Nat.le_refl _) (Nat.le_of_ble_eq_true rfl) (Nat.le_of_ble_eq_true rfl) (Nat.le_of_ble_eq_true rfl) rfl rfl fun h44 => ?_
          refine r_aload_n (i := 25) rfl rfl rfl ?_
          refine r_gR (i := 26) (ci := 2) (kf := 1) rfl (Nat.le_of_ble_eq_true rfl) wF_LText_12 rfl rfl fun x48 => ?_
          refine r_iload_n (i := 27) rfl rfl rfl ?_
          refine r_bipush (i := 28) (42 : Int32) kc_bipush_42 rfl rfl ?_
          refine r_icmp_ne (i := 29) (tgt := 61) rfl rfl rfl ?_ ?_
          · refine r_iconst (i := 32) (5 : Int32) kc_iconst_5 rfl rfl ?_
            refine r_iconst (i := 33) (0 : Int32) kc_iconst_0 rfl rfl ?_
            refine r_VV2 (i := 34) (k2 := 0) (n2 := 0) ok_Law_emit wM_LText_63 (c_Law_emit) (fun _ e => fw_ckb e) (by omega) (Nat.le_of_ble_eq_true rfl) (Nat.le_of_ble_eq_true rfl) (Nat.le_of_ble_eq_true rfl) rfl rfl fun h63 => ?_
            refine r_iinc (i := 35) (1 : Int32) kc_iconst_1 rfl rfl rfl (Nat.le_of_ble_eq_true rfl) ?_
            refine r_goto (i := 36) (tgt := 7) rfl rfl rfl ?_
            exact r_lv (fw_sub1 rfl (fw_sub1 rfl (fw_sub1 rfl fw_sub0))) (ih (a7_2 + (1 : Int32)) h63)
          · refine r_iconst (i := 30) (4 : Int32) kc_iconst_4 rfl rfl ?_
            refine r_goto (i := 31) (tgt := 62) rfl rfl rfl ?_
            refine r_iconst (i := 33) (0 : Int32) kc_iconst_0 rfl rfl ?_
            refine r_VV2 (i := 34) (k2 := 0) (n2 := 0) ok_Law_emit wM_LText_63 (c_Law_emit) (fun _ e => fw_ckb e) (by omega) (Nat.le_of_ble_eq_true rfl) (Nat.le_of_ble_eq_true rfl) (Nat.le_of_ble_eq_true rfl) rfl rfl fun h63 => ?_
            refine r_iinc (i := 35) (1 : Int32) kc_iconst_1 rfl rfl rfl (Nat.le_of_ble_eq_true rfl) ?_
            refine r_goto (i := 36) (tgt := 7) rfl rfl rfl ?_
            exact r_lv (fw_sub1 rfl (fw_sub1 rfl (fw_sub1 rfl fw_sub0))) (ih (a7_2 + (1 : Int32)) h63)
        · exact r_retV (i := 18) rfl rfl rfl rfl
def b_LText_term (F : Nat) (g : Nat → fw_H → Option Nat → Int32 → Option fw_H) (h : fw_H) (v0 : Option Nat) (v1 : Int32) : Option fw_H :=
(f_ck h v0 2).bind fun _ =>
(g 0 h v0 v1).bind fun h2 =>
l_LText_term_7 F g v0 v1 F (0 : Int32) h2
theorem cb_LText_term {G : fw_G} {F : Nat} {g : Nat → fw_H → Option Nat → Int32 → Option fw_H} {dd : Nat} (hdd : 4 ≤ dd) (hg0 : ∀ (h : fw_H) (v0 : Option Nat) (v1 : Int32), fw_Call G m_LText_atom fw_eV dd 0 0 [fw_r v0, fw_i v1] h (g 0 h v0 v1)) (hk0 : ∀ {h : fw_H} {v0 : Option Nat} {v1 : Int32} {x : fw_H}, g 0 h v0 v1 = some x → f_ck h v0 2 = some ()) (hg1 : ∀ (h : fw_H) (v0 : Option Nat) (v1 : Int32), fw_Call G m_LText_sum fw_eV dd 0 0 [fw_r v0, fw_i v1] h (g 1 h v0 v1)) (hk1 : ∀ {h : fw_H} {v0 : Option Nat} {v1 : Int32} {x : fw_H}, g 1 h v0 v1 = some x → f_ck h v0 2 = some ()) (hg2 : ∀ (h : fw_H) (v0 : Option Nat) (v1 : Int32), fw_Call G m_LText_term fw_eV dd 0 0 [fw_r v0, fw_i v1] h (g 2 h v0 v1)) (hk2 : ∀ {h : fw_H} {v0 : Option Nat} {v1 : Int32} {x : fw_H}, g 2 h v0 v1 = some x → f_ck h v0 2 = some ()) {h : fw_H} {v0 : Option Nat} {v1 : Int32} : fw_Call G m_LText_term fw_eV (dd + 1) 0 0 [fw_r v0, fw_i v1] h (b_LText_term F g h v0 v1) := by
  refine fw_Call.of ok_LText_term.1 (Nat.le_of_ble_eq_true rfl) [(0, some (fw_r v0)), (1, some (fw_i v1))] rfl ?_
  refine r_ck ?_
  refine r_aload_n (i := 0) rfl rfl rfl ?_
  refine r_iload_n (i := 1) rfl rfl rfl ?_
  refine r_VV1 (i := 2) (k2 := 0) (n2 := 0) ok_LText_atom wM_LText_82 (hg0 _ _ _) (fun _ e => hk0 e) (Nat.le_refl _) (Nat.le_of_ble_eq_true rfl) (Nat.le_of_ble_eq_true rfl) (Nat.le_of_ble_eq_true rfl) rfl rfl fun h2 => ?_
  refine r_iconst (i := 3) (0 : Int32) kc_iconst_0 rfl rfl ?_
  refine r_istore_n (i := 4) rfl rfl (Nat.le_of_ble_eq_true rfl) rfl ?_
  refine r_lv (fw_sub1 rfl (fw_sub1 rfl (fw_sub1 rfl fw_sub0))) (cl_LText_term_7 hdd hg0 hk0 hg1 hk1 hg2 hk2 F _ _)
def gr_LText_atom (F : Nat) : Nat → Nat → fw_H → Option Nat → Int32 → Option fw_H
  | 0, _, _, _, _ => none
  | D + 1, sel, h, v0, v1 => if sel = 0 then b_LText_atom F (gr_LText_atom F D) h v0 v1 else if sel = 1 then b_LText_sum F (gr_LText_atom F D) h v0 v1 else b_LText_term F (gr_LText_atom F D) h v0 v1
theorem kgr_LText_atom {F D sel : Nat} {h : fw_H} {v0 : Option Nat} {v1 : Int32} {x : fw_H} (e : gr_LText_atom F D sel h v0 v1 = some x) : f_ck h v0 2 = some () := by
  cases D with
  | zero => cases e
  | succ D =>
    rw [gr_LText_atom] at e
    by_cases c0 : sel = 0
    · rw [if_pos c0] at e; exact fw_ckb e
    rw [if_neg c0] at e
    by_cases c1 : sel = 1
    · rw [if_pos c1] at e; exact fw_ckb e
    rw [if_neg c1] at e
    exact fw_ckb e
theorem cgr_LText_atom {G : fw_G} (F : Nat) : ∀ D : Nat, (∀ (h : fw_H) (v0 : Option Nat) (v1 : Int32), fw_Call G m_LText_atom fw_eV (4 + D) 0 0 [fw_r v0, fw_i v1] h (gr_LText_atom F D 0 h v0 v1)) ∧ (∀ (h : fw_H) (v0 : Option Nat) (v1 : Int32), fw_Call G m_LText_sum fw_eV (4 + D) 0 0 [fw_r v0, fw_i v1] h (gr_LText_atom F D 1 h v0 v1)) ∧ (∀ (h : fw_H) (v0 : Option Nat) (v1 : Int32), fw_Call G m_LText_term fw_eV (4 + D) 0 0 [fw_r v0, fw_i v1] h (gr_LText_atom F D 2 h v0 v1)) := by
  intro D
  induction D with
  | zero => exact ⟨fun _ _ _ _ hr => (by cases hr), fun _ _ _ _ hr => (by cases hr), fun _ _ _ _ hr => by cases hr⟩
  | succ D ih =>
    refine ⟨?_, ?_, ?_⟩
    · intro h v0 v1
      exact cb_LText_atom (F := F) (g := gr_LText_atom F D) (dd := 4 + D) (by omega) (ih.1) kgr_LText_atom (ih.2.1) kgr_LText_atom (ih.2.2) kgr_LText_atom
    · intro h v0 v1
      exact cb_LText_sum (F := F) (g := gr_LText_atom F D) (dd := 4 + D) (by omega) (ih.1) kgr_LText_atom (ih.2.1) kgr_LText_atom (ih.2.2) kgr_LText_atom
    · intro h v0 v1
      exact cb_LText_term (F := F) (g := gr_LText_atom F D) (dd := 4 + D) (by omega) (ih.1) kgr_LText_atom (ih.2.1) kgr_LText_atom (ih.2.2) kgr_LText_atom
def s_LText_atom (F : Nat) (h : fw_H) (v0 : Option Nat) (v1 : Int32) : Option fw_H := gr_LText_atom F 80 0 h v0 v1
theorem ck_LText_atom {F : Nat} {h : fw_H} {v0 : Option Nat} {v1 : Int32} {x : fw_H} (e : s_LText_atom F h v0 v1 = some x) : f_ck h v0 2 = some () := kgr_LText_atom e
theorem c_LText_atom {G : fw_G} (F : Nat) {h : fw_H} {v0 : Option Nat} {v1 : Int32} : fw_Call G m_LText_atom fw_eV 84 0 0 [fw_r v0, fw_i v1] h (s_LText_atom F h v0 v1) := (cgr_LText_atom F 80).1 _ _ _
def s_LText_sum (F : Nat) (h : fw_H) (v0 : Option Nat) (v1 : Int32) : Option fw_H := gr_LText_atom F 80 1 h v0 v1
theorem ck_LText_sum {F : Nat} {h : fw_H} {v0 : Option Nat} {v1 : Int32} {x : fw_H} (e : s_LText_sum F h v0 v1 = some x) : f_ck h v0 2 = some () := kgr_LText_atom e
theorem c_LText_sum {G : fw_G} (F : Nat) {h : fw_H} {v0 : Option Nat} {v1 : Int32} : fw_Call G m_LText_sum fw_eV 84 0 0 [fw_r v0, fw_i v1] h (s_LText_sum F h v0 v1) := (cgr_LText_atom F 80).2.1 _ _ _
def s_LText_term (F : Nat) (h : fw_H) (v0 : Option Nat) (v1 : Int32) : Option fw_H := gr_LText_atom F 80 2 h v0 v1
theorem ck_LText_term {F : Nat} {h : fw_H} {v0 : Option Nat} {v1 : Int32} {x : fw_H} (e : s_LText_term F h v0 v1 = some x) : f_ck h v0 2 = some () := kgr_LText_atom e
theorem c_LText_term {G : fw_G} (F : Nat) {h : fw_H} {v0 : Option Nat} {v1 : Int32} : fw_Call G m_LText_term fw_eV 84 0 0 [fw_r v0, fw_i v1] h (s_LText_term F h v0 v1) := (cgr_LText_atom F 80).2.2 _ _ _
-- LText_comparing
def s_LText_comparing (v0 : Int32) : Option Int32 :=
if v0 = (60 : Int32) then (some (7 : Int32)) else
if v0 = (61 : Int32) then (some (6 : Int32)) else
if v0 = (62 : Int32) then (some (8 : Int32)) else
some (-1 : Int32)
theorem c_LText_comparing {G : fw_G} {h : fw_H} {v0 : Int32} : fw_Call G m_LText_comparing (fw_eI h) 0 0 0 [fw_i v0] h (s_LText_comparing v0) := by
  refine fw_Call.of ok_LText_comparing.1 (Nat.le_of_ble_eq_true rfl) [(0, some (fw_i v0))] rfl ?_
  refine r_iload_n (i := 0) rfl rfl rfl ?_
  refine r_split (fun e1_60 => ?_) (fun n1_60 => ?_)
  · refine r_tinK (i := 1) (tgt := 31) (len := 27) (v := (60 : Int32)) (off := 30) e1_60 rfl rfl (by decide) (by decide) rfl ?_
    refine r_bipush (i := 4) (7 : Int32) kc_bipush_7 rfl rfl ?_
    exact r_retI (i := 5) rfl rfl rfl rfl
  · refine r_split (fun e1_61 => ?_) (fun n1_61 => ?_)
    · refine r_tinK (i := 1) (tgt := 28) (len := 27) (v := (61 : Int32)) (off := 27) e1_61 rfl rfl (by decide) (by decide) rfl ?_
      refine r_bipush (i := 2) (6 : Int32) kc_bipush_6 rfl rfl ?_
      exact r_retI (i := 3) rfl rfl rfl rfl
    · refine r_split (fun e1_62 => ?_) (fun n1_62 => ?_)
      · refine r_tinK (i := 1) (tgt := 34) (len := 27) (v := (62 : Int32)) (off := 33) e1_62 rfl rfl (by decide) (by decide) rfl ?_
        refine r_bipush (i := 6) (8 : Int32) kc_bipush_8 rfl rfl ?_
        exact r_retI (i := 7) rfl rfl rfl rfl
      · refine r_tout (i := 1) (tgt := 37) (len := 27) rfl rfl (by have m60 := fw_ni n1_60 (z := 60) (by decide); have m61 := fw_ni n1_61 (z := 61) (by decide); have m62 := fw_ni n1_62 (z := 62) (by decide); omega) rfl ?_
        refine r_iconst (i := 8) (-1 : Int32) kc_iconst_m1 rfl rfl ?_
        exact r_retI (i := 9) rfl rfl rfl rfl
-- LText_comparison
def s_LText_comparison (F : Nat) (h : fw_H) (v0 : Option Nat) (v1 : Int32) : Option fw_H :=
(f_ck h v0 2).bind fun _ =>
(f_gR h v0 2 0).bind fun x1 =>
(s_Tape_peek F h x1).bind fun x4 =>
(s_LText_comparing x4.1).bind fun x7 =>
if ¬ x7 = (-1 : Int32) then ((f_gR x4.2 v0 2 0).bind fun x25 =>
(s_Tape_skip x4.2 x25).bind fun h28 =>
(s_LText_sum F h28 v0 v1).bind fun h33 =>
(f_gR h33 v0 2 1).bind fun x37 =>
(s_Law_emit h33 x37 x7 (0 : Int32)).bind fun h42 =>
some h42) else
(f_gR x4.2 v0 2 0).bind fun x17 =>
(s_Tape_fail x4.2 x17).bind fun h20 =>
some h20
theorem c_LText_comparison {G : fw_G} (F : Nat) {h : fw_H} {v0 : Option Nat} {v1 : Int32} : fw_Call G m_LText_comparison fw_eV 85 0 0 [fw_r v0, fw_i v1] h (s_LText_comparison F h v0 v1) := by
  refine fw_Call.of ok_LText_comparison.1 (Nat.le_of_ble_eq_true rfl) [(0, some (fw_r v0)), (1, some (fw_i v1))] rfl ?_
  refine r_ck ?_
  refine r_aload_n (i := 0) rfl rfl rfl ?_
  refine r_gR (i := 1) (ci := 2) (kf := 0) rfl (Nat.le_of_ble_eq_true rfl) wF_LText_18 rfl rfl fun x1 => ?_
  refine r_VwI0 (i := 2) (k2 := 0) (n2 := 0) ok_Tape_peek wM_LText_33 (c_Tape_peek F) (fun _ e => fw_ckb e) (Nat.le_of_ble_eq_true rfl) (Nat.le_of_ble_eq_true rfl) (Nat.le_of_ble_eq_true rfl) (Nat.le_of_ble_eq_true rfl) rfl rfl fun x4 => ?_
  refine r_SI1 (i := 3) (k2 := 0) (n2 := 0) ok_LText_comparing wM_LText_50 (c_LText_comparing) (Nat.le_of_ble_eq_true rfl) (Nat.le_of_ble_eq_true rfl) (Nat.le_of_ble_eq_true rfl) (Nat.le_of_ble_eq_true rfl) rfl rfl fun x7 => ?_
  refine r_istore_n (i := 4) rfl rfl (Nat.le_of_ble_eq_true rfl) rfl ?_
  refine r_iload_n (i := 5) rfl rfl rfl ?_
  refine r_iconst (i := 6) (-1 : Int32) kc_iconst_m1 rfl rfl ?_
  refine r_icmp_ne (i := 7) (tgt := 24) rfl rfl rfl ?_ ?_
  · refine r_aload_n (i := 12) rfl rfl rfl ?_
    refine r_gR (i := 13) (ci := 2) (kf := 0) rfl (Nat.le_of_ble_eq_true rfl) wF_LText_18 rfl rfl fun x25 => ?_
    refine r_VV0 (i := 14) (k2 := 0) (n2 := 0) ok_Tape_skip wM_LText_70 (c_Tape_skip) (fun _ e => fw_ckb e) (Nat.le_of_ble_eq_true rfl) (Nat.le_of_ble_eq_true rfl) (Nat.le_of_ble_eq_true rfl) (Nat.le_of_ble_eq_true rfl) rfl rfl fun h28 => ?_
    refine r_aload_n (i := 15) rfl rfl rfl ?_
    refine r_iload_n (i := 16) rfl rfl rfl ?_
    refine r_VV1 (i := 17) (k2 := 0) (n2 := 0) ok_LText_sum wM_LText_47 (c_LText_sum F) (fun _ e => ck_LText_sum e) (Nat.le_of_ble_eq_true rfl) (Nat.le_of_ble_eq_true rfl) (Nat.le_of_ble_eq_true rfl) (Nat.le_of_ble_eq_true rfl) rfl rfl fun h33 => ?_
    refine r_aload_n (i := 18) rfl rfl rfl ?_
    refine r_gR (i := 19) (ci := 2) (kf := 1) rfl (Nat.le_of_ble_eq_true rfl) wF_LText_12 rfl rfl fun x37 => ?_
    refine r_iload_n (i := 20) rfl rfl rfl ?_
    refine r_iconst (i := 21) (0 : Int32) kc_iconst_0 rfl rfl ?_
    refine r_VV2 (i := 22) (k2 := 0) (n2 := 0) ok_Law_emit wM_LText_63 (c_Law_emit) (fun _ e => fw_ckb e) (Nat.le_of_ble_eq_true rfl) (Nat.le_of_ble_eq_true rfl) (Nat.le_of_ble_eq_true rfl) (Nat.le_of_ble_eq_true rfl) rfl rfl fun h42 => ?_
    exact r_retV (i := 23) rfl rfl rfl rfl
  · refine r_aload_n (i := 8) rfl rfl rfl ?_
    refine r_gR (i := 9) (ci := 2) (kf := 0) rfl (Nat.le_of_ble_eq_true rfl) wF_LText_18 rfl rfl fun x17 => ?_
    refine r_VV0 (i := 10) (k2 := 0) (n2 := 0) ok_Tape_fail wM_LText_76 (c_Tape_fail) (fun _ e => fw_ckb e) (Nat.le_of_ble_eq_true rfl) (Nat.le_of_ble_eq_true rfl) (Nat.le_of_ble_eq_true rfl) (Nat.le_of_ble_eq_true rfl) rfl rfl fun h20 => ?_
    exact r_retV (i := 11) rfl rfl rfl rfl
-- LText_condition, LText_moreTruths, LText_moreUnits, LText_truth, LText_unit
def b_LText_condition (F : Nat) (g : Nat → fw_H → Option Nat → Int32 → Option fw_H) (h : fw_H) (v0 : Option Nat) (v1 : Int32) : Option fw_H :=
(f_ck h v0 2).bind fun _ =>
(g 3 h v0 v1).bind fun h2 =>
(g 1 h2 v0 v1).bind fun h7 =>
some h7
theorem cb_LText_condition {G : fw_G} {F : Nat} {g : Nat → fw_H → Option Nat → Int32 → Option fw_H} {dd : Nat} (hdd : 86 ≤ dd) (hg0 : ∀ (h : fw_H) (v0 : Option Nat) (v1 : Int32), fw_Call G m_LText_condition fw_eV dd 0 0 [fw_r v0, fw_i v1] h (g 0 h v0 v1)) (hk0 : ∀ {h : fw_H} {v0 : Option Nat} {v1 : Int32} {x : fw_H}, g 0 h v0 v1 = some x → f_ck h v0 2 = some ()) (hg1 : ∀ (h : fw_H) (v0 : Option Nat) (v1 : Int32), fw_Call G m_LText_moreTruths fw_eV dd 0 0 [fw_r v0, fw_i v1] h (g 1 h v0 v1)) (hk1 : ∀ {h : fw_H} {v0 : Option Nat} {v1 : Int32} {x : fw_H}, g 1 h v0 v1 = some x → f_ck h v0 2 = some ()) (hg2 : ∀ (h : fw_H) (v0 : Option Nat) (v1 : Int32), fw_Call G m_LText_moreUnits fw_eV dd 0 0 [fw_r v0, fw_i v1] h (g 2 h v0 v1)) (hk2 : ∀ {h : fw_H} {v0 : Option Nat} {v1 : Int32} {x : fw_H}, g 2 h v0 v1 = some x → f_ck h v0 2 = some ()) (hg3 : ∀ (h : fw_H) (v0 : Option Nat) (v1 : Int32), fw_Call G m_LText_truth fw_eV dd 0 0 [fw_r v0, fw_i v1] h (g 3 h v0 v1)) (hk3 : ∀ {h : fw_H} {v0 : Option Nat} {v1 : Int32} {x : fw_H}, g 3 h v0 v1 = some x → f_ck h v0 2 = some ()) (hg4 : ∀ (h : fw_H) (v0 : Option Nat) (v1 : Int32), fw_Call G m_LText_unit fw_eV dd 0 0 [fw_r v0, fw_i v1] h (g 4 h v0 v1)) (hk4 : ∀ {h : fw_H} {v0 : Option Nat} {v1 : Int32} {x : fw_H}, g 4 h v0 v1 = some x → f_ck h v0 2 = some ()) {h : fw_H} {v0 : Option Nat} {v1 : Int32} : fw_Call G m_LText_condition fw_eV (dd + 1) 0 0 [fw_r v0, fw_i v1] h (b_LText_condition F g h v0 v1) := by
  refine fw_Call.of ok_LText_condition.1 (Nat.le_of_ble_eq_true rfl) [(0, some (fw_r v0)), (1, some (fw_i v1))] rfl ?_
  refine r_ck ?_
  refine r_aload_n (i := 0) rfl rfl rfl ?_
  refine r_iload_n (i := 1) rfl rfl rfl ?_
  refine r_VV1 (i := 2) (k2 := 0) (n2 := 0) ok_LText_truth wM_LText_67 (hg3 _ _ _) (fun _ e => hk3 e) (Nat.le_refl _) (Nat.le_of_ble_eq_true rfl) (Nat.le_of_ble_eq_true rfl) (Nat.le_of_ble_eq_true rfl) rfl rfl fun h2 => ?_
  refine r_aload_n (i := 3) rfl rfl rfl ?_
  refine r_iload_n (i := 4) rfl rfl rfl ?_
  refine r_VV1 (i := 5) (k2 := 0) (n2 := 0) ok_LText_moreTruths wM_LText_60 (hg1 _ _ _) (fun _ e => hk1 e) (Nat.le_refl _) (Nat.le_of_ble_eq_true rfl) (Nat.le_of_ble_eq_true rfl) (Nat.le_of_ble_eq_true rfl) rfl rfl fun h7 => ?_
  exact r_retV (i := 6) rfl rfl rfl rfl
def l_LText_moreTruths_2 (F : Nat) (g : Nat → fw_H → Option Nat → Int32 → Option fw_H) (v0 : Option Nat) (v1 : Int32) : Nat → Int32 → fw_H → Option fw_H
  | 0, _, _ => none
  | nn + 1, a2_2, g2 =>
    if (240 : Int32) ≤ a2_2 then (some g2) else
    (f_gR g2 v0 2 0).bind fun x10 =>
    (s_Tape_peek F g2 x10).bind fun x13 =>
    if ¬ x13.1 = (124 : Int32) then (some x13.2) else
    (f_gR x13.2 v0 2 0).bind fun x22 =>
    (s_Tape_skip x13.2 x22).bind fun h25 =>
    (g 3 h25 v0 v1).bind fun h30 =>
    (f_gR h30 v0 2 1).bind fun x34 =>
    (s_Law_emit h30 x34 (10 : Int32) (0 : Int32)).bind fun h40 =>
    l_LText_moreTruths_2 F g v0 v1 nn (a2_2 + (1 : Int32)) h40
theorem cl_LText_moreTruths_2 {G : fw_G} {F : Nat} {g : Nat → fw_H → Option Nat → Int32 → Option fw_H} {dd : Nat} {v0 : Option Nat} {v1 : Int32} (hdd : 86 ≤ dd) (hg0 : ∀ (h : fw_H) (v0 : Option Nat) (v1 : Int32), fw_Call G m_LText_condition fw_eV dd 0 0 [fw_r v0, fw_i v1] h (g 0 h v0 v1)) (hk0 : ∀ {h : fw_H} {v0 : Option Nat} {v1 : Int32} {x : fw_H}, g 0 h v0 v1 = some x → f_ck h v0 2 = some ()) (hg1 : ∀ (h : fw_H) (v0 : Option Nat) (v1 : Int32), fw_Call G m_LText_moreTruths fw_eV dd 0 0 [fw_r v0, fw_i v1] h (g 1 h v0 v1)) (hk1 : ∀ {h : fw_H} {v0 : Option Nat} {v1 : Int32} {x : fw_H}, g 1 h v0 v1 = some x → f_ck h v0 2 = some ()) (hg2 : ∀ (h : fw_H) (v0 : Option Nat) (v1 : Int32), fw_Call G m_LText_moreUnits fw_eV dd 0 0 [fw_r v0, fw_i v1] h (g 2 h v0 v1)) (hk2 : ∀ {h : fw_H} {v0 : Option Nat} {v1 : Int32} {x : fw_H}, g 2 h v0 v1 = some x → f_ck h v0 2 = some ()) (hg3 : ∀ (h : fw_H) (v0 : Option Nat) (v1 : Int32), fw_Call G m_LText_truth fw_eV dd 0 0 [fw_r v0, fw_i v1] h (g 3 h v0 v1)) (hk3 : ∀ {h : fw_H} {v0 : Option Nat} {v1 : Int32} {x : fw_H}, g 3 h v0 v1 = some x → f_ck h v0 2 = some ()) (hg4 : ∀ (h : fw_H) (v0 : Option Nat) (v1 : Int32), fw_Call G m_LText_unit fw_eV dd 0 0 [fw_r v0, fw_i v1] h (g 4 h v0 v1)) (hk4 : ∀ {h : fw_H} {v0 : Option Nat} {v1 : Int32} {x : fw_H}, g 4 h v0 v1 = some x → f_ck h v0 2 = some ()) : ∀ (nn : Nat) (a2_2 : Int32) (g2 : fw_H), fw_R G m_LText_moreTruths fw_eV (dd + 1) 0 0 2 [(0, some (fw_r v0)), (1, some (fw_i v1)), (2, some (fw_i a2_2))] [] g2 (l_LText_moreTruths_2 F g v0 v1 nn a2_2 g2) := by
  intro nn
  induction nn with
  | zero => intros; exact r_none
  | succ nn ih =>
    intro a2_2 g2
    rw [l_LText_moreTruths_2]
    refine r_iload_n (i := 2) rfl rfl rfl ?_
    refine r_sipush (i := 3) (240 : Int32) kc_sipush_240 rfl rfl ?_
    refine r_icmp_ge (i := 4) (tgt := 49) rfl rfl rfl ?_ ?_
    · exact r_retV (i := 23) rfl rfl rfl rfl
    · refine r_aload_n (i := 5) rfl rfl rfl ?_
      refine r_gR (i := 6) (ci := 2) (kf := 0) rfl (Nat.le_of_ble_eq_true rfl) wF_LText_18 rfl rfl fun x10 => ?_
      refine r_VwI0 (i := 7) (k2 := 0) (n2 := 0) ok_Tape_peek wM_LText_33 (c_Tape_peek F) (fun _ e => fw_ckb e) (by omega) (Nat.le_of_ble_eq_true rfl) (Nat.le_of_ble_eq_true rfl) (Nat.le_of_ble_eq_true rfl) rfl rfl fun x13 => ?_
      refine r_bipush (i := 8) (124 : Int32) kc_bipush_124 rfl rfl ?_
      refine r_icmp_ne (i := 9) (tgt := 49) rfl rfl rfl ?_ ?_
      · exact r_retV (i := 23) rfl rfl rfl rfl
      · refine r_aload_n (i := 10) rfl rfl rfl ?_
        refine r_gR (i := 11) (ci := 2) (kf := 0) rfl (Nat.le_of_ble_eq_true rfl) wF_LText_18 rfl rfl fun x22 => ?_
        refine r_VV0 (i := 12) (k2 := 0) (n2 := 0) ok_Tape_skip wM_LText_70 (c_Tape_skip) (fun _ e => fw_ckb e) (by omega) (Nat.le_of_ble_eq_true rfl) (Nat.le_of_ble_eq_true rfl) (Nat.le_of_ble_eq_true rfl) rfl rfl fun h25 => ?_
        refine r_aload_n (i := 13) rfl rfl rfl ?_
        refine r_iload_n (i := 14) rfl rfl rfl ?_
        refine r_VV1 (i := 15) (k2 := 0) (n2 := 0) ok_LText_truth wM_LText_67 (hg3 _ _ _) (fun _ e => hk3 e) (Nat.le_refl _) (Nat.le_of_ble_eq_true rfl) (Nat.le_of_ble_eq_true rfl) (Nat.le_of_ble_eq_true rfl) rfl rfl fun h30 => ?_
        refine r_aload_n (i := 16) rfl rfl rfl ?_
        refine r_gR (i := 17) (ci := 2) (kf := 1) rfl (Nat.le_of_ble_eq_true rfl) wF_LText_12 rfl rfl fun x34 => ?_
        refine r_bipush (i := 18) (10 : Int32) kc_bipush_10 rfl rfl ?_
        refine r_iconst (i := 19) (0 : Int32) kc_iconst_0 rfl rfl ?_
        refine r_VV2 (i := 20) (k2 := 0) (n2 := 0) ok_Law_emit wM_LText_63 (c_Law_emit) (fun _ e => fw_ckb e) (by omega) (Nat.le_of_ble_eq_true rfl) (Nat.le_of_ble_eq_true rfl) (Nat.le_of_ble_eq_true rfl) rfl rfl fun h40 => ?_
        refine r_iinc (i := 21) (1 : Int32) kc_iconst_1 rfl rfl rfl (Nat.le_of_ble_eq_true rfl) ?_
        refine r_goto (i := 22) (tgt := 2) rfl rfl rfl ?_
        exact r_lv (fw_sub1 rfl (fw_sub1 rfl (fw_sub1 rfl fw_sub0))) (ih (a2_2 + (1 : Int32)) h40)
def b_LText_moreTruths (F : Nat) (g : Nat → fw_H → Option Nat → Int32 → Option fw_H) (h : fw_H) (v0 : Option Nat) (v1 : Int32) : Option fw_H :=
(f_ck h v0 2).bind fun _ =>
l_LText_moreTruths_2 F g v0 v1 F (0 : Int32) h
theorem cb_LText_moreTruths {G : fw_G} {F : Nat} {g : Nat → fw_H → Option Nat → Int32 → Option fw_H} {dd : Nat} (hdd : 86 ≤ dd) (hg0 : ∀ (h : fw_H) (v0 : Option Nat) (v1 : Int32), fw_Call G m_LText_condition fw_eV dd 0 0 [fw_r v0, fw_i v1] h (g 0 h v0 v1)) (hk0 : ∀ {h : fw_H} {v0 : Option Nat} {v1 : Int32} {x : fw_H}, g 0 h v0 v1 = some x → f_ck h v0 2 = some ()) (hg1 : ∀ (h : fw_H) (v0 : Option Nat) (v1 : Int32), fw_Call G m_LText_moreTruths fw_eV dd 0 0 [fw_r v0, fw_i v1] h (g 1 h v0 v1)) (hk1 : ∀ {h : fw_H} {v0 : Option Nat} {v1 : Int32} {x : fw_H}, g 1 h v0 v1 = some x → f_ck h v0 2 = some ()) (hg2 : ∀ (h : fw_H) (v0 : Option Nat) (v1 : Int32), fw_Call G m_LText_moreUnits fw_eV dd 0 0 [fw_r v0, fw_i v1] h (g 2 h v0 v1)) (hk2 : ∀ {h : fw_H} {v0 : Option Nat} {v1 : Int32} {x : fw_H}, g 2 h v0 v1 = some x → f_ck h v0 2 = some ()) (hg3 : ∀ (h : fw_H) (v0 : Option Nat) (v1 : Int32), fw_Call G m_LText_truth fw_eV dd 0 0 [fw_r v0, fw_i v1] h (g 3 h v0 v1)) (hk3 : ∀ {h : fw_H} {v0 : Option Nat} {v1 : Int32} {x : fw_H}, g 3 h v0 v1 = some x → f_ck h v0 2 = some ()) (hg4 : ∀ (h : fw_H) (v0 : Option Nat) (v1 : Int32), fw_Call G m_LText_unit fw_eV dd 0 0 [fw_r v0, fw_i v1] h (g 4 h v0 v1)) (hk4 : ∀ {h : fw_H} {v0 : Option Nat} {v1 : Int32} {x : fw_H}, g 4 h v0 v1 = some x → f_ck h v0 2 = some ()) {h : fw_H} {v0 : Option Nat} {v1 : Int32} : fw_Call G m_LText_moreTruths fw_eV (dd + 1) 0 0 [fw_r v0, fw_i v1] h (b_LText_moreTruths F g h v0 v1) := by
  refine fw_Call.of ok_LText_moreTruths.1 (Nat.le_of_ble_eq_true rfl) [(0, some (fw_r v0)), (1, some (fw_i v1))] rfl ?_
  refine r_ck ?_
  refine r_iconst (i := 0) (0 : Int32) kc_iconst_0 rfl rfl ?_
  refine r_istore_n (i := 1) rfl rfl (Nat.le_of_ble_eq_true rfl) rfl ?_
  refine r_lv (fw_sub1 rfl (fw_sub1 rfl (fw_sub1 rfl fw_sub0))) (cl_LText_moreTruths_2 hdd hg0 hk0 hg1 hk1 hg2 hk2 hg3 hk3 hg4 hk4 F _ _)
def l_LText_moreUnits_2 (F : Nat) (g : Nat → fw_H → Option Nat → Int32 → Option fw_H) (v0 : Option Nat) (v1 : Int32) : Nat → Int32 → fw_H → Option fw_H
  | 0, _, _ => none
  | nn + 1, a2_2, g2 =>
    if (240 : Int32) ≤ a2_2 then (some g2) else
    (f_gR g2 v0 2 0).bind fun x10 =>
    (s_Tape_peek F g2 x10).bind fun x13 =>
    if ¬ x13.1 = (38 : Int32) then (some x13.2) else
    (f_gR x13.2 v0 2 0).bind fun x22 =>
    (s_Tape_skip x13.2 x22).bind fun h25 =>
    (g 4 h25 v0 v1).bind fun h30 =>
    (f_gR h30 v0 2 1).bind fun x34 =>
    (s_Law_emit h30 x34 (9 : Int32) (0 : Int32)).bind fun h40 =>
    l_LText_moreUnits_2 F g v0 v1 nn (a2_2 + (1 : Int32)) h40
theorem cl_LText_moreUnits_2 {G : fw_G} {F : Nat} {g : Nat → fw_H → Option Nat → Int32 → Option fw_H} {dd : Nat} {v0 : Option Nat} {v1 : Int32} (hdd : 86 ≤ dd) (hg0 : ∀ (h : fw_H) (v0 : Option Nat) (v1 : Int32), fw_Call G m_LText_condition fw_eV dd 0 0 [fw_r v0, fw_i v1] h (g 0 h v0 v1)) (hk0 : ∀ {h : fw_H} {v0 : Option Nat} {v1 : Int32} {x : fw_H}, g 0 h v0 v1 = some x → f_ck h v0 2 = some ()) (hg1 : ∀ (h : fw_H) (v0 : Option Nat) (v1 : Int32), fw_Call G m_LText_moreTruths fw_eV dd 0 0 [fw_r v0, fw_i v1] h (g 1 h v0 v1)) (hk1 : ∀ {h : fw_H} {v0 : Option Nat} {v1 : Int32} {x : fw_H}, g 1 h v0 v1 = some x → f_ck h v0 2 = some ()) (hg2 : ∀ (h : fw_H) (v0 : Option Nat) (v1 : Int32), fw_Call G m_LText_moreUnits fw_eV dd 0 0 [fw_r v0, fw_i v1] h (g 2 h v0 v1)) (hk2 : ∀ {h : fw_H} {v0 : Option Nat} {v1 : Int32} {x : fw_H}, g 2 h v0 v1 = some x → f_ck h v0 2 = some ()) (hg3 : ∀ (h : fw_H) (v0 : Option Nat) (v1 : Int32), fw_Call G m_LText_truth fw_eV dd 0 0 [fw_r v0, fw_i v1] h (g 3 h v0 v1)) (hk3 : ∀ {h : fw_H} {v0 : Option Nat} {v1 : Int32} {x : fw_H}, g 3 h v0 v1 = some x → f_ck h v0 2 = some ()) (hg4 : ∀ (h : fw_H) (v0 : Option Nat) (v1 : Int32), fw_Call G m_LText_unit fw_eV dd 0 0 [fw_r v0, fw_i v1] h (g 4 h v0 v1)) (hk4 : ∀ {h : fw_H} {v0 : Option Nat} {v1 : Int32} {x : fw_H}, g 4 h v0 v1 = some x → f_ck h v0 2 = some ()) : ∀ (nn : Nat) (a2_2 : Int32) (g2 : fw_H), fw_R G m_LText_moreUnits fw_eV (dd + 1) 0 0 2 [(0, some (fw_r v0)), (1, some (fw_i v1)), (2, some (fw_i a2_2))] [] g2 (l_LText_moreUnits_2 F g v0 v1 nn a2_2 g2) := by
  intro nn
  induction nn with
  | zero => intros; exact r_none
  | succ nn ih =>
    intro a2_2 g2
    rw [l_LText_moreUnits_2]
    refine r_iload_n (i := 2) rfl rfl rfl ?_
    refine r_sipush (i := 3) (240 : Int32) kc_sipush_240 rfl rfl ?_
    refine r_icmp_ge (i := 4) (tgt := 49) rfl rfl rfl ?_ ?_
    · exact r_retV (i := 23) rfl rfl rfl rfl
    · refine r_aload_n (i := 5) rfl rfl rfl ?_
      refine r_gR (i := 6) (ci := 2) (kf := 0) rfl (Nat.le_of_ble_eq_true rfl) wF_LText_18 rfl rfl fun x10 => ?_
      refine r_VwI0 (i := 7) (k2 := 0) (n2 := 0) ok_Tape_peek wM_LText_33 (c_Tape_peek F) (fun _ e => fw_ckb e) (by omega) (Nat.le_of_ble_eq_true rfl) (Nat.le_of_ble_eq_true rfl) (Nat.le_of_ble_eq_true rfl) rfl rfl fun x13 => ?_
      refine r_bipush (i := 8) (38 : Int32) kc_bipush_38 rfl rfl ?_
      refine r_icmp_ne (i := 9) (tgt := 49) rfl rfl rfl ?_ ?_
      · exact r_retV (i := 23) rfl rfl rfl rfl
      · refine r_aload_n (i := 10) rfl rfl rfl ?_
        refine r_gR (i := 11) (ci := 2) (kf := 0) rfl (Nat.le_of_ble_eq_true rfl) wF_LText_18 rfl rfl fun x22 => ?_
        refine r_VV0 (i := 12) (k2 := 0) (n2 := 0) ok_Tape_skip wM_LText_70 (c_Tape_skip) (fun _ e => fw_ckb e) (by omega) (Nat.le_of_ble_eq_true rfl) (Nat.le_of_ble_eq_true rfl) (Nat.le_of_ble_eq_true rfl) rfl rfl fun h25 => ?_
        refine r_aload_n (i := 13) rfl rfl rfl ?_
        refine r_iload_n (i := 14) rfl rfl rfl ?_
        refine r_VV1 (i := 15) (k2 := 0) (n2 := 0) ok_LText_unit wM_LText_73 (hg4 _ _ _) (fun _ e => hk4 e) (Nat.le_refl _) (Nat.le_of_ble_eq_true rfl) (Nat.le_of_ble_eq_true rfl) (Nat.le_of_ble_eq_true rfl) rfl rfl fun h30 => ?_
        refine r_aload_n (i := 16) rfl rfl rfl ?_
        refine r_gR (i := 17) (ci := 2) (kf := 1) rfl (Nat.le_of_ble_eq_true rfl) wF_LText_12 rfl rfl fun x34 => ?_
        refine r_bipush (i := 18) (9 : Int32) kc_bipush_9 rfl rfl ?_
        refine r_iconst (i := 19) (0 : Int32) kc_iconst_0 rfl rfl ?_
        refine r_VV2 (i := 20) (k2 := 0) (n2 := 0) ok_Law_emit wM_LText_63 (c_Law_emit) (fun _ e => fw_ckb e) (by omega) (Nat.le_of_ble_eq_true rfl) (Nat.le_of_ble_eq_true rfl) (Nat.le_of_ble_eq_true rfl) rfl rfl fun h40 => ?_
        refine r_iinc (i := 21) (1 : Int32) kc_iconst_1 rfl rfl rfl (Nat.le_of_ble_eq_true rfl) ?_
        refine r_goto (i := 22) (tgt := 2) rfl rfl rfl ?_
        exact r_lv (fw_sub1 rfl (fw_sub1 rfl (fw_sub1 rfl fw_sub0))) (ih (a2_2 + (1 : Int32)) h40)
def b_LText_moreUnits (F : Nat) (g : Nat → fw_H → Option Nat → Int32 → Option fw_H) (h : fw_H) (v0 : Option Nat) (v1 : Int32) : Option fw_H :=
(f_ck h v0 2).bind fun _ =>
l_LText_moreUnits_2 F g v0 v1 F (0 : Int32) h
theorem cb_LText_moreUnits {G : fw_G} {F : Nat} {g : Nat → fw_H → Option Nat → Int32 → Option fw_H} {dd : Nat} (hdd : 86 ≤ dd) (hg0 : ∀ (h : fw_H) (v0 : Option Nat) (v1 : Int32), fw_Call G m_LText_condition fw_eV dd 0 0 [fw_r v0, fw_i v1] h (g 0 h v0 v1)) (hk0 : ∀ {h : fw_H} {v0 : Option Nat} {v1 : Int32} {x : fw_H}, g 0 h v0 v1 = some x → f_ck h v0 2 = some ()) (hg1 : ∀ (h : fw_H) (v0 : Option Nat) (v1 : Int32), fw_Call G m_LText_moreTruths fw_eV dd 0 0 [fw_r v0, fw_i v1] h (g 1 h v0 v1)) (hk1 : ∀ {h : fw_H} {v0 : Option Nat} {v1 : Int32} {x : fw_H}, g 1 h v0 v1 = some x → f_ck h v0 2 = some ()) (hg2 : ∀ (h : fw_H) (v0 : Option Nat) (v1 : Int32), fw_Call G m_LText_moreUnits fw_eV dd 0 0 [fw_r v0, fw_i v1] h (g 2 h v0 v1)) (hk2 : ∀ {h : fw_H} {v0 : Option Nat} {v1 : Int32} {x : fw_H}, g 2 h v0 v1 = some x → f_ck h v0 2 = some ()) (hg3 : ∀ (h : fw_H) (v0 : Option Nat) (v1 : Int32), fw_Call G m_LText_truth fw_eV dd 0 0 [fw_r v0, fw_i v1] h (g 3 h v0 v1)) (hk3 : ∀ {h : fw_H} {v0 : Option Nat} {v1 : Int32} {x : fw_H}, g 3 h v0 v1 = some x → f_ck h v0 2 = some ()) (hg4 : ∀ (h : fw_H) (v0 : Option Nat) (v1 : Int32), fw_Call G m_LText_unit fw_eV dd 0 0 [fw_r v0, fw_i v1] h (g 4 h v0 v1)) (hk4 : ∀ {h : fw_H} {v0 : Option Nat} {v1 : Int32} {x : fw_H}, g 4 h v0 v1 = some x → f_ck h v0 2 = some ()) {h : fw_H} {v0 : Option Nat} {v1 : Int32} : fw_Call G m_LText_moreUnits fw_eV (dd + 1) 0 0 [fw_r v0, fw_i v1] h (b_LText_moreUnits F g h v0 v1) := by
  refine fw_Call.of ok_LText_moreUnits.1 (Nat.le_of_ble_eq_true rfl) [(0, some (fw_r v0)), (1, some (fw_i v1))] rfl ?_
  refine r_ck ?_
  refine r_iconst (i := 0) (0 : Int32) kc_iconst_0 rfl rfl ?_
  refine r_istore_n (i := 1) rfl rfl (Nat.le_of_ble_eq_true rfl) rfl ?_
  refine r_lv (fw_sub1 rfl (fw_sub1 rfl (fw_sub1 rfl fw_sub0))) (cl_LText_moreUnits_2 hdd hg0 hk0 hg1 hk1 hg2 hk2 hg3 hk3 hg4 hk4 F _ _)
def b_LText_truth (F : Nat) (g : Nat → fw_H → Option Nat → Int32 → Option fw_H) (h : fw_H) (v0 : Option Nat) (v1 : Int32) : Option fw_H :=
(f_ck h v0 2).bind fun _ =>
(g 4 h v0 v1).bind fun h2 =>
(g 2 h2 v0 v1).bind fun h7 =>
some h7
theorem cb_LText_truth {G : fw_G} {F : Nat} {g : Nat → fw_H → Option Nat → Int32 → Option fw_H} {dd : Nat} (hdd : 86 ≤ dd) (hg0 : ∀ (h : fw_H) (v0 : Option Nat) (v1 : Int32), fw_Call G m_LText_condition fw_eV dd 0 0 [fw_r v0, fw_i v1] h (g 0 h v0 v1)) (hk0 : ∀ {h : fw_H} {v0 : Option Nat} {v1 : Int32} {x : fw_H}, g 0 h v0 v1 = some x → f_ck h v0 2 = some ()) (hg1 : ∀ (h : fw_H) (v0 : Option Nat) (v1 : Int32), fw_Call G m_LText_moreTruths fw_eV dd 0 0 [fw_r v0, fw_i v1] h (g 1 h v0 v1)) (hk1 : ∀ {h : fw_H} {v0 : Option Nat} {v1 : Int32} {x : fw_H}, g 1 h v0 v1 = some x → f_ck h v0 2 = some ()) (hg2 : ∀ (h : fw_H) (v0 : Option Nat) (v1 : Int32), fw_Call G m_LText_moreUnits fw_eV dd 0 0 [fw_r v0, fw_i v1] h (g 2 h v0 v1)) (hk2 : ∀ {h : fw_H} {v0 : Option Nat} {v1 : Int32} {x : fw_H}, g 2 h v0 v1 = some x → f_ck h v0 2 = some ()) (hg3 : ∀ (h : fw_H) (v0 : Option Nat) (v1 : Int32), fw_Call G m_LText_truth fw_eV dd 0 0 [fw_r v0, fw_i v1] h (g 3 h v0 v1)) (hk3 : ∀ {h : fw_H} {v0 : Option Nat} {v1 : Int32} {x : fw_H}, g 3 h v0 v1 = some x → f_ck h v0 2 = some ()) (hg4 : ∀ (h : fw_H) (v0 : Option Nat) (v1 : Int32), fw_Call G m_LText_unit fw_eV dd 0 0 [fw_r v0, fw_i v1] h (g 4 h v0 v1)) (hk4 : ∀ {h : fw_H} {v0 : Option Nat} {v1 : Int32} {x : fw_H}, g 4 h v0 v1 = some x → f_ck h v0 2 = some ()) {h : fw_H} {v0 : Option Nat} {v1 : Int32} : fw_Call G m_LText_truth fw_eV (dd + 1) 0 0 [fw_r v0, fw_i v1] h (b_LText_truth F g h v0 v1) := by
  refine fw_Call.of ok_LText_truth.1 (Nat.le_of_ble_eq_true rfl) [(0, some (fw_r v0)), (1, some (fw_i v1))] rfl ?_
  refine r_ck ?_
  refine r_aload_n (i := 0) rfl rfl rfl ?_
  refine r_iload_n (i := 1) rfl rfl rfl ?_
  refine r_VV1 (i := 2) (k2 := 0) (n2 := 0) ok_LText_unit wM_LText_73 (hg4 _ _ _) (fun _ e => hk4 e) (Nat.le_refl _) (Nat.le_of_ble_eq_true rfl) (Nat.le_of_ble_eq_true rfl) (Nat.le_of_ble_eq_true rfl) rfl rfl fun h2 => ?_
  refine r_aload_n (i := 3) rfl rfl rfl ?_
  refine r_iload_n (i := 4) rfl rfl rfl ?_
  refine r_VV1 (i := 5) (k2 := 0) (n2 := 0) ok_LText_moreUnits wM_LText_57 (hg2 _ _ _) (fun _ e => hk2 e) (Nat.le_refl _) (Nat.le_of_ble_eq_true rfl) (Nat.le_of_ble_eq_true rfl) (Nat.le_of_ble_eq_true rfl) rfl rfl fun h7 => ?_
  exact r_retV (i := 6) rfl rfl rfl rfl
def b_LText_unit (F : Nat) (g : Nat → fw_H → Option Nat → Int32 → Option fw_H) (h : fw_H) (v0 : Option Nat) (v1 : Int32) : Option fw_H :=
(f_ck h v0 2).bind fun _ =>
(f_gR h v0 2 0).bind fun x1 =>
(s_Tape_peek F h x1).bind fun x4 =>
if x4.1 = (33 : Int32) then (if v1 < (6 : Int32) then (if ¬ x4.1 = (33 : Int32) then ((f_gR x4.2 v0 2 0).bind fun x83 =>
(s_Tape_skip x4.2 x83).bind fun h86 =>
(g 0 h86 v0 (v1 + (1 : Int32))).bind fun h93 =>
(f_gR h93 v0 2 0).bind fun x97 =>
(s_Tape_expect F h93 x97 (41 : Int32)).bind fun h102 =>
some h102) else
(f_gR x4.2 v0 2 0).bind fun x56 =>
(s_Tape_skip x4.2 x56).bind fun h59 =>
(g 4 h59 v0 (v1 + (1 : Int32))).bind fun h66 =>
(f_gR h66 v0 2 1).bind fun x70 =>
(s_Law_emit h66 x70 (11 : Int32) (0 : Int32)).bind fun h76 =>
some h76) else
(f_gR x4.2 v0 2 0).bind fun x40 =>
(s_Tape_fail x4.2 x40).bind fun h43 =>
some h43) else
if x4.1 = (40 : Int32) then (if v1 < (6 : Int32) then (if ¬ x4.1 = (33 : Int32) then ((f_gR x4.2 v0 2 0).bind fun x83 =>
(s_Tape_skip x4.2 x83).bind fun h86 =>
(g 0 h86 v0 (v1 + (1 : Int32))).bind fun h93 =>
(f_gR h93 v0 2 0).bind fun x97 =>
(s_Tape_expect F h93 x97 (41 : Int32)).bind fun h102 =>
some h102) else
(f_gR x4.2 v0 2 0).bind fun x56 =>
(s_Tape_skip x4.2 x56).bind fun h59 =>
(g 4 h59 v0 (v1 + (1 : Int32))).bind fun h66 =>
(f_gR h66 v0 2 1).bind fun x70 =>
(s_Law_emit h66 x70 (11 : Int32) (0 : Int32)).bind fun h76 =>
some h76) else
(f_gR x4.2 v0 2 0).bind fun x40 =>
(s_Tape_fail x4.2 x40).bind fun h43 =>
some h43) else
(s_LText_sum F x4.2 v0 v1).bind fun h22 =>
(s_LText_comparison F h22 v0 v1).bind fun h27 =>
some h27
theorem cb_LText_unit {G : fw_G} {F : Nat} {g : Nat → fw_H → Option Nat → Int32 → Option fw_H} {dd : Nat} (hdd : 86 ≤ dd) (hg0 : ∀ (h : fw_H) (v0 : Option Nat) (v1 : Int32), fw_Call G m_LText_condition fw_eV dd 0 0 [fw_r v0, fw_i v1] h (g 0 h v0 v1)) (hk0 : ∀ {h : fw_H} {v0 : Option Nat} {v1 : Int32} {x : fw_H}, g 0 h v0 v1 = some x → f_ck h v0 2 = some ()) (hg1 : ∀ (h : fw_H) (v0 : Option Nat) (v1 : Int32), fw_Call G m_LText_moreTruths fw_eV dd 0 0 [fw_r v0, fw_i v1] h (g 1 h v0 v1)) (hk1 : ∀ {h : fw_H} {v0 : Option Nat} {v1 : Int32} {x : fw_H}, g 1 h v0 v1 = some x → f_ck h v0 2 = some ()) (hg2 : ∀ (h : fw_H) (v0 : Option Nat) (v1 : Int32), fw_Call G m_LText_moreUnits fw_eV dd 0 0 [fw_r v0, fw_i v1] h (g 2 h v0 v1)) (hk2 : ∀ {h : fw_H} {v0 : Option Nat} {v1 : Int32} {x : fw_H}, g 2 h v0 v1 = some x → f_ck h v0 2 = some ()) (hg3 : ∀ (h : fw_H) (v0 : Option Nat) (v1 : Int32), fw_Call G m_LText_truth fw_eV dd 0 0 [fw_r v0, fw_i v1] h (g 3 h v0 v1)) (hk3 : ∀ {h : fw_H} {v0 : Option Nat} {v1 : Int32} {x : fw_H}, g 3 h v0 v1 = some x → f_ck h v0 2 = some ()) (hg4 : ∀ (h : fw_H) (v0 : Option Nat) (v1 : Int32), fw_Call G m_LText_unit fw_eV dd 0 0 [fw_r v0, fw_i v1] h (g 4 h v0 v1)) (hk4 : ∀ {h : fw_H} {v0 : Option Nat} {v1 : Int32} {x : fw_H}, g 4 h v0 v1 = some x → f_ck h v0 2 = some ()) {h : fw_H} {v0 : Option Nat} {v1 : Int32} : fw_Call G m_LText_unit fw_eV (dd + 1) 0 0 [fw_r v0, fw_i v1] h (b_LText_unit F g h v0 v1) := by
  refine fw_Call.of ok_LText_unit.1 (Nat.le_of_ble_eq_true rfl) [(0, some (fw_r v0)), (1, some (fw_i v1))] rfl ?_
  refine r_ck ?_
  refine r_aload_n (i := 0) rfl rfl rfl ?_
  refine r_gR (i := 1) (ci := 2) (kf := 0) rfl (Nat.le_of_ble_eq_true rfl) wF_LText_18 rfl rfl fun x1 => ?_
  refine r_VwI0 (i := 2) (k2 := 0) (n2 := 0) ok_Tape_peek wM_LText_33 (c_Tape_peek F) (fun _ e => fw_ckb e) (by omega) (Nat.le_of_ble_eq_true rfl) (Nat.le_of_ble_eq_true rfl) (Nat.le_of_ble_eq_true rfl) rfl rfl fun x4 => ?_
  refine r_istore_n (i := 3) rfl rfl (Nat.le_of_ble_eq_true rfl) rfl ?_
  refine r_iload_n (i := 4) rfl rfl rfl ?_
  refine r_bipush (i := 5) (33 : Int32) kc_bipush_33 rfl rfl ?_
  refine r_icmp_eq (i := 6) (tgt := 33) rfl rfl rfl ?_ ?_
  · refine r_iload_n (i := 17) rfl rfl rfl ?_
    refine r_bipush (i := 18) (6 : Int32) kc_bipush_6 rfl rfl ?_
    refine r_icmp_lt (i := 19) (tgt := 49) rfl rfl rfl ?_ ?_
    · refine r_iload_n (i := 24) rfl rfl rfl ?_
      refine r_bipush (i := 25) (33 : Int32) kc_bipush_33 rfl rfl ?_
      refine r_icmp_ne (i := 26) (tgt := 82) rfl rfl rfl ?_ ?_
      · refine r_aload_n (i := 41) rfl rfl rfl ?_
        refine r_gR (i := 42) (ci := 2) (kf := 0) rfl (Nat.le_of_ble_eq_true rfl) wF_LText_18 rfl rfl fun x83 => ?_
        refine r_VV0 (i := 43) (k2 := 0) (n2 := 0) ok_Tape_skip wM_LText_70 (c_Tape_skip) (fun _ e => fw_ckb e) (by omega) (Nat.le_of_ble_eq_true rfl) (Nat.le_of_ble_eq_true rfl) (Nat.le_of_ble_eq_true rfl) rfl rfl fun h86 => ?_
        refine r_aload_n (i := 44) rfl rfl rfl ?_
        refine r_iload_n (i := 45) rfl rfl rfl ?_
        refine r_iconst (i := 46) (1 : Int32) kc_iconst_1 rfl rfl ?_
        refine r_iadd (i := 47) rfl rfl ?_
        refine r_VV1 (i := 48) (k2 := 0) (n2 := 0) ok_LText_condition wM_LText_44 (hg0 _ _ _) (fun _ e => hk0 e) (Nat.le_refl _) (Nat.le_of_ble_eq_true rfl) (Nat.le_of_ble_eq_true rfl) (Nat.le_of_ble_eq_true rfl) rfl rfl fun h93 => ?_
        refine r_aload_n (i := 49) rfl rfl rfl ?_
        refine r_gR (i := 50) (ci := 2) (kf := 0) rfl (Nat.le_of_ble_eq_true rfl) wF_LText_18 rfl rfl fun x97 => ?_
        refine r_bipush (i := 51) (41 : Int32) kc_bipush_41 rfl rfl ?_
        refine r_VV1 (i := 52) (k2 := 0) (n2 := 0) ok_Tape_expect wM_LText_37 (c_Tape_expect F) (fun _ e => fw_ckb e) (by omega) (Nat.le_of_ble_eq_true rfl) (Nat.le_of_ble_eq_true rfl) (Nat.le_of_ble_eq_true rfl) rfl rfl fun h102 => ?_
        exact r_retV (i := 53) rfl rfl rfl rfl
      · refine r_aload_n (i := 27) rfl rfl rfl ?_
        refine r_gR (i := 28) (ci := 2) (kf := 0) rfl (Nat.le_of_ble_eq_true rfl) wF_LText_18 rfl rfl fun x56 => ?_
        refine r_VV0 (i := 29) (k2 := 0) (n2 := 0) ok_Tape_skip wM_LText_70 (c_Tape_skip) (fun _ e => fw_ckb e) (by omega) (Nat.le_of_ble_eq_true rfl) (Nat.le_of_ble_eq_true rfl) (Nat.le_of_ble_eq_true rfl) rfl rfl fun h59 => ?_
        refine r_aload_n (i := 30) rfl rfl rfl ?_
        refine r_iload_n (i := 31) rfl rfl rfl ?_
        refine r_iconst (i := 32) (1 : Int32) kc_iconst_1 rfl rfl ?_
        refine r_iadd (i := 33) rfl rfl ?_
        refine r_VV1 (i := 34) (k2 := 0) (n2 := 0) ok_LText_unit wM_LText_73 (hg4 _ _ _) (fun _ e => hk4 e) (Nat.le_refl _) (Nat.le_of_ble_eq_true rfl) (Nat.le_of_ble_eq_true rfl) (Nat.le_of_ble_eq_true rfl) rfl rfl fun h66 => ?_
        refine r_aload_n (i := 35) rfl rfl rfl ?_
        refine r_gR (i := 36) (ci := 2) (kf := 1) rfl (Nat.le_of_ble_eq_true rfl) wF_LText_12 rfl rfl fun x70 => ?_
        refine r_bipush (i := 37) (11 : Int32) kc_bipush_11 rfl rfl ?_
        refine r_iconst (i := 38) (0 : Int32) kc_iconst_0 rfl rfl ?_
        refine r_VV2 (i := 39) (k2 := 0) (n2 := 0) ok_Law_emit wM_LText_63 (c_Law_emit) (fun _ e => fw_ckb e) (by omega) (Nat.le_of_ble_eq_true rfl) (Nat.le_of_ble_eq_true rfl) (Nat.le_of_ble_eq_true rfl) rfl rfl fun h76 => ?_
        refine r_goto (i := 40) (tgt := 105) rfl rfl rfl ?_
        exact r_retV (i := 53) rfl rfl rfl rfl
    · refine r_aload_n (i := 20) rfl rfl rfl ?_
      refine r_gR (i := 21) (ci := 2) (kf := 0) rfl (Nat.le_of_ble_eq_true rfl) wF_LText_18 rfl rfl fun x40 => ?_
      refine r_VV0 (i := 22) (k2 := 0) (n2 := 0) ok_Tape_fail wM_LText_76 (c_Tape_fail) (fun _ e => fw_ckb e) (by omega) (Nat.le_of_ble_eq_true rfl) (Nat.le_of_ble_eq_true rfl) (Nat.le_of_ble_eq_true rfl) rfl rfl fun h43 => ?_
      refine r_goto (i := 23) (tgt := 105) rfl rfl rfl ?_
      exact r_retV (i := 53) rfl rfl rfl rfl
  · refine r_iload_n (i := 7) rfl rfl rfl ?_
    refine r_bipush (i := 8) (40 : Int32) kc_bipush_40 rfl rfl ?_
    refine r_icmp_eq (i := 9) (tgt := 33) rfl rfl rfl ?_ ?_
    · refine r_iload_n (i := 17) rfl rfl rfl ?_
      refine r_bipush (i := 18) (6 : Int32) kc_bipush_6 rfl rfl ?_
      refine r_icmp_lt (i := 19) (tgt := 49) rfl rfl rfl ?_ ?_
      · refine r_iload_n (i := 24) rfl rfl rfl ?_
        refine r_bipush (i := 25) (33 : Int32) kc_bipush_33 rfl rfl ?_
        refine r_icmp_ne (i := 26) (tgt := 82) rfl rfl rfl ?_ ?_
        · refine r_aload_n (i := 41) rfl rfl rfl ?_
          refine r_gR (i := 42) (ci := 2) (kf := 0) rfl (Nat.le_of_ble_eq_true rfl) wF_LText_18 rfl rfl fun x83 => ?_
          refine r_VV0 (i := 43) (k2 := 0) (n2 := 0) ok_Tape_skip wM_LText_70 (c_Tape_skip) (fun _ e => fw_ckb e) (by omega) (Nat.le_of_ble_eq_true rfl) (Nat.le_of_ble_eq_true rfl) (Nat.le_of_ble_eq_true rfl) rfl rfl fun h86 => ?_
          refine r_aload_n (i := 44) rfl rfl rfl ?_
          refine r_iload_n (i := 45) rfl rfl rfl ?_
          refine r_iconst (i := 46) (1 : Int32) kc_iconst_1 rfl rfl ?_
          refine r_iadd (i := 47) rfl rfl ?_
          refine r_VV1 (i := 48) (k2 := 0) (n2 := 0) ok_LText_condition wM_LText_44 (hg0 _ _ _) (fun _ e => hk0 e) (Nat.le_refl _) (Nat.le_of_ble_eq_true rfl) (Nat.le_of_ble_eq_true rfl) (Nat.le_of_ble_eq_true rfl) rfl rfl fun h93 => ?_
          refine r_aload_n (i := 49) rfl rfl rfl ?_
          refine r_gR (i := 50) (ci := 2) (kf := 0) rfl (Nat.le_of_ble_eq_true rfl) wF_LText_18 rfl rfl fun x97 => ?_
          refine r_bipush (i := 51) (41 : Int32) kc_bipush_41 rfl rfl ?_
          refine r_VV1 (i := 52) (k2 := 0) (n2 := 0) ok_Tape_expect wM_LText_37 (c_Tape_expect F) (fun _ e => fw_ckb e) (by omega) (Nat.le_of_ble_eq_true rfl) (Nat.le_of_ble_eq_true rfl) (Nat.le_of_ble_eq_true rfl) rfl rfl fun h102 => ?_
          exact r_retV (i := 53) rfl rfl rfl rfl
        · refine r_aload_n (i := 27) rfl rfl rfl ?_
          refine r_gR (i := 28) (ci := 2) (kf := 0) rfl (Nat.le_of_ble_eq_true rfl) wF_LText_18 rfl rfl fun x56 => ?_
          refine r_VV0 (i := 29) (k2 := 0) (n2 := 0) ok_Tape_skip wM_LText_70 (c_Tape_skip) (fun _ e => fw_ckb e) (by omega) (Nat.le_of_ble_eq_true rfl) (Nat.le_of_ble_eq_true rfl) (Nat.le_of_ble_eq_true rfl) rfl rfl fun h59 => ?_
          refine r_aload_n (i := 30) rfl rfl rfl ?_
          refine r_iload_n (i := 31) rfl rfl rfl ?_
          refine r_iconst (i := 32) (1 : Int32) kc_iconst_1 rfl rfl ?_
          refine r_iadd (i := 33) rfl rfl ?_
          refine r_VV1 (i := 34) (k2 := 0) (n2 := 0) ok_LText_unit wM_LText_73 (hg4 _ _ _) (fun _ e => hk4 e) (Nat.le_refl _) (Nat.le_of_ble_eq_true rfl) (Nat.le_of_ble_eq_true rfl) (Nat.le_of_ble_eq_true rfl) rfl rfl fun h66 => ?_
          refine r_aload_n (i := 35) rfl rfl rfl ?_
          refine r_gR (i := 36) (ci := 2) (kf := 1) rfl (Nat.le_of_ble_eq_true rfl) wF_LText_12 rfl rfl fun x70 => ?_
          refine r_bipush (i := 37) (11 : Int32) kc_bipush_11 rfl rfl ?_
          refine r_iconst (i := 38) (0 : Int32) kc_iconst_0 rfl rfl ?_
          refine r_VV2 (i := 39) (k2 := 0) (n2 := 0) ok_Law_emit wM_LText_63 (c_Law_emit) (fun _ e => fw_ckb e) (by omega) (Nat.le_of_ble_eq_true rfl) (Nat.le_of_ble_eq_true rfl) (Nat.le_of_ble_eq_true rfl) rfl rfl fun h76 => ?_
          refine r_goto (i := 40) (tgt := 105) rfl rfl rfl ?_
          exact r_retV (i := 53) rfl rfl rfl rfl
      · refine r_aload_n (i := 20) rfl rfl rfl ?_
        refine r_gR (i := 21) (ci := 2) (kf := 0) rfl (Nat.le_of_ble_eq_true rfl) wF_LText_18 rfl rfl fun x40 => ?_
        refine r_VV0 (i := 22) (k2 := 0) (n2 := 0) ok_Tape_fail wM_LText_76 (c_Tape_fail) (fun _ e => fw_ckb e) (by omega) (Nat.le_of_ble_eq_true rfl) (Nat.le_of_ble_eq_true rfl) (Nat.le_of_ble_eq_true rfl) rfl rfl fun h43 => ?_
        refine r_goto (i := 23) (tgt := 105) rfl rfl rfl ?_
        exact r_retV (i := 53) rfl rfl rfl rfl
    · refine r_aload_n (i := 10) rfl rfl rfl ?_
      refine r_iload_n (i := 11) rfl rfl rfl ?_
      refine r_VV1 (i := 12) (k2 := 0) (n2 := 0) ok_LText_sum wM_LText_47 (c_LText_sum F) (fun _ e => ck_LText_sum e) (by omega) (Nat.le_of_ble_eq_true rfl) (Nat.le_of_ble_eq_true rfl) (Nat.le_of_ble_eq_true rfl) rfl rfl fun h22 => ?_
      refine r_aload_n (i := 13) rfl rfl rfl ?_
      refine r_iload_n (i := 14) rfl rfl rfl ?_
      refine r_VV1 (i := 15) (k2 := 0) (n2 := 0) ok_LText_comparison wM_LText_54 (c_LText_comparison F) (fun _ e => fw_ckb e) (by omega) (Nat.le_of_ble_eq_true rfl) (Nat.le_of_ble_eq_true rfl) (Nat.le_of_ble_eq_true rfl) rfl rfl fun h27 => ?_
      refine r_goto (i := 16) (tgt := 105) rfl rfl rfl ?_
      exact r_retV (i := 53) rfl rfl rfl rfl
def gr_LText_condition (F : Nat) : Nat → Nat → fw_H → Option Nat → Int32 → Option fw_H
  | 0, _, _, _, _ => none
  | D + 1, sel, h, v0, v1 => if sel = 0 then b_LText_condition F (gr_LText_condition F D) h v0 v1 else if sel = 1 then b_LText_moreTruths F (gr_LText_condition F D) h v0 v1 else if sel = 2 then b_LText_moreUnits F (gr_LText_condition F D) h v0 v1 else if sel = 3 then b_LText_truth F (gr_LText_condition F D) h v0 v1 else b_LText_unit F (gr_LText_condition F D) h v0 v1
theorem kgr_LText_condition {F D sel : Nat} {h : fw_H} {v0 : Option Nat} {v1 : Int32} {x : fw_H} (e : gr_LText_condition F D sel h v0 v1 = some x) : f_ck h v0 2 = some () := by
  cases D with
  | zero => cases e
  | succ D =>
    rw [gr_LText_condition] at e
    by_cases c0 : sel = 0
    · rw [if_pos c0] at e; exact fw_ckb e
    rw [if_neg c0] at e
    by_cases c1 : sel = 1
    · rw [if_pos c1] at e; exact fw_ckb e
    rw [if_neg c1] at e
    by_cases c2 : sel = 2
    · rw [if_pos c2] at e; exact fw_ckb e
    rw [if_neg c2] at e
    by_cases c3 : sel = 3
    · rw [if_pos c3] at e; exact fw_ckb e
    rw [if_neg c3] at e
    exact fw_ckb e
theorem cgr_LText_condition {G : fw_G} (F : Nat) : ∀ D : Nat, (∀ (h : fw_H) (v0 : Option Nat) (v1 : Int32), fw_Call G m_LText_condition fw_eV (86 + D) 0 0 [fw_r v0, fw_i v1] h (gr_LText_condition F D 0 h v0 v1)) ∧ (∀ (h : fw_H) (v0 : Option Nat) (v1 : Int32), fw_Call G m_LText_moreTruths fw_eV (86 + D) 0 0 [fw_r v0, fw_i v1] h (gr_LText_condition F D 1 h v0 v1)) ∧ (∀ (h : fw_H) (v0 : Option Nat) (v1 : Int32), fw_Call G m_LText_moreUnits fw_eV (86 + D) 0 0 [fw_r v0, fw_i v1] h (gr_LText_condition F D 2 h v0 v1)) ∧ (∀ (h : fw_H) (v0 : Option Nat) (v1 : Int32), fw_Call G m_LText_truth fw_eV (86 + D) 0 0 [fw_r v0, fw_i v1] h (gr_LText_condition F D 3 h v0 v1)) ∧ (∀ (h : fw_H) (v0 : Option Nat) (v1 : Int32), fw_Call G m_LText_unit fw_eV (86 + D) 0 0 [fw_r v0, fw_i v1] h (gr_LText_condition F D 4 h v0 v1)) := by
  intro D
  induction D with
  | zero => exact ⟨fun _ _ _ _ hr => (by cases hr), fun _ _ _ _ hr => (by cases hr), fun _ _ _ _ hr => (by cases hr), fun _ _ _ _ hr => (by cases hr), fun _ _ _ _ hr => by cases hr⟩
  | succ D ih =>
    refine ⟨?_, ?_, ?_, ?_, ?_⟩
    · intro h v0 v1
      exact cb_LText_condition (F := F) (g := gr_LText_condition F D) (dd := 86 + D) (by omega) (ih.1) kgr_LText_condition (ih.2.1) kgr_LText_condition (ih.2.2.1) kgr_LText_condition (ih.2.2.2.1) kgr_LText_condition (ih.2.2.2.2) kgr_LText_condition
    · intro h v0 v1
      exact cb_LText_moreTruths (F := F) (g := gr_LText_condition F D) (dd := 86 + D) (by omega) (ih.1) kgr_LText_condition (ih.2.1) kgr_LText_condition (ih.2.2.1) kgr_LText_condition (ih.2.2.2.1) kgr_LText_condition (ih.2.2.2.2) kgr_LText_condition
    · intro h v0 v1
      exact cb_LText_moreUnits (F := F) (g := gr_LText_condition F D) (dd := 86 + D) (by omega) (ih.1) kgr_LText_condition (ih.2.1) kgr_LText_condition (ih.2.2.1) kgr_LText_condition (ih.2.2.2.1) kgr_LText_condition (ih.2.2.2.2) kgr_LText_condition
    · intro h v0 v1
      exact cb_LText_truth (F := F) (g := gr_LText_condition F D) (dd := 86 + D) (by omega) (ih.1) kgr_LText_condition (ih.2.1) kgr_LText_condition (ih.2.2.1) kgr_LText_condition (ih.2.2.2.1) kgr_LText_condition (ih.2.2.2.2) kgr_LText_condition
    · intro h v0 v1
      exact cb_LText_unit (F := F) (g := gr_LText_condition F D) (dd := 86 + D) (by omega) (ih.1) kgr_LText_condition (ih.2.1) kgr_LText_condition (ih.2.2.1) kgr_LText_condition (ih.2.2.2.1) kgr_LText_condition (ih.2.2.2.2) kgr_LText_condition
def s_LText_condition (F : Nat) (h : fw_H) (v0 : Option Nat) (v1 : Int32) : Option fw_H := gr_LText_condition F 80 0 h v0 v1
theorem ck_LText_condition {F : Nat} {h : fw_H} {v0 : Option Nat} {v1 : Int32} {x : fw_H} (e : s_LText_condition F h v0 v1 = some x) : f_ck h v0 2 = some () := kgr_LText_condition e
theorem c_LText_condition {G : fw_G} (F : Nat) {h : fw_H} {v0 : Option Nat} {v1 : Int32} : fw_Call G m_LText_condition fw_eV 166 0 0 [fw_r v0, fw_i v1] h (s_LText_condition F h v0 v1) := (cgr_LText_condition F 80).1 _ _ _
def s_LText_moreTruths (F : Nat) (h : fw_H) (v0 : Option Nat) (v1 : Int32) : Option fw_H := gr_LText_condition F 80 1 h v0 v1
theorem ck_LText_moreTruths {F : Nat} {h : fw_H} {v0 : Option Nat} {v1 : Int32} {x : fw_H} (e : s_LText_moreTruths F h v0 v1 = some x) : f_ck h v0 2 = some () := kgr_LText_condition e
theorem c_LText_moreTruths {G : fw_G} (F : Nat) {h : fw_H} {v0 : Option Nat} {v1 : Int32} : fw_Call G m_LText_moreTruths fw_eV 166 0 0 [fw_r v0, fw_i v1] h (s_LText_moreTruths F h v0 v1) := (cgr_LText_condition F 80).2.1 _ _ _
def s_LText_moreUnits (F : Nat) (h : fw_H) (v0 : Option Nat) (v1 : Int32) : Option fw_H := gr_LText_condition F 80 2 h v0 v1
theorem ck_LText_moreUnits {F : Nat} {h : fw_H} {v0 : Option Nat} {v1 : Int32} {x : fw_H} (e : s_LText_moreUnits F h v0 v1 = some x) : f_ck h v0 2 = some () := kgr_LText_condition e
theorem c_LText_moreUnits {G : fw_G} (F : Nat) {h : fw_H} {v0 : Option Nat} {v1 : Int32} : fw_Call G m_LText_moreUnits fw_eV 166 0 0 [fw_r v0, fw_i v1] h (s_LText_moreUnits F h v0 v1) := (cgr_LText_condition F 80).2.2.1 _ _ _
def s_LText_truth (F : Nat) (h : fw_H) (v0 : Option Nat) (v1 : Int32) : Option fw_H := gr_LText_condition F 80 3 h v0 v1
theorem ck_LText_truth {F : Nat} {h : fw_H} {v0 : Option Nat} {v1 : Int32} {x : fw_H} (e : s_LText_truth F h v0 v1 = some x) : f_ck h v0 2 = some () := kgr_LText_condition e
theorem c_LText_truth {G : fw_G} (F : Nat) {h : fw_H} {v0 : Option Nat} {v1 : Int32} : fw_Call G m_LText_truth fw_eV 166 0 0 [fw_r v0, fw_i v1] h (s_LText_truth F h v0 v1) := (cgr_LText_condition F 80).2.2.2.1 _ _ _
def s_LText_unit (F : Nat) (h : fw_H) (v0 : Option Nat) (v1 : Int32) : Option fw_H := gr_LText_condition F 80 4 h v0 v1
theorem ck_LText_unit {F : Nat} {h : fw_H} {v0 : Option Nat} {v1 : Int32} {x : fw_H} (e : s_LText_unit F h v0 v1 = some x) : f_ck h v0 2 = some () := kgr_LText_condition e
theorem c_LText_unit {G : fw_G} (F : Nat) {h : fw_H} {v0 : Option Nat} {v1 : Int32} : fw_Call G m_LText_unit fw_eV 166 0 0 [fw_r v0, fw_i v1] h (s_LText_unit F h v0 v1) := (cgr_LText_condition F 80).2.2.2.2 _ _ _
-- LText_clause
def s_LText_clause (F : Nat) (h : fw_H) (v0 : Option Nat) : Option fw_H :=
(f_ck h v0 2).bind fun _ =>
(f_gR h v0 2 0).bind fun x1 =>
(s_Tape_expect F h x1 (121 : Int32)).bind fun h6 =>
(f_gR h6 v0 2 0).bind fun x10 =>
(s_Tape_expect F h6 x10 (58 : Int32)).bind fun h15 =>
(f_gR h15 v0 2 0).bind fun x19 =>
(s_Tape_peek F h15 x19).bind fun x22 =>
fw_jn (fun (t43_0 : Int32) =>
fw_jn (fun (j100_2 : Int32) (hj100 : fw_H) =>
if j100_2 = (0 : Int32) then ((f_gR hj100 v0 2 1).bind fun x129 =>
(s_Law_emit hj100 x129 (13 : Int32) (0 : Int32)).bind fun h135 =>
some h135) else
(f_gR hj100 v0 2 0).bind fun x105 =>
(s_Tape_expect F hj100 x105 (63 : Int32)).bind fun h110 =>
(f_gR h110 v0 2 1).bind fun x114 =>
(s_Law_emit h110 x114 (12 : Int32) (0 : Int32)).bind fun h120 =>
(s_LText_sum F h120 v0 (0 : Int32)).bind fun h125 =>
(f_gR h125 v0 2 1).bind fun x129 =>
(s_Law_emit h125 x129 (13 : Int32) (0 : Int32)).bind fun h135 =>
some h135) fun J100 =>
if t43_0 = (0 : Int32) then ((s_LText_sum F x22.2 v0 (0 : Int32)).bind fun h58 =>
(f_gR h58 v0 2 0).bind fun x62 =>
(s_Tape_peek F h58 x62).bind fun x65 =>
(s_LText_comparing x65.1).bind fun x68 =>
fw_jn (fun (t80_0 : Int32) =>
if t80_0 = (0 : Int32) then (J100 t80_0 x65.2) else
(s_LText_comparison F x65.2 v0 (0 : Int32)).bind fun h87 =>
(s_LText_moreUnits F h87 v0 (0 : Int32)).bind fun h92 =>
(s_LText_moreTruths F h92 v0 (0 : Int32)).bind fun h97 =>
J100 t80_0 h97) fun J80 =>
if x68 = (-1 : Int32) then (J80 (0 : Int32)) else
J80 (1 : Int32)) else
(s_LText_condition F x22.2 v0 (0 : Int32)).bind fun h50 =>
J100 t43_0 h50) fun J43 =>
if x22.1 = (33 : Int32) then (J43 (1 : Int32)) else
if ¬ x22.1 = (40 : Int32) then (J43 (0 : Int32)) else
J43 (1 : Int32)
theorem c_LText_clause {G : fw_G} (F : Nat) {h : fw_H} {v0 : Option Nat} : fw_Call G m_LText_clause fw_eV 167 0 0 [fw_r v0] h (s_LText_clause F h v0) := by
  refine fw_Call.of ok_LText_clause.1 (Nat.le_of_ble_eq_true rfl) [(0, some (fw_r v0))] rfl ?_
  refine r_ck ?_
  refine r_aload_n (i := 0) rfl rfl rfl ?_
  refine r_gR (i := 1) (ci := 2) (kf := 0) rfl (Nat.le_of_ble_eq_true rfl) wF_LText_18 rfl rfl fun x1 => ?_
  refine r_bipush (i := 2) (121 : Int32) kc_bipush_121 rfl rfl ?_
  refine r_VV1 (i := 3) (k2 := 0) (n2 := 0) ok_Tape_expect wM_LText_37 (c_Tape_expect F) (fun _ e => fw_ckb e) (Nat.le_of_ble_eq_true rfl) (Nat.le_of_ble_eq_true rfl) (Nat.le_of_ble_eq_true rfl) (Nat.le_of_ble_eq_true rfl) rfl rfl fun h6 => ?_
  refine r_aload_n (i := 4) rfl rfl rfl ?_
  refine r_gR (i := 5) (ci := 2) (kf := 0) rfl (Nat.le_of_ble_eq_true rfl) wF_LText_18 rfl rfl fun x10 => ?_
  refine r_bipush (i := 6) (58 : Int32) kc_bipush_58 rfl rfl ?_
  refine r_VV1 (i := 7) (k2 := 0) (n2 := 0) ok_Tape_expect wM_LText_37 (c_Tape_expect F) (fun _ e => fw_ckb e) (Nat.le_of_ble_eq_true rfl) (Nat.le_of_ble_eq_true rfl) (Nat.le_of_ble_eq_true rfl) (Nat.le_of_ble_eq_true rfl) rfl rfl fun h15 => ?_
  refine r_aload_n (i := 8) rfl rfl rfl ?_
  refine r_gR (i := 9) (ci := 2) (kf := 0) rfl (Nat.le_of_ble_eq_true rfl) wF_LText_18 rfl rfl fun x19 => ?_
  refine r_VwI0 (i := 10) (k2 := 0) (n2 := 0) ok_Tape_peek wM_LText_33 (c_Tape_peek F) (fun _ e => fw_ckb e) (Nat.le_of_ble_eq_true rfl) (Nat.le_of_ble_eq_true rfl) (Nat.le_of_ble_eq_true rfl) (Nat.le_of_ble_eq_true rfl) rfl rfl fun x22 => ?_
  refine r_istore_n (i := 11) rfl rfl (Nat.le_of_ble_eq_true rfl) rfl ?_
  refine r_iload_n (i := 12) rfl rfl rfl ?_
  refine r_bipush (i := 13) (33 : Int32) kc_bipush_33 rfl rfl ?_
  refine r_join (P := fun J43 => ∀ (t43_0 : Int32), fw_R G m_LText_clause fw_eV 167 (0) (0) 43 [(0, some (fw_r v0))] [fw_i t43_0] x22.2 (J43 t43_0)) ?_ (fun J43 hJ43 => ?_)
  · intro t43_0
    refine r_istore_n (i := 21) rfl rfl (Nat.le_of_ble_eq_true rfl) rfl ?_
    refine r_iload_n (i := 22) rfl rfl rfl ?_
    refine r_join (P := fun J100 => ∀ (j100_2 : Int32) (hj100 : fw_H), fw_R G m_LText_clause fw_eV 167 (0) (0) 100 [(0, some (fw_r v0)), (2, some (fw_i j100_2))] [] hj100 (J100 j100_2 hj100)) ?_ (fun J100 hJ100 => ?_)
    · intro j100_2 hj100
      refine r_iload_n (i := 52) rfl rfl rfl ?_
      refine r_if_eq (i := 53) (tgt := 128) rfl rfl rfl ?_ ?_
      · refine r_aload_n (i := 66) rfl rfl rfl ?_
        refine r_gR (i := 67) (ci := 2) (kf := 1) rfl (Nat.le_of_ble_eq_true rfl) wF_LText_12 rfl rfl fun x129 => ?_
        refine r_bipush (i := 68) (13 : Int32) kc_bipush_13 rfl rfl ?_
        refine r_iconst (i := 69) (0 : Int32) kc_iconst_0 rfl rfl ?_
        refine r_VV2 (i := 70) (k2 := 0) (n2 := 0) ok_Law_emit wM_LText_63 (c_Law_emit) (fun _ e => fw_ckb e) (Nat.le_of_ble_eq_true rfl) (Nat.le_of_ble_eq_true rfl) (Nat.le_of_ble_eq_true rfl) (Nat.le_of_ble_eq_true rfl) rfl rfl fun h135 => ?_
        exact r_retV (i := 71) rfl rfl rfl rfl
      · refine r_aload_n (i := 54) rfl rfl rfl ?_
        refine r_gR (i := 55) (ci := 2) (kf := 0) rfl (Nat.le_of_ble_eq_true rfl) wF_LText_18 rfl rfl fun x105 => ?_
        refine r_bipush (i := 56) (63 : Int32) kc_bipush_63 rfl rfl ?_
        refine r_VV1 (i := 57) (k2 := 0) (n2 := 0) ok_Tape_expect wM_LText_37 (c_Tape_expect F) (fun _ e => fw_ckb e) (Nat.le_of_ble_eq_true rfl) (Nat.le_of_ble_eq_true rfl) (Nat.le_of_ble_eq_true rfl) (Nat.le_of_ble_eq_true rfl) rfl rfl fun h110 => ?_
        refine r_aload_n (i := 58) rfl rfl rfl ?_
        refine r_gR (i := 59) (ci := 2) (kf := 1) rfl (Nat.le_of_ble_eq_true rfl) wF_LText_12 rfl rfl fun x114 => ?_
        refine r_bipush (i := 60) (12 : Int32) kc_bipush_12 rfl rfl ?_
        refine r_iconst (i := 61) (0 : Int32) kc_iconst_0 rfl rfl ?_
        refine r_VV2 (i := 62) (k2 := 0) (n2 := 0) ok_Law_emit wM_LText_63 (c_Law_emit) (fun _ e => fw_ckb e) (Nat.le_of_ble_eq_true rfl) (Nat.le_of_ble_eq_true rfl) (Nat.le_of_ble_eq_true rfl) (Nat.le_of_ble_eq_true rfl) rfl rfl fun h120 => ?_
        refine r_aload_n (i := 63) rfl rfl rfl ?_
        refine r_iconst (i := 64) (0 : Int32) kc_iconst_0 rfl rfl ?_
        refine r_VV1 (i := 65) (k2 := 0) (n2 := 0) ok_LText_sum wM_LText_47 (c_LText_sum F) (fun _ e => ck_LText_sum e) (Nat.le_of_ble_eq_true rfl) (Nat.le_of_ble_eq_true rfl) (Nat.le_of_ble_eq_true rfl) (Nat.le_of_ble_eq_true rfl) rfl rfl fun h125 => ?_
        refine r_aload_n (i := 66) rfl rfl rfl ?_
        refine r_gR (i := 67) (ci := 2) (kf := 1) rfl (Nat.le_of_ble_eq_true rfl) wF_LText_12 rfl rfl fun x129 => ?_
        refine r_bipush (i := 68) (13 : Int32) kc_bipush_13 rfl rfl ?_
        refine r_iconst (i := 69) (0 : Int32) kc_iconst_0 rfl rfl ?_
        refine r_VV2 (i := 70) (k2 := 0) (n2 := 0) ok_Law_emit wM_LText_63 (c_Law_emit) (fun _ e => fw_ckb e) (Nat.le_of_ble_eq_true rfl) (Nat.le_of_ble_eq_true rfl) (Nat.le_of_ble_eq_true rfl) (Nat.le_of_ble_eq_true rfl) rfl rfl fun h135 => ?_
        exact r_retV (i := 71) rfl rfl rfl rfl
    · refine r_if_eq (i := 23) (tgt := 56) rfl rfl rfl ?_ ?_
      · refine r_aload_n (i := 28) rfl rfl rfl ?_
        refine r_iconst (i := 29) (0 : Int32) kc_iconst_0 rfl rfl ?_
        refine r_VV1 (i := 30) (k2 := 0) (n2 := 0) ok_LText_sum wM_LText_47 (c_LText_sum F) (fun _ e => ck_LText_sum e) (Nat.le_of_ble_eq_true rfl) (Nat.le_of_ble_eq_true rfl) (Nat.le_of_ble_eq_true rfl) (Nat.le_of_ble_eq_true rfl) rfl rfl fun h58 => ?_
        refine r_aload_n (i := 31) rfl rfl rfl ?_
        refine r_gR (i := 32) (ci := 2) (kf := 0) rfl (Nat.le_of_ble_eq_true rfl) wF_LText_18 rfl rfl fun x62 => ?_
        refine r_VwI0 (i := 33) (k2 := 0) (n2 := 0) ok_Tape_peek wM_LText_33 (c_Tape_peek F) (fun _ e => fw_ckb e) (Nat.le_of_ble_eq_true rfl) (Nat.le_of_ble_eq_true rfl) (Nat.le_of_ble_eq_true rfl) (Nat.le_of_ble_eq_true rfl) rfl rfl fun x65 => ?_
        refine r_SI1 (i := 34) (k2 := 0) (n2 := 0) ok_LText_comparing wM_LText_50 (c_LText_comparing) (Nat.le_of_ble_eq_true rfl) (Nat.le_of_ble_eq_true rfl) (Nat.le_of_ble_eq_true rfl) (Nat.le_of_ble_eq_true rfl) rfl rfl fun x68 => ?_
        refine r_iconst (i := 35) (-1 : Int32) kc_iconst_m1 rfl rfl ?_
        refine r_join (P := fun J80 => ∀ (t80_0 : Int32), fw_R G m_LText_clause fw_eV 167 (0) (0) 80 [(0, some (fw_r v0))] [fw_i t80_0] x65.2 (J80 t80_0)) ?_ (fun J80 hJ80 => ?_)
        · intro t80_0
          refine r_istore_n (i := 40) rfl rfl (Nat.le_of_ble_eq_true rfl) rfl ?_
          refine r_iload_n (i := 41) rfl rfl rfl ?_
          refine r_if_eq (i := 42) (tgt := 100) rfl rfl rfl ?_ ?_
          · exact r_lv (fw_sub1 rfl (fw_sub1 rfl fw_sub0)) (hJ100 t80_0 x65.2)
          · refine r_aload_n (i := 43) rfl rfl rfl ?_
            refine r_iconst (i := 44) (0 : Int32) kc_iconst_0 rfl rfl ?_
            refine r_VV1 (i := 45) (k2 := 0) (n2 := 0) ok_LText_comparison wM_LText_54 (c_LText_comparison F) (fun _ e => fw_ckb e) (Nat.le_of_ble_eq_true rfl) (Nat.le_of_ble_eq_true rfl) (Nat.le_of_ble_eq_true rfl) (Nat.le_of_ble_eq_true rfl) rfl rfl fun h87 => ?_
            refine r_aload_n (i := 46) rfl rfl rfl ?_
            refine r_iconst (i := 47) (0 : Int32) kc_iconst_0 rfl rfl ?_
            refine r_VV1 (i := 48) (k2 := 0) (n2 := 0) ok_LText_moreUnits wM_LText_57 (c_LText_moreUnits F) (fun _ e => ck_LText_moreUnits e) (Nat.le_of_ble_eq_true rfl) (Nat.le_of_ble_eq_true rfl) (Nat.le_of_ble_eq_true rfl) (Nat.le_of_ble_eq_true rfl) rfl rfl fun h92 => ?_
            refine r_aload_n (i := 49) rfl rfl rfl ?_
            refine r_iconst (i := 50) (0 : Int32) kc_iconst_0 rfl rfl ?_
            refine r_VV1 (i := 51) (k2 := 0) (n2 := 0) ok_LText_moreTruths wM_LText_60 (c_LText_moreTruths F) (fun _ e => ck_LText_moreTruths e) (Nat.le_of_ble_eq_true rfl) (Nat.le_of_ble_eq_true rfl) (Nat.le_of_ble_eq_true rfl) (Nat.le_of_ble_eq_true rfl) rfl rfl fun h97 => ?_
            exact r_lv (fw_sub1 rfl (fw_sub1 rfl fw_sub0)) (hJ100 t80_0 h97)
        · refine r_icmp_eq (i := 36) (tgt := 79) rfl rfl rfl ?_ ?_
          · refine r_iconst (i := 39) (0 : Int32) kc_iconst_0 rfl rfl ?_
            exact r_lv (fw_sub1 rfl fw_sub0) (hJ80 (0 : Int32))
          · refine r_iconst (i := 37) (1 : Int32) kc_iconst_1 rfl rfl ?_
            refine r_goto (i := 38) (tgt := 80) rfl rfl rfl ?_
            exact r_lv (fw_sub1 rfl fw_sub0) (hJ80 (1 : Int32))
      · refine r_aload_n (i := 24) rfl rfl rfl ?_
        refine r_iconst (i := 25) (0 : Int32) kc_iconst_0 rfl rfl ?_
        refine r_VV1 (i := 26) (k2 := 0) (n2 := 0) ok_LText_condition wM_LText_44 (c_LText_condition F) (fun _ e => ck_LText_condition e) (Nat.le_of_ble_eq_true rfl) (Nat.le_of_ble_eq_true rfl) (Nat.le_of_ble_eq_true rfl) (Nat.le_of_ble_eq_true rfl) rfl rfl fun h50 => ?_
        refine r_goto (i := 27) (tgt := 100) rfl rfl rfl ?_
        exact r_lv (fw_sub1 rfl (fw_sub1 rfl fw_sub0)) (hJ100 t43_0 h50)
  · refine r_icmp_eq (i := 14) (tgt := 38) rfl rfl rfl ?_ ?_
    · refine r_iconst (i := 18) (1 : Int32) kc_iconst_1 rfl rfl ?_
      refine r_goto (i := 19) (tgt := 43) rfl rfl rfl ?_
      exact r_lv (fw_sub1 rfl fw_sub0) (hJ43 (1 : Int32))
    · refine r_iload_n (i := 15) rfl rfl rfl ?_
      refine r_bipush (i := 16) (40 : Int32) kc_bipush_40 rfl rfl ?_
      refine r_icmp_ne (i := 17) (tgt := 42) rfl rfl rfl ?_ ?_
      · refine r_iconst (i := 20) (0 : Int32) kc_iconst_0 rfl rfl ?_
        exact r_lv (fw_sub1 rfl fw_sub0) (hJ43 (0 : Int32))
      · refine r_iconst (i := 18) (1 : Int32) kc_iconst_1 rfl rfl ?_
        refine r_goto (i := 19) (tgt := 43) rfl rfl rfl ?_
        exact r_lv (fw_sub1 rfl fw_sub0) (hJ43 (1 : Int32))
-- Tape_faultFound
def s_Tape_faultFound (h : fw_H) (v0 : Option Nat) : Option Int32 :=
(f_ck h v0 6).bind fun _ =>
(f_gI h v0 6 3).bind fun x1 =>
some x1
theorem c_Tape_faultFound {G : fw_G} {h : fw_H} {v0 : Option Nat} : fw_Call G m_Tape_faultFound (fw_eI h) 0 0 0 [fw_r v0] h (s_Tape_faultFound h v0) := by
  refine fw_Call.of ok_Tape_faultFound.1 (Nat.le_of_ble_eq_true rfl) [(0, some (fw_r v0))] rfl ?_
  refine r_ck ?_
  refine r_aload_n (i := 0) rfl rfl rfl ?_
  refine r_gI (i := 1) (ci := 6) (kf := 3) rfl (Nat.le_of_ble_eq_true rfl) wF_Tape_15 rfl rfl fun x1 => ?_
  exact r_retI (i := 2) rfl rfl rfl rfl
-- LText_read
def l_LText_read_16 (F : Nat) (v0 : Option Nat) (K56 : fw_H → Option (Int32 × fw_H)) (K38 : fw_H → Option (Int32 × fw_H)) : Nat → Int32 → fw_H → Option (Int32 × fw_H)
  | 0, _, _ => none
  | nn + 1, a16_1, g16 =>
    if (240 : Int32) ≤ a16_1 then (K56 g16) else
    (s_LText_clause F g16 v0).bind fun h24 =>
    (f_gR h24 v0 2 0).bind fun x28 =>
    (s_Tape_peek F h24 x28).bind fun x31 =>
    if ¬ x31.1 = (-1 : Int32) then ((f_gR x31.2 v0 2 0).bind fun x42 =>
    (s_Tape_expect F x31.2 x42 (59 : Int32)).bind fun h47 =>
    l_LText_read_16 F v0 K56 K38 nn (a16_1 + (1 : Int32)) h47) else
    K38 x31.2
theorem cl_LText_read_16 {G : fw_G} {F : Nat} {v0 : Option Nat} {K56 : fw_H → Option (Int32 × fw_H)} {K38 : fw_H → Option (Int32 × fw_H)} (hK56 : ∀ (he56 : fw_H), fw_R G m_LText_read fw_wI 168 0 0 56 [(0, some (fw_r v0))] [] he56 (K56 he56)) (hK38 : ∀ (he38 : fw_H), fw_R G m_LText_read fw_wI 168 0 0 38 [(0, some (fw_r v0))] [] he38 (K38 he38)) : ∀ (nn : Nat) (a16_1 : Int32) (g16 : fw_H), fw_R G m_LText_read fw_wI 168 0 0 16 [(0, some (fw_r v0)), (1, some (fw_i a16_1))] [] g16 (l_LText_read_16 F v0 K56 K38 nn a16_1 g16) := by
  intro nn
  induction nn with
  | zero => intros; exact r_none
  | succ nn ih =>
    intro a16_1 g16
    rw [l_LText_read_16]
    refine r_iload_n (i := 8) rfl rfl rfl ?_
    refine r_sipush (i := 9) (240 : Int32) kc_sipush_240 rfl rfl ?_
    refine r_icmp_ge (i := 10) (tgt := 56) rfl rfl rfl ?_ ?_
    · exact r_lv (fw_sub1 rfl fw_sub0) (hK56 g16)
    · refine r_aload_n (i := 11) rfl rfl rfl ?_
      refine r_VV0 (i := 12) (k2 := 0) (n2 := 0) ok_LText_clause wM_LText_30 (c_LText_clause F) (fun _ e => fw_ckb e) (Nat.le_of_ble_eq_true rfl) (Nat.le_of_ble_eq_true rfl) (Nat.le_of_ble_eq_true rfl) (Nat.le_of_ble_eq_true rfl) rfl rfl fun h24 => ?_
      refine r_aload_n (i := 13) rfl rfl rfl ?_
      refine r_gR (i := 14) (ci := 2) (kf := 0) rfl (Nat.le_of_ble_eq_true rfl) wF_LText_18 rfl rfl fun x28 => ?_
      refine r_VwI0 (i := 15) (k2 := 0) (n2 := 0) ok_Tape_peek wM_LText_33 (c_Tape_peek F) (fun _ e => fw_ckb e) (Nat.le_of_ble_eq_true rfl) (Nat.le_of_ble_eq_true rfl) (Nat.le_of_ble_eq_true rfl) (Nat.le_of_ble_eq_true rfl) rfl rfl fun x31 => ?_
      refine r_iconst (i := 16) (-1 : Int32) kc_iconst_m1 rfl rfl ?_
      refine r_icmp_ne (i := 17) (tgt := 41) rfl rfl rfl ?_ ?_
      · refine r_aload_n (i := 19) rfl rfl rfl ?_
        refine r_gR (i := 20) (ci := 2) (kf := 0) rfl (Nat.le_of_ble_eq_true rfl) wF_LText_18 rfl rfl fun x42 => ?_
        refine r_bipush (i := 21) (59 : Int32) kc_bipush_59 rfl rfl ?_
        refine r_VV1 (i := 22) (k2 := 0) (n2 := 0) ok_Tape_expect wM_LText_37 (c_Tape_expect F) (fun _ e => fw_ckb e) (Nat.le_of_ble_eq_true rfl) (Nat.le_of_ble_eq_true rfl) (Nat.le_of_ble_eq_true rfl) (Nat.le_of_ble_eq_true rfl) rfl rfl fun h47 => ?_
        refine r_iinc (i := 23) (1 : Int32) kc_iconst_1 rfl rfl rfl (Nat.le_of_ble_eq_true rfl) ?_
        refine r_goto (i := 24) (tgt := 16) rfl rfl rfl ?_
        exact r_lv (fw_sub1 rfl (fw_sub1 rfl fw_sub0)) (ih (a16_1 + (1 : Int32)) h47)
      · exact r_lv (fw_sub1 rfl fw_sub0) (hK38 x31.2)
def s_LText_read (F : Nat) (h : fw_H) (v0 : Option Nat) : Option (Int32 × fw_H) :=
(f_ck h v0 2).bind fun _ =>
(f_gR h v0 2 0).bind fun x1 =>
(s_Tape_rewind h x1).bind fun h4 =>
(f_gR h4 v0 2 1).bind fun x8 =>
(s_Law_clear h4 x8).bind fun h11 =>
l_LText_read_16 F v0 (fun he56 =>
(f_gR he56 v0 2 0).bind fun x57 =>
(s_Tape_faultFound he56 x57).bind fun x60 =>
some (x60, he56)) (fun he38 =>
(f_gR he38 v0 2 0).bind fun x57 =>
(s_Tape_faultFound he38 x57).bind fun x60 =>
some (x60, he38)) F (0 : Int32) h11
theorem c_LText_read {G : fw_G} (F : Nat) {h : fw_H} {v0 : Option Nat} : fw_Call G m_LText_read fw_wI 168 0 0 [fw_r v0] h (s_LText_read F h v0) := by
  refine fw_Call.of ok_LText_read.1 (Nat.le_of_ble_eq_true rfl) [(0, some (fw_r v0))] rfl ?_
  refine r_ck ?_
  refine r_aload_n (i := 0) rfl rfl rfl ?_
  refine r_gR (i := 1) (ci := 2) (kf := 0) rfl (Nat.le_of_ble_eq_true rfl) wF_LText_18 rfl rfl fun x1 => ?_
  refine r_VV0 (i := 2) (k2 := 0) (n2 := 0) ok_Tape_rewind wM_LText_22 (c_Tape_rewind) (fun _ e => fw_ckb e) (Nat.le_of_ble_eq_true rfl) (Nat.le_of_ble_eq_true rfl) (Nat.le_of_ble_eq_true rfl) (Nat.le_of_ble_eq_true rfl) rfl rfl fun h4 => ?_
  refine r_aload_n (i := 3) rfl rfl rfl ?_
  refine r_gR (i := 4) (ci := 2) (kf := 1) rfl (Nat.le_of_ble_eq_true rfl) wF_LText_12 rfl rfl fun x8 => ?_
  refine r_VV0 (i := 5) (k2 := 0) (n2 := 0) ok_Law_clear wM_LText_27 (c_Law_clear) (fun _ e => fw_ckb e) (Nat.le_of_ble_eq_true rfl) (Nat.le_of_ble_eq_true rfl) (Nat.le_of_ble_eq_true rfl) (Nat.le_of_ble_eq_true rfl) rfl rfl fun h11 => ?_
  refine r_iconst (i := 6) (0 : Int32) kc_iconst_0 rfl rfl ?_
  refine r_istore_n (i := 7) rfl rfl (Nat.le_of_ble_eq_true rfl) rfl ?_
  refine r_lv (fw_sub1 rfl (fw_sub1 rfl fw_sub0)) (cl_LText_read_16 ?_ ?_ F _ _)
  · intro he56
    refine r_aload_n (i := 25) rfl rfl rfl ?_
    refine r_gR (i := 26) (ci := 2) (kf := 0) rfl (Nat.le_of_ble_eq_true rfl) wF_LText_18 rfl rfl fun x57 => ?_
    refine r_VI0 (i := 27) (k2 := 0) (n2 := 0) ok_Tape_faultFound wM_LText_41 (c_Tape_faultFound) (fun _ e => fw_ckb e) (Nat.le_of_ble_eq_true rfl) (Nat.le_of_ble_eq_true rfl) (Nat.le_of_ble_eq_true rfl) (Nat.le_of_ble_eq_true rfl) rfl rfl fun x60 => ?_
    exact r_retI (i := 28) rfl rfl rfl rfl
  · intro he38
    refine r_goto (i := 18) (tgt := 56) rfl rfl rfl ?_
    refine r_aload_n (i := 25) rfl rfl rfl ?_
    refine r_gR (i := 26) (ci := 2) (kf := 0) rfl (Nat.le_of_ble_eq_true rfl) wF_LText_18 rfl rfl fun x57 => ?_
    refine r_VI0 (i := 27) (k2 := 0) (n2 := 0) ok_Tape_faultFound wM_LText_41 (c_Tape_faultFound) (fun _ e => fw_ckb e) (Nat.le_of_ble_eq_true rfl) (Nat.le_of_ble_eq_true rfl) (Nat.le_of_ble_eq_true rfl) (Nat.le_of_ble_eq_true rfl) rfl rfl fun x60 => ?_
    exact r_retI (i := 28) rfl rfl rfl rfl
-- Rows_has
def s_Rows_has (v0 : Int32) (v1 : Int32) : Option Bool :=
if v1 < (0 : Int32) then (some false) else
if (31 : Int32) ≤ v1 then (some false) else
if ¬ ((v0 >>> (v1 &&& 31)) &&& (1 : Int32)) = (1 : Int32) then (some false) else
some true
theorem c_Rows_has {G : fw_G} {h : fw_H} {v0 : Int32} {v1 : Int32} : fw_Call G m_Rows_has (fw_eB h) 0 0 0 [fw_i v0, fw_i v1] h (s_Rows_has v0 v1) := by
  refine fw_Call.of ok_Rows_has.1 (Nat.le_of_ble_eq_true rfl) [(0, some (fw_i v0)), (1, some (fw_i v1))] rfl ?_
  refine r_iload_n (i := 0) rfl rfl rfl ?_
  refine r_if_lt (i := 1) (tgt := 23) rfl rfl rfl ?_ ?_
  · refine r_iconst (i := 14) (0 : Int32) kc_iconst_0 rfl rfl ?_
    exact r_retB (x := false) (i := 15) rfl rfl rfl rfl
  · refine r_iload_n (i := 2) rfl rfl rfl ?_
    refine r_bipush (i := 3) (31 : Int32) kc_bipush_31 rfl rfl ?_
    refine r_icmp_ge (i := 4) (tgt := 23) rfl rfl rfl ?_ ?_
    · refine r_iconst (i := 14) (0 : Int32) kc_iconst_0 rfl rfl ?_
      exact r_retB (x := false) (i := 15) rfl rfl rfl rfl
    · refine r_iload_n (i := 5) rfl rfl rfl ?_
      refine r_iload_n (i := 6) rfl rfl rfl ?_
      refine r_ishr (i := 7) rfl rfl ?_
      refine r_iconst (i := 8) (1 : Int32) kc_iconst_1 rfl rfl ?_
      refine r_iand (i := 9) rfl rfl ?_
      refine r_iconst (i := 10) (1 : Int32) kc_iconst_1 rfl rfl ?_
      refine r_icmp_ne (i := 11) (tgt := 23) rfl rfl rfl ?_ ?_
      · refine r_iconst (i := 14) (0 : Int32) kc_iconst_0 rfl rfl ?_
        exact r_retB (x := false) (i := 15) rfl rfl rfl rfl
      · refine r_iconst (i := 12) (1 : Int32) kc_iconst_1 rfl rfl ?_
        refine r_goto (i := 13) (tgt := 24) rfl rfl rfl ?_
        exact r_retB (x := true) (i := 15) rfl rfl rfl rfl
-- Seen_init
def s_Seen_init (h : fw_H) (v0 : Option Nat) (v1 : Option Nat) : Option fw_H :=
fw_new h (fw_I 12 (fun _ => 0)) fun q7 h7 =>
(f_pR h7 v0 4 1 q7).bind fun h9 =>
fw_new h9 (fw_I 12 (fun _ => 0)) fun q15 h15 =>
(f_pR h15 v0 4 2 q15).bind fun h17 =>
fw_new h17 (fw_I 21 (fun _ => 0)) fun q23 h23 =>
(f_pR h23 v0 4 4 q23).bind fun h25 =>
(f_pR h25 v0 4 0 v1).bind fun h30 =>
some h30
theorem c_Seen_init {G : fw_G} {h : fw_H} {v0 : Option Nat} {v1 : Option Nat} (hv0 : v0.isSome = true) : fw_Call G m_Seen_init fw_eV 1 3 45 [fw_r v0, fw_r v1] h (s_Seen_init h v0 v1) := by
  refine fw_Call.of ok_Seen_init.1 (Nat.le_of_ble_eq_true rfl) [(0, some (fw_r v0)), (1, some (fw_r v1))] rfl ?_
  refine r_aload_n (i := 0) rfl rfl rfl ?_
  refine r_obji (i := 1) hv0 (Nat.le_of_ble_eq_true rfl) (Nat.le_of_ble_eq_true rfl) wM_Seen_3 wO_1 wO_2 rfl rfl ?_
  refine r_aload_n (i := 2) rfl rfl rfl ?_
  refine r_bipush (i := 3) (12 : Int32) kc_bipush_12 rfl rfl ?_
  refine r_newIN (i := 4) (k2 := 2) (n2 := 33) (N := 12) (by decide) (by decide) (Nat.le_of_ble_eq_true rfl) (Nat.le_of_ble_eq_true rfl) (Nat.le_of_ble_eq_true rfl) wA_int rfl rfl fun q7 h7 => ?_
  refine r_pRF (i := 5) (ci := 4) (kf := 1) rfl (Nat.le_of_ble_eq_true rfl) wF_Seen_11 rfl rfl rfl ⟨_, (tyX4_ok 1 (Nat.le_of_ble_eq_true rfl)), Or.inr ⟨_, rfl⟩⟩ rfl rfl fun h9 => ?_
  refine r_aload_n (i := 6) rfl rfl rfl ?_
  refine r_bipush (i := 7) (12 : Int32) kc_bipush_12 rfl rfl ?_
  refine r_newIN (i := 8) (k2 := 1) (n2 := 21) (N := 12) (by decide) (by decide) (Nat.le_of_ble_eq_true rfl) (Nat.le_of_ble_eq_true rfl) (Nat.le_of_ble_eq_true rfl) wA_int rfl rfl fun q15 h15 => ?_
  refine r_pRF (i := 9) (ci := 4) (kf := 2) rfl (Nat.le_of_ble_eq_true rfl) wF_Seen_15 rfl rfl rfl ⟨_, (tyX4_ok 2 (Nat.le_of_ble_eq_true rfl)), Or.inr ⟨_, rfl⟩⟩ rfl rfl fun h17 => ?_
  refine r_aload_n (i := 10) rfl rfl rfl ?_
  refine r_bipush (i := 11) (21 : Int32) kc_bipush_21 rfl rfl ?_
  refine r_newIN (i := 12) (k2 := 0) (n2 := 0) (N := 21) (by decide) (by decide) (Nat.le_of_ble_eq_true rfl) (Nat.le_of_ble_eq_true rfl) (Nat.le_of_ble_eq_true rfl) wA_int rfl rfl fun q23 h23 => ?_
  refine r_pRF (i := 13) (ci := 4) (kf := 4) rfl (Nat.le_of_ble_eq_true rfl) wF_Seen_18 rfl rfl rfl ⟨_, (tyX4_ok 4 (Nat.le_of_ble_eq_true rfl)), Or.inr ⟨_, rfl⟩⟩ rfl rfl fun h25 => ?_
  refine r_aload_n (i := 14) rfl rfl rfl ?_
  refine r_aload_n (i := 15) rfl rfl rfl ?_
  refine r_pRF (i := 16) (ci := 4) (kf := 0) rfl (Nat.le_of_ble_eq_true rfl) wF_Seen_21 rfl rfl rfl ⟨_, (tyX4_ok 0 (Nat.le_of_ble_eq_true rfl)), Or.inl ⟨_, rfl⟩⟩ rfl rfl fun h30 => ?_
  exact r_retV (i := 17) rfl rfl rfl rfl
-- Seen_clear
def s_Seen_clear (h : fw_H) (v0 : Option Nat) : Option fw_H :=
(f_ck h v0 4).bind fun _ =>
(f_pI h v0 4 3 (0 : Int32)).bind fun h2 =>
some h2
theorem c_Seen_clear {G : fw_G} {h : fw_H} {v0 : Option Nat} : fw_Call G m_Seen_clear fw_eV 0 0 0 [fw_r v0] h (s_Seen_clear h v0) := by
  refine fw_Call.of ok_Seen_clear.1 (Nat.le_of_ble_eq_true rfl) [(0, some (fw_r v0))] rfl ?_
  refine r_ck ?_
  refine r_aload_n (i := 0) rfl rfl rfl ?_
  refine r_iconst (i := 1) (0 : Int32) kc_iconst_0 rfl rfl ?_
  refine r_pI (i := 2) (ci := 4) (kf := 3) rfl (Nat.le_of_ble_eq_true rfl) wF_Seen_25 rfl (tyX4_ok 3 (Nat.le_of_ble_eq_true rfl)) rfl rfl fun h2 => ?_
  exact r_retV (i := 3) rfl rfl rfl rfl
-- Seen_size
def s_Seen_size (h : fw_H) (v0 : Option Nat) : Option Int32 :=
(f_ck h v0 4).bind fun _ =>
(f_gI h v0 4 3).bind fun x1 =>
some x1
theorem c_Seen_size {G : fw_G} {h : fw_H} {v0 : Option Nat} : fw_Call G m_Seen_size (fw_eI h) 0 0 0 [fw_r v0] h (s_Seen_size h v0) := by
  refine fw_Call.of ok_Seen_size.1 (Nat.le_of_ble_eq_true rfl) [(0, some (fw_r v0))] rfl ?_
  refine r_ck ?_
  refine r_aload_n (i := 0) rfl rfl rfl ?_
  refine r_gI (i := 1) (ci := 4) (kf := 3) rfl (Nat.le_of_ble_eq_true rfl) wF_Seen_25 rfl rfl fun x1 => ?_
  exact r_retI (i := 2) rfl rfl rfl rfl
-- Seen_add
def s_Seen_add (h : fw_H) (v0 : Option Nat) (v1 : Int32) (v2 : Int32) : Option (Int32 × fw_H) :=
(f_ck h v0 4).bind fun _ =>
if v1 < (1 : Int32) then (some ((-1 : Int32), h)) else
if (20 : Int32) < v1 then (some ((-1 : Int32), h)) else
(f_gI h v0 4 3).bind fun x12 =>
if x12 < (12 : Int32) then ((f_gR h v0 4 1).bind fun x23 =>
(f_gI h v0 4 3).bind fun x27 =>
(s_Rows_put h x23 x27 v1).bind fun h31 =>
(f_gR h31 v0 4 2).bind fun x35 =>
(f_gI h31 v0 4 3).bind fun x39 =>
(s_Rows_put h31 x35 x39 v2).bind fun h43 =>
(f_gI h43 v0 4 3).bind fun x48 =>
(f_pI h43 v0 4 3 (x48 + (1 : Int32))).bind fun h53 =>
(f_gI h53 v0 4 3).bind fun x57 =>
some (x57, h53)) else
some ((-1 : Int32), h)
theorem c_Seen_add {G : fw_G} {h : fw_H} {v0 : Option Nat} {v1 : Int32} {v2 : Int32} : fw_Call G m_Seen_add fw_wI 1 0 0 [fw_r v0, fw_i v1, fw_i v2] h (s_Seen_add h v0 v1 v2) := by
  refine fw_Call.of ok_Seen_add.1 (Nat.le_of_ble_eq_true rfl) [(0, some (fw_r v0)), (1, some (fw_i v1)), (2, some (fw_i v2))] rfl ?_
  refine r_ck ?_
  refine r_iload_n (i := 0) rfl rfl rfl ?_
  refine r_iconst (i := 1) (1 : Int32) kc_iconst_1 rfl rfl ?_
  refine r_icmp_lt (i := 2) (tgt := 20) rfl rfl rfl ?_ ?_
  · refine r_iconst (i := 10) (-1 : Int32) kc_iconst_m1 rfl rfl ?_
    exact r_retI (i := 11) rfl rfl rfl rfl
  · refine r_iload_n (i := 3) rfl rfl rfl ?_
    refine r_bipush (i := 4) (20 : Int32) kc_bipush_20 rfl rfl ?_
    refine r_icmp_gt (i := 5) (tgt := 20) rfl rfl rfl ?_ ?_
    · refine r_iconst (i := 10) (-1 : Int32) kc_iconst_m1 rfl rfl ?_
      exact r_retI (i := 11) rfl rfl rfl rfl
    · refine r_aload_n (i := 6) rfl rfl rfl ?_
      refine r_gI (i := 7) (ci := 4) (kf := 3) rfl (Nat.le_of_ble_eq_true rfl) wF_Seen_25 rfl rfl fun x12 => ?_
      refine r_bipush (i := 8) (12 : Int32) kc_bipush_12 rfl rfl ?_
      refine r_icmp_lt (i := 9) (tgt := 22) rfl rfl rfl ?_ ?_
      · refine r_aload_n (i := 12) rfl rfl rfl ?_
        refine r_gR (i := 13) (ci := 4) (kf := 1) rfl (Nat.le_of_ble_eq_true rfl) wF_Seen_11 rfl rfl fun x23 => ?_
        refine r_aload_n (i := 14) rfl rfl rfl ?_
        refine r_gI (i := 15) (ci := 4) (kf := 3) rfl (Nat.le_of_ble_eq_true rfl) wF_Seen_25 rfl rfl fun x27 => ?_
        refine r_iload_n (i := 16) rfl rfl rfl ?_
        refine r_SV3 (i := 17) (k2 := 0) (n2 := 0) ok_Rows_put wM_Seen_29 (c_Rows_put) (Nat.le_of_ble_eq_true rfl) (Nat.le_of_ble_eq_true rfl) (Nat.le_of_ble_eq_true rfl) (Nat.le_of_ble_eq_true rfl) rfl rfl fun h31 => ?_
        refine r_aload_n (i := 18) rfl rfl rfl ?_
        refine r_gR (i := 19) (ci := 4) (kf := 2) rfl (Nat.le_of_ble_eq_true rfl) wF_Seen_15 rfl rfl fun x35 => ?_
        refine r_aload_n (i := 20) rfl rfl rfl ?_
        refine r_gI (i := 21) (ci := 4) (kf := 3) rfl (Nat.le_of_ble_eq_true rfl) wF_Seen_25 rfl rfl fun x39 => ?_
        refine r_iload_n (i := 22) rfl rfl rfl ?_
        refine r_SV3 (i := 23) (k2 := 0) (n2 := 0) ok_Rows_put wM_Seen_29 (c_Rows_put) (Nat.le_of_ble_eq_true rfl) (Nat.le_of_ble_eq_true rfl) (Nat.le_of_ble_eq_true rfl) (Nat.le_of_ble_eq_true rfl) rfl rfl fun h43 => ?_
        refine r_aload_n (i := 24) rfl rfl rfl ?_
        refine r_dup_r (i := 25) rfl rfl ?_
        refine r_gI (i := 26) (ci := 4) (kf := 3) rfl (Nat.le_of_ble_eq_true rfl) wF_Seen_25 rfl rfl fun x48 => ?_
        refine r_iconst (i := 27) (1 : Int32) kc_iconst_1 rfl rfl ?_
        refine r_iadd (i := 28) rfl rfl ?_
        refine r_pI (i := 29) (ci := 4) (kf := 3) rfl (Nat.le_of_ble_eq_true rfl) wF_Seen_25 rfl (tyX4_ok 3 (Nat.le_of_ble_eq_true rfl)) rfl rfl fun h53 => ?_
        refine r_aload_n (i := 30) rfl rfl rfl ?_
        refine r_gI (i := 31) (ci := 4) (kf := 3) rfl (Nat.le_of_ble_eq_true rfl) wF_Seen_25 rfl rfl fun x57 => ?_
        exact r_retI (i := 32) rfl rfl rfl rfl
      · refine r_iconst (i := 10) (-1 : Int32) kc_iconst_m1 rfl rfl ?_
        exact r_retI (i := 11) rfl rfl rfl rfl
-- Jdk_fillI
def l_Jdk_fillI_5 (v0 : Option Nat) (v1 : Int32) (x3 : Int32) : Nat → Int32 → fw_H → Option fw_H
  | 0, _, _ => none
  | nn + 1, a5_2, g5 =>
    if x3 ≤ a5_2 then (some g5) else
    (f_sI g5 v0 a5_2 v1).bind fun h13 =>
    l_Jdk_fillI_5 v0 v1 x3 nn (a5_2 + (1 : Int32)) h13
theorem cl_Jdk_fillI_5 {G : fw_G} {v0 : Option Nat} {v1 : Int32} {x3 : Int32} : ∀ (nn : Nat) (a5_2 : Int32) (g5 : fw_H), fw_R G m_Jdk_fillI fw_eV 0 0 0 5 [(0, some (fw_r v0)), (1, some (fw_i v1)), (2, some (fw_i a5_2)), (3, some (fw_i x3))] [] g5 (l_Jdk_fillI_5 v0 v1 x3 nn a5_2 g5) := by
  intro nn
  induction nn with
  | zero => intros; exact r_none
  | succ nn ih =>
    intro a5_2 g5
    rw [l_Jdk_fillI_5]
    refine r_iload_n (i := 5) rfl rfl rfl ?_
    refine r_iload_n (i := 6) rfl rfl rfl ?_
    refine r_icmp_ge (i := 7) (tgt := 20) rfl rfl rfl ?_ ?_
    · exact r_retV (i := 14) rfl rfl rfl rfl
    · refine r_aload_n (i := 8) rfl rfl rfl ?_
      refine r_iload_n (i := 9) rfl rfl rfl ?_
      refine r_iload_n (i := 10) rfl rfl rfl ?_
      refine r_sI (i := 11) rfl rfl fun h13 => ?_
      refine r_iinc (i := 12) (1 : Int32) kc_iconst_1 rfl rfl rfl (Nat.le_of_ble_eq_true rfl) ?_
      refine r_goto (i := 13) (tgt := 5) rfl rfl rfl ?_
      exact r_lv (fw_sub1 rfl (fw_sub1 rfl (fw_sub1 rfl (fw_sub1 rfl fw_sub0)))) (ih (a5_2 + (1 : Int32)) h13)
def s_Jdk_fillI (F : Nat) (h : fw_H) (v0 : Option Nat) (v1 : Int32) : Option fw_H :=
(f_lnI h v0).bind fun x3 =>
l_Jdk_fillI_5 v0 v1 x3 F (0 : Int32) h
theorem c_Jdk_fillI {G : fw_G} (F : Nat) {h : fw_H} {v0 : Option Nat} {v1 : Int32} : fw_Call G m_Jdk_fillI fw_eV 0 0 0 [fw_r v0, fw_i v1] h (s_Jdk_fillI F h v0 v1) := by
  refine fw_Call.of ok_Jdk_fillI.1 (Nat.le_of_ble_eq_true rfl) [(0, some (fw_r v0)), (1, some (fw_i v1))] rfl ?_
  refine r_iconst (i := 0) (0 : Int32) kc_iconst_0 rfl rfl ?_
  refine r_istore_n (i := 1) rfl rfl (Nat.le_of_ble_eq_true rfl) rfl ?_
  refine r_aload_n (i := 2) rfl rfl rfl ?_
  refine r_lnI (i := 3) rfl rfl fun x3 => ?_
  refine r_istore_n (i := 4) rfl rfl (Nat.le_of_ble_eq_true rfl) rfl ?_
  refine r_lv (fw_sub1 rfl (fw_sub1 rfl (fw_sub1 rfl (fw_sub1 rfl fw_sub0)))) (cl_Jdk_fillI_5 F _ _)
-- Seen_gather
def l_Seen_gather_15 (v0 : Option Nat) : Nat → Int32 → fw_H → Option fw_H
  | 0, _, _ => none
  | nn + 1, a15_1, g15 =>
    (f_gI g15 v0 4 3).bind fun x17 =>
    if x17 ≤ a15_1 then (some g15) else
    (f_gR g15 v0 4 1).bind fun x24 =>
    (s_Rows_get g15 x24 a15_1).bind fun x28 =>
    (f_gR g15 v0 4 4).bind fun x33 =>
    (f_gR g15 v0 4 4).bind fun x38 =>
    (s_Rows_get g15 x38 x28).bind fun x42 =>
    (f_gR g15 v0 4 2).bind fun x47 =>
    (s_Rows_get g15 x47 a15_1).bind fun x51 =>
    (s_Rows_put g15 x33 x28 (x42 &&& ((1 : Int32) <<< (x51 &&& 31)))).bind fun h56 =>
    (f_gI h56 v0 4 5).bind fun x61 =>
    (f_pI h56 v0 4 5 (fw_max x61 x28)).bind fun h68 =>
    l_Seen_gather_15 v0 nn (a15_1 + (1 : Int32)) h68
theorem cl_Seen_gather_15 {G : fw_G} {v0 : Option Nat} : ∀ (nn : Nat) (a15_1 : Int32) (g15 : fw_H), fw_R G m_Seen_gather fw_eV 1 0 0 15 [(0, some (fw_r v0)), (1, some (fw_i a15_1))] [] g15 (l_Seen_gather_15 v0 nn a15_1 g15) := by
  intro nn
  induction nn with
  | zero => intros; exact r_none
  | succ nn ih =>
    intro a15_1 g15
    rw [l_Seen_gather_15]
    refine r_iload_n (i := 9) rfl rfl rfl ?_
    refine r_aload_n (i := 10) rfl rfl rfl ?_
    refine r_gI (i := 11) (ci := 4) (kf := 3) rfl (Nat.le_of_ble_eq_true rfl) wF_Seen_25 rfl rfl fun x17 => ?_
    refine r_icmp_ge (i := 12) (tgt := 77) rfl rfl rfl ?_ ?_
    · exact r_retV (i := 41) rfl rfl rfl rfl
    · refine r_aload_n (i := 13) rfl rfl rfl ?_
      refine r_gR (i := 14) (ci := 4) (kf := 1) rfl (Nat.le_of_ble_eq_true rfl) wF_Seen_11 rfl rfl fun x24 => ?_
      refine r_iload_n (i := 15) rfl rfl rfl ?_
      refine r_SI2 (i := 16) (k2 := 0) (n2 := 0) ok_Rows_get wM_Seen_44 (c_Rows_get) (Nat.le_of_ble_eq_true rfl) (Nat.le_of_ble_eq_true rfl) (Nat.le_of_ble_eq_true rfl) (Nat.le_of_ble_eq_true rfl) rfl rfl fun x28 => ?_
      refine r_istore_n (i := 17) rfl rfl (Nat.le_of_ble_eq_true rfl) rfl ?_
      refine r_aload_n (i := 18) rfl rfl rfl ?_
      refine r_gR (i := 19) (ci := 4) (kf := 4) rfl (Nat.le_of_ble_eq_true rfl) wF_Seen_18 rfl rfl fun x33 => ?_
      refine r_iload_n (i := 20) rfl rfl rfl ?_
      refine r_aload_n (i := 21) rfl rfl rfl ?_
      refine r_gR (i := 22) (ci := 4) (kf := 4) rfl (Nat.le_of_ble_eq_true rfl) wF_Seen_18 rfl rfl fun x38 => ?_
      refine r_iload_n (i := 23) rfl rfl rfl ?_
      refine r_SI2 (i := 24) (k2 := 0) (n2 := 0) ok_Rows_get wM_Seen_44 (c_Rows_get) (Nat.le_of_ble_eq_true rfl) (Nat.le_of_ble_eq_true rfl) (Nat.le_of_ble_eq_true rfl) (Nat.le_of_ble_eq_true rfl) rfl rfl fun x42 => ?_
      refine r_iconst (i := 25) (1 : Int32) kc_iconst_1 rfl rfl ?_
      refine r_aload_n (i := 26) rfl rfl rfl ?_
      refine r_gR (i := 27) (ci := 4) (kf := 2) rfl (Nat.le_of_ble_eq_true rfl) wF_Seen_15 rfl rfl fun x47 => ?_
      refine r_iload_n (i := 28) rfl rfl rfl ?_
      refine r_SI2 (i := 29) (k2 := 0) (n2 := 0) ok_Rows_get wM_Seen_44 (c_Rows_get) (Nat.le_of_ble_eq_true rfl) (Nat.le_of_ble_eq_true rfl) (Nat.le_of_ble_eq_true rfl) (Nat.le_of_ble_eq_true rfl) rfl rfl fun x51 => ?_
      refine r_ishl (i := 30) rfl rfl ?_
      refine r_iand (i := 31) rfl rfl ?_
      refine r_SV3 (i := 32) (k2 := 0) (n2 := 0) ok_Rows_put wM_Seen_29 (c_Rows_put) (Nat.le_of_ble_eq_true rfl) (Nat.le_of_ble_eq_true rfl) (Nat.le_of_ble_eq_true rfl) (Nat.le_of_ble_eq_true rfl) rfl rfl fun h56 => ?_
      refine r_aload_n (i := 33) rfl rfl rfl ?_
      refine r_aload_n (i := 34) rfl rfl rfl ?_
      refine r_gI (i := 35) (ci := 4) (kf := 5) rfl (Nat.le_of_ble_eq_true rfl) wF_Seen_41 rfl rfl fun x61 => ?_
      refine r_iload_n (i := 36) rfl rfl rfl ?_
      refine r_max (i := 37) (Nat.le_of_ble_eq_true rfl) (Nat.le_of_ble_eq_true rfl) wM_Seen_48 rfl rfl ?_
      refine r_pI (i := 38) (ci := 4) (kf := 5) rfl (Nat.le_of_ble_eq_true rfl) wF_Seen_41 rfl (tyX4_ok 5 (Nat.le_of_ble_eq_true rfl)) rfl rfl fun h68 => ?_
      refine r_iinc (i := 39) (1 : Int32) kc_iconst_1 rfl rfl rfl (Nat.le_of_ble_eq_true rfl) ?_
      refine r_goto (i := 40) (tgt := 15) rfl rfl rfl ?_
      exact r_lv (fw_sub1 rfl (fw_sub1 rfl fw_sub0)) (ih (a15_1 + (1 : Int32)) h68)
def s_Seen_gather (F : Nat) (h : fw_H) (v0 : Option Nat) : Option fw_H :=
(f_ck h v0 4).bind fun _ =>
(f_gR h v0 4 4).bind fun x1 =>
(s_Jdk_fillI F h x1 (-1 : Int32)).bind fun h5 =>
(f_pI h5 v0 4 5 (0 : Int32)).bind fun h10 =>
l_Seen_gather_15 v0 F (0 : Int32) h10
theorem c_Seen_gather {G : fw_G} (F : Nat) {h : fw_H} {v0 : Option Nat} : fw_Call G m_Seen_gather fw_eV 1 0 0 [fw_r v0] h (s_Seen_gather F h v0) := by
  refine fw_Call.of ok_Seen_gather.1 (Nat.le_of_ble_eq_true rfl) [(0, some (fw_r v0))] rfl ?_
  refine r_ck ?_
  refine r_aload_n (i := 0) rfl rfl rfl ?_
  refine r_gR (i := 1) (ci := 4) (kf := 4) rfl (Nat.le_of_ble_eq_true rfl) wF_Seen_18 rfl rfl fun x1 => ?_
  refine r_iconst (i := 2) (-1 : Int32) kc_iconst_m1 rfl rfl ?_
  refine r_SV2 (i := 3) (k2 := 0) (n2 := 0) ok_Jdk_fillI wM_Seen_35 (c_Jdk_fillI F) (Nat.le_of_ble_eq_true rfl) (Nat.le_of_ble_eq_true rfl) (Nat.le_of_ble_eq_true rfl) (Nat.le_of_ble_eq_true rfl) rfl rfl fun h5 => ?_
  refine r_aload_n (i := 4) rfl rfl rfl ?_
  refine r_iconst (i := 5) (0 : Int32) kc_iconst_0 rfl rfl ?_
  refine r_pI (i := 6) (ci := 4) (kf := 5) rfl (Nat.le_of_ble_eq_true rfl) wF_Seen_41 rfl (tyX4_ok 5 (Nat.le_of_ble_eq_true rfl)) rfl rfl fun h10 => ?_
  refine r_iconst (i := 7) (0 : Int32) kc_iconst_0 rfl rfl ?_
  refine r_istore_n (i := 8) rfl rfl (Nat.le_of_ble_eq_true rfl) rfl ?_
  refine r_lv (fw_sub1 rfl (fw_sub1 rfl fw_sub0)) (cl_Seen_gather_15 F _ _)
-- Walk_standAt
def s_Walk_standAt (h : fw_H) (v0 : Option Nat) (v1 : Int32) (v2 : Int32) (v3 : Int32) : Option fw_H :=
(f_ck h v0 9).bind fun _ =>
(f_pI h v0 9 2 v1).bind fun h2 =>
(f_pI h2 v0 9 3 v2).bind fun h7 =>
(f_pI h7 v0 9 4 v3).bind fun h12 =>
some h12
theorem c_Walk_standAt {G : fw_G} {h : fw_H} {v0 : Option Nat} {v1 : Int32} {v2 : Int32} {v3 : Int32} : fw_Call G m_Walk_standAt fw_eV 0 0 0 [fw_r v0, fw_i v1, fw_i v2, fw_i v3] h (s_Walk_standAt h v0 v1 v2 v3) := by
  refine fw_Call.of ok_Walk_standAt.1 (Nat.le_of_ble_eq_true rfl) [(0, some (fw_r v0)), (1, some (fw_i v1)), (2, some (fw_i v2)), (3, some (fw_i v3))] rfl ?_
  refine r_ck ?_
  refine r_aload_n (i := 0) rfl rfl rfl ?_
  refine r_iload_n (i := 1) rfl rfl rfl ?_
  refine r_pI (i := 2) (ci := 9) (kf := 2) rfl (Nat.le_of_ble_eq_true rfl) wF_Walk_86 rfl (tyX9_ok 2 (Nat.le_of_ble_eq_true rfl)) rfl rfl fun h2 => ?_
  refine r_aload_n (i := 3) rfl rfl rfl ?_
  refine r_iload_n (i := 4) rfl rfl rfl ?_
  refine r_pI (i := 5) (ci := 9) (kf := 3) rfl (Nat.le_of_ble_eq_true rfl) wF_Walk_87 rfl (tyX9_ok 3 (Nat.le_of_ble_eq_true rfl)) rfl rfl fun h7 => ?_
  refine r_aload_n (i := 6) rfl rfl rfl ?_
  refine r_iload_n (i := 7) rfl rfl rfl ?_
  refine r_pI (i := 8) (ci := 9) (kf := 4) rfl (Nat.le_of_ble_eq_true rfl) wF_Walk_88 rfl (tyX9_ok 4 (Nat.le_of_ble_eq_true rfl)) rfl rfl fun h12 => ?_
  exact r_retV (i := 9) rfl rfl rfl rfl
-- Walk_restart
def s_Walk_restart (h : fw_H) (v0 : Option Nat) : Option fw_H :=
(f_ck h v0 9).bind fun _ =>
(f_gR h v0 9 0).bind fun x2 =>
(f_gI h x2 7 10).bind fun x5 =>
(f_gR h v0 9 0).bind fun x9 =>
(f_gI h x9 7 11).bind fun x12 =>
(f_gR h v0 9 0).bind fun x16 =>
(f_gI h x16 7 12).bind fun x19 =>
(f_irem x19 (24 : Int32)).bind fun x24 =>
(s_Walk_standAt h v0 x5 x12 x24).bind fun h25 =>
some h25
theorem c_Walk_restart {G : fw_G} {h : fw_H} {v0 : Option Nat} : fw_Call G m_Walk_restart fw_eV 1 0 0 [fw_r v0] h (s_Walk_restart h v0) := by
  refine fw_Call.of ok_Walk_restart.1 (Nat.le_of_ble_eq_true rfl) [(0, some (fw_r v0))] rfl ?_
  refine r_ck ?_
  refine r_aload_n (i := 0) rfl rfl rfl ?_
  refine r_aload_n (i := 1) rfl rfl rfl ?_
  refine r_gR (i := 2) (ci := 9) (kf := 0) rfl (Nat.le_of_ble_eq_true rfl) wF_Walk_14 rfl rfl fun x2 => ?_
  refine r_gI (i := 3) (ci := 7) (kf := 10) rfl (Nat.le_of_ble_eq_true rfl) wF_Walk_73 rfl rfl fun x5 => ?_
  refine r_aload_n (i := 4) rfl rfl rfl ?_
  refine r_gR (i := 5) (ci := 9) (kf := 0) rfl (Nat.le_of_ble_eq_true rfl) wF_Walk_14 rfl rfl fun x9 => ?_
  refine r_gI (i := 6) (ci := 7) (kf := 11) rfl (Nat.le_of_ble_eq_true rfl) wF_Walk_76 rfl rfl fun x12 => ?_
  refine r_aload_n (i := 7) rfl rfl rfl ?_
  refine r_gR (i := 8) (ci := 9) (kf := 0) rfl (Nat.le_of_ble_eq_true rfl) wF_Walk_14 rfl rfl fun x16 => ?_
  refine r_gI (i := 9) (ci := 7) (kf := 12) rfl (Nat.le_of_ble_eq_true rfl) wF_Walk_79 rfl rfl fun x19 => ?_
  refine r_bipush (i := 10) (24 : Int32) kc_bipush_24 rfl rfl ?_
  refine r_iremN (i := 11) rfl rfl fun x24 => ?_
  refine r_VV3 (i := 12) (k2 := 0) (n2 := 0) ok_Walk_standAt wM_Walk_82 (c_Walk_standAt) (fun _ e => fw_ckb e) (Nat.le_of_ble_eq_true rfl) (Nat.le_of_ble_eq_true rfl) (Nat.le_of_ble_eq_true rfl) (Nat.le_of_ble_eq_true rfl) rfl rfl fun h25 => ?_
  exact r_retV (i := 13) rfl rfl rfl rfl
-- Walk_doorCount
def s_Walk_doorCount (h : fw_H) (v0 : Option Nat) : Option Int32 :=
(f_ck h v0 9).bind fun _ =>
(f_gR h v0 9 8).bind fun x1 =>
(f_gI h v0 9 2).bind fun x5 =>
(s_Rows_get h x1 x5).bind fun x8 =>
some x8
theorem c_Walk_doorCount {G : fw_G} {h : fw_H} {v0 : Option Nat} : fw_Call G m_Walk_doorCount (fw_eI h) 1 0 0 [fw_r v0] h (s_Walk_doorCount h v0) := by
  refine fw_Call.of ok_Walk_doorCount.1 (Nat.le_of_ble_eq_true rfl) [(0, some (fw_r v0))] rfl ?_
  refine r_ck ?_
  refine r_aload_n (i := 0) rfl rfl rfl ?_
  refine r_gR (i := 1) (ci := 9) (kf := 8) rfl (Nat.le_of_ble_eq_true rfl) wF_Walk_22 rfl rfl fun x1 => ?_
  refine r_aload_n (i := 2) rfl rfl rfl ?_
  refine r_gI (i := 3) (ci := 9) (kf := 2) rfl (Nat.le_of_ble_eq_true rfl) wF_Walk_86 rfl rfl fun x5 => ?_
  refine r_SI2 (i := 4) (k2 := 0) (n2 := 0) ok_Rows_get wM_Walk_105 (c_Rows_get) (Nat.le_of_ble_eq_true rfl) (Nat.le_of_ble_eq_true rfl) (Nat.le_of_ble_eq_true rfl) (Nat.le_of_ble_eq_true rfl) rfl rfl fun x8 => ?_
  exact r_retI (i := 5) rfl rfl rfl rfl
-- Walk_door
def s_Walk_door (h : fw_H) (v0 : Option Nat) (v1 : Int32) : Option Int32 :=
(f_ck h v0 9).bind fun _ =>
(f_gR h v0 9 7).bind fun x1 =>
(f_gI h v0 9 2).bind fun x5 =>
(s_Rows_get h x1 ((x5 * (12 : Int32)) + v1)).bind fun x13 =>
some x13
theorem c_Walk_door {G : fw_G} {h : fw_H} {v0 : Option Nat} {v1 : Int32} : fw_Call G m_Walk_door (fw_eI h) 1 0 0 [fw_r v0, fw_i v1] h (s_Walk_door h v0 v1) := by
  refine fw_Call.of ok_Walk_door.1 (Nat.le_of_ble_eq_true rfl) [(0, some (fw_r v0)), (1, some (fw_i v1))] rfl ?_
  refine r_ck ?_
  refine r_aload_n (i := 0) rfl rfl rfl ?_
  refine r_gR (i := 1) (ci := 9) (kf := 7) rfl (Nat.le_of_ble_eq_true rfl) wF_Walk_18 rfl rfl fun x1 => ?_
  refine r_aload_n (i := 2) rfl rfl rfl ?_
  refine r_gI (i := 3) (ci := 9) (kf := 2) rfl (Nat.le_of_ble_eq_true rfl) wF_Walk_86 rfl rfl fun x5 => ?_
  refine r_bipush (i := 4) (12 : Int32) kc_bipush_12 rfl rfl ?_
  refine r_imul (i := 5) rfl rfl ?_
  refine r_iload_n (i := 6) rfl rfl rfl ?_
  refine r_iadd (i := 7) rfl rfl ?_
  refine r_SI2 (i := 8) (k2 := 0) (n2 := 0) ok_Rows_get wM_Walk_105 (c_Rows_get) (Nat.le_of_ble_eq_true rfl) (Nat.le_of_ble_eq_true rfl) (Nat.le_of_ble_eq_true rfl) (Nat.le_of_ble_eq_true rfl) rfl rfl fun x13 => ?_
  exact r_retI (i := 9) rfl rfl rfl rfl
-- Walk_isCalled
def l_Walk_isCalled_4 (h : fw_H) (v0 : Option Nat) (K47 : Int32 → Option Bool) : Nat → Int32 → Int32 → Option Bool
  | 0, _, _ => none
  | nn + 1, a4_1, a4_2 =>
    (s_Walk_doorCount h v0).bind fun x6 =>
    if x6 ≤ a4_2 then (K47 a4_1) else
    (s_Walk_door h v0 a4_2).bind fun x14 =>
    (f_gI h v0 9 6).bind fun x19 =>
    (s_Rows_has x19 x14).bind fun x23 =>
    if x23 = true then ((f_gR h v0 9 0).bind fun x31 =>
    (s_Vil_trait h x31 x14 (1 : Int32)).bind fun x36 =>
    l_Walk_isCalled_4 h v0 K47 nn (a4_1 + x36) (a4_2 + (1 : Int32))) else
    l_Walk_isCalled_4 h v0 K47 nn a4_1 (a4_2 + (1 : Int32))
theorem cl_Walk_isCalled_4 {G : fw_G} {h : fw_H} {v0 : Option Nat} {K47 : Int32 → Option Bool} (hK47 : ∀ (e47_1 : Int32), fw_R G m_Walk_isCalled (fw_eB h) 2 0 0 47 [(0, some (fw_r v0)), (1, some (fw_i e47_1))] [] h (K47 e47_1)) : ∀ (nn : Nat) (a4_1 : Int32) (a4_2 : Int32), fw_R G m_Walk_isCalled (fw_eB h) 2 0 0 4 [(0, some (fw_r v0)), (1, some (fw_i a4_1)), (2, some (fw_i a4_2))] [] h (l_Walk_isCalled_4 h v0 K47 nn a4_1 a4_2) := by
  intro nn
  induction nn with
  | zero => intros; exact r_none
  | succ nn ih =>
    intro a4_1 a4_2
    rw [l_Walk_isCalled_4]
    refine r_iload_n (i := 4) rfl rfl rfl ?_
    refine r_aload_n (i := 5) rfl rfl rfl ?_
    refine r_VI0 (i := 6) (k2 := 0) (n2 := 0) ok_Walk_doorCount wM_Walk_118 (c_Walk_doorCount) (fun _ e => fw_ckb e) (Nat.le_of_ble_eq_true rfl) (Nat.le_of_ble_eq_true rfl) (Nat.le_of_ble_eq_true rfl) (Nat.le_of_ble_eq_true rfl) rfl rfl fun x6 => ?_
    refine r_icmp_ge (i := 7) (tgt := 47) rfl rfl rfl ?_ ?_
    · exact r_lv (fw_sub1 rfl (fw_sub1 rfl fw_sub0)) (hK47 a4_1)
    · refine r_aload_n (i := 8) rfl rfl rfl ?_
      refine r_iload_n (i := 9) rfl rfl rfl ?_
      refine r_VI1 (i := 10) (k2 := 0) (n2 := 0) ok_Walk_door wM_Walk_121 (c_Walk_door) (fun _ e => fw_ckb e) (Nat.le_of_ble_eq_true rfl) (Nat.le_of_ble_eq_true rfl) (Nat.le_of_ble_eq_true rfl) (Nat.le_of_ble_eq_true rfl) rfl rfl fun x14 => ?_
      refine r_istore_n (i := 11) rfl rfl (Nat.le_of_ble_eq_true rfl) rfl ?_
      refine r_aload_n (i := 12) rfl rfl rfl ?_
      refine r_gI (i := 13) (ci := 9) (kf := 6) rfl (Nat.le_of_ble_eq_true rfl) wF_Walk_54 rfl rfl fun x19 => ?_
      refine r_iload_n (i := 14) rfl rfl rfl ?_
      refine r_SB2 (i := 15) (k2 := 0) (n2 := 0) ok_Rows_has wM_Walk_95 (c_Rows_has) (Nat.le_of_ble_eq_true rfl) (Nat.le_of_ble_eq_true rfl) (Nat.le_of_ble_eq_true rfl) (Nat.le_of_ble_eq_true rfl) rfl rfl fun x23 => ?_
      refine r_ifeqB (i := 16) (tgt := 41) rfl rfl rfl ?_ ?_
      · refine r_iinc (i := 25) (1 : Int32) kc_iconst_1 rfl rfl rfl (Nat.le_of_ble_eq_true rfl) ?_
        refine r_goto (i := 26) (tgt := 4) rfl rfl rfl ?_
        exact r_lv (fw_sub1 rfl (fw_sub1 rfl (fw_sub1 rfl fw_sub0))) (ih a4_1 (a4_2 + (1 : Int32)))
      · refine r_iload_n (i := 17) rfl rfl rfl ?_
        refine r_aload_n (i := 18) rfl rfl rfl ?_
        refine r_gR (i := 19) (ci := 9) (kf := 0) rfl (Nat.le_of_ble_eq_true rfl) wF_Walk_14 rfl rfl fun x31 => ?_
        refine r_iload_n (i := 20) rfl rfl rfl ?_
        refine r_iconst (i := 21) (1 : Int32) kc_iconst_1 rfl rfl ?_
        refine r_VI2 (i := 22) (k2 := 0) (n2 := 0) ok_Vil_trait wM_Walk_125 (c_Vil_trait) (fun _ e => fw_ckb e) (Nat.le_of_ble_eq_true rfl) (Nat.le_of_ble_eq_true rfl) (Nat.le_of_ble_eq_true rfl) (Nat.le_of_ble_eq_true rfl) rfl rfl fun x36 => ?_
        refine r_iadd (i := 23) rfl rfl ?_
        refine r_istore_n (i := 24) rfl rfl (Nat.le_of_ble_eq_true rfl) rfl ?_
        refine r_iinc (i := 25) (1 : Int32) kc_iconst_1 rfl rfl rfl (Nat.le_of_ble_eq_true rfl) ?_
        refine r_goto (i := 26) (tgt := 4) rfl rfl rfl ?_
        exact r_lv (fw_sub1 rfl (fw_sub1 rfl (fw_sub1 rfl fw_sub0))) (ih (a4_1 + x36) (a4_2 + (1 : Int32)))
def s_Walk_isCalled (F : Nat) (h : fw_H) (v0 : Option Nat) : Option Bool :=
(f_ck h v0 9).bind fun _ =>
l_Walk_isCalled_4 h v0 (fun e47_1 =>
(f_gR h v0 9 0).bind fun x49 =>
(f_gI h v0 9 2).bind fun x53 =>
(s_Vil_trait h x49 x53 (2 : Int32)).bind fun x57 =>
if e47_1 < x57 then (some false) else
some true) F (0 : Int32) (0 : Int32)
theorem c_Walk_isCalled {G : fw_G} (F : Nat) {h : fw_H} {v0 : Option Nat} : fw_Call G m_Walk_isCalled (fw_eB h) 2 0 0 [fw_r v0] h (s_Walk_isCalled F h v0) := by
  refine fw_Call.of ok_Walk_isCalled.1 (Nat.le_of_ble_eq_true rfl) [(0, some (fw_r v0))] rfl ?_
  refine r_ck ?_
  refine r_iconst (i := 0) (0 : Int32) kc_iconst_0 rfl rfl ?_
  refine r_istore_n (i := 1) rfl rfl (Nat.le_of_ble_eq_true rfl) rfl ?_
  refine r_iconst (i := 2) (0 : Int32) kc_iconst_0 rfl rfl ?_
  refine r_istore_n (i := 3) rfl rfl (Nat.le_of_ble_eq_true rfl) rfl ?_
  refine r_lv (fw_sub1 rfl (fw_sub1 rfl (fw_sub1 rfl fw_sub0))) (cl_Walk_isCalled_4 ?_ F _ _)
  · intro e47_1
    refine r_iload_n (i := 27) rfl rfl rfl ?_
    refine r_aload_n (i := 28) rfl rfl rfl ?_
    refine r_gR (i := 29) (ci := 9) (kf := 0) rfl (Nat.le_of_ble_eq_true rfl) wF_Walk_14 rfl rfl fun x49 => ?_
    refine r_aload_n (i := 30) rfl rfl rfl ?_
    refine r_gI (i := 31) (ci := 9) (kf := 2) rfl (Nat.le_of_ble_eq_true rfl) wF_Walk_86 rfl rfl fun x53 => ?_
    refine r_iconst (i := 32) (2 : Int32) kc_iconst_2 rfl rfl ?_
    refine r_VI2 (i := 33) (k2 := 0) (n2 := 0) ok_Vil_trait wM_Walk_125 (c_Vil_trait) (fun _ e => fw_ckb e) (Nat.le_of_ble_eq_true rfl) (Nat.le_of_ble_eq_true rfl) (Nat.le_of_ble_eq_true rfl) (Nat.le_of_ble_eq_true rfl) rfl rfl fun x57 => ?_
    refine r_icmp_lt (i := 34) (tgt := 67) rfl rfl rfl ?_ ?_
    · refine r_iconst (i := 37) (0 : Int32) kc_iconst_0 rfl rfl ?_
      exact r_retB (x := false) (i := 38) rfl rfl rfl rfl
    · refine r_iconst (i := 35) (1 : Int32) kc_iconst_1 rfl rfl ?_
      refine r_goto (i := 36) (tgt := 68) rfl rfl rfl ?_
      exact r_retB (x := true) (i := 38) rfl rfl rfl rfl
-- Walk_wishPlace
def s_Walk_wishPlace (v0 : Int32) (v1 : Int32) (v2 : Int32) : Option Int32 :=
some ((((v0 * (2 : Int32)) + v1) * (24 : Int32)) + v2)
theorem c_Walk_wishPlace {G : fw_G} {h : fw_H} {v0 : Int32} {v1 : Int32} {v2 : Int32} : fw_Call G m_Walk_wishPlace (fw_eI h) 0 0 0 [fw_i v0, fw_i v1, fw_i v2] h (s_Walk_wishPlace v0 v1 v2) := by
  refine fw_Call.of ok_Walk_wishPlace.1 (Nat.le_of_ble_eq_true rfl) [(0, some (fw_i v0)), (1, some (fw_i v1)), (2, some (fw_i v2))] rfl ?_
  refine r_iload_n (i := 0) rfl rfl rfl ?_
  refine r_iconst (i := 1) (2 : Int32) kc_iconst_2 rfl rfl ?_
  refine r_imul (i := 2) rfl rfl ?_
  refine r_iload_n (i := 3) rfl rfl rfl ?_
  refine r_iadd (i := 4) rfl rfl ?_
  refine r_bipush (i := 5) (24 : Int32) kc_bipush_24 rfl rfl ?_
  refine r_imul (i := 6) rfl rfl ?_
  refine r_iload_n (i := 7) rfl rfl rfl ?_
  refine r_iadd (i := 8) rfl rfl ?_
  exact r_retI (i := 9) rfl rfl rfl rfl
-- Walk_wishOf
def s_Walk_wishOf (h : fw_H) (v0 : Option Nat) (v1 : Int32) : Option Int32 :=
(f_ck h v0 9).bind fun _ =>
(f_gR h v0 9 9).bind fun x1 =>
(f_gI h v0 9 5).bind fun x6 =>
(s_Rows_has x6 v1).bind fun x10 =>
if x10 = true then ((f_gI h v0 9 4).bind fun x22 =>
(s_Walk_wishPlace v1 (1 : Int32) x22).bind fun x25 =>
(s_Rows_get h x1 x25).bind fun x28 =>
some x28) else
(f_gI h v0 9 4).bind fun x22 =>
(s_Walk_wishPlace v1 (0 : Int32) x22).bind fun x25 =>
(s_Rows_get h x1 x25).bind fun x28 =>
some x28
theorem c_Walk_wishOf {G : fw_G} {h : fw_H} {v0 : Option Nat} {v1 : Int32} : fw_Call G m_Walk_wishOf (fw_eI h) 1 0 0 [fw_r v0, fw_i v1] h (s_Walk_wishOf h v0 v1) := by
  refine fw_Call.of ok_Walk_wishOf.1 (Nat.le_of_ble_eq_true rfl) [(0, some (fw_r v0)), (1, some (fw_i v1))] rfl ?_
  refine r_ck ?_
  refine r_aload_n (i := 0) rfl rfl rfl ?_
  refine r_gR (i := 1) (ci := 9) (kf := 9) rfl (Nat.le_of_ble_eq_true rfl) wF_Walk_25 rfl rfl fun x1 => ?_
  refine r_iload_n (i := 2) rfl rfl rfl ?_
  refine r_aload_n (i := 3) rfl rfl rfl ?_
  refine r_gI (i := 4) (ci := 9) (kf := 5) rfl (Nat.le_of_ble_eq_true rfl) wF_Walk_49 rfl rfl fun x6 => ?_
  refine r_iload_n (i := 5) rfl rfl rfl ?_
  refine r_SB2 (i := 6) (k2 := 0) (n2 := 0) ok_Rows_has wM_Walk_95 (c_Rows_has) (Nat.le_of_ble_eq_true rfl) (Nat.le_of_ble_eq_true rfl) (Nat.le_of_ble_eq_true rfl) (Nat.le_of_ble_eq_true rfl) rfl rfl fun x10 => ?_
  refine r_ifeqB (i := 7) (tgt := 20) rfl rfl rfl ?_ ?_
  · refine r_iconst (i := 10) (0 : Int32) kc_iconst_0 rfl rfl ?_
    refine r_aload_n (i := 11) rfl rfl rfl ?_
    refine r_gI (i := 12) (ci := 9) (kf := 4) rfl (Nat.le_of_ble_eq_true rfl) wF_Walk_88 rfl rfl fun x22 => ?_
    refine r_SI3 (i := 13) (k2 := 0) (n2 := 0) ok_Walk_wishPlace wM_Walk_131 (c_Walk_wishPlace) (Nat.le_of_ble_eq_true rfl) (Nat.le_of_ble_eq_true rfl) (Nat.le_of_ble_eq_true rfl) (Nat.le_of_ble_eq_true rfl) rfl rfl fun x25 => ?_
    refine r_SI2 (i := 14) (k2 := 0) (n2 := 0) ok_Rows_get wM_Walk_105 (c_Rows_get) (Nat.le_of_ble_eq_true rfl) (Nat.le_of_ble_eq_true rfl) (Nat.le_of_ble_eq_true rfl) (Nat.le_of_ble_eq_true rfl) rfl rfl fun x28 => ?_
    exact r_retI (i := 15) rfl rfl rfl rfl
  · refine r_iconst (i := 8) (1 : Int32) kc_iconst_1 rfl rfl ?_
    refine r_goto (i := 9) (tgt := 21) rfl rfl rfl ?_
    refine r_aload_n (i := 11) rfl rfl rfl ?_
    refine r_gI (i := 12) (ci := 9) (kf := 4) rfl (Nat.le_of_ble_eq_true rfl) wF_Walk_88 rfl rfl fun x22 => ?_
    refine r_SI3 (i := 13) (k2 := 0) (n2 := 0) ok_Walk_wishPlace wM_Walk_131 (c_Walk_wishPlace) (Nat.le_of_ble_eq_true rfl) (Nat.le_of_ble_eq_true rfl) (Nat.le_of_ble_eq_true rfl) (Nat.le_of_ble_eq_true rfl) rfl rfl fun x25 => ?_
    refine r_SI2 (i := 14) (k2 := 0) (n2 := 0) ok_Rows_get wM_Walk_105 (c_Rows_get) (Nat.le_of_ble_eq_true rfl) (Nat.le_of_ble_eq_true rfl) (Nat.le_of_ble_eq_true rfl) (Nat.le_of_ble_eq_true rfl) rfl rfl fun x28 => ?_
    exact r_retI (i := 15) rfl rfl rfl rfl
