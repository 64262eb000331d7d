-- Mod_condition, Mod_goOnAnd, Mod_goOnOr, Mod_unit
def b_Mod_condition (F : Nat) (g : Nat → fw_H → Option Nat → Option fw_H) (h : fw_H) (v0 : Option Nat) : Option fw_H :=
(f_ck h v0 12).bind fun _ =>
(g 3 h v0).bind fun h1 =>
(g 1 h1 v0).bind fun h5 =>
(g 2 h5 v0).bind fun h9 =>
some h9
theorem cb_Mod_condition {G : fw_G} {F : Nat} {g : Nat → fw_H → Option Nat → Option fw_H} {dd : Nat} (hdd : 85 ≤ dd) (hg0 : ∀ (h : fw_H) (v0 : Option Nat), fw_Call G m_Mod_condition fw_eV dd 0 0 [fw_r v0] h (g 0 h v0)) (hk0 : ∀ {h : fw_H} {v0 : Option Nat} {x : fw_H}, g 0 h v0 = some x → f_ck h v0 12 = some ()) (hg1 : ∀ (h : fw_H) (v0 : Option Nat), fw_Call G m_Mod_goOnAnd fw_eV dd 0 0 [fw_r v0] h (g 1 h v0)) (hk1 : ∀ {h : fw_H} {v0 : Option Nat} {x : fw_H}, g 1 h v0 = some x → f_ck h v0 12 = some ()) (hg2 : ∀ (h : fw_H) (v0 : Option Nat), fw_Call G m_Mod_goOnOr fw_eV dd 0 0 [fw_r v0] h (g 2 h v0)) (hk2 : ∀ {h : fw_H} {v0 : Option Nat} {x : fw_H}, g 2 h v0 = some x → f_ck h v0 12 = some ()) (hg3 : ∀ (h : fw_H) (v0 : Option Nat), fw_Call G m_Mod_unit fw_eV dd 0 0 [fw_r v0] h (g 3 h v0)) (hk3 : ∀ {h : fw_H} {v0 : Option Nat} {x : fw_H}, g 3 h v0 = some x → f_ck h v0 12 = some ()) {h : fw_H} {v0 : Option Nat} : fw_Call G m_Mod_condition fw_eV (dd + 1) 0 0 [fw_r v0] h (b_Mod_condition F g h v0) := by
  refine fw_Call.of ok_Mod_condition.1 (Nat.le_of_ble_eq_true rfl) [(0, some (fw_r v0))] rfl ?_
  refine r_ck ?_
  refine r_aload_n (i := 0) rfl rfl rfl ?_
  refine r_VV0 (i := 1) (k2 := 0) (n2 := 0) ok_Mod_unit wM_Mod_162 (hg3 _ _) (fun _ e => hk3 e) (Nat.le_refl _) (Nat.le_of_ble_eq_true rfl) (Nat.le_of_ble_eq_true rfl) (Nat.le_of_ble_eq_true rfl) rfl rfl fun h1 => ?_
  refine r_aload_n (i := 2) rfl rfl rfl ?_
  refine r_VV0 (i := 3) (k2 := 0) (n2 := 0) ok_Mod_goOnAnd wM_Mod_171 (hg1 _ _) (fun _ e => hk1 e) (Nat.le_refl _) (Nat.le_of_ble_eq_true rfl) (Nat.le_of_ble_eq_true rfl) (Nat.le_of_ble_eq_true rfl) rfl rfl fun h5 => ?_
  refine r_aload_n (i := 4) rfl rfl rfl ?_
  refine r_VV0 (i := 5) (k2 := 0) (n2 := 0) ok_Mod_goOnOr wM_Mod_174 (hg2 _ _) (fun _ e => hk2 e) (Nat.le_refl _) (Nat.le_of_ble_eq_true rfl) (Nat.le_of_ble_eq_true rfl) (Nat.le_of_ble_eq_true rfl) rfl rfl fun h9 => ?_
  exact r_retV (i := 6) rfl rfl rfl rfl
def l_Mod_goOnAnd_0 (F : Nat) (g : Nat → fw_H → Option Nat → Option fw_H) (v0 : Option Nat) : Nat → fw_H → Option fw_H
  | 0, _ => none
  | nn + 1, g0 =>
    (f_gI g0 v0 12 4).bind fun x1 =>
    if ¬ x1 = (-1 : Int32) then (some g0) else
    (s_Mod_look F g0 v0).bind fun x9 =>
    if ¬ x9.1 = (38 : Int32) then (some x9.2) else
    (f_gI x9.2 v0 12 3).bind fun x19 =>
    (f_pI x9.2 v0 12 3 (x19 + (1 : Int32))).bind fun h24 =>
    (g 3 h24 v0).bind fun h28 =>
    (s_Mod_put h28 v0 (10 : Int32) (0 : Int32)).bind fun h35 =>
    l_Mod_goOnAnd_0 F g v0 nn h35
theorem cl_Mod_goOnAnd_0 {G : fw_G} {F : Nat} {g : Nat → fw_H → Option Nat → Option fw_H} {dd : Nat} {v0 : Option Nat} (hdd : 85 ≤ dd) (hg0 : ∀ (h : fw_H) (v0 : Option Nat), fw_Call G m_Mod_condition fw_eV dd 0 0 [fw_r v0] h (g 0 h v0)) (hk0 : ∀ {h : fw_H} {v0 : Option Nat} {x : fw_H}, g 0 h v0 = some x → f_ck h v0 12 = some ()) (hg1 : ∀ (h : fw_H) (v0 : Option Nat), fw_Call G m_Mod_goOnAnd fw_eV dd 0 0 [fw_r v0] h (g 1 h v0)) (hk1 : ∀ {h : fw_H} {v0 : Option Nat} {x : fw_H}, g 1 h v0 = some x → f_ck h v0 12 = some ()) (hg2 : ∀ (h : fw_H) (v0 : Option Nat), fw_Call G m_Mod_goOnOr fw_eV dd 0 0 [fw_r v0] h (g 2 h v0)) (hk2 : ∀ {h : fw_H} {v0 : Option Nat} {x : fw_H}, g 2 h v0 = some x → f_ck h v0 12 = some ()) (hg3 : ∀ (h : fw_H) (v0 : Option Nat), fw_Call G m_Mod_unit fw_eV dd 0 0 [fw_r v0] h (g 3 h v0)) (hk3 : ∀ {h : fw_H} {v0 : Option Nat} {x : fw_H}, g 3 h v0 = some x → f_ck h v0 12 = some ()) : ∀ (nn : Nat) (g0 : fw_H), fw_R G m_Mod_goOnAnd fw_eV (dd + 1) 0 0 0 [(0, some (fw_r v0))] [] g0 (l_Mod_goOnAnd_0 F g v0 nn g0) := by
  intro nn
  induction nn with
  | zero => intros; exact r_none
  | succ nn ih =>
    intro g0
    rw [l_Mod_goOnAnd_0]
    refine r_aload_n (i := 0) rfl rfl rfl ?_
    refine r_gI (i := 1) (ci := 12) (kf := 4) rfl (Nat.le_of_ble_eq_true rfl) wF_Mod_113 rfl rfl fun x1 => ?_
    refine r_iconst (i := 2) (-1 : Int32) kc_iconst_m1 rfl rfl ?_
    refine r_icmp_ne (i := 3) (tgt := 41) rfl rfl rfl ?_ ?_
    · exact r_retV (i := 21) rfl rfl rfl rfl
    · refine r_aload_n (i := 4) rfl rfl rfl ?_
      refine r_VwI0 (i := 5) (k2 := 0) (n2 := 0) ok_Mod_look wM_Mod_125 (c_Mod_look F) (fun _ e => fw_ckb e) (by omega) (Nat.le_of_ble_eq_true rfl) (Nat.le_of_ble_eq_true rfl) (Nat.le_of_ble_eq_true rfl) rfl rfl fun x9 => ?_
      refine r_bipush (i := 6) (38 : Int32) kc_bipush_38 rfl rfl ?_
      refine r_icmp_ne (i := 7) (tgt := 41) rfl rfl rfl ?_ ?_
      · exact r_retV (i := 21) rfl rfl rfl rfl
      · refine r_aload_n (i := 8) rfl rfl rfl ?_
        refine r_dup_r (i := 9) rfl rfl ?_
        refine r_gI (i := 10) (ci := 12) (kf := 3) rfl (Nat.le_of_ble_eq_true rfl) wF_Mod_106 rfl rfl fun x19 => ?_
        refine r_iconst (i := 11) (1 : Int32) kc_iconst_1 rfl rfl ?_
        refine r_iadd (i := 12) rfl rfl ?_
        refine r_pI (i := 13) (ci := 12) (kf := 3) rfl (Nat.le_of_ble_eq_true rfl) wF_Mod_106 rfl (tyX12_ok 3 (Nat.le_of_ble_eq_true rfl)) rfl rfl fun h24 => ?_
        refine r_aload_n (i := 14) rfl rfl rfl ?_
        refine r_VV0 (i := 15) (k2 := 0) (n2 := 0) ok_Mod_unit wM_Mod_162 (hg3 _ _) (fun _ e => hk3 e) (Nat.le_refl _) (Nat.le_of_ble_eq_true rfl) (Nat.le_of_ble_eq_true rfl) (Nat.le_of_ble_eq_true rfl) rfl rfl fun h28 => ?_
        refine r_aload_n (i := 16) rfl rfl rfl ?_
        refine r_bipush (i := 17) (10 : Int32) kc_bipush_10 rfl rfl ?_
        refine r_iconst (i := 18) (0 : Int32) kc_iconst_0 rfl rfl ?_
        refine r_VV2 (i := 19) (k2 := 0) (n2 := 0) ok_Mod_put wM_Mod_135 (c_Mod_put) (fun _ e => fw_ckb e) (by omega) (Nat.le_of_ble_eq_true rfl) (Nat.le_of_ble_eq_true rfl) (Nat.le_of_ble_eq_true rfl) rfl rfl fun h35 => ?_
        refine r_goto (i := 20) (tgt := 0) rfl rfl rfl ?_
        exact r_lv (fw_sub1 rfl fw_sub0) (ih h35)
def b_Mod_goOnAnd (F : Nat) (g : Nat → fw_H → Option Nat → Option fw_H) (h : fw_H) (v0 : Option Nat) : Option fw_H :=
(f_ck h v0 12).bind fun _ =>
l_Mod_goOnAnd_0 F g v0 F h
theorem cb_Mod_goOnAnd {G : fw_G} {F : Nat} {g : Nat → fw_H → Option Nat → Option fw_H} {dd : Nat} (hdd : 85 ≤ dd) (hg0 : ∀ (h : fw_H) (v0 : Option Nat), fw_Call G m_Mod_condition fw_eV dd 0 0 [fw_r v0] h (g 0 h v0)) (hk0 : ∀ {h : fw_H} {v0 : Option Nat} {x : fw_H}, g 0 h v0 = some x → f_ck h v0 12 = some ()) (hg1 : ∀ (h : fw_H) (v0 : Option Nat), fw_Call G m_Mod_goOnAnd fw_eV dd 0 0 [fw_r v0] h (g 1 h v0)) (hk1 : ∀ {h : fw_H} {v0 : Option Nat} {x : fw_H}, g 1 h v0 = some x → f_ck h v0 12 = some ()) (hg2 : ∀ (h : fw_H) (v0 : Option Nat), fw_Call G m_Mod_goOnOr fw_eV dd 0 0 [fw_r v0] h (g 2 h v0)) (hk2 : ∀ {h : fw_H} {v0 : Option Nat} {x : fw_H}, g 2 h v0 = some x → f_ck h v0 12 = some ()) (hg3 : ∀ (h : fw_H) (v0 : Option Nat), fw_Call G m_Mod_unit fw_eV dd 0 0 [fw_r v0] h (g 3 h v0)) (hk3 : ∀ {h : fw_H} {v0 : Option Nat} {x : fw_H}, g 3 h v0 = some x → f_ck h v0 12 = some ()) {h : fw_H} {v0 : Option Nat} : fw_Call G m_Mod_goOnAnd fw_eV (dd + 1) 0 0 [fw_r v0] h (b_Mod_goOnAnd F g h v0) := by
  refine fw_Call.of ok_Mod_goOnAnd.1 (Nat.le_of_ble_eq_true rfl) [(0, some (fw_r v0))] rfl ?_
  refine r_ck ?_
  refine r_lv (fw_sub1 rfl fw_sub0) (cl_Mod_goOnAnd_0 hdd hg0 hk0 hg1 hk1 hg2 hk2 hg3 hk3 F _)
def l_Mod_goOnOr_0 (F : Nat) (g : Nat → fw_H → Option Nat → Option fw_H) (v0 : Option Nat) : Nat → fw_H → Option fw_H
  | 0, _ => none
  | nn + 1, g0 =>
    (f_gI g0 v0 12 4).bind fun x1 =>
    if ¬ x1 = (-1 : Int32) then (some g0) else
    (s_Mod_look F g0 v0).bind fun x9 =>
    if ¬ x9.1 = (124 : Int32) then (some x9.2) else
    (f_gI x9.2 v0 12 3).bind fun x19 =>
    (f_pI x9.2 v0 12 3 (x19 + (1 : Int32))).bind fun h24 =>
    (g 3 h24 v0).bind fun h28 =>
    (g 1 h28 v0).bind fun h32 =>
    (s_Mod_put h32 v0 (11 : Int32) (0 : Int32)).bind fun h39 =>
    l_Mod_goOnOr_0 F g v0 nn h39
theorem cl_Mod_goOnOr_0 {G : fw_G} {F : Nat} {g : Nat → fw_H → Option Nat → Option fw_H} {dd : Nat} {v0 : Option Nat} (hdd : 85 ≤ dd) (hg0 : ∀ (h : fw_H) (v0 : Option Nat), fw_Call G m_Mod_condition fw_eV dd 0 0 [fw_r v0] h (g 0 h v0)) (hk0 : ∀ {h : fw_H} {v0 : Option Nat} {x : fw_H}, g 0 h v0 = some x → f_ck h v0 12 = some ()) (hg1 : ∀ (h : fw_H) (v0 : Option Nat), fw_Call G m_Mod_goOnAnd fw_eV dd 0 0 [fw_r v0] h (g 1 h v0)) (hk1 : ∀ {h : fw_H} {v0 : Option Nat} {x : fw_H}, g 1 h v0 = some x → f_ck h v0 12 = some ()) (hg2 : ∀ (h : fw_H) (v0 : Option Nat), fw_Call G m_Mod_goOnOr fw_eV dd 0 0 [fw_r v0] h (g 2 h v0)) (hk2 : ∀ {h : fw_H} {v0 : Option Nat} {x : fw_H}, g 2 h v0 = some x → f_ck h v0 12 = some ()) (hg3 : ∀ (h : fw_H) (v0 : Option Nat), fw_Call G m_Mod_unit fw_eV dd 0 0 [fw_r v0] h (g 3 h v0)) (hk3 : ∀ {h : fw_H} {v0 : Option Nat} {x : fw_H}, g 3 h v0 = some x → f_ck h v0 12 = some ()) : ∀ (nn : Nat) (g0 : fw_H), fw_R G m_Mod_goOnOr fw_eV (dd + 1) 0 0 0 [(0, some (fw_r v0))] [] g0 (l_Mod_goOnOr_0 F g v0 nn g0) := by
  intro nn
  induction nn with
  | zero => intros; exact r_none
  | succ nn ih =>
    intro g0
    rw [l_Mod_goOnOr_0]
    refine r_aload_n (i := 0) rfl rfl rfl ?_
    refine r_gI (i := 1) (ci := 12) (kf := 4) rfl (Nat.le_of_ble_eq_true rfl) wF_Mod_113 rfl rfl fun x1 => ?_
    refine r_iconst (i := 2) (-1 : Int32) kc_iconst_m1 rfl rfl ?_
    refine r_icmp_ne (i := 3) (tgt := 45) rfl rfl rfl ?_ ?_
    · exact r_retV (i := 23) rfl rfl rfl rfl
    · refine r_aload_n (i := 4) rfl rfl rfl ?_
      refine r_VwI0 (i := 5) (k2 := 0) (n2 := 0) ok_Mod_look wM_Mod_125 (c_Mod_look F) (fun _ e => fw_ckb e) (by omega) (Nat.le_of_ble_eq_true rfl) (Nat.le_of_ble_eq_true rfl) (Nat.le_of_ble_eq_true rfl) rfl rfl fun x9 => ?_
      refine r_bipush (i := 6) (124 : Int32) kc_bipush_124 rfl rfl ?_
      refine r_icmp_ne (i := 7) (tgt := 45) rfl rfl rfl ?_ ?_
      · exact r_retV (i := 23) rfl rfl rfl rfl
      · refine r_aload_n (i := 8) rfl rfl rfl ?_
        refine r_dup_r (i := 9) rfl rfl ?_
        refine r_gI (i := 10) (ci := 12) (kf := 3) rfl (Nat.le_of_ble_eq_true rfl) wF_Mod_106 rfl rfl fun x19 => ?_
        refine r_iconst (i := 11) (1 : Int32) kc_iconst_1 rfl rfl ?_
        refine r_iadd (i := 12) rfl rfl ?_
        refine r_pI (i := 13) (ci := 12) (kf := 3) rfl (Nat.le_of_ble_eq_true rfl) wF_Mod_106 rfl (tyX12_ok 3 (Nat.le_of_ble_eq_true rfl)) rfl rfl fun h24 => ?_
        refine r_aload_n (i := 14) rfl rfl rfl ?_
        refine r_VV0 (i := 15) (k2 := 0) (n2 := 0) ok_Mod_unit wM_Mod_162 (hg3 _ _) (fun _ e => hk3 e) (Nat.le_refl _) (Nat.le_of_ble_eq_true rfl) (Nat.le_of_ble_eq_true rfl) (Nat.le_of_ble_eq_true rfl) rfl rfl fun h28 => ?_
        refine r_aload_n (i := 16) rfl rfl rfl ?_
        refine r_VV0 (i := 17) (k2 := 0) (n2 := 0) ok_Mod_goOnAnd wM_Mod_171 (hg1 _ _) (fun _ e => hk1 e) (Nat.le_refl _) (Nat.le_of_ble_eq_true rfl) (Nat.le_of_ble_eq_true rfl) (Nat.le_of_ble_eq_true rfl) rfl rfl fun h32 => ?_
        refine r_aload_n (i := 18) rfl rfl rfl ?_
        refine r_bipush (i := 19) (11 : Int32) kc_bipush_11 rfl rfl ?_
        refine r_iconst (i := 20) (0 : Int32) kc_iconst_0 rfl rfl ?_
        refine r_VV2 (i := 21) (k2 := 0) (n2 := 0) ok_Mod_put wM_Mod_135 (c_Mod_put) (fun _ e => fw_ckb e) (by omega) (Nat.le_of_ble_eq_true rfl) (Nat.le_of_ble_eq_true rfl) (Nat.le_of_ble_eq_true rfl) rfl rfl fun h39 => ?_
        refine r_goto (i := 22) (tgt := 0) rfl rfl rfl ?_
        exact r_lv (fw_sub1 rfl fw_sub0) (ih h39)
def b_Mod_goOnOr (F : Nat) (g : Nat → fw_H → Option Nat → Option fw_H) (h : fw_H) (v0 : Option Nat) : Option fw_H :=
(f_ck h v0 12).bind fun _ =>
l_Mod_goOnOr_0 F g v0 F h
theorem cb_Mod_goOnOr {G : fw_G} {F : Nat} {g : Nat → fw_H → Option Nat → Option fw_H} {dd : Nat} (hdd : 85 ≤ dd) (hg0 : ∀ (h : fw_H) (v0 : Option Nat), fw_Call G m_Mod_condition fw_eV dd 0 0 [fw_r v0] h (g 0 h v0)) (hk0 : ∀ {h : fw_H} {v0 : Option Nat} {x : fw_H}, g 0 h v0 = some x → f_ck h v0 12 = some ()) (hg1 : ∀ (h : fw_H) (v0 : Option Nat), fw_Call G m_Mod_goOnAnd fw_eV dd 0 0 [fw_r v0] h (g 1 h v0)) (hk1 : ∀ {h : fw_H} {v0 : Option Nat} {x : fw_H}, g 1 h v0 = some x → f_ck h v0 12 = some ()) (hg2 : ∀ (h : fw_H) (v0 : Option Nat), fw_Call G m_Mod_goOnOr fw_eV dd 0 0 [fw_r v0] h (g 2 h v0)) (hk2 : ∀ {h : fw_H} {v0 : Option Nat} {x : fw_H}, g 2 h v0 = some x → f_ck h v0 12 = some ()) (hg3 : ∀ (h : fw_H) (v0 : Option Nat), fw_Call G m_Mod_unit fw_eV dd 0 0 [fw_r v0] h (g 3 h v0)) (hk3 : ∀ {h : fw_H} {v0 : Option Nat} {x : fw_H}, g 3 h v0 = some x → f_ck h v0 12 = some ()) {h : fw_H} {v0 : Option Nat} : fw_Call G m_Mod_goOnOr fw_eV (dd + 1) 0 0 [fw_r v0] h (b_Mod_goOnOr F g h v0) := by
  refine fw_Call.of ok_Mod_goOnOr.1 (Nat.le_of_ble_eq_true rfl) [(0, some (fw_r v0))] rfl ?_
  refine r_ck ?_
  refine r_lv (fw_sub1 rfl fw_sub0) (cl_Mod_goOnOr_0 hdd hg0 hk0 hg1 hk1 hg2 hk2 hg3 hk3 F _)
def b_Mod_unit (F : Nat) (g : Nat → fw_H → Option Nat → Option fw_H) (h : fw_H) (v0 : Option Nat) : Option fw_H :=
(f_ck h v0 12).bind fun _ =>
(s_Mod_look F h v0).bind fun x1 =>
if ¬ x1.1 = (33 : Int32) then (if ¬ x1.1 = (40 : Int32) then ((s_Mod_sum F x1.2 v0).bind fun h79 =>
(f_gI h79 v0 12 4).bind fun x83 =>
if ¬ x83 = (-1 : Int32) then (some h79) else
(s_Mod_compare F h79 v0).bind fun h91 =>
some h91) else
(s_Mod_opens x1.2 v0).bind fun h54 =>
(f_gI h54 v0 12 4).bind fun x58 =>
if ¬ x58 = (-1 : Int32) then (some h54) else
(g 0 h54 v0).bind fun h66 =>
(s_Mod_closes F h66 v0 (41 : Int32)).bind fun h72 =>
some h72) else
(s_Mod_opens x1.2 v0).bind fun h12 =>
(f_gI h12 v0 12 4).bind fun x16 =>
if ¬ x16 = (-1 : Int32) then (some h12) else
(g 3 h12 v0).bind fun h24 =>
(s_Mod_put h24 v0 (9 : Int32) (0 : Int32)).bind fun h31 =>
(f_gI h31 v0 12 5).bind fun x36 =>
(f_pI h31 v0 12 5 (x36 - (1 : Int32))).bind fun h41 =>
some h41
theorem cb_Mod_unit {G : fw_G} {F : Nat} {g : Nat → fw_H → Option Nat → Option fw_H} {dd : Nat} (hdd : 85 ≤ dd) (hg0 : ∀ (h : fw_H) (v0 : Option Nat), fw_Call G m_Mod_condition fw_eV dd 0 0 [fw_r v0] h (g 0 h v0)) (hk0 : ∀ {h : fw_H} {v0 : Option Nat} {x : fw_H}, g 0 h v0 = some x → f_ck h v0 12 = some ()) (hg1 : ∀ (h : fw_H) (v0 : Option Nat), fw_Call G m_Mod_goOnAnd fw_eV dd 0 0 [fw_r v0] h (g 1 h v0)) (hk1 : ∀ {h : fw_H} {v0 : Option Nat} {x : fw_H}, g 1 h v0 = some x → f_ck h v0 12 = some ()) (hg2 : ∀ (h : fw_H) (v0 : Option Nat), fw_Call G m_Mod_goOnOr fw_eV dd 0 0 [fw_r v0] h (g 2 h v0)) (hk2 : ∀ {h : fw_H} {v0 : Option Nat} {x : fw_H}, g 2 h v0 = some x → f_ck h v0 12 = some ()) (hg3 : ∀ (h : fw_H) (v0 : Option Nat), fw_Call G m_Mod_unit fw_eV dd 0 0 [fw_r v0] h (g 3 h v0)) (hk3 : ∀ {h : fw_H} {v0 : Option Nat} {x : fw_H}, g 3 h v0 = some x → f_ck h v0 12 = some ()) {h : fw_H} {v0 : Option Nat} : fw_Call G m_Mod_unit fw_eV (dd + 1) 0 0 [fw_r v0] h (b_Mod_unit F g h v0) := by
  refine fw_Call.of ok_Mod_unit.1 (Nat.le_of_ble_eq_true rfl) [(0, some (fw_r v0))] rfl ?_
  refine r_ck ?_
  refine r_aload_n (i := 0) rfl rfl rfl ?_
  refine r_VwI0 (i := 1) (k2 := 0) (n2 := 0) ok_Mod_look wM_Mod_125 (c_Mod_look F) (fun _ e => fw_ckb e) (by omega) (Nat.le_of_ble_eq_true rfl) (Nat.le_of_ble_eq_true rfl) (Nat.le_of_ble_eq_true rfl) rfl rfl fun x1 => ?_
  refine r_istore_n (i := 2) rfl rfl (Nat.le_of_ble_eq_true rfl) rfl ?_
  refine r_iload_n (i := 3) rfl rfl rfl ?_
  refine r_bipush (i := 4) (33 : Int32) kc_bipush_33 rfl rfl ?_
  refine r_icmp_ne (i := 5) (tgt := 47) rfl rfl rfl ?_ ?_
  · refine r_iload_n (i := 25) rfl rfl rfl ?_
    refine r_bipush (i := 26) (40 : Int32) kc_bipush_40 rfl rfl ?_
    refine r_icmp_ne (i := 27) (tgt := 78) rfl rfl rfl ?_ ?_
    · refine r_aload_n (i := 40) rfl rfl rfl ?_
      refine r_VV0 (i := 41) (k2 := 0) (n2 := 0) ok_Mod_sum wM_Mod_146 (c_Mod_sum F) (fun _ e => ck_Mod_sum e) (by omega) (Nat.le_of_ble_eq_true rfl) (Nat.le_of_ble_eq_true rfl) (Nat.le_of_ble_eq_true rfl) rfl rfl fun h79 => ?_
      refine r_aload_n (i := 42) rfl rfl rfl ?_
      refine r_gI (i := 43) (ci := 12) (kf := 4) rfl (Nat.le_of_ble_eq_true rfl) wF_Mod_113 rfl rfl fun x83 => ?_
      refine r_iconst (i := 44) (-1 : Int32) kc_iconst_m1 rfl rfl ?_
      refine r_icmp_ne (i := 45) (tgt := 94) rfl rfl rfl ?_ ?_
      · exact r_retV (i := 48) rfl rfl rfl rfl
      · refine r_aload_n (i := 46) rfl rfl rfl ?_
        refine r_VV0 (i := 47) (k2 := 0) (n2 := 0) ok_Mod_compare wM_Mod_168 (c_Mod_compare F) (fun _ e => fw_ckb e) (by omega) (Nat.le_of_ble_eq_true rfl) (Nat.le_of_ble_eq_true rfl) (Nat.le_of_ble_eq_true rfl) rfl rfl fun h91 => ?_
        exact r_retV (i := 48) rfl rfl rfl rfl
    · refine r_aload_n (i := 28) rfl rfl rfl ?_
      refine r_VV0 (i := 29) (k2 := 0) (n2 := 0) ok_Mod_opens wM_Mod_143 (c_Mod_opens) (fun _ e => fw_ckb e) (by omega) (Nat.le_of_ble_eq_true rfl) (Nat.le_of_ble_eq_true rfl) (Nat.le_of_ble_eq_true rfl) rfl rfl fun h54 => ?_
      refine r_aload_n (i := 30) rfl rfl rfl ?_
      refine r_gI (i := 31) (ci := 12) (kf := 4) rfl (Nat.le_of_ble_eq_true rfl) wF_Mod_113 rfl rfl fun x58 => ?_
      refine r_iconst (i := 32) (-1 : Int32) kc_iconst_m1 rfl rfl ?_
      refine r_icmp_ne (i := 33) (tgt := 94) rfl rfl rfl ?_ ?_
      · exact r_retV (i := 48) rfl rfl rfl rfl
      · refine r_aload_n (i := 34) rfl rfl rfl ?_
        refine r_VV0 (i := 35) (k2 := 0) (n2 := 0) ok_Mod_condition wM_Mod_165 (hg0 _ _) (fun _ e => hk0 e) (Nat.le_refl _) (Nat.le_of_ble_eq_true rfl) (Nat.le_of_ble_eq_true rfl) (Nat.le_of_ble_eq_true rfl) rfl rfl fun h66 => ?_
        refine r_aload_n (i := 36) rfl rfl rfl ?_
        refine r_bipush (i := 37) (41 : Int32) kc_bipush_41 rfl rfl ?_
        refine r_VV1 (i := 38) (k2 := 0) (n2 := 0) ok_Mod_closes wM_Mod_149 (c_Mod_closes F) (fun _ e => fw_ckb e) (by omega) (Nat.le_of_ble_eq_true rfl) (Nat.le_of_ble_eq_true rfl) (Nat.le_of_ble_eq_true rfl) rfl rfl fun h72 => ?_
        refine r_goto (i := 39) (tgt := 94) rfl rfl rfl ?_
        exact r_retV (i := 48) rfl rfl rfl rfl
  · refine r_aload_n (i := 6) rfl rfl rfl ?_
    refine r_VV0 (i := 7) (k2 := 0) (n2 := 0) ok_Mod_opens wM_Mod_143 (c_Mod_opens) (fun _ e => fw_ckb e) (by omega) (Nat.le_of_ble_eq_true rfl) (Nat.le_of_ble_eq_true rfl) (Nat.le_of_ble_eq_true rfl) rfl rfl fun h12 => ?_
    refine r_aload_n (i := 8) rfl rfl rfl ?_
    refine r_gI (i := 9) (ci := 12) (kf := 4) rfl (Nat.le_of_ble_eq_true rfl) wF_Mod_113 rfl rfl fun x16 => ?_
    refine r_iconst (i := 10) (-1 : Int32) kc_iconst_m1 rfl rfl ?_
    refine r_icmp_ne (i := 11) (tgt := 94) rfl rfl rfl ?_ ?_
    · exact r_retV (i := 48) rfl rfl rfl rfl
    · refine r_aload_n (i := 12) rfl rfl rfl ?_
      refine r_VV0 (i := 13) (k2 := 0) (n2 := 0) ok_Mod_unit wM_Mod_162 (hg3 _ _) (fun _ e => hk3 e) (Nat.le_refl _) (Nat.le_of_ble_eq_true rfl) (Nat.le_of_ble_eq_true rfl) (Nat.le_of_ble_eq_true rfl) rfl rfl fun h24 => ?_
      refine r_aload_n (i := 14) rfl rfl rfl ?_
      refine r_bipush (i := 15) (9 : Int32) kc_bipush_9 rfl rfl ?_
      refine r_iconst (i := 16) (0 : Int32) kc_iconst_0 rfl rfl ?_
      refine r_VV2 (i := 17) (k2 := 0) (n2 := 0) ok_Mod_put wM_Mod_135 (c_Mod_put) (fun _ e => fw_ckb e) (by omega) (Nat.le_of_ble_eq_true rfl) (Nat.le_of_ble_eq_true rfl) (Nat.le_of_ble_eq_true rfl) rfl rfl fun h31 => ?_
      refine r_aload_n (i := 18) rfl rfl rfl ?_
      refine r_dup_r (i := 19) rfl rfl ?_
      refine r_gI (i := 20) (ci := 12) (kf := 5) rfl (Nat.le_of_ble_eq_true rfl) wF_Mod_119 rfl rfl fun x36 => ?_
      refine r_iconst (i := 21) (1 : Int32) kc_iconst_1 rfl rfl ?_
      refine r_isub (i := 22) rfl rfl ?_
      refine r_pI (i := 23) (ci := 12) (kf := 5) rfl (Nat.le_of_ble_eq_true rfl) wF_Mod_119 rfl (tyX12_ok 5 (Nat.le_of_ble_eq_true rfl)) rfl rfl fun h41 => ?_
      refine r_goto (i := 24) (tgt := 94) rfl rfl rfl ?_
      exact r_retV (i := 48) rfl rfl rfl rfl
def gr_Mod_condition (F : Nat) : Nat → Nat → fw_H → Option Nat → Option fw_H
  | 0, _, _, _ => none
  | D + 1, sel, h, v0 => if sel = 0 then b_Mod_condition F (gr_Mod_condition F D) h v0 else if sel = 1 then b_Mod_goOnAnd F (gr_Mod_condition F D) h v0 else if sel = 2 then b_Mod_goOnOr F (gr_Mod_condition F D) h v0 else b_Mod_unit F (gr_Mod_condition F D) h v0
theorem kgr_Mod_condition {F D sel : Nat} {h : fw_H} {v0 : Option Nat} {x : fw_H} (e : gr_Mod_condition F D sel h v0 = some x) : f_ck h v0 12 = some () := by
  cases D with
  | zero => cases e
  | succ D =>
    rw [gr_Mod_condition] at e
    by_cases c0 : sel = 0
    · rw [if_pos c0] at e; exact fw_ckb e
    rw [if_neg c0] at e
    by_cases c1 : sel = 1
    · rw [if_pos c1] at e; exact fw_ckb e
    rw [if_neg c1] at e
    by_cases c2 : sel = 2
    · rw [if_pos c2] at e; exact fw_ckb e
    rw [if_neg c2] at e
    exact fw_ckb e
theorem cgr_Mod_condition {G : fw_G} (F : Nat) : ∀ D : Nat, (∀ (h : fw_H) (v0 : Option Nat), fw_Call G m_Mod_condition fw_eV (85 + D) 0 0 [fw_r v0] h (gr_Mod_condition F D 0 h v0)) ∧ (∀ (h : fw_H) (v0 : Option Nat), fw_Call G m_Mod_goOnAnd fw_eV (85 + D) 0 0 [fw_r v0] h (gr_Mod_condition F D 1 h v0)) ∧ (∀ (h : fw_H) (v0 : Option Nat), fw_Call G m_Mod_goOnOr fw_eV (85 + D) 0 0 [fw_r v0] h (gr_Mod_condition F D 2 h v0)) ∧ (∀ (h : fw_H) (v0 : Option Nat), fw_Call G m_Mod_unit fw_eV (85 + D) 0 0 [fw_r v0] h (gr_Mod_condition F D 3 h v0)) := by
  intro D
  induction D with
  | zero => exact ⟨fun _ _ _ hr => (by cases hr), fun _ _ _ hr => (by cases hr), fun _ _ _ hr => (by cases hr), fun _ _ _ hr => by cases hr⟩
  | succ D ih =>
    refine ⟨?_, ?_, ?_, ?_⟩
    · intro h v0
      exact cb_Mod_condition (F := F) (g := gr_Mod_condition F D) (dd := 85 + D) (by omega) (ih.1) kgr_Mod_condition (ih.2.1) kgr_Mod_condition (ih.2.2.1) kgr_Mod_condition (ih.2.2.2) kgr_Mod_condition
    · intro h v0
      exact cb_Mod_goOnAnd (F := F) (g := gr_Mod_condition F D) (dd := 85 + D) (by omega) (ih.1) kgr_Mod_condition (ih.2.1) kgr_Mod_condition (ih.2.2.1) kgr_Mod_condition (ih.2.2.2) kgr_Mod_condition
    · intro h v0
      exact cb_Mod_goOnOr (F := F) (g := gr_Mod_condition F D) (dd := 85 + D) (by omega) (ih.1) kgr_Mod_condition (ih.2.1) kgr_Mod_condition (ih.2.2.1) kgr_Mod_condition (ih.2.2.2) kgr_Mod_condition
    · intro h v0
      exact cb_Mod_unit (F := F) (g := gr_Mod_condition F D) (dd := 85 + D) (by omega) (ih.1) kgr_Mod_condition (ih.2.1) kgr_Mod_condition (ih.2.2.1) kgr_Mod_condition (ih.2.2.2) kgr_Mod_condition
def s_Mod_condition (F : Nat) (h : fw_H) (v0 : Option Nat) : Option fw_H := gr_Mod_condition F 80 0 h v0
theorem ck_Mod_condition {F : Nat} {h : fw_H} {v0 : Option Nat} {x : fw_H} (e : s_Mod_condition F h v0 = some x) : f_ck h v0 12 = some () := kgr_Mod_condition e
theorem c_Mod_condition {G : fw_G} (F : Nat) {h : fw_H} {v0 : Option Nat} : fw_Call G m_Mod_condition fw_eV 165 0 0 [fw_r v0] h (s_Mod_condition F h v0) := (cgr_Mod_condition F 80).1 _ _
def s_Mod_goOnAnd (F : Nat) (h : fw_H) (v0 : Option Nat) : Option fw_H := gr_Mod_condition F 80 1 h v0
theorem ck_Mod_goOnAnd {F : Nat} {h : fw_H} {v0 : Option Nat} {x : fw_H} (e : s_Mod_goOnAnd F h v0 = some x) : f_ck h v0 12 = some () := kgr_Mod_condition e
theorem c_Mod_goOnAnd {G : fw_G} (F : Nat) {h : fw_H} {v0 : Option Nat} : fw_Call G m_Mod_goOnAnd fw_eV 165 0 0 [fw_r v0] h (s_Mod_goOnAnd F h v0) := (cgr_Mod_condition F 80).2.1 _ _
def s_Mod_goOnOr (F : Nat) (h : fw_H) (v0 : Option Nat) : Option fw_H := gr_Mod_condition F 80 2 h v0
theorem ck_Mod_goOnOr {F : Nat} {h : fw_H} {v0 : Option Nat} {x : fw_H} (e : s_Mod_goOnOr F h v0 = some x) : f_ck h v0 12 = some () := kgr_Mod_condition e
theorem c_Mod_goOnOr {G : fw_G} (F : Nat) {h : fw_H} {v0 : Option Nat} : fw_Call G m_Mod_goOnOr fw_eV 165 0 0 [fw_r v0] h (s_Mod_goOnOr F h v0) := (cgr_Mod_condition F 80).2.2.1 _ _
def s_Mod_unit (F : Nat) (h : fw_H) (v0 : Option Nat) : Option fw_H := gr_Mod_condition F 80 3 h v0
theorem ck_Mod_unit {F : Nat} {h : fw_H} {v0 : Option Nat} {x : fw_H} (e : s_Mod_unit F h v0 = some x) : f_ck h v0 12 = some () := kgr_Mod_condition e
theorem c_Mod_unit {G : fw_G} (F : Nat) {h : fw_H} {v0 : Option Nat} : fw_Call G m_Mod_unit fw_eV 165 0 0 [fw_r v0] h (s_Mod_unit F h v0) := (cgr_Mod_condition F 80).2.2.2 _ _
-- Mod_clause
def s_Mod_clause (F : Nat) (h : fw_H) (v0 : Option Nat) : Option fw_H :=
(f_ck h v0 12).bind fun _ =>
(f_gI h v0 12 14).bind fun x4 =>
(f_gR h v0 12 9).bind fun x9 =>
(f_gI h v0 12 14).bind fun x13 =>
(f_aI h x9 x13).bind fun x16 =>
(f_gI h v0 12 4).bind fun x20 =>
fw_jn (fun (hj40 : fw_H) =>
(f_gI hj40 v0 12 3).bind fun x42 =>
(f_pI hj40 v0 12 3 (x42 + (1 : Int32))).bind fun h47 =>
(f_gI h47 v0 12 4).bind fun x51 =>
fw_jn (fun (hj71 : fw_H) =>
(f_gI hj71 v0 12 3).bind fun x73 =>
(f_pI hj71 v0 12 3 (x73 + (1 : Int32))).bind fun h78 =>
(f_gI h78 v0 12 4).bind fun x82 =>
if x82 = (-1 : Int32) then ((f_gR h78 v0 12 10).bind fun x91 =>
(f_gR h78 v0 12 8).bind fun x96 =>
(f_gI h78 v0 12 14).bind fun x100 =>
(f_aI h78 x96 x100).bind fun x103 =>
(f_sI h78 x91 (((140 : Int32) * x4) + x16) x103).bind fun h104 =>
(s_Mod_look F h104 v0).bind fun x106 =>
fw_jn (fun (t128_0 : Int32) (hj128 : fw_H) =>
fw_jn (fun (j184_2 : Int32) (hj184 : fw_H) =>
(f_gR hj184 v0 12 11).bind fun x185 =>
(f_gR hj184 v0 12 10).bind fun x190 =>
(f_aI hj184 x190 (((140 : Int32) * x4) + x16)).bind fun x194 =>
(f_sI hj184 x185 (((140 : Int32) * x4) + x16) x194).bind fun h195 =>
if j184_2 = (0 : Int32) then ((f_gR h195 v0 12 12).bind fun x252 =>
(f_gR h195 v0 12 8).bind fun x257 =>
(f_gI h195 v0 12 14).bind fun x261 =>
(f_aI h195 x257 x261).bind fun x264 =>
(f_sI h195 x252 (((140 : Int32) * x4) + x16) x264).bind fun h265 =>
(f_gR h265 v0 12 9).bind fun x267 =>
(f_gI h265 v0 12 14).bind fun x271 =>
(f_aI h265 x267 x271).bind fun x275 =>
(f_sI h265 x267 x271 (x275 + (1 : Int32))).bind fun h278 =>
some h278) else
(f_gI h195 v0 12 4).bind fun x201 =>
if ¬ x201 = (-1 : Int32) then ((f_gR h195 v0 12 12).bind fun x252 =>
(f_gR h195 v0 12 8).bind fun x257 =>
(f_gI h195 v0 12 14).bind fun x261 =>
(f_aI h195 x257 x261).bind fun x264 =>
(f_sI h195 x252 (((140 : Int32) * x4) + x16) x264).bind fun h265 =>
(f_gR h265 v0 12 9).bind fun x267 =>
(f_gI h265 v0 12 14).bind fun x271 =>
(f_aI h265 x267 x271).bind fun x275 =>
(f_sI h265 x267 x271 (x275 + (1 : Int32))).bind fun h278 =>
some h278) else
(s_Mod_look F h195 v0).bind fun x209 =>
if x209.1 = (63 : Int32) then ((f_gI x209.2 v0 12 3).bind fun x224 =>
(f_pI x209.2 v0 12 3 (x224 + (1 : Int32))).bind fun h229 =>
(f_gR h229 v0 12 11).bind fun x233 =>
(f_gR h229 v0 12 8).bind fun x238 =>
(f_gI h229 v0 12 14).bind fun x242 =>
(f_aI h229 x238 x242).bind fun x245 =>
(f_sI h229 x233 (((140 : Int32) * x4) + x16) x245).bind fun h246 =>
(s_Mod_sum F h246 v0).bind fun h248 =>
(f_gR h248 v0 12 12).bind fun x252 =>
(f_gR h248 v0 12 8).bind fun x257 =>
(f_gI h248 v0 12 14).bind fun x261 =>
(f_aI h248 x257 x261).bind fun x264 =>
(f_sI h248 x252 (((140 : Int32) * x4) + x16) x264).bind fun h265 =>
(f_gR h265 v0 12 9).bind fun x267 =>
(f_gI h265 v0 12 14).bind fun x271 =>
(f_aI h265 x267 x271).bind fun x275 =>
(f_sI h265 x267 x271 (x275 + (1 : Int32))).bind fun h278 =>
some h278) else
(s_Mod_bad x209.2 v0).bind fun h218 =>
some h218) fun J184 =>
if t128_0 = (0 : Int32) then ((s_Mod_sum F hj128 v0).bind fun h141 =>
(f_gI h141 v0 12 4).bind fun x145 =>
if ¬ x145 = (-1 : Int32) then (if (0 : Int32) = (0 : Int32) then (J184 (0 : Int32) h141) else
(s_Mod_compare F h141 v0).bind fun h173 =>
(s_Mod_goOnAnd F h173 v0).bind fun h177 =>
(s_Mod_goOnOr F h177 v0).bind fun h181 =>
J184 (0 : Int32) h181) else
(s_Mod_look F h141 v0).bind fun x153 =>
(s_Mod_isSign x153.1).bind fun x156 =>
if x156 = true then (if (1 : Int32) = (0 : Int32) then (J184 (1 : Int32) x153.2) else
(s_Mod_compare F x153.2 v0).bind fun h173 =>
(s_Mod_goOnAnd F h173 v0).bind fun h177 =>
(s_Mod_goOnOr F h177 v0).bind fun h181 =>
J184 (1 : Int32) h181) else
if (0 : Int32) = (0 : Int32) then (J184 (0 : Int32) x153.2) else
(s_Mod_compare F x153.2 v0).bind fun h173 =>
(s_Mod_goOnAnd F h173 v0).bind fun h177 =>
(s_Mod_goOnOr F h177 v0).bind fun h181 =>
J184 (0 : Int32) h181) else
(s_Mod_condition F hj128 v0).bind fun h134 =>
J184 t128_0 h134) fun J128 =>
if x106.1 = (33 : Int32) then (J128 (1 : Int32) x106.2) else
(s_Mod_look F x106.2 v0).bind fun x115 =>
if ¬ x115.1 = (40 : Int32) then (J128 (0 : Int32) x115.2) else
J128 (1 : Int32) x115.2) else
some h78) fun J71 =>
if ¬ x51 = (-1 : Int32) then (J71 h47) else
(s_Mod_look F h47 v0).bind fun x59 =>
if x59.1 = (58 : Int32) then (J71 x59.2) else
(s_Mod_bad x59.2 v0).bind fun h68 =>
J71 h68) fun J40 =>
if ¬ x20 = (-1 : Int32) then (J40 h) else
(s_Mod_look F h v0).bind fun x28 =>
if x28.1 = (121 : Int32) then (J40 x28.2) else
(s_Mod_bad x28.2 v0).bind fun h37 =>
J40 h37
theorem c_Mod_clause {G : fw_G} (F : Nat) {h : fw_H} {v0 : Option Nat} : fw_Call G m_Mod_clause fw_eV 166 0 0 [fw_r v0] h (s_Mod_clause F h v0) := by
  refine fw_Call.of ok_Mod_clause.1 (Nat.le_of_ble_eq_true rfl) [(0, some (fw_r v0))] rfl ?_
  refine r_ck ?_
  refine r_sipush (i := 0) (140 : Int32) kc_sipush_140 rfl rfl ?_
  refine r_aload_n (i := 1) rfl rfl rfl ?_
  refine r_gI (i := 2) (ci := 12) (kf := 14) rfl (Nat.le_of_ble_eq_true rfl) wF_Mod_116 rfl rfl fun x4 => ?_
  refine r_imul (i := 3) rfl rfl ?_
  refine r_aload_n (i := 4) rfl rfl rfl ?_
  refine r_gR (i := 5) (ci := 12) (kf := 9) rfl (Nat.le_of_ble_eq_true rfl) wF_Mod_22 rfl rfl fun x9 => ?_
  refine r_aload_n (i := 6) rfl rfl rfl ?_
  refine r_gI (i := 7) (ci := 12) (kf := 14) rfl (Nat.le_of_ble_eq_true rfl) wF_Mod_116 rfl rfl fun x13 => ?_
  refine r_aI (i := 8) rfl rfl fun x16 => ?_
  refine r_iadd (i := 9) rfl rfl ?_
  refine r_istore_n (i := 10) rfl rfl (Nat.le_of_ble_eq_true rfl) rfl ?_
  refine r_aload_n (i := 11) rfl rfl rfl ?_
  refine r_gI (i := 12) (ci := 12) (kf := 4) rfl (Nat.le_of_ble_eq_true rfl) wF_Mod_113 rfl rfl fun x20 => ?_
  refine r_iconst (i := 13) (-1 : Int32) kc_iconst_m1 rfl rfl ?_
  refine r_join (P := fun J40 => ∀ (hj40 : fw_H), fw_R G m_Mod_clause fw_eV 166 (0) (0) 40 [(0, some (fw_r v0)), (1, some (fw_i (((140 : Int32) * x4) + x16)))] [] hj40 (J40 hj40)) ?_ (fun J40 hJ40 => ?_)
  · intro hj40
    refine r_aload_n (i := 21) rfl rfl rfl ?_
    refine r_dup_r (i := 22) rfl rfl ?_
    refine r_gI (i := 23) (ci := 12) (kf := 3) rfl (Nat.le_of_ble_eq_true rfl) wF_Mod_106 rfl rfl fun x42 => ?_
    refine r_iconst (i := 24) (1 : Int32) kc_iconst_1 rfl rfl ?_
    refine r_iadd (i := 25) rfl rfl ?_
    refine r_pI (i := 26) (ci := 12) (kf := 3) rfl (Nat.le_of_ble_eq_true rfl) wF_Mod_106 rfl (tyX12_ok 3 (Nat.le_of_ble_eq_true rfl)) rfl rfl fun h47 => ?_
    refine r_aload_n (i := 27) rfl rfl rfl ?_
    refine r_gI (i := 28) (ci := 12) (kf := 4) rfl (Nat.le_of_ble_eq_true rfl) wF_Mod_113 rfl rfl fun x51 => ?_
    refine r_iconst (i := 29) (-1 : Int32) kc_iconst_m1 rfl rfl ?_
    refine r_join (P := fun J71 => ∀ (hj71 : fw_H), fw_R G m_Mod_clause fw_eV 166 (0) (0) 71 [(0, some (fw_r v0)), (1, some (fw_i (((140 : Int32) * x4) + x16)))] [] hj71 (J71 hj71)) ?_ (fun J71 hJ71 => ?_)
    · intro hj71
      refine r_aload_n (i := 37) rfl rfl rfl ?_
      refine r_dup_r (i := 38) rfl rfl ?_
      refine r_gI (i := 39) (ci := 12) (kf := 3) rfl (Nat.le_of_ble_eq_true rfl) wF_Mod_106 rfl rfl fun x73 => ?_
      refine r_iconst (i := 40) (1 : Int32) kc_iconst_1 rfl rfl ?_
      refine r_iadd (i := 41) rfl rfl ?_
      refine r_pI (i := 42) (ci := 12) (kf := 3) rfl (Nat.le_of_ble_eq_true rfl) wF_Mod_106 rfl (tyX12_ok 3 (Nat.le_of_ble_eq_true rfl)) rfl rfl fun h78 => ?_
      refine r_aload_n (i := 43) rfl rfl rfl ?_
      refine r_gI (i := 44) (ci := 12) (kf := 4) rfl (Nat.le_of_ble_eq_true rfl) wF_Mod_113 rfl rfl fun x82 => ?_
      refine r_iconst (i := 45) (-1 : Int32) kc_iconst_m1 rfl rfl ?_
      refine r_icmp_eq (i := 46) (tgt := 90) rfl rfl rfl ?_ ?_
      · refine r_aload_n (i := 48) rfl rfl rfl ?_
        refine r_gR (i := 49) (ci := 12) (kf := 10) rfl (Nat.le_of_ble_eq_true rfl) wF_Mod_25 rfl rfl fun x91 => ?_
        refine r_iload_n (i := 50) rfl rfl rfl ?_
        refine r_aload_n (i := 51) rfl rfl rfl ?_
        refine r_gR (i := 52) (ci := 12) (kf := 8) rfl (Nat.le_of_ble_eq_true rfl) wF_Mod_19 rfl rfl fun x96 => ?_
        refine r_aload_n (i := 53) rfl rfl rfl ?_
        refine r_gI (i := 54) (ci := 12) (kf := 14) rfl (Nat.le_of_ble_eq_true rfl) wF_Mod_116 rfl rfl fun x100 => ?_
        refine r_aI (i := 55) rfl rfl fun x103 => ?_
        refine r_sI (i := 56) rfl rfl fun h104 => ?_
        refine r_aload_n (i := 57) rfl rfl rfl ?_
        refine r_VwI0 (i := 58) (k2 := 0) (n2 := 0) ok_Mod_look wM_Mod_125 (c_Mod_look F) (fun _ e => fw_ckb e) (Nat.le_of_ble_eq_true rfl) (Nat.le_of_ble_eq_true rfl) (Nat.le_of_ble_eq_true rfl) (Nat.le_of_ble_eq_true rfl) rfl rfl fun x106 => ?_
        refine r_bipush (i := 59) (33 : Int32) kc_bipush_33 rfl rfl ?_
        refine r_join (P := fun J128 => ∀ (t128_0 : Int32) (hj128 : fw_H), fw_R G m_Mod_clause fw_eV 166 (0) (0) 128 [(0, some (fw_r v0)), (1, some (fw_i (((140 : Int32) * x4) + x16)))] [fw_i t128_0] hj128 (J128 t128_0 hj128)) ?_ (fun J128 hJ128 => ?_)
        · intro t128_0 hj128
          refine r_istore_n (i := 68) rfl rfl (Nat.le_of_ble_eq_true rfl) rfl ?_
          refine r_iload_n (i := 69) rfl rfl rfl ?_
          refine r_join (P := fun J184 => ∀ (j184_2 : Int32) (hj184 : fw_H), fw_R G m_Mod_clause fw_eV 166 (0) (0) 184 [(0, some (fw_r v0)), (1, some (fw_i (((140 : Int32) * x4) + x16))), (2, some (fw_i j184_2))] [] hj184 (J184 j184_2 hj184)) ?_ (fun J184 hJ184 => ?_)
          · intro j184_2 hj184
            refine r_aload_n (i := 96) rfl rfl rfl ?_
            refine r_gR (i := 97) (ci := 12) (kf := 11) rfl (Nat.le_of_ble_eq_true rfl) wF_Mod_28 rfl rfl fun x185 => ?_
            refine r_iload_n (i := 98) rfl rfl rfl ?_
            refine r_aload_n (i := 99) rfl rfl rfl ?_
            refine r_gR (i := 100) (ci := 12) (kf := 10) rfl (Nat.le_of_ble_eq_true rfl) wF_Mod_25 rfl rfl fun x190 => ?_
            refine r_iload_n (i := 101) rfl rfl rfl ?_
            refine r_aI (i := 102) rfl rfl fun x194 => ?_
            refine r_sI (i := 103) rfl rfl fun h195 => ?_
            refine r_iload_n (i := 104) rfl rfl rfl ?_
            refine r_if_eq (i := 105) (tgt := 251) rfl rfl rfl ?_ ?_
            · refine r_aload_n (i := 134) rfl rfl rfl ?_
              refine r_gR (i := 135) (ci := 12) (kf := 12) rfl (Nat.le_of_ble_eq_true rfl) wF_Mod_31 rfl rfl fun x252 => ?_
              refine r_iload_n (i := 136) rfl rfl rfl ?_
              refine r_aload_n (i := 137) rfl rfl rfl ?_
              refine r_gR (i := 138) (ci := 12) (kf := 8) rfl (Nat.le_of_ble_eq_true rfl) wF_Mod_19 rfl rfl fun x257 => ?_
              refine r_aload_n (i := 139) rfl rfl rfl ?_
              refine r_gI (i := 140) (ci := 12) (kf := 14) rfl (Nat.le_of_ble_eq_true rfl) wF_Mod_116 rfl rfl fun x261 => ?_
              refine r_aI (i := 141) rfl rfl fun x264 => ?_
              refine r_sI (i := 142) rfl rfl fun h265 => ?_
              refine r_aload_n (i := 143) rfl rfl rfl ?_
              refine r_gR (i := 144) (ci := 12) (kf := 9) rfl (Nat.le_of_ble_eq_true rfl) wF_Mod_22 rfl rfl fun x267 => ?_
              refine r_aload_n (i := 145) rfl rfl rfl ?_
              refine r_gI (i := 146) (ci := 12) (kf := 14) rfl (Nat.le_of_ble_eq_true rfl) wF_Mod_116 rfl rfl fun x271 => ?_
              refine r_dup2 (i := 147) rfl rfl ?_
              refine r_aI (i := 148) rfl rfl fun x275 => ?_
              refine r_iconst (i := 149) (1 : Int32) kc_iconst_1 rfl rfl ?_
              refine r_iadd (i := 150) rfl rfl ?_
              refine r_sI (i := 151) rfl rfl fun h278 => ?_
              exact r_retV (i := 152) rfl rfl rfl rfl
            · refine r_aload_n (i := 106) rfl rfl rfl ?_
              refine r_gI (i := 107) (ci := 12) (kf := 4) rfl (Nat.le_of_ble_eq_true rfl) wF_Mod_113 rfl rfl fun x201 => ?_
              refine r_iconst (i := 108) (-1 : Int32) kc_iconst_m1 rfl rfl ?_
              refine r_icmp_ne (i := 109) (tgt := 251) rfl rfl rfl ?_ ?_
              · refine r_aload_n (i := 134) rfl rfl rfl ?_
                refine r_gR (i := 135) (ci := 12) (kf := 12) rfl (Nat.le_of_ble_eq_true rfl) wF_Mod_31 rfl rfl fun x252 => ?_
                refine r_iload_n (i := 136) rfl rfl rfl ?_
                refine r_aload_n (i := 137) rfl rfl rfl ?_
                refine r_gR (i := 138) (ci := 12) (kf := 8) rfl (Nat.le_of_ble_eq_true rfl) wF_Mod_19 rfl rfl fun x257 => ?_
                refine r_aload_n (i := 139) rfl rfl rfl ?_
                refine r_gI (i := 140) (ci := 12) (kf := 14) rfl (Nat.le_of_ble_eq_true rfl) wF_Mod_116 rfl rfl fun x261 => ?_
                refine r_aI (i := 141) rfl rfl fun x264 => ?_
                refine r_sI (i := 142) rfl rfl fun h265 => ?_
                refine r_aload_n (i := 143) rfl rfl rfl ?_
                refine r_gR (i := 144) (ci := 12) (kf := 9) rfl (Nat.le_of_ble_eq_true rfl) wF_Mod_22 rfl rfl fun x267 => ?_
                refine r_aload_n (i := 145) rfl rfl rfl ?_
                refine r_gI (i := 146) (ci := 12) (kf := 14) rfl (Nat.le_of_ble_eq_true rfl) wF_Mod_116 rfl rfl fun x271 => ?_
                refine r_dup2 (i := 147) rfl rfl ?_
                refine r_aI (i := 148) rfl rfl fun x275 => ?_
                refine r_iconst (i := 149) (1 : Int32) kc_iconst_1 rfl rfl ?_
                refine r_iadd (i := 150) rfl rfl ?_
                refine r_sI (i := 151) rfl rfl fun h278 => ?_
                exact r_retV (i := 152) rfl rfl rfl rfl
              · refine r_aload_n (i := 110) rfl rfl rfl ?_
                refine r_VwI0 (i := 111) (k2 := 0) (n2 := 0) ok_Mod_look wM_Mod_125 (c_Mod_look F) (fun _ e => fw_ckb e) (Nat.le_of_ble_eq_true rfl) (Nat.le_of_ble_eq_true rfl) (Nat.le_of_ble_eq_true rfl) (Nat.le_of_ble_eq_true rfl) rfl rfl fun x209 => ?_
                refine r_bipush (i := 112) (63 : Int32) kc_bipush_63 rfl rfl ?_
                refine r_icmp_eq (i := 113) (tgt := 222) rfl rfl rfl ?_ ?_
                · refine r_aload_n (i := 117) rfl rfl rfl ?_
                  refine r_dup_r (i := 118) rfl rfl ?_
                  refine r_gI (i := 119) (ci := 12) (kf := 3) rfl (Nat.le_of_ble_eq_true rfl) wF_Mod_106 rfl rfl fun x224 => ?_
                  refine r_iconst (i := 120) (1 : Int32) kc_iconst_1 rfl rfl ?_
                  refine r_iadd (i := 121) rfl rfl ?_
                  refine r_pI (i := 122) (ci := 12) (kf := 3) rfl (Nat.le_of_ble_eq_true rfl) wF_Mod_106 rfl (tyX12_ok 3 (Nat.le_of_ble_eq_true rfl)) rfl rfl fun h229 => ?_
                  refine r_aload_n (i := 123) rfl rfl rfl ?_
                  refine r_gR (i := 124) (ci := 12) (kf := 11) rfl (Nat.le_of_ble_eq_true rfl) wF_Mod_28 rfl rfl fun x233 => ?_
                  refine r_iload_n (i := 125) rfl rfl rfl ?_
                  refine r_aload_n (i := 126) rfl rfl rfl ?_
                  refine r_gR (i := 127) (ci := 12) (kf := 8) rfl (Nat.le_of_ble_eq_true rfl) wF_Mod_19 rfl rfl fun x238 => ?_
                  refine r_aload_n (i := 128) rfl rfl rfl ?_
                  refine r_gI (i := 129) (ci := 12) (kf := 14) rfl (Nat.le_of_ble_eq_true rfl) wF_Mod_116 rfl rfl fun x242 => ?_
                  refine r_aI (i := 130) rfl rfl fun x245 => ?_
                  refine r_sI (i := 131) rfl rfl fun h246 => ?_
                  refine r_aload_n (i := 132) rfl rfl rfl ?_
                  refine r_VV0 (i := 133) (k2 := 0) (n2 := 0) ok_Mod_sum wM_Mod_146 (c_Mod_sum F) (fun _ e => ck_Mod_sum e) (Nat.le_of_ble_eq_true rfl) (Nat.le_of_ble_eq_true rfl) (Nat.le_of_ble_eq_true rfl) (Nat.le_of_ble_eq_true rfl) rfl rfl fun h248 => ?_
                  refine r_aload_n (i := 134) rfl rfl rfl ?_
                  refine r_gR (i := 135) (ci := 12) (kf := 12) rfl (Nat.le_of_ble_eq_true rfl) wF_Mod_31 rfl rfl fun x252 => ?_
                  refine r_iload_n (i := 136) rfl rfl rfl ?_
                  refine r_aload_n (i := 137) rfl rfl rfl ?_
                  refine r_gR (i := 138) (ci := 12) (kf := 8) rfl (Nat.le_of_ble_eq_true rfl) wF_Mod_19 rfl rfl fun x257 => ?_
                  refine r_aload_n (i := 139) rfl rfl rfl ?_
                  refine r_gI (i := 140) (ci := 12) (kf := 14) rfl (Nat.le_of_ble_eq_true rfl) wF_Mod_116 rfl rfl fun x261 => ?_
                  refine r_aI (i := 141) rfl rfl fun x264 => ?_
                  refine r_sI (i := 142) rfl rfl fun h265 => ?_
                  refine r_aload_n (i := 143) rfl rfl rfl ?_
                  refine r_gR (i := 144) (ci := 12) (kf := 9) rfl (Nat.le_of_ble_eq_true rfl) wF_Mod_22 rfl rfl fun x267 => ?_
                  refine r_aload_n (i := 145) rfl rfl rfl ?_
                  refine r_gI (i := 146) (ci := 12) (kf := 14) rfl (Nat.le_of_ble_eq_true rfl) wF_Mod_116 rfl rfl fun x271 => ?_
                  refine r_dup2 (i := 147) rfl rfl ?_
                  refine r_aI (i := 148) rfl rfl fun x275 => ?_
                  refine r_iconst (i := 149) (1 : Int32) kc_iconst_1 rfl rfl ?_
                  refine r_iadd (i := 150) rfl rfl ?_
                  refine r_sI (i := 151) rfl rfl fun h278 => ?_
                  exact r_retV (i := 152) rfl rfl rfl rfl
                · refine r_aload_n (i := 114) rfl rfl rfl ?_
                  refine r_VV0 (i := 115) (k2 := 0) (n2 := 0) ok_Mod_bad wM_Mod_122 (c_Mod_bad) (fun _ e => fw_ckb e) (Nat.le_of_ble_eq_true rfl) (Nat.le_of_ble_eq_true rfl) (Nat.le_of_ble_eq_true rfl) (Nat.le_of_ble_eq_true rfl) rfl rfl fun h218 => ?_
                  exact r_retV (i := 116) rfl rfl rfl rfl
          · refine r_if_eq (i := 70) (tgt := 140) rfl rfl rfl ?_ ?_
            · refine r_aload_n (i := 74) rfl rfl rfl ?_
              refine r_VV0 (i := 75) (k2 := 0) (n2 := 0) ok_Mod_sum wM_Mod_146 (c_Mod_sum F) (fun _ e => ck_Mod_sum e) (Nat.le_of_ble_eq_true rfl) (Nat.le_of_ble_eq_true rfl) (Nat.le_of_ble_eq_true rfl) (Nat.le_of_ble_eq_true rfl) rfl rfl fun h141 => ?_
              refine r_aload_n (i := 76) rfl rfl rfl ?_
              refine r_gI (i := 77) (ci := 12) (kf := 4) rfl (Nat.le_of_ble_eq_true rfl) wF_Mod_113 rfl rfl fun x145 => ?_
              refine r_iconst (i := 78) (-1 : Int32) kc_iconst_m1 rfl rfl ?_
              refine r_icmp_ne (i := 79) (tgt := 166) rfl rfl rfl ?_ ?_
              · refine r_iconst (i := 86) (0 : Int32) kc_iconst_0 rfl rfl ?_
                refine r_istore_n (i := 87) rfl rfl (Nat.le_of_ble_eq_true rfl) rfl ?_
                refine r_iload_n (i := 88) rfl rfl rfl ?_
                refine r_if_eq (i := 89) (tgt := 184) rfl rfl rfl ?_ ?_
                · exact r_lv (fw_sub1 rfl (fw_sub1 rfl (fw_sub1 rfl fw_sub0))) (hJ184 (0 : Int32) h141)
                · refine r_aload_n (i := 90) rfl rfl rfl ?_
                  refine r_VV0 (i := 91) (k2 := 0) (n2 := 0) ok_Mod_compare wM_Mod_168 (c_Mod_compare F) (fun _ e => fw_ckb e) (Nat.le_of_ble_eq_true rfl) (Nat.le_of_ble_eq_true rfl) (Nat.le_of_ble_eq_true rfl) (Nat.le_of_ble_eq_true rfl) rfl rfl fun h173 => ?_
                  refine r_aload_n (i := 92) rfl rfl rfl ?_
                  refine r_VV0 (i := 93) (k2 := 0) (n2 := 0) ok_Mod_goOnAnd wM_Mod_171 (c_Mod_goOnAnd F) (fun _ e => ck_Mod_goOnAnd e) (Nat.le_of_ble_eq_true rfl) (Nat.le_of_ble_eq_true rfl) (Nat.le_of_ble_eq_true rfl) (Nat.le_of_ble_eq_true rfl) rfl rfl fun h177 => ?_
                  refine r_aload_n (i := 94) rfl rfl rfl ?_
                  refine r_VV0 (i := 95) (k2 := 0) (n2 := 0) ok_Mod_goOnOr wM_Mod_174 (c_Mod_goOnOr F) (fun _ e => ck_Mod_goOnOr e) (Nat.le_of_ble_eq_true rfl) (Nat.le_of_ble_eq_true rfl) (Nat.le_of_ble_eq_true rfl) (Nat.le_of_ble_eq_true rfl) rfl rfl fun h181 => ?_
                  exact r_lv (fw_sub1 rfl (fw_sub1 rfl (fw_sub1 rfl fw_sub0))) (hJ184 (0 : Int32) h181)
              · refine r_aload_n (i := 80) rfl rfl rfl ?_
                refine r_VwI0 (i := 81) (k2 := 0) (n2 := 0) ok_Mod_look wM_Mod_125 (c_Mod_look F) (fun _ e => fw_ckb e) (Nat.le_of_ble_eq_true rfl) (Nat.le_of_ble_eq_true rfl) (Nat.le_of_ble_eq_true rfl) (Nat.le_of_ble_eq_true rfl) rfl rfl fun x153 => ?_
                refine r_SB1 (i := 82) (k2 := 0) (n2 := 0) ok_Mod_isSign wM_Mod_159 (c_Mod_isSign) (Nat.le_of_ble_eq_true rfl) (Nat.le_of_ble_eq_true rfl) (Nat.le_of_ble_eq_true rfl) (Nat.le_of_ble_eq_true rfl) rfl rfl fun x156 => ?_
                refine r_ifeqB (i := 83) (tgt := 166) rfl rfl rfl ?_ ?_
                · refine r_iconst (i := 86) (0 : Int32) kc_iconst_0 rfl rfl ?_
                  refine r_istore_n (i := 87) rfl rfl (Nat.le_of_ble_eq_true rfl) rfl ?_
                  refine r_iload_n (i := 88) rfl rfl rfl ?_
                  refine r_if_eq (i := 89) (tgt := 184) rfl rfl rfl ?_ ?_
                  · exact r_lv (fw_sub1 rfl (fw_sub1 rfl (fw_sub1 rfl fw_sub0))) (hJ184 (0 : Int32) x153.2)
                  · refine r_aload_n (i := 90) rfl rfl rfl ?_
                    refine r_VV0 (i := 91) (k2 := 0) (n2 := 0) ok_Mod_compare wM_Mod_168 (c_Mod_compare F) (fun _ e => fw_ckb e) (Nat.le_of_ble_eq_true rfl) (Nat.le_of_ble_eq_true rfl) (Nat.le_of_ble_eq_true rfl) (Nat.le_of_ble_eq_true rfl) rfl rfl fun h173 => ?_
                    refine r_aload_n (i := 92) rfl rfl rfl ?_
                    refine r_VV0 (i := 93) (k2 := 0) (n2 := 0) ok_Mod_goOnAnd wM_Mod_171 (c_Mod_goOnAnd F) (fun _ e => ck_Mod_goOnAnd e) (Nat.le_of_ble_eq_true rfl) (Nat.le_of_ble_eq_true rfl) (Nat.le_of_ble_eq_true rfl) (Nat.le_of_ble_eq_true rfl) rfl rfl fun h177 => ?_
                    refine r_aload_n (i := 94) rfl rfl rfl ?_
                    refine r_VV0 (i := 95) (k2 := 0) (n2 := 0) ok_Mod_goOnOr wM_Mod_174 (c_Mod_goOnOr F) (fun _ e => ck_Mod_goOnOr e) (Nat.le_of_ble_eq_true rfl) (Nat.le_of_ble_eq_true rfl) (Nat.le_of_ble_eq_true rfl) (Nat.le_of_ble_eq_true rfl) rfl rfl fun h181 => ?_
                    exact r_lv (fw_sub1 rfl (fw_sub1 rfl (fw_sub1 rfl fw_sub0))) (hJ184 (0 : Int32) h181)
                · refine r_iconst (i := 84) (1 : Int32) kc_iconst_1 rfl rfl ?_
                  refine r_goto (i := 85) (tgt := 167) rfl rfl rfl ?_
                  refine r_istore_n (i := 87) rfl rfl (Nat.le_of_ble_eq_true rfl) rfl ?_
                  refine r_iload_n (i := 88) rfl rfl rfl ?_
                  refine r_if_eq (i := 89) (tgt := 184) rfl rfl rfl ?_ ?_
                  · exact r_lv (fw_sub1 rfl (fw_sub1 rfl (fw_sub1 rfl fw_sub0))) (hJ184 (1 : Int32) x153.2)
                  · refine r_aload_n (i := 90) rfl rfl rfl ?_
                    refine r_VV0 (i := 91) (k2 := 0) (n2 := 0) ok_Mod_compare wM_Mod_168 (c_Mod_compare F) (fun _ e => fw_ckb e) (Nat.le_of_ble_eq_true rfl) (Nat.le_of_ble_eq_true rfl) (Nat.le_of_ble_eq_true rfl) (Nat.le_of_ble_eq_true rfl) rfl rfl fun h173 => ?_
                    refine r_aload_n (i := 92) rfl rfl rfl ?_
                    refine r_VV0 (i := 93) (k2 := 0) (n2 := 0) ok_Mod_goOnAnd wM_Mod_171 (c_Mod_goOnAnd F) (fun _ e => ck_Mod_goOnAnd e) (Nat.le_of_ble_eq_true rfl) (Nat.le_of_ble_eq_true rfl) (Nat.le_of_ble_eq_true rfl) (Nat.le_of_ble_eq_true rfl) rfl rfl fun h177 => ?_
                    refine r_aload_n (i := 94) rfl rfl rfl ?_
                    refine r_VV0 (i := 95) (k2 := 0) (n2 := 0) ok_Mod_goOnOr wM_Mod_174 (c_Mod_goOnOr F) (fun _ e => ck_Mod_goOnOr e) (Nat.le_of_ble_eq_true rfl) (Nat.le_of_ble_eq_true rfl) (Nat.le_of_ble_eq_true rfl) (Nat.le_of_ble_eq_true rfl) rfl rfl fun h181 => ?_
                    exact r_lv (fw_sub1 rfl (fw_sub1 rfl (fw_sub1 rfl fw_sub0))) (hJ184 (1 : Int32) h181)
            · refine r_aload_n (i := 71) rfl rfl rfl ?_
              refine r_VV0 (i := 72) (k2 := 0) (n2 := 0) ok_Mod_condition wM_Mod_165 (c_Mod_condition F) (fun _ e => ck_Mod_condition e) (Nat.le_of_ble_eq_true rfl) (Nat.le_of_ble_eq_true rfl) (Nat.le_of_ble_eq_true rfl) (Nat.le_of_ble_eq_true rfl) rfl rfl fun h134 => ?_
              refine r_goto (i := 73) (tgt := 184) rfl rfl rfl ?_
              exact r_lv (fw_sub1 rfl (fw_sub1 rfl (fw_sub1 rfl fw_sub0))) (hJ184 t128_0 h134)
        · refine r_icmp_eq (i := 60) (tgt := 123) rfl rfl rfl ?_ ?_
          · refine r_iconst (i := 65) (1 : Int32) kc_iconst_1 rfl rfl ?_
            refine r_goto (i := 66) (tgt := 128) rfl rfl rfl ?_
            exact r_lv (fw_sub1 rfl (fw_sub1 rfl fw_sub0)) (hJ128 (1 : Int32) x106.2)
          · refine r_aload_n (i := 61) rfl rfl rfl ?_
            refine r_VwI0 (i := 62) (k2 := 0) (n2 := 0) ok_Mod_look wM_Mod_125 (c_Mod_look F) (fun _ e => fw_ckb e) (Nat.le_of_ble_eq_true rfl) (Nat.le_of_ble_eq_true rfl) (Nat.le_of_ble_eq_true rfl) (Nat.le_of_ble_eq_true rfl) rfl rfl fun x115 => ?_
            refine r_bipush (i := 63) (40 : Int32) kc_bipush_40 rfl rfl ?_
            refine r_icmp_ne (i := 64) (tgt := 127) rfl rfl rfl ?_ ?_
            · refine r_iconst (i := 67) (0 : Int32) kc_iconst_0 rfl rfl ?_
              exact r_lv (fw_sub1 rfl (fw_sub1 rfl fw_sub0)) (hJ128 (0 : Int32) x115.2)
            · refine r_iconst (i := 65) (1 : Int32) kc_iconst_1 rfl rfl ?_
              refine r_goto (i := 66) (tgt := 128) rfl rfl rfl ?_
              exact r_lv (fw_sub1 rfl (fw_sub1 rfl fw_sub0)) (hJ128 (1 : Int32) x115.2)
      · exact r_retV (i := 47) rfl rfl rfl rfl
    · refine r_icmp_ne (i := 30) (tgt := 71) rfl rfl rfl ?_ ?_
      · exact r_lv (fw_sub1 rfl (fw_sub1 rfl fw_sub0)) (hJ71 h47)
      · refine r_aload_n (i := 31) rfl rfl rfl ?_
        refine r_VwI0 (i := 32) (k2 := 0) (n2 := 0) ok_Mod_look wM_Mod_125 (c_Mod_look F) (fun _ e => fw_ckb e) (Nat.le_of_ble_eq_true rfl) (Nat.le_of_ble_eq_true rfl) (Nat.le_of_ble_eq_true rfl) (Nat.le_of_ble_eq_true rfl) rfl rfl fun x59 => ?_
        refine r_bipush (i := 33) (58 : Int32) kc_bipush_58 rfl rfl ?_
        refine r_icmp_eq (i := 34) (tgt := 71) rfl rfl rfl ?_ ?_
        · exact r_lv (fw_sub1 rfl (fw_sub1 rfl fw_sub0)) (hJ71 x59.2)
        · refine r_aload_n (i := 35) rfl rfl rfl ?_
          refine r_VV0 (i := 36) (k2 := 0) (n2 := 0) ok_Mod_bad wM_Mod_122 (c_Mod_bad) (fun _ e => fw_ckb e) (Nat.le_of_ble_eq_true rfl) (Nat.le_of_ble_eq_true rfl) (Nat.le_of_ble_eq_true rfl) (Nat.le_of_ble_eq_true rfl) rfl rfl fun h68 => ?_
          exact r_lv (fw_sub1 rfl (fw_sub1 rfl fw_sub0)) (hJ71 h68)
  · refine r_icmp_ne (i := 14) (tgt := 40) rfl rfl rfl ?_ ?_
    · exact r_lv (fw_sub1 rfl (fw_sub1 rfl fw_sub0)) (hJ40 h)
    · refine r_aload_n (i := 15) rfl rfl rfl ?_
      refine r_VwI0 (i := 16) (k2 := 0) (n2 := 0) ok_Mod_look wM_Mod_125 (c_Mod_look F) (fun _ e => fw_ckb e) (Nat.le_of_ble_eq_true rfl) (Nat.le_of_ble_eq_true rfl) (Nat.le_of_ble_eq_true rfl) (Nat.le_of_ble_eq_true rfl) rfl rfl fun x28 => ?_
      refine r_bipush (i := 17) (121 : Int32) kc_bipush_121 rfl rfl ?_
      refine r_icmp_eq (i := 18) (tgt := 40) rfl rfl rfl ?_ ?_
      · exact r_lv (fw_sub1 rfl (fw_sub1 rfl fw_sub0)) (hJ40 x28.2)
      · refine r_aload_n (i := 19) rfl rfl rfl ?_
        refine r_VV0 (i := 20) (k2 := 0) (n2 := 0) ok_Mod_bad wM_Mod_122 (c_Mod_bad) (fun _ e => fw_ckb e) (Nat.le_of_ble_eq_true rfl) (Nat.le_of_ble_eq_true rfl) (Nat.le_of_ble_eq_true rfl) (Nat.le_of_ble_eq_true rfl) rfl rfl fun h37 => ?_
        exact r_lv (fw_sub1 rfl (fw_sub1 rfl fw_sub0)) (hJ40 h37)
-- Mod_open
def s_Mod_open (h : fw_H) (v0 : Option Nat) (v1 : Int32) : Option fw_H :=
(f_ck h v0 12).bind fun _ =>
(f_pI h v0 12 14 v1).bind fun h2 =>
(f_pI h2 v0 12 3 (0 : Int32)).bind fun h7 =>
(f_pI h7 v0 12 4 (-1 : Int32)).bind fun h12 =>
(f_pI h12 v0 12 5 (0 : Int32)).bind fun h17 =>
(f_gR h17 v0 12 8).bind fun x21 =>
(f_sI h17 x21 v1 (0 : Int32)).bind fun h26 =>
(f_gR h26 v0 12 9).bind fun x28 =>
(f_sI h26 x28 v1 (0 : Int32)).bind fun h33 =>
some h33
theorem c_Mod_open {G : fw_G} {h : fw_H} {v0 : Option Nat} {v1 : Int32} : fw_Call G m_Mod_open fw_eV 0 0 0 [fw_r v0, fw_i v1] h (s_Mod_open h v0 v1) := by
  refine fw_Call.of ok_Mod_open.1 (Nat.le_of_ble_eq_true rfl) [(0, some (fw_r v0)), (1, some (fw_i v1))] rfl ?_
  refine r_ck ?_
  refine r_aload_n (i := 0) rfl rfl rfl ?_
  refine r_iload_n (i := 1) rfl rfl rfl ?_
  refine r_pI (i := 2) (ci := 12) (kf := 14) rfl (Nat.le_of_ble_eq_true rfl) wF_Mod_116 rfl (tyX12_ok 14 (Nat.le_of_ble_eq_true rfl)) rfl rfl fun h2 => ?_
  refine r_aload_n (i := 3) rfl rfl rfl ?_
  refine r_iconst (i := 4) (0 : Int32) kc_iconst_0 rfl rfl ?_
  refine r_pI (i := 5) (ci := 12) (kf := 3) rfl (Nat.le_of_ble_eq_true rfl) wF_Mod_106 rfl (tyX12_ok 3 (Nat.le_of_ble_eq_true rfl)) rfl rfl fun h7 => ?_
  refine r_aload_n (i := 6) rfl rfl rfl ?_
  refine r_iconst (i := 7) (-1 : Int32) kc_iconst_m1 rfl rfl ?_
  refine r_pI (i := 8) (ci := 12) (kf := 4) rfl (Nat.le_of_ble_eq_true rfl) wF_Mod_113 rfl (tyX12_ok 4 (Nat.le_of_ble_eq_true rfl)) rfl rfl fun h12 => ?_
  refine r_aload_n (i := 9) rfl rfl rfl ?_
  refine r_iconst (i := 10) (0 : Int32) kc_iconst_0 rfl rfl ?_
  refine r_pI (i := 11) (ci := 12) (kf := 5) rfl (Nat.le_of_ble_eq_true rfl) wF_Mod_119 rfl (tyX12_ok 5 (Nat.le_of_ble_eq_true rfl)) rfl rfl fun h17 => ?_
  refine r_aload_n (i := 12) rfl rfl rfl ?_
  refine r_gR (i := 13) (ci := 12) (kf := 8) rfl (Nat.le_of_ble_eq_true rfl) wF_Mod_19 rfl rfl fun x21 => ?_
  refine r_iload_n (i := 14) rfl rfl rfl ?_
  refine r_iconst (i := 15) (0 : Int32) kc_iconst_0 rfl rfl ?_
  refine r_sI (i := 16) rfl rfl fun h26 => ?_
  refine r_aload_n (i := 17) rfl rfl rfl ?_
  refine r_gR (i := 18) (ci := 12) (kf := 9) rfl (Nat.le_of_ble_eq_true rfl) wF_Mod_22 rfl rfl fun x28 => ?_
  refine r_iload_n (i := 19) rfl rfl rfl ?_
  refine r_iconst (i := 20) (0 : Int32) kc_iconst_0 rfl rfl ?_
  refine r_sI (i := 21) rfl rfl fun h33 => ?_
  exact r_retV (i := 22) rfl rfl rfl rfl
-- Mod_atEnd
def s_Mod_atEnd (F : Nat) (h : fw_H) (v0 : Option Nat) : Option (Int32 × fw_H) :=
(f_ck h v0 12).bind fun _ =>
(f_gI h v0 12 4).bind fun x1 =>
if ¬ x1 = (-1 : Int32) then ((f_gI h v0 12 4).bind fun x21 =>
some (x21, h)) else
(s_Mod_look F h v0).bind fun x9 =>
if x9.1 = (-1 : Int32) then ((f_gI x9.2 v0 12 4).bind fun x21 =>
some (x21, x9.2)) else
(s_Mod_bad x9.2 v0).bind fun h17 =>
(f_gI h17 v0 12 4).bind fun x21 =>
some (x21, h17)
theorem c_Mod_atEnd {G : fw_G} (F : Nat) {h : fw_H} {v0 : Option Nat} : fw_Call G m_Mod_atEnd fw_wI 2 0 0 [fw_r v0] h (s_Mod_atEnd F h v0) := by
  refine fw_Call.of ok_Mod_atEnd.1 (Nat.le_of_ble_eq_true rfl) [(0, some (fw_r v0))] rfl ?_
  refine r_ck ?_
  refine r_aload_n (i := 0) rfl rfl rfl ?_
  refine r_gI (i := 1) (ci := 12) (kf := 4) rfl (Nat.le_of_ble_eq_true rfl) wF_Mod_113 rfl rfl fun x1 => ?_
  refine r_iconst (i := 2) (-1 : Int32) kc_iconst_m1 rfl rfl ?_
  refine r_icmp_ne (i := 3) (tgt := 20) rfl rfl rfl ?_ ?_
  · refine r_aload_n (i := 10) rfl rfl rfl ?_
    refine r_gI (i := 11) (ci := 12) (kf := 4) rfl (Nat.le_of_ble_eq_true rfl) wF_Mod_113 rfl rfl fun x21 => ?_
    exact r_retI (i := 12) rfl rfl rfl rfl
  · refine r_aload_n (i := 4) rfl rfl rfl ?_
    refine r_VwI0 (i := 5) (k2 := 0) (n2 := 0) ok_Mod_look wM_Mod_125 (c_Mod_look F) (fun _ e => fw_ckb e) (Nat.le_of_ble_eq_true rfl) (Nat.le_of_ble_eq_true rfl) (Nat.le_of_ble_eq_true rfl) (Nat.le_of_ble_eq_true rfl) rfl rfl fun x9 => ?_
    refine r_iconst (i := 6) (-1 : Int32) kc_iconst_m1 rfl rfl ?_
    refine r_icmp_eq (i := 7) (tgt := 20) rfl rfl rfl ?_ ?_
    · refine r_aload_n (i := 10) rfl rfl rfl ?_
      refine r_gI (i := 11) (ci := 12) (kf := 4) rfl (Nat.le_of_ble_eq_true rfl) wF_Mod_113 rfl rfl fun x21 => ?_
      exact r_retI (i := 12) rfl rfl rfl rfl
    · refine r_aload_n (i := 8) rfl rfl rfl ?_
      refine r_VV0 (i := 9) (k2 := 0) (n2 := 0) ok_Mod_bad wM_Mod_122 (c_Mod_bad) (fun _ e => fw_ckb e) (Nat.le_of_ble_eq_true rfl) (Nat.le_of_ble_eq_true rfl) (Nat.le_of_ble_eq_true rfl) (Nat.le_of_ble_eq_true rfl) rfl rfl fun h17 => ?_
      refine r_aload_n (i := 10) rfl rfl rfl ?_
      refine r_gI (i := 11) (ci := 12) (kf := 4) rfl (Nat.le_of_ble_eq_true rfl) wF_Mod_113 rfl rfl fun x21 => ?_
      exact r_retI (i := 12) rfl rfl rfl rfl
-- Mod_readLaw
def l_Mod_readLaw_9 (F : Nat) (v0 : Option Nat) (K43 : fw_H → Option (Int32 × fw_H)) : Nat → fw_H → Option (Int32 × fw_H)
  | 0, _ => none
  | nn + 1, g9 =>
    (f_gI g9 v0 12 4).bind fun x10 =>
    if ¬ x10 = (-1 : Int32) then (K43 g9) else
    (s_Mod_look F g9 v0).bind fun x18 =>
    if ¬ x18.1 = (59 : Int32) then (K43 x18.2) else
    (f_gI x18.2 v0 12 3).bind fun x28 =>
    (f_pI x18.2 v0 12 3 (x28 + (1 : Int32))).bind fun h33 =>
    (s_Mod_clause F h33 v0).bind fun h37 =>
    l_Mod_readLaw_9 F v0 K43 nn h37
theorem cl_Mod_readLaw_9 {G : fw_G} {F : Nat} {v0 : Option Nat} {K43 : fw_H → Option (Int32 × fw_H)} (hK43 : ∀ (he43 : fw_H), fw_R G m_Mod_readLaw fw_wI 167 0 0 43 [(0, some (fw_r v0))] [] he43 (K43 he43)) : ∀ (nn : Nat) (g9 : fw_H), fw_R G m_Mod_readLaw fw_wI 167 0 0 9 [(0, some (fw_r v0))] [] g9 (l_Mod_readLaw_9 F v0 K43 nn g9) := by
  intro nn
  induction nn with
  | zero => intros; exact r_none
  | succ nn ih =>
    intro g9
    rw [l_Mod_readLaw_9]
    refine r_aload_n (i := 5) rfl rfl rfl ?_
    refine r_gI (i := 6) (ci := 12) (kf := 4) rfl (Nat.le_of_ble_eq_true rfl) wF_Mod_113 rfl rfl fun x10 => ?_
    refine r_iconst (i := 7) (-1 : Int32) kc_iconst_m1 rfl rfl ?_
    refine r_icmp_ne (i := 8) (tgt := 43) rfl rfl rfl ?_ ?_
    · exact r_lv (fw_sub1 rfl fw_sub0) (hK43 g9)
    · refine r_aload_n (i := 9) rfl rfl rfl ?_
      refine r_VwI0 (i := 10) (k2 := 0) (n2 := 0) ok_Mod_look wM_Mod_125 (c_Mod_look F) (fun _ e => fw_ckb e) (Nat.le_of_ble_eq_true rfl) (Nat.le_of_ble_eq_true rfl) (Nat.le_of_ble_eq_true rfl) (Nat.le_of_ble_eq_true rfl) rfl rfl fun x18 => ?_
      refine r_bipush (i := 11) (59 : Int32) kc_bipush_59 rfl rfl ?_
      refine r_icmp_ne (i := 12) (tgt := 43) rfl rfl rfl ?_ ?_
      · exact r_lv (fw_sub1 rfl fw_sub0) (hK43 x18.2)
      · refine r_aload_n (i := 13) rfl rfl rfl ?_
        refine r_dup_r (i := 14) rfl rfl ?_
        refine r_gI (i := 15) (ci := 12) (kf := 3) rfl (Nat.le_of_ble_eq_true rfl) wF_Mod_106 rfl rfl fun x28 => ?_
        refine r_iconst (i := 16) (1 : Int32) kc_iconst_1 rfl rfl ?_
        refine r_iadd (i := 17) rfl rfl ?_
        refine r_pI (i := 18) (ci := 12) (kf := 3) rfl (Nat.le_of_ble_eq_true rfl) wF_Mod_106 rfl (tyX12_ok 3 (Nat.le_of_ble_eq_true rfl)) rfl rfl fun h33 => ?_
        refine r_aload_n (i := 19) rfl rfl rfl ?_
        refine r_VV0 (i := 20) (k2 := 0) (n2 := 0) ok_Mod_clause wM_Mod_180 (c_Mod_clause F) (fun _ e => fw_ckb e) (Nat.le_of_ble_eq_true rfl) (Nat.le_of_ble_eq_true rfl) (Nat.le_of_ble_eq_true rfl) (Nat.le_of_ble_eq_true rfl) rfl rfl fun h37 => ?_
        refine r_goto (i := 21) (tgt := 9) rfl rfl rfl ?_
        exact r_lv (fw_sub1 rfl fw_sub0) (ih h37)
def s_Mod_readLaw (F : Nat) (h : fw_H) (v0 : Option Nat) (v1 : Int32) : Option (Int32 × fw_H) :=
(f_ck h v0 12).bind fun _ =>
(s_Mod_open h v0 v1).bind fun h2 =>
(s_Mod_clause F h2 v0).bind fun h6 =>
l_Mod_readLaw_9 F v0 (fun he43 =>
(s_Mod_atEnd F he43 v0).bind fun x44 =>
some (x44.1, x44.2)) F h6
theorem c_Mod_readLaw {G : fw_G} (F : Nat) {h : fw_H} {v0 : Option Nat} {v1 : Int32} : fw_Call G m_Mod_readLaw fw_wI 167 0 0 [fw_r v0, fw_i v1] h (s_Mod_readLaw F h v0 v1) := by
  refine fw_Call.of ok_Mod_readLaw.1 (Nat.le_of_ble_eq_true rfl) [(0, some (fw_r v0)), (1, some (fw_i v1))] rfl ?_
  refine r_ck ?_
  refine r_aload_n (i := 0) rfl rfl rfl ?_
  refine r_iload_n (i := 1) rfl rfl rfl ?_
  refine r_VV1 (i := 2) (k2 := 0) (n2 := 0) ok_Mod_open wM_Mod_177 (c_Mod_open) (fun _ e => fw_ckb e) (Nat.le_of_ble_eq_true rfl) (Nat.le_of_ble_eq_true rfl) (Nat.le_of_ble_eq_true rfl) (Nat.le_of_ble_eq_true rfl) rfl rfl fun h2 => ?_
  refine r_aload_n (i := 3) rfl rfl rfl ?_
  refine r_VV0 (i := 4) (k2 := 0) (n2 := 0) ok_Mod_clause wM_Mod_180 (c_Mod_clause F) (fun _ e => fw_ckb e) (Nat.le_of_ble_eq_true rfl) (Nat.le_of_ble_eq_true rfl) (Nat.le_of_ble_eq_true rfl) (Nat.le_of_ble_eq_true rfl) rfl rfl fun h6 => ?_
  refine r_lv (fw_sub1 rfl fw_sub0) (cl_Mod_readLaw_9 ?_ F _)
  · intro he43
    refine r_aload_n (i := 22) rfl rfl rfl ?_
    refine r_VwI0 (i := 23) (k2 := 0) (n2 := 0) ok_Mod_atEnd wM_Mod_183 (c_Mod_atEnd F) (fun _ e => fw_ckb e) (Nat.le_of_ble_eq_true rfl) (Nat.le_of_ble_eq_true rfl) (Nat.le_of_ble_eq_true rfl) (Nat.le_of_ble_eq_true rfl) rfl rfl fun x44 => ?_
    exact r_retI (i := 24) rfl rfl rfl rfl
-- Mod_bounded
def s_Mod_bounded (v0 : Int64) : Option Int32 :=
some (Int64.toInt32 (fw_maxJ (-1000000 : Int64) (fw_minJ (1000000 : Int64) v0)))
theorem c_Mod_bounded {G : fw_G} {h : fw_H} {v0 : Int64} : fw_Call G m_Mod_bounded (fw_eI h) 1 0 0 [fw_j v0] h (s_Mod_bounded v0) := by
  refine fw_Call.of ok_Mod_bounded.1 (Nat.le_of_ble_eq_true rfl) [(0, some (fw_j v0))] rfl ?_
  refine r_ldc2 (i := 0) wL_Mod_186 rfl rfl ?_
  refine r_ldc2 (i := 1) wL_Mod_188 rfl rfl ?_
  refine r_lload_n (i := 2) rfl rfl rfl ?_
  refine r_minJ (i := 3) (Nat.le_of_ble_eq_true rfl) (Nat.le_of_ble_eq_true rfl) wM_Mod_190 rfl rfl ?_
  refine r_maxJ (i := 4) (Nat.le_of_ble_eq_true rfl) (Nat.le_of_ble_eq_true rfl) wM_Mod_196 rfl rfl ?_
  refine r_l2i (i := 5) rfl rfl ?_
  exact r_retI (i := 6) rfl rfl rfl rfl
-- Mod_worked
def s_Mod_worked (v0 : Int32) (v1 : Int64) (v2 : Int64) : Option Int32 :=
if v0 = (2 : Int32) then ((s_Mod_bounded (v1 + v2)).bind fun x55 =>
some x55) else
if v0 = (3 : Int32) then ((s_Mod_bounded (v1 - v2)).bind fun x62 =>
some x62) else
if v0 = (4 : Int32) then ((s_Mod_bounded (v1 * v2)).bind fun x69 =>
some x69) else
if v0 = (5 : Int32) then (if ¬ (lg_cmp v2 (0 : Int64)) = (0 : Int32) then ((f_ldiv v1 v2).bind fun x85 =>
(s_Mod_bounded x85).bind fun x86 =>
some x86) else
some (0 : Int32)) else
if v0 = (6 : Int32) then (if ¬ (lg_cmp v1 v2) = (0 : Int32) then (some (0 : Int32)) else
some (1 : Int32)) else
if v0 = (7 : Int32) then (if (0 : Int32) ≤ (lg_cmp v1 v2) then (some (0 : Int32)) else
some (1 : Int32)) else
if v0 = (8 : Int32) then (if (lg_cmp v1 v2) ≤ (0 : Int32) then (some (0 : Int32)) else
some (1 : Int32)) else
if v0 = (9 : Int32) then (if ¬ (lg_cmp v1 (0 : Int64)) = (0 : Int32) then (some (1 : Int32)) else
if (lg_cmp v2 (0 : Int64)) = (0 : Int32) then (some (0 : Int32)) else
some (1 : Int32)) else
if v0 = (10 : Int32) then (if (lg_cmp v1 (0 : Int64)) = (0 : Int32) then (some (0 : Int32)) else
if (lg_cmp v2 (0 : Int64)) = (0 : Int32) then (some (0 : Int32)) else
some (1 : Int32)) else
if ¬ (lg_cmp v1 (0 : Int64)) = (0 : Int32) then (some (1 : Int32)) else
if (lg_cmp v2 (0 : Int64)) = (0 : Int32) then (some (0 : Int32)) else
some (1 : Int32)
theorem c_Mod_worked {G : fw_G} {h : fw_H} {v0 : Int32} {v1 : Int64} {v2 : Int64} : fw_Call G m_Mod_worked (fw_eI h) 2 0 0 [fw_i v0, fw_j v1, fw_j v2] h (s_Mod_worked v0 v1 v2) := by
  refine fw_Call.of ok_Mod_worked.1 (Nat.le_of_ble_eq_true rfl) [(0, some (fw_i v0)), (1, some (fw_j v1)), (3, some (fw_j v2))] rfl ?_
  refine r_iload_n (i := 0) rfl rfl rfl ?_
  refine r_split (fun e1_2 => ?_) (fun n1_2 => ?_)
  · refine r_tinK (i := 1) (tgt := 52) (len := 51) (v := (2 : Int32)) (off := 51) e1_2 rfl rfl (by decide) (by decide) rfl ?_
    refine r_lload_n (i := 2) rfl rfl rfl ?_
    refine r_lload_n (i := 3) rfl rfl rfl ?_
    refine r_ladd (i := 4) rfl rfl ?_
    refine r_SI1 (i := 5) (k2 := 0) (n2 := 0) ok_Mod_bounded wM_Mod_199 (c_Mod_bounded) (Nat.le_of_ble_eq_true rfl) (Nat.le_of_ble_eq_true rfl) (Nat.le_of_ble_eq_true rfl) (Nat.le_of_ble_eq_true rfl) rfl rfl fun x55 => ?_
    exact r_retI (i := 6) rfl rfl rfl rfl
  · refine r_split (fun e1_3 => ?_) (fun n1_3 => ?_)
    · refine r_tinK (i := 1) (tgt := 59) (len := 51) (v := (3 : Int32)) (off := 58) e1_3 rfl rfl (by decide) (by decide) rfl ?_
      refine r_lload_n (i := 7) rfl rfl rfl ?_
      refine r_lload_n (i := 8) rfl rfl rfl ?_
      refine r_lsub (i := 9) rfl rfl ?_
      refine r_SI1 (i := 10) (k2 := 0) (n2 := 0) ok_Mod_bounded wM_Mod_199 (c_Mod_bounded) (Nat.le_of_ble_eq_true rfl) (Nat.le_of_ble_eq_true rfl) (Nat.le_of_ble_eq_true rfl) (Nat.le_of_ble_eq_true rfl) rfl rfl fun x62 => ?_
      exact r_retI (i := 11) rfl rfl rfl rfl
    · refine r_split (fun e1_4 => ?_) (fun n1_4 => ?_)
      · refine r_tinK (i := 1) (tgt := 66) (len := 51) (v := (4 : Int32)) (off := 65) e1_4 rfl rfl (by decide) (by decide) rfl ?_
        refine r_lload_n (i := 12) rfl rfl rfl ?_
        refine r_lload_n (i := 13) rfl rfl rfl ?_
        refine r_lmul (i := 14) rfl rfl ?_
        refine r_SI1 (i := 15) (k2 := 0) (n2 := 0) ok_Mod_bounded wM_Mod_199 (c_Mod_bounded) (Nat.le_of_ble_eq_true rfl) (Nat.le_of_ble_eq_true rfl) (Nat.le_of_ble_eq_true rfl) (Nat.le_of_ble_eq_true rfl) rfl rfl fun x69 => ?_
        exact r_retI (i := 16) rfl rfl rfl rfl
      · refine r_split (fun e1_5 => ?_) (fun n1_5 => ?_)
        · refine r_tinK (i := 1) (tgt := 73) (len := 51) (v := (5 : Int32)) (off := 72) e1_5 rfl rfl (by decide) (by decide) rfl ?_
          refine r_lload_n (i := 17) rfl rfl rfl ?_
          refine r_lconst (i := 18) (0 : Int64) rfl rfl rfl ?_
          refine r_lcmp (i := 19) rfl rfl ?_
          refine r_if_ne (i := 20) (tgt := 83) rfl rfl rfl ?_ ?_
          · refine r_lload_n (i := 23) rfl rfl rfl ?_
            refine r_lload_n (i := 24) rfl rfl rfl ?_
            refine r_ldivN (i := 25) rfl rfl fun x85 => ?_
            refine r_SI1 (i := 26) (k2 := 0) (n2 := 0) ok_Mod_bounded wM_Mod_199 (c_Mod_bounded) (Nat.le_of_ble_eq_true rfl) (Nat.le_of_ble_eq_true rfl) (Nat.le_of_ble_eq_true rfl) (Nat.le_of_ble_eq_true rfl) rfl rfl fun x86 => ?_
            exact r_retI (i := 27) rfl rfl rfl rfl
          · refine r_iconst (i := 21) (0 : Int32) kc_iconst_0 rfl rfl ?_
            refine r_goto (i := 22) (tgt := 89) rfl rfl rfl ?_
            exact r_retI (i := 27) rfl rfl rfl rfl
        · refine r_split (fun e1_6 => ?_) (fun n1_6 => ?_)
          · refine r_tinK (i := 1) (tgt := 90) (len := 51) (v := (6 : Int32)) (off := 89) e1_6 rfl rfl (by decide) (by decide) rfl ?_
            refine r_lload_n (i := 28) rfl rfl rfl ?_
            refine r_lload_n (i := 29) rfl rfl rfl ?_
            refine r_lcmp (i := 30) rfl rfl ?_
            refine r_if_ne (i := 31) (tgt := 100) rfl rfl rfl ?_ ?_
            · refine r_iconst (i := 34) (0 : Int32) kc_iconst_0 rfl rfl ?_
              exact r_retI (i := 35) rfl rfl rfl rfl
            · refine r_iconst (i := 32) (1 : Int32) kc_iconst_1 rfl rfl ?_
              refine r_goto (i := 33) (tgt := 101) rfl rfl rfl ?_
              exact r_retI (i := 35) rfl rfl rfl rfl
          · refine r_split (fun e1_7 => ?_) (fun n1_7 => ?_)
            · refine r_tinK (i := 1) (tgt := 102) (len := 51) (v := (7 : Int32)) (off := 101) e1_7 rfl rfl (by decide) (by decide) rfl ?_
              refine r_lload_n (i := 36) rfl rfl rfl ?_
              refine r_lload_n (i := 37) rfl rfl rfl ?_
              refine r_lcmp (i := 38) rfl rfl ?_
              refine r_if_ge (i := 39) (tgt := 112) rfl rfl rfl ?_ ?_
              · refine r_iconst (i := 42) (0 : Int32) kc_iconst_0 rfl rfl ?_
                exact r_retI (i := 43) rfl rfl rfl rfl
              · refine r_iconst (i := 40) (1 : Int32) kc_iconst_1 rfl rfl ?_
                refine r_goto (i := 41) (tgt := 113) rfl rfl rfl ?_
                exact r_retI (i := 43) rfl rfl rfl rfl
            · refine r_split (fun e1_8 => ?_) (fun n1_8 => ?_)
              · refine r_tinK (i := 1) (tgt := 114) (len := 51) (v := (8 : Int32)) (off := 113) e1_8 rfl rfl (by decide) (by decide) rfl ?_
                refine r_lload_n (i := 44) rfl rfl rfl ?_
                refine r_lload_n (i := 45) rfl rfl rfl ?_
                refine r_lcmp (i := 46) rfl rfl ?_
                refine r_if_le (i := 47) (tgt := 124) rfl rfl rfl ?_ ?_
                · refine r_iconst (i := 50) (0 : Int32) kc_iconst_0 rfl rfl ?_
                  exact r_retI (i := 51) rfl rfl rfl rfl
                · refine r_iconst (i := 48) (1 : Int32) kc_iconst_1 rfl rfl ?_
                  refine r_goto (i := 49) (tgt := 125) rfl rfl rfl ?_
                  exact r_retI (i := 51) rfl rfl rfl rfl
              · refine r_split (fun e1_9 => ?_) (fun n1_9 => ?_)
                · refine r_tinK (i := 1) (tgt := 144) (len := 51) (v := (9 : Int32)) (off := 143) e1_9 rfl rfl (by decide) (by decide) rfl ?_
                  refine r_lload_n (i := 64) rfl rfl rfl ?_
                  refine r_lconst (i := 65) (0 : Int64) rfl rfl rfl ?_
                  refine r_lcmp (i := 66) rfl rfl ?_
                  refine r_if_ne (i := 67) (tgt := 156) rfl rfl rfl ?_ ?_
                  · refine r_iconst (i := 72) (1 : Int32) kc_iconst_1 rfl rfl ?_
                    refine r_goto (i := 73) (tgt := 161) rfl rfl rfl ?_
                    exact r_retI (i := 75) rfl rfl rfl rfl
                  · refine r_lload_n (i := 68) rfl rfl rfl ?_
                    refine r_lconst (i := 69) (0 : Int64) rfl rfl rfl ?_
                    refine r_lcmp (i := 70) rfl rfl ?_
                    refine r_if_eq (i := 71) (tgt := 160) rfl rfl rfl ?_ ?_
                    · refine r_iconst (i := 74) (0 : Int32) kc_iconst_0 rfl rfl ?_
                      exact r_retI (i := 75) rfl rfl rfl rfl
                    · refine r_iconst (i := 72) (1 : Int32) kc_iconst_1 rfl rfl ?_
                      refine r_goto (i := 73) (tgt := 161) rfl rfl rfl ?_
                      exact r_retI (i := 75) rfl rfl rfl rfl
                · refine r_split (fun e1_10 => ?_) (fun n1_10 => ?_)
                  · refine r_tinK (i := 1) (tgt := 126) (len := 51) (v := (10 : Int32)) (off := 125) e1_10 rfl rfl (by decide) (by decide) rfl ?_
                    refine r_lload_n (i := 52) rfl rfl rfl ?_
                    refine r_lconst (i := 53) (0 : Int64) rfl rfl rfl ?_
                    refine r_lcmp (i := 54) rfl rfl ?_
                    refine r_if_eq (i := 55) (tgt := 142) rfl rfl rfl ?_ ?_
                    · refine r_iconst (i := 62) (0 : Int32) kc_iconst_0 rfl rfl ?_
                      exact r_retI (i := 63) rfl rfl rfl rfl
                    · refine r_lload_n (i := 56) rfl rfl rfl ?_
                      refine r_lconst (i := 57) (0 : Int64) rfl rfl rfl ?_
                      refine r_lcmp (i := 58) rfl rfl ?_
                      refine r_if_eq (i := 59) (tgt := 142) rfl rfl rfl ?_ ?_
                      · refine r_iconst (i := 62) (0 : Int32) kc_iconst_0 rfl rfl ?_
                        exact r_retI (i := 63) rfl rfl rfl rfl
                      · refine r_iconst (i := 60) (1 : Int32) kc_iconst_1 rfl rfl ?_
                        refine r_goto (i := 61) (tgt := 143) rfl rfl rfl ?_
                        exact r_retI (i := 63) rfl rfl rfl rfl
                  · refine r_tout (i := 1) (tgt := 144) (len := 51) rfl rfl (by have m2 := fw_ni n1_2 (z := 2) (by decide); have m3 := fw_ni n1_3 (z := 3) (by decide); have m4 := fw_ni n1_4 (z := 4) (by decide); have m5 := fw_ni n1_5 (z := 5) (by decide); have m6 := fw_ni n1_6 (z := 6) (by decide); have m7 := fw_ni n1_7 (z := 7) (by decide); have m8 := fw_ni n1_8 (z := 8) (by decide); have m9 := fw_ni n1_9 (z := 9) (by decide); have m10 := fw_ni n1_10 (z := 10) (by decide); omega) rfl ?_
                    refine r_lload_n (i := 64) rfl rfl rfl ?_
                    refine r_lconst (i := 65) (0 : Int64) rfl rfl rfl ?_
                    refine r_lcmp (i := 66) rfl rfl ?_
                    refine r_if_ne (i := 67) (tgt := 156) rfl rfl rfl ?_ ?_
                    · refine r_iconst (i := 72) (1 : Int32) kc_iconst_1 rfl rfl ?_
                      refine r_goto (i := 73) (tgt := 161) rfl rfl rfl ?_
                      exact r_retI (i := 75) rfl rfl rfl rfl
                    · refine r_lload_n (i := 68) rfl rfl rfl ?_
                      refine r_lconst (i := 69) (0 : Int64) rfl rfl rfl ?_
                      refine r_lcmp (i := 70) rfl rfl ?_
                      refine r_if_eq (i := 71) (tgt := 160) rfl rfl rfl ?_ ?_
                      · refine r_iconst (i := 74) (0 : Int32) kc_iconst_0 rfl rfl ?_
                        exact r_retI (i := 75) rfl rfl rfl rfl
                      · refine r_iconst (i := 72) (1 : Int32) kc_iconst_1 rfl rfl ?_
                        refine r_goto (i := 73) (tgt := 161) rfl rfl rfl ?_
                        exact r_retI (i := 75) rfl rfl rfl rfl
-- Mod_workOut
def l_Mod_workOut_12 (v0 : Option Nat) (v1 : Int32) (v3 : Int32) : Nat → Int32 → Int32 → fw_H → Option (Int32 × fw_H)
  | 0, _, _, _ => none
  | nn + 1, a12_4, a12_5, g12 =>
    if (((520 : Int32) * v1) + v3) ≤ a12_5 then ((f_gR g12 v0 12 16).bind fun x172 =>
    (f_aI g12 x172 (0 : Int32)).bind fun x176 =>
    some (x176, g12)) else
    (f_gR g12 v0 12 6).bind fun x25 =>
    (f_aI g12 x25 a12_5).bind fun x30 =>
    if x30 = (0 : Int32) then ((f_gR g12 v0 12 16).bind fun x46 =>
    (f_gR g12 v0 12 6).bind fun x52 =>
    (f_aI g12 x52 a12_5).bind fun x57 =>
    if ¬ x57 = (0 : Int32) then ((f_gR g12 v0 12 15).bind fun x72 =>
    (f_gR g12 v0 12 7).bind fun x76 =>
    (f_aI g12 x76 a12_5).bind fun x81 =>
    (f_aI g12 x72 x81).bind fun x82 =>
    (f_sI g12 x46 a12_4 x82).bind fun h83 =>
    l_Mod_workOut_12 v0 v1 v3 nn (a12_4 + (1 : Int32)) (a12_5 + (1 : Int32)) h83) else
    (f_gR g12 v0 12 7).bind fun x62 =>
    (f_aI g12 x62 a12_5).bind fun x67 =>
    (f_sI g12 x46 a12_4 x67).bind fun h83 =>
    l_Mod_workOut_12 v0 v1 v3 nn (a12_4 + (1 : Int32)) (a12_5 + (1 : Int32)) h83) else
    (f_gR g12 v0 12 6).bind fun x35 =>
    (f_aI g12 x35 a12_5).bind fun x40 =>
    if ¬ x40 = (1 : Int32) then ((f_gR g12 v0 12 6).bind fun x91 =>
    (f_aI g12 x91 a12_5).bind fun x96 =>
    if ¬ x96 = (9 : Int32) then ((f_gR g12 v0 12 16).bind fun x129 =>
    (f_gR g12 v0 12 6).bind fun x137 =>
    (f_aI g12 x137 a12_5).bind fun x142 =>
    (f_gR g12 v0 12 16).bind fun x144 =>
    (f_aI g12 x144 ((a12_4 + (-1 : Int32)) - (1 : Int32))).bind fun x151 =>
    (f_gR g12 v0 12 16).bind fun x154 =>
    (f_aI g12 x154 (a12_4 + (-1 : Int32))).bind fun x159 =>
    (s_Mod_worked x142 (Int32.toInt64 x151) (Int32.toInt64 x159)).bind fun x161 =>
    (f_sI g12 x129 ((a12_4 + (-1 : Int32)) - (1 : Int32)) x161).bind fun h164 =>
    l_Mod_workOut_12 v0 v1 v3 nn (a12_4 + (-1 : Int32)) (a12_5 + (1 : Int32)) h164) else
    (f_gR g12 v0 12 16).bind fun x103 =>
    (f_gR g12 v0 12 16).bind fun x112 =>
    (f_aI g12 x112 (a12_4 - (1 : Int32))).bind fun x119 =>
    (f_sI g12 x103 (a12_4 - (1 : Int32)) ((1 : Int32) - x119)).bind fun h121 =>
    l_Mod_workOut_12 v0 v1 v3 nn a12_4 (a12_5 + (1 : Int32)) h121) else
    (f_gR g12 v0 12 16).bind fun x46 =>
    (f_gR g12 v0 12 6).bind fun x52 =>
    (f_aI g12 x52 a12_5).bind fun x57 =>
    if ¬ x57 = (0 : Int32) then ((f_gR g12 v0 12 15).bind fun x72 =>
    (f_gR g12 v0 12 7).bind fun x76 =>
    (f_aI g12 x76 a12_5).bind fun x81 =>
    (f_aI g12 x72 x81).bind fun x82 =>
    (f_sI g12 x46 a12_4 x82).bind fun h83 =>
    l_Mod_workOut_12 v0 v1 v3 nn (a12_4 + (1 : Int32)) (a12_5 + (1 : Int32)) h83) else
    (f_gR g12 v0 12 7).bind fun x62 =>
    (f_aI g12 x62 a12_5).bind fun x67 =>
    (f_sI g12 x46 a12_4 x67).bind fun h83 =>
    l_Mod_workOut_12 v0 v1 v3 nn (a12_4 + (1 : Int32)) (a12_5 + (1 : Int32)) h83
theorem cl_Mod_workOut_12 {G : fw_G} {v0 : Option Nat} {v1 : Int32} {v3 : Int32} : ∀ (nn : Nat) (a12_4 : Int32) (a12_5 : Int32) (g12 : fw_H), fw_R G m_Mod_workOut fw_wI 3 0 0 12 [(0, some (fw_r v0)), (1, some (fw_i v1)), (3, some (fw_i v3)), (4, some (fw_i a12_4)), (5, some (fw_i a12_5))] [] g12 (l_Mod_workOut_12 v0 v1 v3 nn a12_4 a12_5 g12) := by
  intro nn
  induction nn with
  | zero => intros; exact r_none
  | succ nn ih =>
    intro a12_4 a12_5 g12
    rw [l_Mod_workOut_12]
    refine r_iload (i := 8) rfl rfl rfl ?_
    refine r_sipush (i := 9) (520 : Int32) kc_sipush_520 rfl rfl ?_
    refine r_iload_n (i := 10) rfl rfl rfl ?_
    refine r_imul (i := 11) rfl rfl ?_
    refine r_iload_n (i := 12) rfl rfl rfl ?_
    refine r_iadd (i := 13) rfl rfl ?_
    refine r_icmp_ge (i := 14) (tgt := 171) rfl rfl rfl ?_ ?_
    · refine r_aload_n (i := 96) rfl rfl rfl ?_
      refine r_gR (i := 97) (ci := 12) (kf := 16) rfl (Nat.le_of_ble_eq_true rfl) wF_Mod_37 rfl rfl fun x172 => ?_
      refine r_iconst (i := 98) (0 : Int32) kc_iconst_0 rfl rfl ?_
      refine r_aI (i := 99) rfl rfl fun x176 => ?_
      exact r_retI (i := 100) rfl rfl rfl rfl
    · refine r_aload_n (i := 15) rfl rfl rfl ?_
      refine r_gR (i := 16) (ci := 12) (kf := 6) rfl (Nat.le_of_ble_eq_true rfl) wF_Mod_13 rfl rfl fun x25 => ?_
      refine r_iload (i := 17) rfl rfl rfl ?_
      refine r_aI (i := 18) rfl rfl fun x30 => ?_
      refine r_if_eq (i := 19) (tgt := 45) rfl rfl rfl ?_ ?_
      · refine r_aload_n (i := 26) rfl rfl rfl ?_
        refine r_gR (i := 27) (ci := 12) (kf := 16) rfl (Nat.le_of_ble_eq_true rfl) wF_Mod_37 rfl rfl fun x46 => ?_
        refine r_iload (i := 28) rfl rfl rfl ?_
        refine r_aload_n (i := 29) rfl rfl rfl ?_
        refine r_gR (i := 30) (ci := 12) (kf := 6) rfl (Nat.le_of_ble_eq_true rfl) wF_Mod_13 rfl rfl fun x52 => ?_
        refine r_iload (i := 31) rfl rfl rfl ?_
        refine r_aI (i := 32) rfl rfl fun x57 => ?_
        refine r_if_ne (i := 33) (tgt := 71) rfl rfl rfl ?_ ?_
        · refine r_aload_n (i := 39) rfl rfl rfl ?_
          refine r_gR (i := 40) (ci := 12) (kf := 15) rfl (Nat.le_of_ble_eq_true rfl) wF_Mod_34 rfl rfl fun x72 => ?_
          refine r_aload_n (i := 41) rfl rfl rfl ?_
          refine r_gR (i := 42) (ci := 12) (kf := 7) rfl (Nat.le_of_ble_eq_true rfl) wF_Mod_16 rfl rfl fun x76 => ?_
          refine r_iload (i := 43) rfl rfl rfl ?_
          refine r_aI (i := 44) rfl rfl fun x81 => ?_
          refine r_aI (i := 45) rfl rfl fun x82 => ?_
          refine r_sI (i := 46) rfl rfl fun h83 => ?_
          refine r_iinc (i := 47) (1 : Int32) kc_iconst_1 rfl rfl rfl (Nat.le_of_ble_eq_true rfl) ?_
          refine r_goto (i := 48) (tgt := 165) rfl rfl rfl ?_
          refine r_iinc (i := 94) (1 : Int32) kc_iconst_1 rfl rfl rfl (Nat.le_of_ble_eq_true rfl) ?_
          refine r_goto (i := 95) (tgt := 12) rfl rfl rfl ?_
          exact r_lv (fw_sub1 rfl (fw_sub1 rfl (fw_sub1 rfl (fw_sub1 rfl (fw_sub1 rfl fw_sub0))))) (ih (a12_4 + (1 : Int32)) (a12_5 + (1 : Int32)) h83)
        · refine r_aload_n (i := 34) rfl rfl rfl ?_
          refine r_gR (i := 35) (ci := 12) (kf := 7) rfl (Nat.le_of_ble_eq_true rfl) wF_Mod_16 rfl rfl fun x62 => ?_
          refine r_iload (i := 36) rfl rfl rfl ?_
          refine r_aI (i := 37) rfl rfl fun x67 => ?_
          refine r_goto (i := 38) (tgt := 83) rfl rfl rfl ?_
          refine r_sI (i := 46) rfl rfl fun h83 => ?_
          refine r_iinc (i := 47) (1 : Int32) kc_iconst_1 rfl rfl rfl (Nat.le_of_ble_eq_true rfl) ?_
          refine r_goto (i := 48) (tgt := 165) rfl rfl rfl ?_
          refine r_iinc (i := 94) (1 : Int32) kc_iconst_1 rfl rfl rfl (Nat.le_of_ble_eq_true rfl) ?_
          refine r_goto (i := 95) (tgt := 12) rfl rfl rfl ?_
          exact r_lv (fw_sub1 rfl (fw_sub1 rfl (fw_sub1 rfl (fw_sub1 rfl (fw_sub1 rfl fw_sub0))))) (ih (a12_4 + (1 : Int32)) (a12_5 + (1 : Int32)) h83)
      · refine r_aload_n (i := 20) rfl rfl rfl ?_
        refine r_gR (i := 21) (ci := 12) (kf := 6) rfl (Nat.le_of_ble_eq_true rfl) wF_Mod_13 rfl rfl fun x35 => ?_
        refine r_iload (i := 22) rfl rfl rfl ?_
        refine r_aI (i := 23) rfl rfl fun x40 => ?_
        refine r_iconst (i := 24) (1 : Int32) kc_iconst_1 rfl rfl ?_
        refine r_icmp_ne (i := 25) (tgt := 90) rfl rfl rfl ?_ ?_
        · refine r_aload_n (i := 49) rfl rfl rfl ?_
          refine r_gR (i := 50) (ci := 12) (kf := 6) rfl (Nat.le_of_ble_eq_true rfl) wF_Mod_13 rfl rfl fun x91 => ?_
          refine r_iload (i := 51) rfl rfl rfl ?_
          refine r_aI (i := 52) rfl rfl fun x96 => ?_
          refine r_bipush (i := 53) (9 : Int32) kc_bipush_9 rfl rfl ?_
          refine r_icmp_ne (i := 54) (tgt := 125) rfl rfl rfl ?_ ?_
          · refine r_iinc (i := 70) (-1 : Int32) kc_iconst_m1 rfl rfl rfl (Nat.le_of_ble_eq_true rfl) ?_
            refine r_aload_n (i := 71) rfl rfl rfl ?_
            refine r_gR (i := 72) (ci := 12) (kf := 16) rfl (Nat.le_of_ble_eq_true rfl) wF_Mod_37 rfl rfl fun x129 => ?_
            refine r_iload (i := 73) rfl rfl rfl ?_
            refine r_iconst (i := 74) (1 : Int32) kc_iconst_1 rfl rfl ?_
            refine r_isub (i := 75) rfl rfl ?_
            refine r_aload_n (i := 76) rfl rfl rfl ?_
            refine r_gR (i := 77) (ci := 12) (kf := 6) rfl (Nat.le_of_ble_eq_true rfl) wF_Mod_13 rfl rfl fun x137 => ?_
            refine r_iload (i := 78) rfl rfl rfl ?_
            refine r_aI (i := 79) rfl rfl fun x142 => ?_
            refine r_aload_n (i := 80) rfl rfl rfl ?_
            refine r_gR (i := 81) (ci := 12) (kf := 16) rfl (Nat.le_of_ble_eq_true rfl) wF_Mod_37 rfl rfl fun x144 => ?_
            refine r_iload (i := 82) rfl rfl rfl ?_
            refine r_iconst (i := 83) (1 : Int32) kc_iconst_1 rfl rfl ?_
            refine r_isub (i := 84) rfl rfl ?_
            refine r_aI (i := 85) rfl rfl fun x151 => ?_
            refine r_i2l (i := 86) rfl rfl ?_
            refine r_aload_n (i := 87) rfl rfl rfl ?_
            refine r_gR (i := 88) (ci := 12) (kf := 16) rfl (Nat.le_of_ble_eq_true rfl) wF_Mod_37 rfl rfl fun x154 => ?_
            refine r_iload (i := 89) rfl rfl rfl ?_
            refine r_aI (i := 90) rfl rfl fun x159 => ?_
            refine r_i2l (i := 91) rfl rfl ?_
            refine r_SI3 (i := 92) (k2 := 0) (n2 := 0) ok_Mod_worked wM_Mod_203 (c_Mod_worked) (Nat.le_of_ble_eq_true rfl) (Nat.le_of_ble_eq_true rfl) (Nat.le_of_ble_eq_true rfl) (Nat.le_of_ble_eq_true rfl) rfl rfl fun x161 => ?_
            refine r_sI (i := 93) rfl rfl fun h164 => ?_
            refine r_iinc (i := 94) (1 : Int32) kc_iconst_1 rfl rfl rfl (Nat.le_of_ble_eq_true rfl) ?_
            refine r_goto (i := 95) (tgt := 12) rfl rfl rfl ?_
            exact r_lv (fw_sub1 rfl (fw_sub1 rfl (fw_sub1 rfl (fw_sub1 rfl (fw_sub1 rfl fw_sub0))))) (ih (a12_4 + (-1 : Int32)) (a12_5 + (1 : Int32)) h164)
          · refine r_aload_n (i := 55) rfl rfl rfl ?_
            refine r_gR (i := 56) (ci := 12) (kf := 16) rfl (Nat.le_of_ble_eq_true rfl) wF_Mod_37 rfl rfl fun x103 => ?_
            refine r_iload (i := 57) rfl rfl rfl ?_
            refine r_iconst (i := 58) (1 : Int32) kc_iconst_1 rfl rfl ?_
            refine r_isub (i := 59) rfl rfl ?_
            refine r_iconst (i := 60) (1 : Int32) kc_iconst_1 rfl rfl ?_
            refine r_aload_n (i := 61) rfl rfl rfl ?_
            refine r_gR (i := 62) (ci := 12) (kf := 16) rfl (Nat.le_of_ble_eq_true rfl) wF_Mod_37 rfl rfl fun x112 => ?_
            refine r_iload (i := 63) rfl rfl rfl ?_
            refine r_iconst (i := 64) (1 : Int32) kc_iconst_1 rfl rfl ?_
            refine r_isub (i := 65) rfl rfl ?_
            refine r_aI (i := 66) rfl rfl fun x119 => ?_
            refine r_isub (i := 67) rfl rfl ?_
            refine r_sI (i := 68) rfl rfl fun h121 => ?_
            refine r_goto (i := 69) (tgt := 165) rfl rfl rfl ?_
            refine r_iinc (i := 94) (1 : Int32) kc_iconst_1 rfl rfl rfl (Nat.le_of_ble_eq_true rfl) ?_
            refine r_goto (i := 95) (tgt := 12) rfl rfl rfl ?_
            exact r_lv (fw_sub1 rfl (fw_sub1 rfl (fw_sub1 rfl (fw_sub1 rfl (fw_sub1 rfl fw_sub0))))) (ih a12_4 (a12_5 + (1 : Int32)) h121)
        · refine r_aload_n (i := 26) rfl rfl rfl ?_
          refine r_gR (i := 27) (ci := 12) (kf := 16) rfl (Nat.le_of_ble_eq_true rfl) wF_Mod_37 rfl rfl fun x46 => ?_
          refine r_iload (i := 28) rfl rfl rfl ?_
          refine r_aload_n (i := 29) rfl rfl rfl ?_
          refine r_gR (i := 30) (ci := 12) (kf := 6) rfl (Nat.le_of_ble_eq_true rfl) wF_Mod_13 rfl rfl fun x52 => ?_
          refine r_iload (i := 31) rfl rfl rfl ?_
          refine r_aI (i := 32) rfl rfl fun x57 => ?_
          refine r_if_ne (i := 33) (tgt := 71) rfl rfl rfl ?_ ?_
          · refine r_aload_n (i := 39) rfl rfl rfl ?_
            refine r_gR (i := 40) (ci := 12) (kf := 15) rfl (Nat.le_of_ble_eq_true rfl) wF_Mod_34 rfl rfl fun x72 => ?_
            refine r_aload_n (i := 41) rfl rfl rfl ?_
            refine r_gR (i := 42) (ci := 12) (kf := 7) rfl (Nat.le_of_ble_eq_true rfl) wF_Mod_16 rfl rfl fun x76 => ?_
            refine r_iload (i := 43) rfl rfl rfl ?_
            refine r_aI (i := 44) rfl rfl fun x81 => ?_
            refine r_aI (i := 45) rfl rfl fun x82 => ?_
            refine r_sI (i := 46) rfl rfl fun h83 => ?_
            refine r_iinc (i := 47) (1 : Int32) kc_iconst_1 rfl rfl rfl (Nat.le_of_ble_eq_true rfl) ?_
            refine r_goto (i := 48) (tgt := 165) rfl rfl rfl ?_
            refine r_iinc (i := 94) (1 : Int32) kc_iconst_1 rfl rfl rfl (Nat.le_of_ble_eq_true rfl) ?_
            refine r_goto (i := 95) (tgt := 12) rfl rfl rfl ?_
            exact r_lv (fw_sub1 rfl (fw_sub1 rfl (fw_sub1 rfl (fw_sub1 rfl (fw_sub1 rfl fw_sub0))))) (ih (a12_4 + (1 : Int32)) (a12_5 + (1 : Int32)) h83)
          · refine r_aload_n (i := 34) rfl rfl rfl ?_
            refine r_gR (i := 35) (ci := 12) (kf := 7) rfl (Nat.le_of_ble_eq_true rfl) wF_Mod_16 rfl rfl fun x62 => ?_
            refine r_iload (i := 36) rfl rfl rfl ?_
            refine r_aI (i := 37) rfl rfl fun x67 => ?_
            refine r_goto (i := 38) (tgt := 83) rfl rfl rfl ?_
            refine r_sI (i := 46) rfl rfl fun h83 => ?_
            refine r_iinc (i := 47) (1 : Int32) kc_iconst_1 rfl rfl rfl (Nat.le_of_ble_eq_true rfl) ?_
            refine r_goto (i := 48) (tgt := 165) rfl rfl rfl ?_
            refine r_iinc (i := 94) (1 : Int32) kc_iconst_1 rfl rfl rfl (Nat.le_of_ble_eq_true rfl) ?_
            refine r_goto (i := 95) (tgt := 12) rfl rfl rfl ?_
            exact r_lv (fw_sub1 rfl (fw_sub1 rfl (fw_sub1 rfl (fw_sub1 rfl (fw_sub1 rfl fw_sub0))))) (ih (a12_4 + (1 : Int32)) (a12_5 + (1 : Int32)) h83)
def s_Mod_workOut (F : Nat) (h : fw_H) (v0 : Option Nat) (v1 : Int32) (v2 : Int32) (v3 : Int32) : Option (Int32 × fw_H) :=
(f_ck h v0 12).bind fun _ =>
l_Mod_workOut_12 v0 v1 v3 F (0 : Int32) (((520 : Int32) * v1) + v2) h
theorem c_Mod_workOut {G : fw_G} (F : Nat) {h : fw_H} {v0 : Option Nat} {v1 : Int32} {v2 : Int32} {v3 : Int32} : fw_Call G m_Mod_workOut fw_wI 3 0 0 [fw_r v0, fw_i v1, fw_i v2, fw_i v3] h (s_Mod_workOut F h v0 v1 v2 v3) := by
  refine fw_Call.of ok_Mod_workOut.1 (Nat.le_of_ble_eq_true rfl) [(0, some (fw_r v0)), (1, some (fw_i v1)), (2, some (fw_i v2)), (3, some (fw_i v3))] rfl ?_
  refine r_ck ?_
  refine r_iconst (i := 0) (0 : Int32) kc_iconst_0 rfl rfl ?_
  refine r_istore (i := 1) rfl rfl (Nat.le_of_ble_eq_true rfl) rfl ?_
  refine r_sipush (i := 2) (520 : Int32) kc_sipush_520 rfl rfl ?_
  refine r_iload_n (i := 3) rfl rfl rfl ?_
  refine r_imul (i := 4) rfl rfl ?_
  refine r_iload_n (i := 5) rfl rfl rfl ?_
  refine r_iadd (i := 6) rfl rfl ?_
  refine r_istore (i := 7) rfl rfl (Nat.le_of_ble_eq_true rfl) rfl ?_
  refine r_lv (fw_sub1 rfl (fw_sub1 rfl (fw_sub1 rfl (fw_sub1 rfl (fw_sub1 rfl fw_sub0))))) (cl_Mod_workOut_12 F _ _ _)
-- Mod_worthOf
def l_Mod_worthOf_6 (F : Nat) (v0 : Option Nat) (v1 : Int32) (K57 : Int32 → fw_H → Option (Int32 × fw_H)) : Nat → Int32 → fw_H → Option (Int32 × fw_H)
  | 0, _, _ => none
  | nn + 1, a6_2, g6 =>
    (f_gR g6 v0 12 9).bind fun x13 =>
    (f_aI g6 x13 v1).bind fun x17 =>
    if (((140 : Int32) * v1) + x17) ≤ a6_2 then (some ((0 : Int32), g6)) else
    (f_gR g6 v0 12 10).bind fun x23 =>
    (f_aI g6 x23 a6_2).bind fun x27 =>
    (f_gR g6 v0 12 11).bind fun x29 =>
    (f_aI g6 x29 a6_2).bind fun x33 =>
    if x27 = x33 then (K57 a6_2 g6) else
    (f_gR g6 v0 12 10).bind fun x40 =>
    (f_aI g6 x40 a6_2).bind fun x44 =>
    (f_gR g6 v0 12 11).bind fun x46 =>
    (f_aI g6 x46 a6_2).bind fun x50 =>
    (s_Mod_workOut F g6 v0 v1 x44 x50).bind fun x51 =>
    if x51.1 = (0 : Int32) then (l_Mod_worthOf_6 F v0 v1 K57 nn (a6_2 + (1 : Int32)) x51.2) else
    K57 a6_2 x51.2
theorem cl_Mod_worthOf_6 {G : fw_G} {F : Nat} {v0 : Option Nat} {v1 : Int32} {K57 : Int32 → fw_H → Option (Int32 × fw_H)} (hK57 : ∀ (e57_2 : Int32) (he57 : fw_H), fw_R G m_Mod_worthOf fw_wI 4 0 0 57 [(0, some (fw_r v0)), (1, some (fw_i v1)), (2, some (fw_i e57_2))] [] he57 (K57 e57_2 he57)) : ∀ (nn : Nat) (a6_2 : Int32) (g6 : fw_H), fw_R G m_Mod_worthOf fw_wI 4 0 0 6 [(0, some (fw_r v0)), (1, some (fw_i v1)), (2, some (fw_i a6_2))] [] g6 (l_Mod_worthOf_6 F v0 v1 K57 nn a6_2 g6) := by
  intro nn
  induction nn with
  | zero => intros; exact r_none
  | succ nn ih =>
    intro a6_2 g6
    rw [l_Mod_worthOf_6]
    refine r_iload_n (i := 4) rfl rfl rfl ?_
    refine r_sipush (i := 5) (140 : Int32) kc_sipush_140 rfl rfl ?_
    refine r_iload_n (i := 6) rfl rfl rfl ?_
    refine r_imul (i := 7) rfl rfl ?_
    refine r_aload_n (i := 8) rfl rfl rfl ?_
    refine r_gR (i := 9) (ci := 12) (kf := 9) rfl (Nat.le_of_ble_eq_true rfl) wF_Mod_22 rfl rfl fun x13 => ?_
    refine r_iload_n (i := 10) rfl rfl rfl ?_
    refine r_aI (i := 11) rfl rfl fun x17 => ?_
    refine r_iadd (i := 12) rfl rfl ?_
    refine r_icmp_ge (i := 13) (tgt := 81) rfl rfl rfl ?_ ?_
    · refine r_iconst (i := 49) (0 : Int32) kc_iconst_0 rfl rfl ?_
      exact r_retI (i := 50) rfl rfl rfl rfl
    · refine r_aload_n (i := 14) rfl rfl rfl ?_
      refine r_gR (i := 15) (ci := 12) (kf := 10) rfl (Nat.le_of_ble_eq_true rfl) wF_Mod_25 rfl rfl fun x23 => ?_
      refine r_iload_n (i := 16) rfl rfl rfl ?_
      refine r_aI (i := 17) rfl rfl fun x27 => ?_
      refine r_aload_n (i := 18) rfl rfl rfl ?_
      refine r_gR (i := 19) (ci := 12) (kf := 11) rfl (Nat.le_of_ble_eq_true rfl) wF_Mod_28 rfl rfl fun x29 => ?_
      refine r_iload_n (i := 20) rfl rfl rfl ?_
      refine r_aI (i := 21) rfl rfl fun x33 => ?_
      refine r_icmp_eq (i := 22) (tgt := 57) rfl rfl rfl ?_ ?_
      · exact r_lv (fw_sub1 rfl (fw_sub1 rfl (fw_sub1 rfl fw_sub0))) (hK57 a6_2 g6)
      · refine r_aload_n (i := 23) rfl rfl rfl ?_
        refine r_iload_n (i := 24) rfl rfl rfl ?_
        refine r_aload_n (i := 25) rfl rfl rfl ?_
        refine r_gR (i := 26) (ci := 12) (kf := 10) rfl (Nat.le_of_ble_eq_true rfl) wF_Mod_25 rfl rfl fun x40 => ?_
        refine r_iload_n (i := 27) rfl rfl rfl ?_
        refine r_aI (i := 28) rfl rfl fun x44 => ?_
        refine r_aload_n (i := 29) rfl rfl rfl ?_
        refine r_gR (i := 30) (ci := 12) (kf := 11) rfl (Nat.le_of_ble_eq_true rfl) wF_Mod_28 rfl rfl fun x46 => ?_
        refine r_iload_n (i := 31) rfl rfl rfl ?_
        refine r_aI (i := 32) rfl rfl fun x50 => ?_
        refine r_VwI3 (i := 33) (k2 := 0) (n2 := 0) ok_Mod_workOut wM_Mod_207 (c_Mod_workOut F) (fun _ e => fw_ckb e) (Nat.le_of_ble_eq_true rfl) (Nat.le_of_ble_eq_true rfl) (Nat.le_of_ble_eq_true rfl) (Nat.le_of_ble_eq_true rfl) rfl rfl fun x51 => ?_
        refine r_if_eq (i := 34) (tgt := 75) rfl rfl rfl ?_ ?_
        · refine r_iinc (i := 47) (1 : Int32) kc_iconst_1 rfl rfl rfl (Nat.le_of_ble_eq_true rfl) ?_
          refine r_goto (i := 48) (tgt := 6) rfl rfl rfl ?_
          exact r_lv (fw_sub1 rfl (fw_sub1 rfl (fw_sub1 rfl fw_sub0))) (ih (a6_2 + (1 : Int32)) x51.2)
        · exact r_lv (fw_sub1 rfl (fw_sub1 rfl (fw_sub1 rfl fw_sub0))) (hK57 a6_2 x51.2)
def s_Mod_worthOf (F : Nat) (h : fw_H) (v0 : Option Nat) (v1 : Int32) : Option (Int32 × fw_H) :=
(f_ck h v0 12).bind fun _ =>
l_Mod_worthOf_6 F v0 v1 (fun e57_2 he57 =>
(f_gR he57 v0 12 11).bind fun x60 =>
(f_aI he57 x60 e57_2).bind fun x64 =>
(f_gR he57 v0 12 12).bind fun x66 =>
(f_aI he57 x66 e57_2).bind fun x70 =>
(s_Mod_workOut F he57 v0 v1 x64 x70).bind fun x71 =>
some (x71.1, x71.2)) F ((140 : Int32) * v1) h
theorem c_Mod_worthOf {G : fw_G} (F : Nat) {h : fw_H} {v0 : Option Nat} {v1 : Int32} : fw_Call G m_Mod_worthOf fw_wI 4 0 0 [fw_r v0, fw_i v1] h (s_Mod_worthOf F h v0 v1) := by
  refine fw_Call.of ok_Mod_worthOf.1 (Nat.le_of_ble_eq_true rfl) [(0, some (fw_r v0)), (1, some (fw_i v1))] rfl ?_
  refine r_ck ?_
  refine r_sipush (i := 0) (140 : Int32) kc_sipush_140 rfl rfl ?_
  refine r_iload_n (i := 1) rfl rfl rfl ?_
  refine r_imul (i := 2) rfl rfl ?_
  refine r_istore_n (i := 3) rfl rfl (Nat.le_of_ble_eq_true rfl) rfl ?_
  refine r_lv (fw_sub1 rfl (fw_sub1 rfl (fw_sub1 rfl fw_sub0))) (cl_Mod_worthOf_6 ?_ F _ _)
  · intro e57_2 he57
    refine r_aload_n (i := 35) rfl rfl rfl ?_
    refine r_iload_n (i := 36) rfl rfl rfl ?_
    refine r_aload_n (i := 37) rfl rfl rfl ?_
    refine r_gR (i := 38) (ci := 12) (kf := 11) rfl (Nat.le_of_ble_eq_true rfl) wF_Mod_28 rfl rfl fun x60 => ?_
    refine r_iload_n (i := 39) rfl rfl rfl ?_
    refine r_aI (i := 40) rfl rfl fun x64 => ?_
    refine r_aload_n (i := 41) rfl rfl rfl ?_
    refine r_gR (i := 42) (ci := 12) (kf := 12) rfl (Nat.le_of_ble_eq_true rfl) wF_Mod_31 rfl rfl fun x66 => ?_
    refine r_iload_n (i := 43) rfl rfl rfl ?_
    refine r_aI (i := 44) rfl rfl fun x70 => ?_
    refine r_VwI3 (i := 45) (k2 := 0) (n2 := 0) ok_Mod_workOut wM_Mod_207 (c_Mod_workOut F) (fun _ e => fw_ckb e) (Nat.le_of_ble_eq_true rfl) (Nat.le_of_ble_eq_true rfl) (Nat.le_of_ble_eq_true rfl) (Nat.le_of_ble_eq_true rfl) rfl rfl fun x71 => ?_
    exact r_retI (i := 46) rfl rfl rfl rfl
-- Mod_number
def s_Mod_number (F : Nat) (h : fw_H) (v0 : Option Nat) (v1 : Int32) : Option (Int32 × fw_H) :=
(f_ck h v0 12).bind fun _ =>
(s_Mod_look F h v0).bind fun x1 =>
(s_Mod_isDigit x1.1).bind fun x4 =>
if x4 = true then ((s_Mod_here x1.2 v0).bind fun x17 =>
(f_gI x1.2 v0 12 3).bind fun x26 =>
(f_pI x1.2 v0 12 3 (x26 + (1 : Int32))).bind fun h31 =>
(s_Mod_here h31 v0).bind fun x35 =>
(s_Mod_isDigit x35).bind fun x38 =>
fw_jn (fun (j67_2 : Int32) (hj67 : fw_H) =>
(s_Mod_here hj67 v0).bind fun x68 =>
(s_Mod_isDigit x68).bind fun x71 =>
if x71 = true then ((s_Mod_bad hj67 v0).bind fun h78 =>
some (j67_2, h78)) else
if j67_2 ≤ v1 then (some (j67_2, hj67)) else
(f_gI hj67 v0 12 3).bind fun x91 =>
(f_pI hj67 v0 12 3 (x91 - (1 : Int32))).bind fun h96 =>
(s_Mod_bad h96 v0).bind fun h100 =>
some (j67_2, h100)) fun J67 =>
if x38 = true then ((s_Mod_here h31 v0).bind fun x49 =>
(f_gI h31 v0 12 3).bind fun x59 =>
(f_pI h31 v0 12 3 (x59 + (1 : Int32))).bind fun h64 =>
J67 ((((10 : Int32) * (x17 - (48 : Int32))) + x49) - (48 : Int32)) h64) else
J67 (x17 - (48 : Int32)) h31) else
(s_Mod_bad x1.2 v0).bind fun h11 =>
some ((0 : Int32), h11)
theorem c_Mod_number {G : fw_G} (F : Nat) {h : fw_H} {v0 : Option Nat} {v1 : Int32} : fw_Call G m_Mod_number fw_wI 2 0 0 [fw_r v0, fw_i v1] h (s_Mod_number F h v0 v1) := by
  refine fw_Call.of ok_Mod_number.1 (Nat.le_of_ble_eq_true rfl) [(0, some (fw_r v0)), (1, some (fw_i v1))] rfl ?_
  refine r_ck ?_
  refine r_aload_n (i := 0) rfl rfl rfl ?_
  refine r_VwI0 (i := 1) (k2 := 0) (n2 := 0) ok_Mod_look wM_Mod_125 (c_Mod_look F) (fun _ e => fw_ckb e) (Nat.le_of_ble_eq_true rfl) (Nat.le_of_ble_eq_true rfl) (Nat.le_of_ble_eq_true rfl) (Nat.le_of_ble_eq_true rfl) rfl rfl fun x1 => ?_
  refine r_SB1 (i := 2) (k2 := 0) (n2 := 0) ok_Mod_isDigit wM_Mod_128 (c_Mod_isDigit) (Nat.le_of_ble_eq_true rfl) (Nat.le_of_ble_eq_true rfl) (Nat.le_of_ble_eq_true rfl) (Nat.le_of_ble_eq_true rfl) rfl rfl fun x4 => ?_
  refine r_ifneB (i := 3) (tgt := 16) rfl rfl rfl ?_ ?_
  · refine r_aload_n (i := 8) rfl rfl rfl ?_
    refine r_VI0 (i := 9) (k2 := 0) (n2 := 0) ok_Mod_here wM_Mod_109 (c_Mod_here) (fun _ e => fw_ckb e) (Nat.le_of_ble_eq_true rfl) (Nat.le_of_ble_eq_true rfl) (Nat.le_of_ble_eq_true rfl) (Nat.le_of_ble_eq_true rfl) rfl rfl fun x17 => ?_
    refine r_bipush (i := 10) (48 : Int32) kc_bipush_48 rfl rfl ?_
    refine r_isub (i := 11) rfl rfl ?_
    refine r_istore_n (i := 12) rfl rfl (Nat.le_of_ble_eq_true rfl) rfl ?_
    refine r_aload_n (i := 13) rfl rfl rfl ?_
    refine r_dup_r (i := 14) rfl rfl ?_
    refine r_gI (i := 15) (ci := 12) (kf := 3) rfl (Nat.le_of_ble_eq_true rfl) wF_Mod_106 rfl rfl fun x26 => ?_
    refine r_iconst (i := 16) (1 : Int32) kc_iconst_1 rfl rfl ?_
    refine r_iadd (i := 17) rfl rfl ?_
    refine r_pI (i := 18) (ci := 12) (kf := 3) rfl (Nat.le_of_ble_eq_true rfl) wF_Mod_106 rfl (tyX12_ok 3 (Nat.le_of_ble_eq_true rfl)) rfl rfl fun h31 => ?_
    refine r_aload_n (i := 19) rfl rfl rfl ?_
    refine r_VI0 (i := 20) (k2 := 0) (n2 := 0) ok_Mod_here wM_Mod_109 (c_Mod_here) (fun _ e => fw_ckb e) (Nat.le_of_ble_eq_true rfl) (Nat.le_of_ble_eq_true rfl) (Nat.le_of_ble_eq_true rfl) (Nat.le_of_ble_eq_true rfl) rfl rfl fun x35 => ?_
    refine r_SB1 (i := 21) (k2 := 0) (n2 := 0) ok_Mod_isDigit wM_Mod_128 (c_Mod_isDigit) (Nat.le_of_ble_eq_true rfl) (Nat.le_of_ble_eq_true rfl) (Nat.le_of_ble_eq_true rfl) (Nat.le_of_ble_eq_true rfl) rfl rfl fun x38 => ?_
    refine r_join (P := fun J67 => ∀ (j67_2 : Int32) (hj67 : fw_H), fw_R G m_Mod_number fw_wI 2 (0) (0) 67 [(0, some (fw_r v0)), (1, some (fw_i v1)), (2, some (fw_i j67_2))] [] hj67 (J67 j67_2 hj67)) ?_ (fun J67 hJ67 => ?_)
    · intro j67_2 hj67
      refine r_aload_n (i := 38) rfl rfl rfl ?_
      refine r_VI0 (i := 39) (k2 := 0) (n2 := 0) ok_Mod_here wM_Mod_109 (c_Mod_here) (fun _ e => fw_ckb e) (Nat.le_of_ble_eq_true rfl) (Nat.le_of_ble_eq_true rfl) (Nat.le_of_ble_eq_true rfl) (Nat.le_of_ble_eq_true rfl) rfl rfl fun x68 => ?_
      refine r_SB1 (i := 40) (k2 := 0) (n2 := 0) ok_Mod_isDigit wM_Mod_128 (c_Mod_isDigit) (Nat.le_of_ble_eq_true rfl) (Nat.le_of_ble_eq_true rfl) (Nat.le_of_ble_eq_true rfl) (Nat.le_of_ble_eq_true rfl) rfl rfl fun x71 => ?_
      refine r_ifeqB (i := 41) (tgt := 84) rfl rfl rfl ?_ ?_
      · refine r_iload_n (i := 45) rfl rfl rfl ?_
        refine r_iload_n (i := 46) rfl rfl rfl ?_
        refine r_icmp_le (i := 47) (tgt := 103) rfl rfl rfl ?_ ?_
        · refine r_iload_n (i := 56) rfl rfl rfl ?_
          exact r_retI (i := 57) rfl rfl rfl rfl
        · refine r_aload_n (i := 48) rfl rfl rfl ?_
          refine r_dup_r (i := 49) rfl rfl ?_
          refine r_gI (i := 50) (ci := 12) (kf := 3) rfl (Nat.le_of_ble_eq_true rfl) wF_Mod_106 rfl rfl fun x91 => ?_
          refine r_iconst (i := 51) (1 : Int32) kc_iconst_1 rfl rfl ?_
          refine r_isub (i := 52) rfl rfl ?_
          refine r_pI (i := 53) (ci := 12) (kf := 3) rfl (Nat.le_of_ble_eq_true rfl) wF_Mod_106 rfl (tyX12_ok 3 (Nat.le_of_ble_eq_true rfl)) rfl rfl fun h96 => ?_
          refine r_aload_n (i := 54) rfl rfl rfl ?_
          refine r_VV0 (i := 55) (k2 := 0) (n2 := 0) ok_Mod_bad wM_Mod_122 (c_Mod_bad) (fun _ e => fw_ckb e) (Nat.le_of_ble_eq_true rfl) (Nat.le_of_ble_eq_true rfl) (Nat.le_of_ble_eq_true rfl) (Nat.le_of_ble_eq_true rfl) rfl rfl fun h100 => ?_
          refine r_iload_n (i := 56) rfl rfl rfl ?_
          exact r_retI (i := 57) rfl rfl rfl rfl
      · refine r_aload_n (i := 42) rfl rfl rfl ?_
        refine r_VV0 (i := 43) (k2 := 0) (n2 := 0) ok_Mod_bad wM_Mod_122 (c_Mod_bad) (fun _ e => fw_ckb e) (Nat.le_of_ble_eq_true rfl) (Nat.le_of_ble_eq_true rfl) (Nat.le_of_ble_eq_true rfl) (Nat.le_of_ble_eq_true rfl) rfl rfl fun h78 => ?_
        refine r_goto (i := 44) (tgt := 103) rfl rfl rfl ?_
        refine r_iload_n (i := 56) rfl rfl rfl ?_
        exact r_retI (i := 57) rfl rfl rfl rfl
    · refine r_ifeqB (i := 22) (tgt := 67) rfl rfl rfl ?_ ?_
      · exact r_lv (fw_sub1 rfl (fw_sub1 rfl (fw_sub1 rfl fw_sub0))) (hJ67 (x17 - (48 : Int32)) h31)
      · refine r_bipush (i := 23) (10 : Int32) kc_bipush_10 rfl rfl ?_
        refine r_iload_n (i := 24) rfl rfl rfl ?_
        refine r_imul (i := 25) rfl rfl ?_
        refine r_aload_n (i := 26) rfl rfl rfl ?_
        refine r_VI0 (i := 27) (k2 := 0) (n2 := 0) ok_Mod_here wM_Mod_109 (c_Mod_here) (fun _ e => fw_ckb e) (Nat.le_of_ble_eq_true rfl) (Nat.le_of_ble_eq_true rfl) (Nat.le_of_ble_eq_true rfl) (Nat.le_of_ble_eq_true rfl) rfl rfl fun x49 => ?_
        refine r_iadd (i := 28) rfl rfl ?_
        refine r_bipush (i := 29) (48 : Int32) kc_bipush_48 rfl rfl ?_
        refine r_isub (i := 30) rfl rfl ?_
        refine r_istore_n (i := 31) rfl rfl (Nat.le_of_ble_eq_true rfl) rfl ?_
        refine r_aload_n (i := 32) rfl rfl rfl ?_
        refine r_dup_r (i := 33) rfl rfl ?_
        refine r_gI (i := 34) (ci := 12) (kf := 3) rfl (Nat.le_of_ble_eq_true rfl) wF_Mod_106 rfl rfl fun x59 => ?_
        refine r_iconst (i := 35) (1 : Int32) kc_iconst_1 rfl rfl ?_
        refine r_iadd (i := 36) rfl rfl ?_
        refine r_pI (i := 37) (ci := 12) (kf := 3) rfl (Nat.le_of_ble_eq_true rfl) wF_Mod_106 rfl (tyX12_ok 3 (Nat.le_of_ble_eq_true rfl)) rfl rfl fun h64 => ?_
        exact r_lv (fw_sub1 rfl (fw_sub1 rfl (fw_sub1 rfl fw_sub0))) (hJ67 ((((10 : Int32) * (x17 - (48 : Int32))) + x49) - (48 : Int32)) h64)
  · refine r_aload_n (i := 4) rfl rfl rfl ?_
    refine r_VV0 (i := 5) (k2 := 0) (n2 := 0) ok_Mod_bad wM_Mod_122 (c_Mod_bad) (fun _ e => fw_ckb e) (Nat.le_of_ble_eq_true rfl) (Nat.le_of_ble_eq_true rfl) (Nat.le_of_ble_eq_true rfl) (Nat.le_of_ble_eq_true rfl) rfl rfl fun h11 => ?_
    refine r_iconst (i := 6) (0 : Int32) kc_iconst_0 rfl rfl ?_
    exact r_retI (i := 7) rfl rfl rfl rfl
-- Mod_itemOf
def s_Mod_itemOf (v0 : Int32) (v1 : Int32) : Option Int32 :=
if v0 = (100 : Int32) then (if ¬ v1 = (119 : Int32) then (if ¬ v1 = (101 : Int32) then (if ¬ v1 = (112 : Int32) then (if ¬ v1 = (107 : Int32) then (if ¬ v1 = (116 : Int32) then (if ¬ v1 = (98 : Int32) then (some (-1 : Int32)) else
some (5 : Int32)) else
some (4 : Int32)) else
some (3 : Int32)) else
some (2 : Int32)) else
some (1 : Int32)) else
some (0 : Int32)) else
if v0 = (118 : Int32) then (if ¬ v1 = (97 : Int32) then (if ¬ v1 = (104 : Int32) then (if ¬ v1 = (109 : Int32) then (some (-1 : Int32)) else
some (2 : Int32)) else
some (1 : Int32)) else
some (0 : Int32)) else
if ¬ v1 = (97 : Int32) then (if ¬ v1 = (98 : Int32) then (if ¬ v1 = (111 : Int32) then (some (-1 : Int32)) else
some (2 : Int32)) else
some (1 : Int32)) else
some (0 : Int32)
theorem c_Mod_itemOf {G : fw_G} {h : fw_H} {v0 : Int32} {v1 : Int32} : fw_Call G m_Mod_itemOf (fw_eI h) 0 0 0 [fw_i v0, fw_i v1] h (s_Mod_itemOf v0 v1) := by
  refine fw_Call.of ok_Mod_itemOf.1 (Nat.le_of_ble_eq_true rfl) [(0, some (fw_i v0)), (1, some (fw_i v1))] rfl ?_
  refine r_iload_n (i := 0) rfl rfl rfl ?_
  refine r_split (fun e1_100 => ?_) (fun n1_100 => ?_)
  · refine r_lookK (i := 1) (tgt := 60) (len := 27) (v := (100 : Int32)) (off := 59) e1_100 rfl rfl (by decide) (by decide) rfl ?_
    refine r_iload_n (i := 19) rfl rfl rfl ?_
    refine r_bipush (i := 20) (119 : Int32) kc_bipush_119 rfl rfl ?_
    refine r_icmp_ne (i := 21) (tgt := 70) rfl rfl rfl ?_ ?_
    · refine r_iload_n (i := 24) rfl rfl rfl ?_
      refine r_bipush (i := 25) (101 : Int32) kc_bipush_101 rfl rfl ?_
      refine r_icmp_ne (i := 26) (tgt := 80) rfl rfl rfl ?_ ?_
      · refine r_iload_n (i := 29) rfl rfl rfl ?_
        refine r_bipush (i := 30) (112 : Int32) kc_bipush_112 rfl rfl ?_
        refine r_icmp_ne (i := 31) (tgt := 90) rfl rfl rfl ?_ ?_
        · refine r_iload_n (i := 34) rfl rfl rfl ?_
          refine r_bipush (i := 35) (107 : Int32) kc_bipush_107 rfl rfl ?_
          refine r_icmp_ne (i := 36) (tgt := 100) rfl rfl rfl ?_ ?_
          · refine r_iload_n (i := 39) rfl rfl rfl ?_
            refine r_bipush (i := 40) (116 : Int32) kc_bipush_116 rfl rfl ?_
            refine r_icmp_ne (i := 41) (tgt := 110) rfl rfl rfl ?_ ?_
            · refine r_iload_n (i := 44) rfl rfl rfl ?_
              refine r_bipush (i := 45) (98 : Int32) kc_bipush_98 rfl rfl ?_
              refine r_icmp_ne (i := 46) (tgt := 120) rfl rfl rfl ?_ ?_
              · refine r_iconst (i := 49) (-1 : Int32) kc_iconst_m1 rfl rfl ?_
                exact r_retI (i := 50) rfl rfl rfl rfl
              · refine r_iconst (i := 47) (5 : Int32) kc_iconst_5 rfl rfl ?_
                refine r_goto (i := 48) (tgt := 121) rfl rfl rfl ?_
                exact r_retI (i := 50) rfl rfl rfl rfl
            · refine r_iconst (i := 42) (4 : Int32) kc_iconst_4 rfl rfl ?_
              refine r_goto (i := 43) (tgt := 121) rfl rfl rfl ?_
              exact r_retI (i := 50) rfl rfl rfl rfl
          · refine r_iconst (i := 37) (3 : Int32) kc_iconst_3 rfl rfl ?_
            refine r_goto (i := 38) (tgt := 121) rfl rfl rfl ?_
            exact r_retI (i := 50) rfl rfl rfl rfl
        · refine r_iconst (i := 32) (2 : Int32) kc_iconst_2 rfl rfl ?_
          refine r_goto (i := 33) (tgt := 121) rfl rfl rfl ?_
          exact r_retI (i := 50) rfl rfl rfl rfl
      · refine r_iconst (i := 27) (1 : Int32) kc_iconst_1 rfl rfl ?_
        refine r_goto (i := 28) (tgt := 121) rfl rfl rfl ?_
        exact r_retI (i := 50) rfl rfl rfl rfl
    · refine r_iconst (i := 22) (0 : Int32) kc_iconst_0 rfl rfl ?_
      refine r_goto (i := 23) (tgt := 121) rfl rfl rfl ?_
      exact r_retI (i := 50) rfl rfl rfl rfl
  · refine r_split (fun e1_118 => ?_) (fun n1_118 => ?_)
    · refine r_lookK (i := 1) (tgt := 28) (len := 27) (v := (118 : Int32)) (off := 27) e1_118 rfl rfl (by decide) (by decide) rfl ?_
      refine r_iload_n (i := 2) rfl rfl rfl ?_
      refine r_bipush (i := 3) (97 : Int32) kc_bipush_97 rfl rfl ?_
      refine r_icmp_ne (i := 4) (tgt := 38) rfl rfl rfl ?_ ?_
      · refine r_iload_n (i := 7) rfl rfl rfl ?_
        refine r_bipush (i := 8) (104 : Int32) kc_bipush_104 rfl rfl ?_
        refine r_icmp_ne (i := 9) (tgt := 48) rfl rfl rfl ?_ ?_
        · refine r_iload_n (i := 12) rfl rfl rfl ?_
          refine r_bipush (i := 13) (109 : Int32) kc_bipush_109 rfl rfl ?_
          refine r_icmp_ne (i := 14) (tgt := 58) rfl rfl rfl ?_ ?_
          · refine r_iconst (i := 17) (-1 : Int32) kc_iconst_m1 rfl rfl ?_
            exact r_retI (i := 18) rfl rfl rfl rfl
          · refine r_iconst (i := 15) (2 : Int32) kc_iconst_2 rfl rfl ?_
            refine r_goto (i := 16) (tgt := 59) rfl rfl rfl ?_
            exact r_retI (i := 18) rfl rfl rfl rfl
        · refine r_iconst (i := 10) (1 : Int32) kc_iconst_1 rfl rfl ?_
          refine r_goto (i := 11) (tgt := 59) rfl rfl rfl ?_
          exact r_retI (i := 18) rfl rfl rfl rfl
      · refine r_iconst (i := 5) (0 : Int32) kc_iconst_0 rfl rfl ?_
        refine r_goto (i := 6) (tgt := 59) rfl rfl rfl ?_
        exact r_retI (i := 18) rfl rfl rfl rfl
    · refine r_look (i := 1) (tgt := 122) (len := 27) rfl rfl (by decide) (fw_lookD2 (fw_ni n1_100 (by decide)) (fw_ni n1_118 (by decide))) rfl ?_
      refine r_iload_n (i := 51) rfl rfl rfl ?_
      refine r_bipush (i := 52) (97 : Int32) kc_bipush_97 rfl rfl ?_
      refine r_icmp_ne (i := 53) (tgt := 132) rfl rfl rfl ?_ ?_
      · refine r_iload_n (i := 56) rfl rfl rfl ?_
        refine r_bipush (i := 57) (98 : Int32) kc_bipush_98 rfl rfl ?_
        refine r_icmp_ne (i := 58) (tgt := 142) rfl rfl rfl ?_ ?_
        · refine r_iload_n (i := 61) rfl rfl rfl ?_
          refine r_bipush (i := 62) (111 : Int32) kc_bipush_111 rfl rfl ?_
          refine r_icmp_ne (i := 63) (tgt := 152) rfl rfl rfl ?_ ?_
          · refine r_iconst (i := 66) (-1 : Int32) kc_iconst_m1 rfl rfl ?_
            exact r_retI (i := 67) rfl rfl rfl rfl
          · refine r_iconst (i := 64) (2 : Int32) kc_iconst_2 rfl rfl ?_
            refine r_goto (i := 65) (tgt := 153) rfl rfl rfl ?_
            exact r_retI (i := 67) rfl rfl rfl rfl
        · refine r_iconst (i := 59) (1 : Int32) kc_iconst_1 rfl rfl ?_
          refine r_goto (i := 60) (tgt := 153) rfl rfl rfl ?_
          exact r_retI (i := 67) rfl rfl rfl rfl
      · refine r_iconst (i := 54) (0 : Int32) kc_iconst_0 rfl rfl ?_
        refine r_goto (i := 55) (tgt := 153) rfl rfl rfl ?_
        exact r_retI (i := 67) rfl rfl rfl rfl
-- Mod_highest
def s_Mod_highest (v0 : Int32) (v1 : Int32) : Option Int32 :=
if v0 = (100 : Int32) then (if ¬ v1 = (5 : Int32) then (some (9 : Int32)) else
some (1 : Int32)) else
if v0 = (118 : Int32) then (if ¬ v1 = (0 : Int32) then (if ¬ v1 = (1 : Int32) then (some (1 : Int32)) else
some (23 : Int32)) else
some (11 : Int32)) else
if (2 : Int32) ≤ v1 then (some (1 : Int32)) else
some (11 : Int32)
theorem c_Mod_highest {G : fw_G} {h : fw_H} {v0 : Int32} {v1 : Int32} : fw_Call G m_Mod_highest (fw_eI h) 0 0 0 [fw_i v0, fw_i v1] h (s_Mod_highest v0 v1) := by
  refine fw_Call.of ok_Mod_highest.1 (Nat.le_of_ble_eq_true rfl) [(0, some (fw_i v0)), (1, some (fw_i v1))] rfl ?_
  refine r_iload_n (i := 0) rfl rfl rfl ?_
  refine r_split (fun e1_100 => ?_) (fun n1_100 => ?_)
  · refine r_lookK (i := 1) (tgt := 49) (len := 27) (v := (100 : Int32)) (off := 48) e1_100 rfl rfl (by decide) (by decide) rfl ?_
    refine r_iload_n (i := 13) rfl rfl rfl ?_
    refine r_iconst (i := 14) (5 : Int32) kc_iconst_5 rfl rfl ?_
    refine r_icmp_ne (i := 15) (tgt := 58) rfl rfl rfl ?_ ?_
    · refine r_bipush (i := 18) (9 : Int32) kc_bipush_9 rfl rfl ?_
      exact r_retI (i := 19) rfl rfl rfl rfl
    · refine r_iconst (i := 16) (1 : Int32) kc_iconst_1 rfl rfl ?_
      refine r_goto (i := 17) (tgt := 60) rfl rfl rfl ?_
      exact r_retI (i := 19) rfl rfl rfl rfl
  · refine r_split (fun e1_118 => ?_) (fun n1_118 => ?_)
    · refine r_lookK (i := 1) (tgt := 28) (len := 27) (v := (118 : Int32)) (off := 27) e1_118 rfl rfl (by decide) (by decide) rfl ?_
      refine r_iload_n (i := 2) rfl rfl rfl ?_
      refine r_if_ne (i := 3) (tgt := 37) rfl rfl rfl ?_ ?_
      · refine r_iload_n (i := 6) rfl rfl rfl ?_
        refine r_iconst (i := 7) (1 : Int32) kc_iconst_1 rfl rfl ?_
        refine r_icmp_ne (i := 8) (tgt := 47) rfl rfl rfl ?_ ?_
        · refine r_iconst (i := 11) (1 : Int32) kc_iconst_1 rfl rfl ?_
          exact r_retI (i := 12) rfl rfl rfl rfl
        · refine r_bipush (i := 9) (23 : Int32) kc_bipush_23 rfl rfl ?_
          refine r_goto (i := 10) (tgt := 48) rfl rfl rfl ?_
          exact r_retI (i := 12) rfl rfl rfl rfl
      · refine r_bipush (i := 4) (11 : Int32) kc_bipush_11 rfl rfl ?_
        refine r_goto (i := 5) (tgt := 48) rfl rfl rfl ?_
        exact r_retI (i := 12) rfl rfl rfl rfl
    · refine r_look (i := 1) (tgt := 61) (len := 27) rfl rfl (by decide) (fw_lookD2 (fw_ni n1_100 (by decide)) (fw_ni n1_118 (by decide))) rfl ?_
      refine r_iload_n (i := 20) rfl rfl rfl ?_
      refine r_iconst (i := 21) (2 : Int32) kc_iconst_2 rfl rfl ?_
      refine r_icmp_ge (i := 22) (tgt := 71) rfl rfl rfl ?_ ?_
      · refine r_iconst (i := 25) (1 : Int32) kc_iconst_1 rfl rfl ?_
        exact r_retI (i := 26) rfl rfl rfl rfl
      · refine r_bipush (i := 23) (11 : Int32) kc_bipush_11 rfl rfl ?_
        refine r_goto (i := 24) (tgt := 72) rfl rfl rfl ?_
        exact r_retI (i := 26) rfl rfl rfl rfl
-- Mod_usual
def s_Mod_usual (v0 : Int32) (v1 : Int32) : Option Int32 :=
if v0 = (100 : Int32) then (if ¬ v1 = (0 : Int32) then (if v1 = (1 : Int32) then (some (1 : Int32)) else
if ¬ v1 = (2 : Int32) then (some (0 : Int32)) else
some (1 : Int32)) else
some (5 : Int32)) else
if v0 = (118 : Int32) then (some (0 : Int32)) else
if ¬ v1 = (1 : Int32) then (some (0 : Int32)) else
some (1 : Int32)
theorem c_Mod_usual {G : fw_G} {h : fw_H} {v0 : Int32} {v1 : Int32} : fw_Call G m_Mod_usual (fw_eI h) 0 0 0 [fw_i v0, fw_i v1] h (s_Mod_usual v0 v1) := by
  refine fw_Call.of ok_Mod_usual.1 (Nat.le_of_ble_eq_true rfl) [(0, some (fw_i v0)), (1, some (fw_i v1))] rfl ?_
  refine r_iload_n (i := 0) rfl rfl rfl ?_
  refine r_split (fun e1_100 => ?_) (fun n1_100 => ?_)
  · refine r_lookK (i := 1) (tgt := 30) (len := 27) (v := (100 : Int32)) (off := 29) e1_100 rfl rfl (by decide) (by decide) rfl ?_
    refine r_iload_n (i := 4) rfl rfl rfl ?_
    refine r_if_ne (i := 5) (tgt := 38) rfl rfl rfl ?_ ?_
    · refine r_iload_n (i := 8) rfl rfl rfl ?_
      refine r_iconst (i := 9) (1 : Int32) kc_iconst_1 rfl rfl ?_
      refine r_icmp_eq (i := 10) (tgt := 48) rfl rfl rfl ?_ ?_
      · refine r_iconst (i := 14) (1 : Int32) kc_iconst_1 rfl rfl ?_
        refine r_goto (i := 15) (tgt := 53) rfl rfl rfl ?_
        exact r_retI (i := 17) rfl rfl rfl rfl
      · refine r_iload_n (i := 11) rfl rfl rfl ?_
        refine r_iconst (i := 12) (2 : Int32) kc_iconst_2 rfl rfl ?_
        refine r_icmp_ne (i := 13) (tgt := 52) rfl rfl rfl ?_ ?_
        · refine r_iconst (i := 16) (0 : Int32) kc_iconst_0 rfl rfl ?_
          exact r_retI (i := 17) rfl rfl rfl rfl
        · refine r_iconst (i := 14) (1 : Int32) kc_iconst_1 rfl rfl ?_
          refine r_goto (i := 15) (tgt := 53) rfl rfl rfl ?_
          exact r_retI (i := 17) rfl rfl rfl rfl
    · refine r_iconst (i := 6) (5 : Int32) kc_iconst_5 rfl rfl ?_
      refine r_goto (i := 7) (tgt := 53) rfl rfl rfl ?_
      exact r_retI (i := 17) rfl rfl rfl rfl
  · refine r_split (fun e1_118 => ?_) (fun n1_118 => ?_)
    · refine r_lookK (i := 1) (tgt := 28) (len := 27) (v := (118 : Int32)) (off := 27) e1_118 rfl rfl (by decide) (by decide) rfl ?_
      refine r_iconst (i := 2) (0 : Int32) kc_iconst_0 rfl rfl ?_
      exact r_retI (i := 3) rfl rfl rfl rfl
    · refine r_look (i := 1) (tgt := 54) (len := 27) rfl rfl (by decide) (fw_lookD2 (fw_ni n1_100 (by decide)) (fw_ni n1_118 (by decide))) rfl ?_
      refine r_iload_n (i := 18) rfl rfl rfl ?_
      refine r_iconst (i := 19) (1 : Int32) kc_iconst_1 rfl rfl ?_
      refine r_icmp_ne (i := 20) (tgt := 63) rfl rfl rfl ?_ ?_
      · refine r_iconst (i := 23) (0 : Int32) kc_iconst_0 rfl rfl ?_
        exact r_retI (i := 24) rfl rfl rfl rfl
      · refine r_iconst (i := 21) (1 : Int32) kc_iconst_1 rfl rfl ?_
        refine r_goto (i := 22) (tgt := 64) rfl rfl rfl ?_
        exact r_retI (i := 24) rfl rfl rfl rfl
-- Mod_items
def l_Mod_items_3 (v1 : Int32) (v2 : Option Nat) (v3 : Int32) (v4 : Int32) (K28 : fw_H → Option fw_H) : Nat → Int32 → fw_H → Option fw_H
  | 0, _, _ => none
  | nn + 1, a3_5, g3 =>
    if v4 ≤ a3_5 then (K28 g3) else
    (s_Mod_usual v1 a3_5).bind fun x18 =>
    (f_sI g3 v2 (v3 + a3_5) x18).bind fun h21 =>
    l_Mod_items_3 v1 v2 v3 v4 K28 nn (a3_5 + (1 : Int32)) h21
theorem cl_Mod_items_3 {G : fw_G} {v0 : Option Nat} {v1 : Int32} {v2 : Option Nat} {v3 : Int32} {v4 : Int32} {K28 : fw_H → Option fw_H} (hK28 : ∀ (he28 : fw_H), fw_R G m_Mod_items fw_eV 3 0 0 28 [(0, some (fw_r v0)), (1, some (fw_i v1)), (2, some (fw_r v2)), (3, some (fw_i v3))] [] he28 (K28 he28)) : ∀ (nn : Nat) (a3_5 : Int32) (g3 : fw_H), fw_R G m_Mod_items fw_eV 3 0 0 3 [(0, some (fw_r v0)), (1, some (fw_i v1)), (2, some (fw_r v2)), (3, some (fw_i v3)), (4, some (fw_i v4)), (5, some (fw_i a3_5))] [] g3 (l_Mod_items_3 v1 v2 v3 v4 K28 nn a3_5 g3) := by
  intro nn
  induction nn with
  | zero => intros; exact r_none
  | succ nn ih =>
    intro a3_5 g3
    rw [l_Mod_items_3]
    refine r_iload (i := 2) rfl rfl rfl ?_
    refine r_iload (i := 3) rfl rfl rfl ?_
    refine r_icmp_ge (i := 4) (tgt := 28) rfl rfl rfl ?_ ?_
    · exact r_lv (fw_sub1 rfl (fw_sub1 rfl (fw_sub1 rfl (fw_sub1 rfl fw_sub0)))) (hK28 g3)
    · refine r_aload_n (i := 5) rfl rfl rfl ?_
      refine r_iload_n (i := 6) rfl rfl rfl ?_
      refine r_iload (i := 7) rfl rfl rfl ?_
      refine r_iadd (i := 8) rfl rfl ?_
      refine r_iload_n (i := 9) rfl rfl rfl ?_
      refine r_iload (i := 10) rfl rfl rfl ?_
      refine r_SI2 (i := 11) (k2 := 0) (n2 := 0) ok_Mod_usual wM_Mod_211 (c_Mod_usual) (Nat.le_of_ble_eq_true rfl) (Nat.le_of_ble_eq_true rfl) (Nat.le_of_ble_eq_true rfl) (Nat.le_of_ble_eq_true rfl) rfl rfl fun x18 => ?_
      refine r_sI (i := 12) rfl rfl fun h21 => ?_
      refine r_iinc (i := 13) (1 : Int32) kc_iconst_1 rfl rfl rfl (Nat.le_of_ble_eq_true rfl) ?_
      refine r_goto (i := 14) (tgt := 3) rfl rfl rfl ?_
      exact r_lv (fw_sub1 rfl (fw_sub1 rfl (fw_sub1 rfl (fw_sub1 rfl (fw_sub1 rfl (fw_sub1 rfl fw_sub0)))))) (ih (a3_5 + (1 : Int32)) h21)
def l_Mod_items_41 (F : Nat) (v0 : Option Nat) (v1 : Int32) (v2 : Option Nat) (v3 : Int32) : Nat → Int32 → Int32 → fw_H → Option fw_H
  | 0, _, _, _ => none
  | nn + 1, a41_5, a41_6, g41 =>
    (f_gI g41 v0 12 4).bind fun x42 =>
    if ¬ x42 = (-1 : Int32) then (some g41) else
    if a41_6 = (-1 : Int32) then (some g41) else
    (s_Mod_has a41_5 a41_6).bind fun x59 =>
    if x59 = true then (some g41) else
    (f_gI g41 v0 12 3).bind fun x76 =>
    (f_pI g41 v0 12 3 (x76 + (1 : Int32))).bind fun h81 =>
    (s_Mod_highest v1 a41_6).bind fun x93 =>
    (s_Mod_number F h81 v0 x93).bind fun x96 =>
    (f_sI x96.2 v2 (v3 + a41_6) x96.1).bind fun h99 =>
    (f_gI h99 v0 12 4).bind fun x101 =>
    if ¬ x101 = (-1 : Int32) then (l_Mod_items_41 F v0 v1 v2 v3 nn (a41_5 ||| ((1 : Int32) <<< (a41_6 &&& 31))) (-1 : Int32) h99) else
    (s_Mod_look F h99 v0).bind fun x110 =>
    (s_Mod_itemOf v1 x110.1).bind fun x113 =>
    l_Mod_items_41 F v0 v1 v2 v3 nn (a41_5 ||| ((1 : Int32) <<< (a41_6 &&& 31))) x113 x110.2
theorem cl_Mod_items_41 {G : fw_G} {F : Nat} {v0 : Option Nat} {v1 : Int32} {v2 : Option Nat} {v3 : Int32} : ∀ (nn : Nat) (a41_5 : Int32) (a41_6 : Int32) (g41 : fw_H), fw_R G m_Mod_items fw_eV 3 0 0 41 [(0, some (fw_r v0)), (1, some (fw_i v1)), (2, some (fw_r v2)), (3, some (fw_i v3)), (5, some (fw_i a41_5)), (6, some (fw_i a41_6))] [] g41 (l_Mod_items_41 F v0 v1 v2 v3 nn a41_5 a41_6 g41) := by
  intro nn
  induction nn with
  | zero => intros; exact r_none
  | succ nn ih =>
    intro a41_5 a41_6 g41
    rw [l_Mod_items_41]
    refine r_aload_n (i := 22) rfl rfl rfl ?_
    refine r_gI (i := 23) (ci := 12) (kf := 4) rfl (Nat.le_of_ble_eq_true rfl) wF_Mod_113 rfl rfl fun x42 => ?_
    refine r_iconst (i := 24) (-1 : Int32) kc_iconst_m1 rfl rfl ?_
    refine r_icmp_ne (i := 25) (tgt := 125) rfl rfl rfl ?_ ?_
    · exact r_retV (i := 67) rfl rfl rfl rfl
    · refine r_iload (i := 26) rfl rfl rfl ?_
      refine r_iconst (i := 27) (-1 : Int32) kc_iconst_m1 rfl rfl ?_
      refine r_icmp_eq (i := 28) (tgt := 125) rfl rfl rfl ?_ ?_
      · exact r_retV (i := 67) rfl rfl rfl rfl
      · refine r_iload (i := 29) rfl rfl rfl ?_
        refine r_iload (i := 30) rfl rfl rfl ?_
        refine r_SB2 (i := 31) (k2 := 0) (n2 := 0) ok_Mod_has wM_Mod_218 (c_Mod_has) (Nat.le_of_ble_eq_true rfl) (Nat.le_of_ble_eq_true rfl) (Nat.le_of_ble_eq_true rfl) (Nat.le_of_ble_eq_true rfl) rfl rfl fun x59 => ?_
        refine r_ifneB (i := 32) (tgt := 125) rfl rfl rfl ?_ ?_
        · exact r_retV (i := 67) rfl rfl rfl rfl
        · refine r_iload (i := 33) rfl rfl rfl ?_
          refine r_iconst (i := 34) (1 : Int32) kc_iconst_1 rfl rfl ?_
          refine r_iload (i := 35) rfl rfl rfl ?_
          refine r_ishl (i := 36) rfl rfl ?_
          refine r_ior (i := 37) rfl rfl ?_
          refine r_istore (i := 38) rfl rfl (Nat.le_of_ble_eq_true rfl) rfl ?_
          refine r_aload_n (i := 39) rfl rfl rfl ?_
          refine r_dup_r (i := 40) rfl rfl ?_
          refine r_gI (i := 41) (ci := 12) (kf := 3) rfl (Nat.le_of_ble_eq_true rfl) wF_Mod_106 rfl rfl fun x76 => ?_
          refine r_iconst (i := 42) (1 : Int32) kc_iconst_1 rfl rfl ?_
          refine r_iadd (i := 43) rfl rfl ?_
          refine r_pI (i := 44) (ci := 12) (kf := 3) rfl (Nat.le_of_ble_eq_true rfl) wF_Mod_106 rfl (tyX12_ok 3 (Nat.le_of_ble_eq_true rfl)) rfl rfl fun h81 => ?_
          refine r_aload_n (i := 45) rfl rfl rfl ?_
          refine r_iload_n (i := 46) rfl rfl rfl ?_
          refine r_iload (i := 47) rfl rfl rfl ?_
          refine r_iadd (i := 48) rfl rfl ?_
          refine r_aload_n (i := 49) rfl rfl rfl ?_
          refine r_iload_n (i := 50) rfl rfl rfl ?_
          refine r_iload (i := 51) rfl rfl rfl ?_
          refine r_SI2 (i := 52) (k2 := 0) (n2 := 0) ok_Mod_highest wM_Mod_222 (c_Mod_highest) (Nat.le_of_ble_eq_true rfl) (Nat.le_of_ble_eq_true rfl) (Nat.le_of_ble_eq_true rfl) (Nat.le_of_ble_eq_true rfl) rfl rfl fun x93 => ?_
          refine r_VwI1 (i := 53) (k2 := 0) (n2 := 0) ok_Mod_number wM_Mod_225 (c_Mod_number F) (fun _ e => fw_ckb e) (Nat.le_of_ble_eq_true rfl) (Nat.le_of_ble_eq_true rfl) (Nat.le_of_ble_eq_true rfl) (Nat.le_of_ble_eq_true rfl) rfl rfl fun x96 => ?_
          refine r_sI (i := 54) rfl rfl fun h99 => ?_
          refine r_aload_n (i := 55) rfl rfl rfl ?_
          refine r_gI (i := 56) (ci := 12) (kf := 4) rfl (Nat.le_of_ble_eq_true rfl) wF_Mod_113 rfl rfl fun x101 => ?_
          refine r_iconst (i := 57) (-1 : Int32) kc_iconst_m1 rfl rfl ?_
          refine r_icmp_ne (i := 58) (tgt := 119) rfl rfl rfl ?_ ?_
          · refine r_iconst (i := 64) (-1 : Int32) kc_iconst_m1 rfl rfl ?_
            refine r_istore (i := 65) rfl rfl (Nat.le_of_ble_eq_true rfl) rfl ?_
            refine r_goto (i := 66) (tgt := 41) rfl rfl rfl ?_
            exact r_lv (fw_sub1 rfl (fw_sub1 rfl (fw_sub1 rfl (fw_sub1 rfl (fw_sub1 rfl (fw_sub1 rfl fw_sub0)))))) (ih (a41_5 ||| ((1 : Int32) <<< (a41_6 &&& 31))) (-1 : Int32) h99)
          · refine r_iload_n (i := 59) rfl rfl rfl ?_
            refine r_aload_n (i := 60) rfl rfl rfl ?_
            refine r_VwI0 (i := 61) (k2 := 0) (n2 := 0) ok_Mod_look wM_Mod_125 (c_Mod_look F) (fun _ e => fw_ckb e) (Nat.le_of_ble_eq_true rfl) (Nat.le_of_ble_eq_true rfl) (Nat.le_of_ble_eq_true rfl) (Nat.le_of_ble_eq_true rfl) rfl rfl fun x110 => ?_
            refine r_SI2 (i := 62) (k2 := 0) (n2 := 0) ok_Mod_itemOf wM_Mod_215 (c_Mod_itemOf) (Nat.le_of_ble_eq_true rfl) (Nat.le_of_ble_eq_true rfl) (Nat.le_of_ble_eq_true rfl) (Nat.le_of_ble_eq_true rfl) rfl rfl fun x113 => ?_
            refine r_goto (i := 63) (tgt := 120) rfl rfl rfl ?_
            refine r_istore (i := 65) rfl rfl (Nat.le_of_ble_eq_true rfl) rfl ?_
            refine r_goto (i := 66) (tgt := 41) rfl rfl rfl ?_
            exact r_lv (fw_sub1 rfl (fw_sub1 rfl (fw_sub1 rfl (fw_sub1 rfl (fw_sub1 rfl (fw_sub1 rfl fw_sub0)))))) (ih (a41_5 ||| ((1 : Int32) <<< (a41_6 &&& 31))) x113 x110.2)
def s_Mod_items (F : Nat) (h : fw_H) (v0 : Option Nat) (v1 : Int32) (v2 : Option Nat) (v3 : Int32) (v4 : Int32) : Option fw_H :=
(f_ck h v0 12).bind fun _ =>
l_Mod_items_3 v1 v2 v3 v4 (fun he28 =>
(s_Mod_look F he28 v0).bind fun x33 =>
(s_Mod_itemOf v1 x33.1).bind fun x36 =>
l_Mod_items_41 F v0 v1 v2 v3 F (0 : Int32) x36 x33.2) F (0 : Int32) h
theorem c_Mod_items {G : fw_G} (F : Nat) {h : fw_H} {v0 : Option Nat} {v1 : Int32} {v2 : Option Nat} {v3 : Int32} {v4 : Int32} : fw_Call G m_Mod_items fw_eV 3 0 0 [fw_r v0, fw_i v1, fw_r v2, fw_i v3, fw_i v4] h (s_Mod_items F h v0 v1 v2 v3 v4) := by
  refine fw_Call.of ok_Mod_items.1 (Nat.le_of_ble_eq_true rfl) [(0, some (fw_r v0)), (1, some (fw_i v1)), (2, some (fw_r v2)), (3, some (fw_i v3)), (4, some (fw_i v4))] rfl ?_
  refine r_ck ?_
  refine r_iconst (i := 0) (0 : Int32) kc_iconst_0 rfl rfl ?_
  refine r_istore (i := 1) rfl rfl (Nat.le_of_ble_eq_true rfl) rfl ?_
  refine r_lv (fw_sub1 rfl (fw_sub1 rfl (fw_sub1 rfl (fw_sub1 rfl (fw_sub1 rfl (fw_sub1 rfl fw_sub0)))))) (cl_Mod_items_3 ?_ F _ _)
  · intro he28
    refine r_iconst (i := 15) (0 : Int32) kc_iconst_0 rfl rfl ?_
    refine r_istore (i := 16) rfl rfl (Nat.le_of_ble_eq_true rfl) rfl ?_
    refine r_iload_n (i := 17) rfl rfl rfl ?_
    refine r_aload_n (i := 18) rfl rfl rfl ?_
    refine r_VwI0 (i := 19) (k2 := 0) (n2 := 0) ok_Mod_look wM_Mod_125 (c_Mod_look F) (fun _ e => fw_ckb e) (Nat.le_of_ble_eq_true rfl) (Nat.le_of_ble_eq_true rfl) (Nat.le_of_ble_eq_true rfl) (Nat.le_of_ble_eq_true rfl) rfl rfl fun x33 => ?_
    refine r_SI2 (i := 20) (k2 := 0) (n2 := 0) ok_Mod_itemOf wM_Mod_215 (c_Mod_itemOf) (Nat.le_of_ble_eq_true rfl) (Nat.le_of_ble_eq_true rfl) (Nat.le_of_ble_eq_true rfl) (Nat.le_of_ble_eq_true rfl) rfl rfl fun x36 => ?_
    refine r_istore (i := 21) rfl rfl (Nat.le_of_ble_eq_true rfl) rfl ?_
    refine r_lv (fw_sub1 rfl (fw_sub1 rfl (fw_sub1 rfl (fw_sub1 rfl (fw_sub1 rfl (fw_sub1 rfl fw_sub0)))))) (cl_Mod_items_41 F _ _ _)
