-- Acts_init
def s_Acts_init (h : fw_H) (v0 : Option Nat) : Option fw_H :=
fw_new h (fw_I 40 (fun _ => 0)) fun q7 h7 =>
(f_pR h7 v0 0 0 q7).bind fun h9 =>
fw_new h9 (fw_I 40 (fun _ => 0)) fun q15 h15 =>
(f_pR h15 v0 0 1 q15).bind fun h17 =>
fw_new h17 (fw_I 40 (fun _ => 0)) fun q23 h23 =>
(f_pR h23 v0 0 2 q23).bind fun h25 =>
fw_new h25 (fw_I 40 (fun _ => 0)) fun q31 h31 =>
(f_pR h31 v0 0 3 q31).bind fun h33 =>
some h33
theorem c_Acts_init {G : fw_G} {h : fw_H} {v0 : Option Nat} (hv0 : v0.isSome = true) : fw_Call G m_Acts_init fw_eV 1 4 160 [fw_r v0] h (s_Acts_init h v0) := by
  refine fw_Call.of ok_Acts_init.1 (Nat.le_of_ble_eq_true rfl) [(0, some (fw_r v0))] rfl ?_
  refine r_aload_n (i := 0) rfl rfl rfl ?_
  refine r_obji (i := 1) hv0 (Nat.le_of_ble_eq_true rfl) (Nat.le_of_ble_eq_true rfl) wM_Acts_3 wO_1 wO_2 rfl rfl ?_
  refine r_aload_n (i := 2) rfl rfl rfl ?_
  refine r_bipush (i := 3) (40 : Int32) kc_bipush_40 rfl rfl ?_
  refine r_newIN (i := 4) (k2 := 3) (n2 := 120) (N := 40) (by decide) (by decide) (Nat.le_of_ble_eq_true rfl) (Nat.le_of_ble_eq_true rfl) (Nat.le_of_ble_eq_true rfl) wA_int rfl rfl fun q7 h7 => ?_
  refine r_pRF (i := 5) (ci := 0) (kf := 0) rfl (Nat.le_of_ble_eq_true rfl) wF_Acts_9 rfl rfl rfl ⟨_, (tyX0_ok 0 (Nat.le_of_ble_eq_true rfl)), Or.inr ⟨_, rfl⟩⟩ rfl rfl fun h9 => ?_
  refine r_aload_n (i := 6) rfl rfl rfl ?_
  refine r_bipush (i := 7) (40 : Int32) kc_bipush_40 rfl rfl ?_
  refine r_newIN (i := 8) (k2 := 2) (n2 := 80) (N := 40) (by decide) (by decide) (Nat.le_of_ble_eq_true rfl) (Nat.le_of_ble_eq_true rfl) (Nat.le_of_ble_eq_true rfl) wA_int rfl rfl fun q15 h15 => ?_
  refine r_pRF (i := 9) (ci := 0) (kf := 1) rfl (Nat.le_of_ble_eq_true rfl) wF_Acts_15 rfl rfl rfl ⟨_, (tyX0_ok 1 (Nat.le_of_ble_eq_true rfl)), Or.inr ⟨_, rfl⟩⟩ rfl rfl fun h17 => ?_
  refine r_aload_n (i := 10) rfl rfl rfl ?_
  refine r_bipush (i := 11) (40 : Int32) kc_bipush_40 rfl rfl ?_
  refine r_newIN (i := 12) (k2 := 1) (n2 := 40) (N := 40) (by decide) (by decide) (Nat.le_of_ble_eq_true rfl) (Nat.le_of_ble_eq_true rfl) (Nat.le_of_ble_eq_true rfl) wA_int rfl rfl fun q23 h23 => ?_
  refine r_pRF (i := 13) (ci := 0) (kf := 2) rfl (Nat.le_of_ble_eq_true rfl) wF_Acts_18 rfl rfl rfl ⟨_, (tyX0_ok 2 (Nat.le_of_ble_eq_true rfl)), Or.inr ⟨_, rfl⟩⟩ rfl rfl fun h25 => ?_
  refine r_aload_n (i := 14) rfl rfl rfl ?_
  refine r_bipush (i := 15) (40 : Int32) kc_bipush_40 rfl rfl ?_
  refine r_newIN (i := 16) (k2 := 0) (n2 := 0) (N := 40) (by decide) (by decide) (Nat.le_of_ble_eq_true rfl) (Nat.le_of_ble_eq_true rfl) (Nat.le_of_ble_eq_true rfl) wA_int rfl rfl fun q31 h31 => ?_
  refine r_pRF (i := 17) (ci := 0) (kf := 3) rfl (Nat.le_of_ble_eq_true rfl) wF_Acts_21 rfl rfl rfl ⟨_, (tyX0_ok 3 (Nat.le_of_ble_eq_true rfl)), Or.inr ⟨_, rfl⟩⟩ rfl rfl fun h33 => ?_
  exact r_retV (i := 18) rfl rfl rfl rfl
-- Acts_clear
def s_Acts_clear (h : fw_H) (v0 : Option Nat) : Option fw_H :=
(f_ck h v0 0).bind fun _ =>
(f_pI h v0 0 4 (0 : Int32)).bind fun h2 =>
some h2
theorem c_Acts_clear {G : fw_G} {h : fw_H} {v0 : Option Nat} : fw_Call G m_Acts_clear fw_eV 0 0 0 [fw_r v0] h (s_Acts_clear h v0) := by
  refine fw_Call.of ok_Acts_clear.1 (Nat.le_of_ble_eq_true rfl) [(0, some (fw_r v0))] rfl ?_
  refine r_ck ?_
  refine r_aload_n (i := 0) rfl rfl rfl ?_
  refine r_iconst (i := 1) (0 : Int32) kc_iconst_0 rfl rfl ?_
  refine r_pI (i := 2) (ci := 0) (kf := 4) rfl (Nat.le_of_ble_eq_true rfl) wF_Acts_24 rfl (tyX0_ok 4 (Nat.le_of_ble_eq_true rfl)) rfl rfl fun h2 => ?_
  exact r_retV (i := 3) rfl rfl rfl rfl
-- Acts_size
def s_Acts_size (h : fw_H) (v0 : Option Nat) : Option Int32 :=
(f_ck h v0 0).bind fun _ =>
(f_gI h v0 0 4).bind fun x1 =>
some x1
theorem c_Acts_size {G : fw_G} {h : fw_H} {v0 : Option Nat} : fw_Call G m_Acts_size (fw_eI h) 0 0 0 [fw_r v0] h (s_Acts_size h v0) := by
  refine fw_Call.of ok_Acts_size.1 (Nat.le_of_ble_eq_true rfl) [(0, some (fw_r v0))] rfl ?_
  refine r_ck ?_
  refine r_aload_n (i := 0) rfl rfl rfl ?_
  refine r_gI (i := 1) (ci := 0) (kf := 4) rfl (Nat.le_of_ble_eq_true rfl) wF_Acts_24 rfl rfl fun x1 => ?_
  exact r_retI (i := 2) rfl rfl rfl rfl
-- Rows_put
def s_Rows_put (h : fw_H) (v0 : Option Nat) (v1 : Int32) (v2 : Int32) : Option fw_H :=
if v0 = none then (some h) else
if v1 < (0 : Int32) then (some h) else
(f_lnI h v0).bind fun x10 =>
if x10 ≤ v1 then (some h) else
(f_sI h v0 v1 v2).bind fun h17 =>
some h17
theorem c_Rows_put {G : fw_G} {h : fw_H} {v0 : Option Nat} {v1 : Int32} {v2 : Int32} : fw_Call G m_Rows_put fw_eV 0 0 0 [fw_r v0, fw_i v1, fw_i v2] h (s_Rows_put h v0 v1 v2) := by
  refine fw_Call.of ok_Rows_put.1 (Nat.le_of_ble_eq_true rfl) [(0, some (fw_r v0)), (1, some (fw_i v1)), (2, some (fw_i v2))] rfl ?_
  refine r_aload_n (i := 0) rfl rfl rfl ?_
  refine r_ifnull (i := 1) (tgt := 18) rfl rfl rfl ?_ ?_
  · exact r_retV (i := 12) rfl rfl rfl rfl
  · refine r_iload_n (i := 2) rfl rfl rfl ?_
    refine r_if_lt (i := 3) (tgt := 18) rfl rfl rfl ?_ ?_
    · exact r_retV (i := 12) rfl rfl rfl rfl
    · refine r_iload_n (i := 4) rfl rfl rfl ?_
      refine r_aload_n (i := 5) rfl rfl rfl ?_
      refine r_lnI (i := 6) rfl rfl fun x10 => ?_
      refine r_icmp_ge (i := 7) (tgt := 18) rfl rfl rfl ?_ ?_
      · exact r_retV (i := 12) rfl rfl rfl rfl
      · refine r_aload_n (i := 8) rfl rfl rfl ?_
        refine r_iload_n (i := 9) rfl rfl rfl ?_
        refine r_iload_n (i := 10) rfl rfl rfl ?_
        refine r_sI (i := 11) rfl rfl fun h17 => ?_
        exact r_retV (i := 12) rfl rfl rfl rfl
-- Acts_keep
def s_Acts_keep (h : fw_H) (v0 : Option Nat) (v1 : Int32) (v2 : Int32) (v3 : Option Nat) : Option fw_H :=
(f_ck h v0 0).bind fun _ =>
(f_gR h v0 0 0).bind fun x1 =>
(f_gI h v0 0 5).bind fun x5 =>
(s_Rows_put h x1 x5 v1).bind fun h9 =>
(f_gR h9 v0 0 1).bind fun x13 =>
(f_gI h9 v0 0 5).bind fun x17 =>
(s_Rows_put h9 x13 x17 v2).bind fun h21 =>
(f_gR h21 v0 0 2).bind fun x25 =>
(f_gI h21 v0 0 5).bind fun x29 =>
(f_gI h21 v3 7 10).bind fun x33 =>
(s_Rows_put h21 x25 x29 x33).bind fun h36 =>
(f_gR h36 v0 0 3).bind fun x40 =>
(f_gI h36 v0 0 5).bind fun x44 =>
(f_gI h36 v3 7 11).bind fun x48 =>
(s_Rows_put h36 x40 x44 x48).bind fun h51 =>
(f_gI h51 v0 0 5).bind fun x56 =>
(f_irem (x56 + (1 : Int32)) (40 : Int32)).bind fun x63 =>
(f_pI h51 v0 0 5 x63).bind fun h64 =>
(f_gI h64 v0 0 4).bind fun x69 =>
(f_pI h64 v0 0 4 (fw_min (x69 + (1 : Int32)) (40 : Int32))).bind fun h79 =>
some h79
theorem c_Acts_keep {G : fw_G} {h : fw_H} {v0 : Option Nat} {v1 : Int32} {v2 : Int32} {v3 : Option Nat} : fw_Call G m_Acts_keep fw_eV 1 0 0 [fw_r v0, fw_i v1, fw_i v2, fw_r v3] h (s_Acts_keep h v0 v1 v2 v3) := by
  refine fw_Call.of ok_Acts_keep.1 (Nat.le_of_ble_eq_true rfl) [(0, some (fw_r v0)), (1, some (fw_i v1)), (2, some (fw_i v2)), (3, some (fw_r v3))] rfl ?_
  refine r_ck ?_
  refine r_aload_n (i := 0) rfl rfl rfl ?_
  refine r_gR (i := 1) (ci := 0) (kf := 0) rfl (Nat.le_of_ble_eq_true rfl) wF_Acts_9 rfl rfl fun x1 => ?_
  refine r_aload_n (i := 2) rfl rfl rfl ?_
  refine r_gI (i := 3) (ci := 0) (kf := 5) rfl (Nat.le_of_ble_eq_true rfl) wF_Acts_28 rfl rfl fun x5 => ?_
  refine r_iload_n (i := 4) rfl rfl rfl ?_
  refine r_SV3 (i := 5) (k2 := 0) (n2 := 0) ok_Rows_put wM_Acts_31 (c_Rows_put) (Nat.le_of_ble_eq_true rfl) (Nat.le_of_ble_eq_true rfl) (Nat.le_of_ble_eq_true rfl) (Nat.le_of_ble_eq_true rfl) rfl rfl fun h9 => ?_
  refine r_aload_n (i := 6) rfl rfl rfl ?_
  refine r_gR (i := 7) (ci := 0) (kf := 1) rfl (Nat.le_of_ble_eq_true rfl) wF_Acts_15 rfl rfl fun x13 => ?_
  refine r_aload_n (i := 8) rfl rfl rfl ?_
  refine r_gI (i := 9) (ci := 0) (kf := 5) rfl (Nat.le_of_ble_eq_true rfl) wF_Acts_28 rfl rfl fun x17 => ?_
  refine r_iload_n (i := 10) rfl rfl rfl ?_
  refine r_SV3 (i := 11) (k2 := 0) (n2 := 0) ok_Rows_put wM_Acts_31 (c_Rows_put) (Nat.le_of_ble_eq_true rfl) (Nat.le_of_ble_eq_true rfl) (Nat.le_of_ble_eq_true rfl) (Nat.le_of_ble_eq_true rfl) rfl rfl fun h21 => ?_
  refine r_aload_n (i := 12) rfl rfl rfl ?_
  refine r_gR (i := 13) (ci := 0) (kf := 2) rfl (Nat.le_of_ble_eq_true rfl) wF_Acts_18 rfl rfl fun x25 => ?_
  refine r_aload_n (i := 14) rfl rfl rfl ?_
  refine r_gI (i := 15) (ci := 0) (kf := 5) rfl (Nat.le_of_ble_eq_true rfl) wF_Acts_28 rfl rfl fun x29 => ?_
  refine r_aload_n (i := 16) rfl rfl rfl ?_
  refine r_gI (i := 17) (ci := 7) (kf := 10) rfl (Nat.le_of_ble_eq_true rfl) wF_Acts_37 rfl rfl fun x33 => ?_
  refine r_SV3 (i := 18) (k2 := 0) (n2 := 0) ok_Rows_put wM_Acts_31 (c_Rows_put) (Nat.le_of_ble_eq_true rfl) (Nat.le_of_ble_eq_true rfl) (Nat.le_of_ble_eq_true rfl) (Nat.le_of_ble_eq_true rfl) rfl rfl fun h36 => ?_
  refine r_aload_n (i := 19) rfl rfl rfl ?_
  refine r_gR (i := 20) (ci := 0) (kf := 3) rfl (Nat.le_of_ble_eq_true rfl) wF_Acts_21 rfl rfl fun x40 => ?_
  refine r_aload_n (i := 21) rfl rfl rfl ?_
  refine r_gI (i := 22) (ci := 0) (kf := 5) rfl (Nat.le_of_ble_eq_true rfl) wF_Acts_28 rfl rfl fun x44 => ?_
  refine r_aload_n (i := 23) rfl rfl rfl ?_
  refine r_gI (i := 24) (ci := 7) (kf := 11) rfl (Nat.le_of_ble_eq_true rfl) wF_Acts_42 rfl rfl fun x48 => ?_
  refine r_SV3 (i := 25) (k2 := 0) (n2 := 0) ok_Rows_put wM_Acts_31 (c_Rows_put) (Nat.le_of_ble_eq_true rfl) (Nat.le_of_ble_eq_true rfl) (Nat.le_of_ble_eq_true rfl) (Nat.le_of_ble_eq_true rfl) rfl rfl fun h51 => ?_
  refine r_aload_n (i := 26) rfl rfl rfl ?_
  refine r_aload_n (i := 27) rfl rfl rfl ?_
  refine r_gI (i := 28) (ci := 0) (kf := 5) rfl (Nat.le_of_ble_eq_true rfl) wF_Acts_28 rfl rfl fun x56 => ?_
  refine r_iconst (i := 29) (1 : Int32) kc_iconst_1 rfl rfl ?_
  refine r_iadd (i := 30) rfl rfl ?_
  refine r_bipush (i := 31) (40 : Int32) kc_bipush_40 rfl rfl ?_
  refine r_iremN (i := 32) rfl rfl fun x63 => ?_
  refine r_pI (i := 33) (ci := 0) (kf := 5) rfl (Nat.le_of_ble_eq_true rfl) wF_Acts_28 rfl (tyX0_ok 5 (Nat.le_of_ble_eq_true rfl)) rfl rfl fun h64 => ?_
  refine r_aload_n (i := 34) rfl rfl rfl ?_
  refine r_aload_n (i := 35) rfl rfl rfl ?_
  refine r_gI (i := 36) (ci := 0) (kf := 4) rfl (Nat.le_of_ble_eq_true rfl) wF_Acts_24 rfl rfl fun x69 => ?_
  refine r_iconst (i := 37) (1 : Int32) kc_iconst_1 rfl rfl ?_
  refine r_iadd (i := 38) rfl rfl ?_
  refine r_bipush (i := 39) (40 : Int32) kc_bipush_40 rfl rfl ?_
  refine r_min (i := 40) (Nat.le_of_ble_eq_true rfl) (Nat.le_of_ble_eq_true rfl) wM_Acts_45 rfl rfl ?_
  refine r_pI (i := 41) (ci := 0) (kf := 4) rfl (Nat.le_of_ble_eq_true rfl) wF_Acts_24 rfl (tyX0_ok 4 (Nat.le_of_ble_eq_true rfl)) rfl rfl fun h79 => ?_
  exact r_retV (i := 42) rfl rfl rfl rfl
-- Rows_get
def s_Rows_get (h : fw_H) (v0 : Option Nat) (v1 : Int32) : Option Int32 :=
if v0 = none then (some (0 : Int32)) else
if v1 < (0 : Int32) then (some (0 : Int32)) else
(f_lnI h v0).bind fun x10 =>
if x10 ≤ v1 then (some (0 : Int32)) else
(f_aI h v0 v1).bind fun x16 =>
some x16
theorem c_Rows_get {G : fw_G} {h : fw_H} {v0 : Option Nat} {v1 : Int32} : fw_Call G m_Rows_get (fw_eI h) 0 0 0 [fw_r v0, fw_i v1] h (s_Rows_get h v0 v1) := by
  refine fw_Call.of ok_Rows_get.1 (Nat.le_of_ble_eq_true rfl) [(0, some (fw_r v0)), (1, some (fw_i v1))] rfl ?_
  refine r_aload_n (i := 0) rfl rfl rfl ?_
  refine r_ifnull (i := 1) (tgt := 20) rfl rfl rfl ?_ ?_
  · refine r_iconst (i := 12) (0 : Int32) kc_iconst_0 rfl rfl ?_
    exact r_retI (i := 13) rfl rfl rfl rfl
  · refine r_iload_n (i := 2) rfl rfl rfl ?_
    refine r_if_lt (i := 3) (tgt := 20) rfl rfl rfl ?_ ?_
    · refine r_iconst (i := 12) (0 : Int32) kc_iconst_0 rfl rfl ?_
      exact r_retI (i := 13) rfl rfl rfl rfl
    · refine r_iload_n (i := 4) rfl rfl rfl ?_
      refine r_aload_n (i := 5) rfl rfl rfl ?_
      refine r_lnI (i := 6) rfl rfl fun x10 => ?_
      refine r_icmp_ge (i := 7) (tgt := 20) rfl rfl rfl ?_ ?_
      · refine r_iconst (i := 12) (0 : Int32) kc_iconst_0 rfl rfl ?_
        exact r_retI (i := 13) rfl rfl rfl rfl
      · refine r_aload_n (i := 8) rfl rfl rfl ?_
        refine r_iload_n (i := 9) rfl rfl rfl ?_
        refine r_aI (i := 10) rfl rfl fun x16 => ?_
        refine r_goto (i := 11) (tgt := 21) rfl rfl rfl ?_
        exact r_retI (i := 13) rfl rfl rfl rfl
-- Vil_trait
def s_Vil_trait (h : fw_H) (v0 : Option Nat) (v1 : Int32) (v2 : Int32) : Option Int32 :=
(f_ck h v0 7).bind fun _ =>
(f_gR h v0 7 2).bind fun x1 =>
(s_Rows_get h x1 ((v1 * (5 : Int32)) + v2)).bind fun x9 =>
some x9
theorem c_Vil_trait {G : fw_G} {h : fw_H} {v0 : Option Nat} {v1 : Int32} {v2 : Int32} : fw_Call G m_Vil_trait (fw_eI h) 1 0 0 [fw_r v0, fw_i v1, fw_i v2] h (s_Vil_trait h v0 v1 v2) := by
  refine fw_Call.of ok_Vil_trait.1 (Nat.le_of_ble_eq_true rfl) [(0, some (fw_r v0)), (1, some (fw_i v1)), (2, some (fw_i v2))] rfl ?_
  refine r_ck ?_
  refine r_aload_n (i := 0) rfl rfl rfl ?_
  refine r_gR (i := 1) (ci := 7) (kf := 2) rfl (Nat.le_of_ble_eq_true rfl) wF_Vil_9 rfl rfl fun x1 => ?_
  refine r_iload_n (i := 2) rfl rfl rfl ?_
  refine r_iconst (i := 3) (5 : Int32) kc_iconst_5 rfl rfl ?_
  refine r_imul (i := 4) rfl rfl ?_
  refine r_iload_n (i := 5) rfl rfl rfl ?_
  refine r_iadd (i := 6) rfl rfl ?_
  refine r_SI2 (i := 7) (k2 := 0) (n2 := 0) ok_Rows_get wM_Vil_71 (c_Rows_get) (Nat.le_of_ble_eq_true rfl) (Nat.le_of_ble_eq_true rfl) (Nat.le_of_ble_eq_true rfl) (Nat.le_of_ble_eq_true rfl) rfl rfl fun x9 => ?_
  exact r_retI (i := 8) rfl rfl rfl rfl
-- Vil_want
def s_Vil_want (h : fw_H) (v0 : Option Nat) (v1 : Int32) (v2 : Int32) : Option fw_H :=
(f_ck h v0 7).bind fun _ =>
(f_gR h v0 7 2).bind fun x1 =>
(s_Vil_trait h v0 v1 (0 : Int32)).bind fun x12 =>
(s_Rows_put h x1 ((v1 * (5 : Int32)) + (0 : Int32)) (x12 + v2)).bind fun h17 =>
some h17
theorem c_Vil_want {G : fw_G} {h : fw_H} {v0 : Option Nat} {v1 : Int32} {v2 : Int32} : fw_Call G m_Vil_want fw_eV 2 0 0 [fw_r v0, fw_i v1, fw_i v2] h (s_Vil_want h v0 v1 v2) := by
  refine fw_Call.of ok_Vil_want.1 (Nat.le_of_ble_eq_true rfl) [(0, some (fw_r v0)), (1, some (fw_i v1)), (2, some (fw_i v2))] rfl ?_
  refine r_ck ?_
  refine r_aload_n (i := 0) rfl rfl rfl ?_
  refine r_gR (i := 1) (ci := 7) (kf := 2) rfl (Nat.le_of_ble_eq_true rfl) wF_Vil_9 rfl rfl fun x1 => ?_
  refine r_iload_n (i := 2) rfl rfl rfl ?_
  refine r_iconst (i := 3) (5 : Int32) kc_iconst_5 rfl rfl ?_
  refine r_imul (i := 4) rfl rfl ?_
  refine r_iconst (i := 5) (0 : Int32) kc_iconst_0 rfl rfl ?_
  refine r_iadd (i := 6) rfl rfl ?_
  refine r_aload_n (i := 7) rfl rfl rfl ?_
  refine r_iload_n (i := 8) rfl rfl rfl ?_
  refine r_iconst (i := 9) (0 : Int32) kc_iconst_0 rfl rfl ?_
  refine r_VI2 (i := 10) (k2 := 0) (n2 := 0) ok_Vil_trait wM_Vil_91 (c_Vil_trait) (fun _ e => fw_ckb e) (Nat.le_of_ble_eq_true rfl) (Nat.le_of_ble_eq_true rfl) (Nat.le_of_ble_eq_true rfl) (Nat.le_of_ble_eq_true rfl) rfl rfl fun x12 => ?_
  refine r_iload_n (i := 11) rfl rfl rfl ?_
  refine r_iadd (i := 12) rfl rfl ?_
  refine r_SV3 (i := 13) (k2 := 0) (n2 := 0) ok_Rows_put wM_Vil_75 (c_Rows_put) (Nat.le_of_ble_eq_true rfl) (Nat.le_of_ble_eq_true rfl) (Nat.le_of_ble_eq_true rfl) (Nat.le_of_ble_eq_true rfl) rfl rfl fun h17 => ?_
  exact r_retV (i := 14) rfl rfl rfl rfl
-- Vil_laugh
def s_Vil_laugh (h : fw_H) (v0 : Option Nat) (v1 : Int32) (v2 : Int32) : Option fw_H :=
(f_ck h v0 7).bind fun _ =>
(f_gR h v0 7 3).bind fun x1 =>
(f_gR h v0 7 3).bind fun x6 =>
(s_Rows_get h x6 v1).bind fun x10 =>
(s_Rows_put h x1 v1 (x10 + v2)).bind fun h15 =>
some h15
theorem c_Vil_laugh {G : fw_G} {h : fw_H} {v0 : Option Nat} {v1 : Int32} {v2 : Int32} : fw_Call G m_Vil_laugh fw_eV 1 0 0 [fw_r v0, fw_i v1, fw_i v2] h (s_Vil_laugh h v0 v1 v2) := by
  refine fw_Call.of ok_Vil_laugh.1 (Nat.le_of_ble_eq_true rfl) [(0, some (fw_r v0)), (1, some (fw_i v1)), (2, some (fw_i v2))] rfl ?_
  refine r_ck ?_
  refine r_aload_n (i := 0) rfl rfl rfl ?_
  refine r_gR (i := 1) (ci := 7) (kf := 3) rfl (Nat.le_of_ble_eq_true rfl) wF_Vil_15 rfl rfl fun x1 => ?_
  refine r_iload_n (i := 2) rfl rfl rfl ?_
  refine r_aload_n (i := 3) rfl rfl rfl ?_
  refine r_gR (i := 4) (ci := 7) (kf := 3) rfl (Nat.le_of_ble_eq_true rfl) wF_Vil_15 rfl rfl fun x6 => ?_
  refine r_iload_n (i := 5) rfl rfl rfl ?_
  refine r_SI2 (i := 6) (k2 := 0) (n2 := 0) ok_Rows_get wM_Vil_71 (c_Rows_get) (Nat.le_of_ble_eq_true rfl) (Nat.le_of_ble_eq_true rfl) (Nat.le_of_ble_eq_true rfl) (Nat.le_of_ble_eq_true rfl) rfl rfl fun x10 => ?_
  refine r_iload_n (i := 7) rfl rfl rfl ?_
  refine r_iadd (i := 8) rfl rfl ?_
  refine r_SV3 (i := 9) (k2 := 0) (n2 := 0) ok_Rows_put wM_Vil_75 (c_Rows_put) (Nat.le_of_ble_eq_true rfl) (Nat.le_of_ble_eq_true rfl) (Nat.le_of_ble_eq_true rfl) (Nat.le_of_ble_eq_true rfl) rfl rfl fun h15 => ?_
  exact r_retV (i := 10) rfl rfl rfl rfl
-- Vil_laughAll
def l_Vil_laughAll_11 (v0 : Option Nat) (v1 : Int32) : Nat → Int32 → fw_H → Option fw_H
  | 0, _, _ => none
  | nn + 1, a11_2, g11 =>
    (f_gI g11 v0 7 0).bind fun x13 =>
    if x13 ≤ a11_2 then (some g11) else
    (f_gI g11 v0 7 12).bind fun x20 =>
    (f_irem x20 (24 : Int32)).bind fun x25 =>
    if ¬ x25 = (6 : Int32) then (some g11) else
    (s_Vil_trait g11 v0 a11_2 (3 : Int32)).bind fun x37 =>
    (s_Vil_laugh g11 v0 a11_2 (v1 * x37)).bind fun h41 =>
    l_Vil_laughAll_11 v0 v1 nn (a11_2 + (1 : Int32)) h41
theorem cl_Vil_laughAll_11 {G : fw_G} {v0 : Option Nat} {v1 : Int32} : ∀ (nn : Nat) (a11_2 : Int32) (g11 : fw_H), fw_R G m_Vil_laughAll fw_eV 2 0 0 11 [(0, some (fw_r v0)), (1, some (fw_i v1)), (2, some (fw_i a11_2))] [] g11 (l_Vil_laughAll_11 v0 v1 nn a11_2 g11) := by
  intro nn
  induction nn with
  | zero => intros; exact r_none
  | succ nn ih =>
    intro a11_2 g11
    rw [l_Vil_laughAll_11]
    refine r_iload_n (i := 7) rfl rfl rfl ?_
    refine r_aload_n (i := 8) rfl rfl rfl ?_
    refine r_gI (i := 9) (ci := 7) (kf := 0) rfl (Nat.le_of_ble_eq_true rfl) wF_Vil_31 rfl rfl fun x13 => ?_
    refine r_icmp_ge (i := 10) (tgt := 50) rfl rfl rfl ?_ ?_
    · exact r_retV (i := 28) rfl rfl rfl rfl
    · refine r_aload_n (i := 11) rfl rfl rfl ?_
      refine r_gI (i := 12) (ci := 7) (kf := 12) rfl (Nat.le_of_ble_eq_true rfl) wF_Vil_59 rfl rfl fun x20 => ?_
      refine r_bipush (i := 13) (24 : Int32) kc_bipush_24 rfl rfl ?_
      refine r_iremN (i := 14) rfl rfl fun x25 => ?_
      refine r_bipush (i := 15) (6 : Int32) kc_bipush_6 rfl rfl ?_
      refine r_icmp_ne (i := 16) (tgt := 50) rfl rfl rfl ?_ ?_
      · exact r_retV (i := 28) rfl rfl rfl rfl
      · refine r_aload_n (i := 17) rfl rfl rfl ?_
        refine r_iload_n (i := 18) rfl rfl rfl ?_
        refine r_iload_n (i := 19) rfl rfl rfl ?_
        refine r_aload_n (i := 20) rfl rfl rfl ?_
        refine r_iload_n (i := 21) rfl rfl rfl ?_
        refine r_iconst (i := 22) (3 : Int32) kc_iconst_3 rfl rfl ?_
        refine r_VI2 (i := 23) (k2 := 0) (n2 := 0) ok_Vil_trait wM_Vil_91 (c_Vil_trait) (fun _ e => fw_ckb e) (Nat.le_of_ble_eq_true rfl) (Nat.le_of_ble_eq_true rfl) (Nat.le_of_ble_eq_true rfl) (Nat.le_of_ble_eq_true rfl) rfl rfl fun x37 => ?_
        refine r_imul (i := 24) rfl rfl ?_
        refine r_VV2 (i := 25) (k2 := 0) (n2 := 0) ok_Vil_laugh wM_Vil_101 (c_Vil_laugh) (fun _ e => fw_ckb e) (Nat.le_of_ble_eq_true rfl) (Nat.le_of_ble_eq_true rfl) (Nat.le_of_ble_eq_true rfl) (Nat.le_of_ble_eq_true rfl) rfl rfl fun h41 => ?_
        refine r_iinc (i := 26) (1 : Int32) kc_iconst_1 rfl rfl rfl (Nat.le_of_ble_eq_true rfl) ?_
        refine r_goto (i := 27) (tgt := 11) rfl rfl rfl ?_
        exact r_lv (fw_sub1 rfl (fw_sub1 rfl (fw_sub1 rfl fw_sub0))) (ih (a11_2 + (1 : Int32)) h41)
def s_Vil_laughAll (F : Nat) (h : fw_H) (v0 : Option Nat) (v1 : Int32) : Option fw_H :=
(f_ck h v0 7).bind fun _ =>
(f_gI h v0 7 10).bind fun x2 =>
(s_Vil_laugh h v0 x2 v1).bind fun h6 =>
l_Vil_laughAll_11 v0 v1 F (0 : Int32) h6
theorem c_Vil_laughAll {G : fw_G} (F : Nat) {h : fw_H} {v0 : Option Nat} {v1 : Int32} : fw_Call G m_Vil_laughAll fw_eV 2 0 0 [fw_r v0, fw_i v1] h (s_Vil_laughAll F h v0 v1) := by
  refine fw_Call.of ok_Vil_laughAll.1 (Nat.le_of_ble_eq_true rfl) [(0, some (fw_r v0)), (1, some (fw_i v1))] rfl ?_
  refine r_ck ?_
  refine r_aload_n (i := 0) rfl rfl rfl ?_
  refine r_aload_n (i := 1) rfl rfl rfl ?_
  refine r_gI (i := 2) (ci := 7) (kf := 10) rfl (Nat.le_of_ble_eq_true rfl) wF_Vil_21 rfl rfl fun x2 => ?_
  refine r_iload_n (i := 3) rfl rfl rfl ?_
  refine r_VV2 (i := 4) (k2 := 0) (n2 := 0) ok_Vil_laugh wM_Vil_101 (c_Vil_laugh) (fun _ e => fw_ckb e) (Nat.le_of_ble_eq_true rfl) (Nat.le_of_ble_eq_true rfl) (Nat.le_of_ble_eq_true rfl) (Nat.le_of_ble_eq_true rfl) rfl rfl fun h6 => ?_
  refine r_iconst (i := 5) (0 : Int32) kc_iconst_0 rfl rfl ?_
  refine r_istore_n (i := 6) rfl rfl (Nat.le_of_ble_eq_true rfl) rfl ?_
  refine r_lv (fw_sub1 rfl (fw_sub1 rfl (fw_sub1 rfl fw_sub0))) (cl_Vil_laughAll_11 F _ _)
-- Vil_takeHourBack
def s_Vil_takeHourBack (F : Nat) (h : fw_H) (v0 : Option Nat) : Option fw_H :=
(f_ck h v0 7).bind fun _ =>
(f_gI h v0 7 14).bind fun x2 =>
(f_pI h v0 7 14 (x2 - (1 : Int32))).bind fun h7 =>
(f_gI h7 v0 7 12).bind fun x12 =>
(f_pI h7 v0 7 12 (x12 - (1 : Int32))).bind fun h17 =>
(s_Vil_laughAll F h17 v0 (-1 : Int32)).bind fun h22 =>
some h22
theorem c_Vil_takeHourBack {G : fw_G} (F : Nat) {h : fw_H} {v0 : Option Nat} : fw_Call G m_Vil_takeHourBack fw_eV 3 0 0 [fw_r v0] h (s_Vil_takeHourBack F h v0) := by
  refine fw_Call.of ok_Vil_takeHourBack.1 (Nat.le_of_ble_eq_true rfl) [(0, some (fw_r v0))] rfl ?_
  refine r_ck ?_
  refine r_aload_n (i := 0) rfl rfl rfl ?_
  refine r_dup_r (i := 1) rfl rfl ?_
  refine r_gI (i := 2) (ci := 7) (kf := 14) rfl (Nat.le_of_ble_eq_true rfl) wF_Vil_62 rfl rfl fun x2 => ?_
  refine r_iconst (i := 3) (1 : Int32) kc_iconst_1 rfl rfl ?_
  refine r_isub (i := 4) rfl rfl ?_
  refine r_pI (i := 5) (ci := 7) (kf := 14) rfl (Nat.le_of_ble_eq_true rfl) wF_Vil_62 rfl (tyX7_ok 14 (Nat.le_of_ble_eq_true rfl)) rfl rfl fun h7 => ?_
  refine r_aload_n (i := 6) rfl rfl rfl ?_
  refine r_dup_r (i := 7) rfl rfl ?_
  refine r_gI (i := 8) (ci := 7) (kf := 12) rfl (Nat.le_of_ble_eq_true rfl) wF_Vil_59 rfl rfl fun x12 => ?_
  refine r_iconst (i := 9) (1 : Int32) kc_iconst_1 rfl rfl ?_
  refine r_isub (i := 10) rfl rfl ?_
  refine r_pI (i := 11) (ci := 7) (kf := 12) rfl (Nat.le_of_ble_eq_true rfl) wF_Vil_59 rfl (tyX7_ok 12 (Nat.le_of_ble_eq_true rfl)) rfl rfl fun h17 => ?_
  refine r_aload_n (i := 12) rfl rfl rfl ?_
  refine r_iconst (i := 13) (-1 : Int32) kc_iconst_m1 rfl rfl ?_
  refine r_VV1 (i := 14) (k2 := 0) (n2 := 0) ok_Vil_laughAll wM_Vil_105 (c_Vil_laughAll F) (fun _ e => fw_ckb e) (Nat.le_of_ble_eq_true rfl) (Nat.le_of_ble_eq_true rfl) (Nat.le_of_ble_eq_true rfl) (Nat.le_of_ble_eq_true rfl) rfl rfl fun h22 => ?_
  exact r_retV (i := 15) rfl rfl rfl rfl
-- Acts_restore
def s_Acts_restore (F : Nat) (h : fw_H) (v0 : Int32) (v1 : Int32) (v2 : Option Nat) : Option fw_H :=
if v0 = (0 : Int32) then ((f_gI h v2 7 7).bind fun x46 =>
(f_pI h v2 7 7 (x46 ^^^ ((1 : Int32) <<< (v1 &&& 31)))).bind fun h53 =>
some h53) else
if v0 = (1 : Int32) then ((f_gI h v2 7 6).bind fun x61 =>
(f_pI h v2 7 6 (x61 ^^^ ((1 : Int32) <<< (v1 &&& 31)))).bind fun h68 =>
some h68) else
if v0 = (2 : Int32) then ((f_gB h v2 7 8).bind fun x76 =>
if x76 = true then ((f_pB h v2 7 8 false).bind fun h87 =>
some h87) else
(f_pB h v2 7 8 true).bind fun h87 =>
some h87) else
if v0 = (3 : Int32) then ((f_gB h v2 7 9).bind fun x95 =>
if x95 = true then ((f_pB h v2 7 9 false).bind fun h106 =>
some h106) else
(f_pB h v2 7 9 true).bind fun h106 =>
some h106) else
if v0 = (4 : Int32) then ((s_Vil_want h v2 v1 (-1 : Int32)).bind fun h115 =>
some h115) else
if v0 = (5 : Int32) then (some h) else
if v0 = (6 : Int32) then ((s_Vil_takeHourBack F h v2).bind fun h122 =>
some h122) else
some h
theorem c_Acts_restore {G : fw_G} (F : Nat) {h : fw_H} {v0 : Int32} {v1 : Int32} {v2 : Option Nat} : fw_Call G m_Acts_restore fw_eV 4 0 0 [fw_i v0, fw_i v1, fw_r v2] h (s_Acts_restore F h v0 v1 v2) := by
  refine fw_Call.of ok_Acts_restore.1 (Nat.le_of_ble_eq_true rfl) [(0, some (fw_i v0)), (1, some (fw_i v1)), (2, some (fw_r v2))] rfl ?_
  refine r_iload_n (i := 0) rfl rfl rfl ?_
  refine r_split (fun e1_0 => ?_) (fun n1_0 => ?_)
  · refine r_tinK (i := 1) (tgt := 44) (len := 43) (v := (0 : Int32)) (off := 43) e1_0 rfl rfl (by decide) (by decide) rfl ?_
    refine r_aload_n (i := 2) rfl rfl rfl ?_
    refine r_dup_r (i := 3) rfl rfl ?_
    refine r_gI (i := 4) (ci := 7) (kf := 7) rfl (Nat.le_of_ble_eq_true rfl) wF_Acts_59 rfl rfl fun x46 => ?_
    refine r_iconst (i := 5) (1 : Int32) kc_iconst_1 rfl rfl ?_
    refine r_iload_n (i := 6) rfl rfl rfl ?_
    refine r_ishl (i := 7) rfl rfl ?_
    refine r_ixor (i := 8) rfl rfl ?_
    refine r_pI (i := 9) (ci := 7) (kf := 7) rfl (Nat.le_of_ble_eq_true rfl) wF_Acts_59 rfl (tyX7_ok 7 (Nat.le_of_ble_eq_true rfl)) rfl rfl fun h53 => ?_
    refine r_goto (i := 10) (tgt := 128) rfl rfl rfl ?_
    exact r_retV (i := 46) rfl rfl rfl rfl
  · refine r_split (fun e1_1 => ?_) (fun n1_1 => ?_)
    · refine r_tinK (i := 1) (tgt := 59) (len := 43) (v := (1 : Int32)) (off := 58) e1_1 rfl rfl (by decide) (by decide) rfl ?_
      refine r_aload_n (i := 11) rfl rfl rfl ?_
      refine r_dup_r (i := 12) rfl rfl ?_
      refine r_gI (i := 13) (ci := 7) (kf := 6) rfl (Nat.le_of_ble_eq_true rfl) wF_Acts_62 rfl rfl fun x61 => ?_
      refine r_iconst (i := 14) (1 : Int32) kc_iconst_1 rfl rfl ?_
      refine r_iload_n (i := 15) rfl rfl rfl ?_
      refine r_ishl (i := 16) rfl rfl ?_
      refine r_ixor (i := 17) rfl rfl ?_
      refine r_pI (i := 18) (ci := 7) (kf := 6) rfl (Nat.le_of_ble_eq_true rfl) wF_Acts_62 rfl (tyX7_ok 6 (Nat.le_of_ble_eq_true rfl)) rfl rfl fun h68 => ?_
      refine r_goto (i := 19) (tgt := 128) rfl rfl rfl ?_
      exact r_retV (i := 46) rfl rfl rfl rfl
    · refine r_split (fun e1_2 => ?_) (fun n1_2 => ?_)
      · refine r_tinK (i := 1) (tgt := 74) (len := 43) (v := (2 : Int32)) (off := 73) e1_2 rfl rfl (by decide) (by decide) rfl ?_
        refine r_aload_n (i := 20) rfl rfl rfl ?_
        refine r_aload_n (i := 21) rfl rfl rfl ?_
        refine r_gB (i := 22) (ci := 7) (kf := 8) rfl (Nat.le_of_ble_eq_true rfl) wF_Acts_65 rfl rfl fun x76 => ?_
        refine r_ifneB (i := 23) (tgt := 86) rfl rfl rfl ?_ ?_
        · refine r_iconst (i := 26) (0 : Int32) kc_iconst_0 rfl rfl ?_
          refine r_pB (y := false) (i := 27) (ci := 7) (kf := 8) rfl (Nat.le_of_ble_eq_true rfl) wF_Acts_65 rfl (tyX7_ok 8 (Nat.le_of_ble_eq_true rfl)) rfl rfl fun h87 => ?_
          refine r_goto (i := 28) (tgt := 128) rfl rfl rfl ?_
          exact r_retV (i := 46) rfl rfl rfl rfl
        · refine r_iconst (i := 24) (1 : Int32) kc_iconst_1 rfl rfl ?_
          refine r_goto (i := 25) (tgt := 87) rfl rfl rfl ?_
          refine r_pB (y := true) (i := 27) (ci := 7) (kf := 8) rfl (Nat.le_of_ble_eq_true rfl) wF_Acts_65 rfl (tyX7_ok 8 (Nat.le_of_ble_eq_true rfl)) rfl rfl fun h87 => ?_
          refine r_goto (i := 28) (tgt := 128) rfl rfl rfl ?_
          exact r_retV (i := 46) rfl rfl rfl rfl
      · refine r_split (fun e1_3 => ?_) (fun n1_3 => ?_)
        · refine r_tinK (i := 1) (tgt := 93) (len := 43) (v := (3 : Int32)) (off := 92) e1_3 rfl rfl (by decide) (by decide) rfl ?_
          refine r_aload_n (i := 29) rfl rfl rfl ?_
          refine r_aload_n (i := 30) rfl rfl rfl ?_
          refine r_gB (i := 31) (ci := 7) (kf := 9) rfl (Nat.le_of_ble_eq_true rfl) wF_Acts_69 rfl rfl fun x95 => ?_
          refine r_ifneB (i := 32) (tgt := 105) rfl rfl rfl ?_ ?_
          · refine r_iconst (i := 35) (0 : Int32) kc_iconst_0 rfl rfl ?_
            refine r_pB (y := false) (i := 36) (ci := 7) (kf := 9) rfl (Nat.le_of_ble_eq_true rfl) wF_Acts_69 rfl (tyX7_ok 9 (Nat.le_of_ble_eq_true rfl)) rfl rfl fun h106 => ?_
            refine r_goto (i := 37) (tgt := 128) rfl rfl rfl ?_
            exact r_retV (i := 46) rfl rfl rfl rfl
          · refine r_iconst (i := 33) (1 : Int32) kc_iconst_1 rfl rfl ?_
            refine r_goto (i := 34) (tgt := 106) rfl rfl rfl ?_
            refine r_pB (y := true) (i := 36) (ci := 7) (kf := 9) rfl (Nat.le_of_ble_eq_true rfl) wF_Acts_69 rfl (tyX7_ok 9 (Nat.le_of_ble_eq_true rfl)) rfl rfl fun h106 => ?_
            refine r_goto (i := 37) (tgt := 128) rfl rfl rfl ?_
            exact r_retV (i := 46) rfl rfl rfl rfl
        · refine r_split (fun e1_4 => ?_) (fun n1_4 => ?_)
          · refine r_tinK (i := 1) (tgt := 112) (len := 43) (v := (4 : Int32)) (off := 111) e1_4 rfl rfl (by decide) (by decide) rfl ?_
            refine r_aload_n (i := 38) rfl rfl rfl ?_
            refine r_iload_n (i := 39) rfl rfl rfl ?_
            refine r_iconst (i := 40) (-1 : Int32) kc_iconst_m1 rfl rfl ?_
            refine r_VV2 (i := 41) (k2 := 0) (n2 := 0) ok_Vil_want wM_Acts_72 (c_Vil_want) (fun _ e => fw_ckb e) (Nat.le_of_ble_eq_true rfl) (Nat.le_of_ble_eq_true rfl) (Nat.le_of_ble_eq_true rfl) (Nat.le_of_ble_eq_true rfl) rfl rfl fun h115 => ?_
            refine r_goto (i := 42) (tgt := 128) rfl rfl rfl ?_
            exact r_retV (i := 46) rfl rfl rfl rfl
          · refine r_split (fun e1_5 => ?_) (fun n1_5 => ?_)
            · refine r_tinK (i := 1) (tgt := 128) (len := 43) (v := (5 : Int32)) (off := 127) e1_5 rfl rfl (by decide) (by decide) rfl ?_
              exact r_retV (i := 46) rfl rfl rfl rfl
            · refine r_split (fun e1_6 => ?_) (fun n1_6 => ?_)
              · refine r_tinK (i := 1) (tgt := 121) (len := 43) (v := (6 : Int32)) (off := 120) e1_6 rfl rfl (by decide) (by decide) rfl ?_
                refine r_aload_n (i := 43) rfl rfl rfl ?_
                refine r_VV0 (i := 44) (k2 := 0) (n2 := 0) ok_Vil_takeHourBack wM_Acts_76 (c_Vil_takeHourBack F) (fun _ e => fw_ckb e) (Nat.le_of_ble_eq_true rfl) (Nat.le_of_ble_eq_true rfl) (Nat.le_of_ble_eq_true rfl) (Nat.le_of_ble_eq_true rfl) rfl rfl fun h122 => ?_
                refine r_goto (i := 45) (tgt := 128) rfl rfl rfl ?_
                exact r_retV (i := 46) rfl rfl rfl rfl
              · refine r_tout (i := 1) (tgt := 128) (len := 43) rfl rfl (by have m0 := fw_ni n1_0 (z := 0) (by decide); have m1 := fw_ni n1_1 (z := 1) (by decide); have m2 := fw_ni n1_2 (z := 2) (by decide); have m3 := fw_ni n1_3 (z := 3) (by decide); have m4 := fw_ni n1_4 (z := 4) (by decide); have m5 := fw_ni n1_5 (z := 5) (by decide); have m6 := fw_ni n1_6 (z := 6) (by decide); omega) rfl ?_
                exact r_retV (i := 46) rfl rfl rfl rfl
-- Acts_undoLatest
def s_Acts_undoLatest (F : Nat) (h : fw_H) (v0 : Option Nat) (v1 : Option Nat) : Option (Int32 × fw_H) :=
(f_ck h v0 0).bind fun _ =>
(f_gI h v0 0 4).bind fun x1 =>
if ¬ x1 = (0 : Int32) then ((f_gI h v0 0 4).bind fun x11 =>
(f_pI h v0 0 4 (x11 - (1 : Int32))).bind fun h16 =>
(f_gI h16 v0 0 5).bind fun x21 =>
(f_irem ((x21 + (40 : Int32)) - (1 : Int32)) (40 : Int32)).bind fun x31 =>
(f_pI h16 v0 0 5 x31).bind fun h32 =>
(f_gR h32 v0 0 0).bind fun x36 =>
(f_gI h32 v0 0 5).bind fun x40 =>
(s_Rows_get h32 x36 x40).bind fun x43 =>
(f_gR h32 v0 0 1).bind fun x47 =>
(f_gI h32 v0 0 5).bind fun x51 =>
(s_Rows_get h32 x47 x51).bind fun x54 =>
(s_Acts_restore F h32 x43 x54 v1).bind fun h58 =>
(f_gR h58 v0 0 2).bind fun x63 =>
(f_gI h58 v0 0 5).bind fun x67 =>
(s_Rows_get h58 x63 x67).bind fun x70 =>
(f_pI h58 v1 7 10 x70).bind fun h73 =>
(f_gR h73 v0 0 3).bind fun x78 =>
(f_gI h73 v0 0 5).bind fun x82 =>
(s_Rows_get h73 x78 x82).bind fun x85 =>
(f_pI h73 v1 7 11 x85).bind fun h88 =>
(f_gI h88 v0 0 4).bind fun x92 =>
some (x92, h88)) else
some ((-1 : Int32), h)
theorem c_Acts_undoLatest {G : fw_G} (F : Nat) {h : fw_H} {v0 : Option Nat} {v1 : Option Nat} : fw_Call G m_Acts_undoLatest fw_wI 5 0 0 [fw_r v0, fw_r v1] h (s_Acts_undoLatest F h v0 v1) := by
  refine fw_Call.of ok_Acts_undoLatest.1 (Nat.le_of_ble_eq_true rfl) [(0, some (fw_r v0)), (1, some (fw_r v1))] rfl ?_
  refine r_ck ?_
  refine r_aload_n (i := 0) rfl rfl rfl ?_
  refine r_gI (i := 1) (ci := 0) (kf := 4) rfl (Nat.le_of_ble_eq_true rfl) wF_Acts_24 rfl rfl fun x1 => ?_
  refine r_if_ne (i := 2) (tgt := 9) rfl rfl rfl ?_ ?_
  · refine r_aload_n (i := 5) rfl rfl rfl ?_
    refine r_dup_r (i := 6) rfl rfl ?_
    refine r_gI (i := 7) (ci := 0) (kf := 4) rfl (Nat.le_of_ble_eq_true rfl) wF_Acts_24 rfl rfl fun x11 => ?_
    refine r_iconst (i := 8) (1 : Int32) kc_iconst_1 rfl rfl ?_
    refine r_isub (i := 9) rfl rfl ?_
    refine r_pI (i := 10) (ci := 0) (kf := 4) rfl (Nat.le_of_ble_eq_true rfl) wF_Acts_24 rfl (tyX0_ok 4 (Nat.le_of_ble_eq_true rfl)) rfl rfl fun h16 => ?_
    refine r_aload_n (i := 11) rfl rfl rfl ?_
    refine r_aload_n (i := 12) rfl rfl rfl ?_
    refine r_gI (i := 13) (ci := 0) (kf := 5) rfl (Nat.le_of_ble_eq_true rfl) wF_Acts_28 rfl rfl fun x21 => ?_
    refine r_bipush (i := 14) (40 : Int32) kc_bipush_40 rfl rfl ?_
    refine r_iadd (i := 15) rfl rfl ?_
    refine r_iconst (i := 16) (1 : Int32) kc_iconst_1 rfl rfl ?_
    refine r_isub (i := 17) rfl rfl ?_
    refine r_bipush (i := 18) (40 : Int32) kc_bipush_40 rfl rfl ?_
    refine r_iremN (i := 19) rfl rfl fun x31 => ?_
    refine r_pI (i := 20) (ci := 0) (kf := 5) rfl (Nat.le_of_ble_eq_true rfl) wF_Acts_28 rfl (tyX0_ok 5 (Nat.le_of_ble_eq_true rfl)) rfl rfl fun h32 => ?_
    refine r_aload_n (i := 21) rfl rfl rfl ?_
    refine r_gR (i := 22) (ci := 0) (kf := 0) rfl (Nat.le_of_ble_eq_true rfl) wF_Acts_9 rfl rfl fun x36 => ?_
    refine r_aload_n (i := 23) rfl rfl rfl ?_
    refine r_gI (i := 24) (ci := 0) (kf := 5) rfl (Nat.le_of_ble_eq_true rfl) wF_Acts_28 rfl rfl fun x40 => ?_
    refine r_SI2 (i := 25) (k2 := 0) (n2 := 0) ok_Rows_get wM_Acts_51 (c_Rows_get) (Nat.le_of_ble_eq_true rfl) (Nat.le_of_ble_eq_true rfl) (Nat.le_of_ble_eq_true rfl) (Nat.le_of_ble_eq_true rfl) rfl rfl fun x43 => ?_
    refine r_aload_n (i := 26) rfl rfl rfl ?_
    refine r_gR (i := 27) (ci := 0) (kf := 1) rfl (Nat.le_of_ble_eq_true rfl) wF_Acts_15 rfl rfl fun x47 => ?_
    refine r_aload_n (i := 28) rfl rfl rfl ?_
    refine r_gI (i := 29) (ci := 0) (kf := 5) rfl (Nat.le_of_ble_eq_true rfl) wF_Acts_28 rfl rfl fun x51 => ?_
    refine r_SI2 (i := 30) (k2 := 0) (n2 := 0) ok_Rows_get wM_Acts_51 (c_Rows_get) (Nat.le_of_ble_eq_true rfl) (Nat.le_of_ble_eq_true rfl) (Nat.le_of_ble_eq_true rfl) (Nat.le_of_ble_eq_true rfl) rfl rfl fun x54 => ?_
    refine r_aload_n (i := 31) rfl rfl rfl ?_
    refine r_SV3 (i := 32) (k2 := 0) (n2 := 0) ok_Acts_restore wM_Acts_55 (c_Acts_restore F) (Nat.le_of_ble_eq_true rfl) (Nat.le_of_ble_eq_true rfl) (Nat.le_of_ble_eq_true rfl) (Nat.le_of_ble_eq_true rfl) rfl rfl fun h58 => ?_
    refine r_aload_n (i := 33) rfl rfl rfl ?_
    refine r_aload_n (i := 34) rfl rfl rfl ?_
    refine r_gR (i := 35) (ci := 0) (kf := 2) rfl (Nat.le_of_ble_eq_true rfl) wF_Acts_18 rfl rfl fun x63 => ?_
    refine r_aload_n (i := 36) rfl rfl rfl ?_
    refine r_gI (i := 37) (ci := 0) (kf := 5) rfl (Nat.le_of_ble_eq_true rfl) wF_Acts_28 rfl rfl fun x67 => ?_
    refine r_SI2 (i := 38) (k2 := 0) (n2 := 0) ok_Rows_get wM_Acts_51 (c_Rows_get) (Nat.le_of_ble_eq_true rfl) (Nat.le_of_ble_eq_true rfl) (Nat.le_of_ble_eq_true rfl) (Nat.le_of_ble_eq_true rfl) rfl rfl fun x70 => ?_
    refine r_pI (i := 39) (ci := 7) (kf := 10) rfl (Nat.le_of_ble_eq_true rfl) wF_Acts_37 rfl (tyX7_ok 10 (Nat.le_of_ble_eq_true rfl)) rfl rfl fun h73 => ?_
    refine r_aload_n (i := 40) rfl rfl rfl ?_
    refine r_aload_n (i := 41) rfl rfl rfl ?_
    refine r_gR (i := 42) (ci := 0) (kf := 3) rfl (Nat.le_of_ble_eq_true rfl) wF_Acts_21 rfl rfl fun x78 => ?_
    refine r_aload_n (i := 43) rfl rfl rfl ?_
    refine r_gI (i := 44) (ci := 0) (kf := 5) rfl (Nat.le_of_ble_eq_true rfl) wF_Acts_28 rfl rfl fun x82 => ?_
    refine r_SI2 (i := 45) (k2 := 0) (n2 := 0) ok_Rows_get wM_Acts_51 (c_Rows_get) (Nat.le_of_ble_eq_true rfl) (Nat.le_of_ble_eq_true rfl) (Nat.le_of_ble_eq_true rfl) (Nat.le_of_ble_eq_true rfl) rfl rfl fun x85 => ?_
    refine r_pI (i := 46) (ci := 7) (kf := 11) rfl (Nat.le_of_ble_eq_true rfl) wF_Acts_42 rfl (tyX7_ok 11 (Nat.le_of_ble_eq_true rfl)) rfl rfl fun h88 => ?_
    refine r_aload_n (i := 47) rfl rfl rfl ?_
    refine r_gI (i := 48) (ci := 0) (kf := 4) rfl (Nat.le_of_ble_eq_true rfl) wF_Acts_24 rfl rfl fun x92 => ?_
    exact r_retI (i := 49) rfl rfl rfl rfl
  · refine r_iconst (i := 3) (-1 : Int32) kc_iconst_m1 rfl rfl ?_
    exact r_retI (i := 4) rfl rfl rfl rfl
-- Law_init
def s_Law_init (h : fw_H) (v0 : Option Nat) : Option fw_H :=
fw_new h (fw_I 240 (fun _ => 0)) fun q8 h8 =>
(f_pR h8 v0 1 0 q8).bind fun h10 =>
fw_new h10 (fw_I 40 (fun _ => 0)) fun q16 h16 =>
(f_pR h16 v0 1 1 q16).bind fun h18 =>
(f_pI h18 v0 1 3 (-1 : Int32)).bind fun h23 =>
some h23
theorem c_Law_init {G : fw_G} {h : fw_H} {v0 : Option Nat} (hv0 : v0.isSome = true) : fw_Call G m_Law_init fw_eV 1 2 280 [fw_r v0] h (s_Law_init h v0) := by
  refine fw_Call.of ok_Law_init.1 (Nat.le_of_ble_eq_true rfl) [(0, some (fw_r v0))] rfl ?_
  refine r_aload_n (i := 0) rfl rfl rfl ?_
  refine r_obji (i := 1) hv0 (Nat.le_of_ble_eq_true rfl) (Nat.le_of_ble_eq_true rfl) wM_Law_3 wO_1 wO_2 rfl rfl ?_
  refine r_aload_n (i := 2) rfl rfl rfl ?_
  refine r_sipush (i := 3) (240 : Int32) kc_sipush_240 rfl rfl ?_
  refine r_newIN (i := 4) (k2 := 1) (n2 := 40) (N := 240) (by decide) (by decide) (Nat.le_of_ble_eq_true rfl) (Nat.le_of_ble_eq_true rfl) (Nat.le_of_ble_eq_true rfl) wA_int rfl rfl fun q8 h8 => ?_
  refine r_pRF (i := 5) (ci := 1) (kf := 0) rfl (Nat.le_of_ble_eq_true rfl) wF_Law_9 rfl rfl rfl ⟨_, (tyX1_ok 0 (Nat.le_of_ble_eq_true rfl)), Or.inr ⟨_, rfl⟩⟩ rfl rfl fun h10 => ?_
  refine r_aload_n (i := 6) rfl rfl rfl ?_
  refine r_bipush (i := 7) (40 : Int32) kc_bipush_40 rfl rfl ?_
  refine r_newIN (i := 8) (k2 := 0) (n2 := 0) (N := 40) (by decide) (by decide) (Nat.le_of_ble_eq_true rfl) (Nat.le_of_ble_eq_true rfl) (Nat.le_of_ble_eq_true rfl) wA_int rfl rfl fun q16 h16 => ?_
  refine r_pRF (i := 9) (ci := 1) (kf := 1) rfl (Nat.le_of_ble_eq_true rfl) wF_Law_15 rfl rfl rfl ⟨_, (tyX1_ok 1 (Nat.le_of_ble_eq_true rfl)), Or.inr ⟨_, rfl⟩⟩ rfl rfl fun h18 => ?_
  refine r_aload_n (i := 10) rfl rfl rfl ?_
  refine r_iconst (i := 11) (-1 : Int32) kc_iconst_m1 rfl rfl ?_
  refine r_pI (i := 12) (ci := 1) (kf := 3) rfl (Nat.le_of_ble_eq_true rfl) wF_Law_18 rfl (tyX1_ok 3 (Nat.le_of_ble_eq_true rfl)) rfl rfl fun h23 => ?_
  exact r_retV (i := 13) rfl rfl rfl rfl
-- Law_clear
def s_Law_clear (h : fw_H) (v0 : Option Nat) : Option fw_H :=
(f_ck h v0 1).bind fun _ =>
(f_pI h v0 1 2 (0 : Int32)).bind fun h2 =>
(f_pI h2 v0 1 3 (-1 : Int32)).bind fun h7 =>
(f_pB h7 v0 1 4 false).bind fun h12 =>
some h12
theorem c_Law_clear {G : fw_G} {h : fw_H} {v0 : Option Nat} : fw_Call G m_Law_clear fw_eV 0 0 0 [fw_r v0] h (s_Law_clear h v0) := by
  refine fw_Call.of ok_Law_clear.1 (Nat.le_of_ble_eq_true rfl) [(0, some (fw_r v0))] rfl ?_
  refine r_ck ?_
  refine r_aload_n (i := 0) rfl rfl rfl ?_
  refine r_iconst (i := 1) (0 : Int32) kc_iconst_0 rfl rfl ?_
  refine r_pI (i := 2) (ci := 1) (kf := 2) rfl (Nat.le_of_ble_eq_true rfl) wF_Law_22 rfl (tyX1_ok 2 (Nat.le_of_ble_eq_true rfl)) rfl rfl fun h2 => ?_
  refine r_aload_n (i := 3) rfl rfl rfl ?_
  refine r_iconst (i := 4) (-1 : Int32) kc_iconst_m1 rfl rfl ?_
  refine r_pI (i := 5) (ci := 1) (kf := 3) rfl (Nat.le_of_ble_eq_true rfl) wF_Law_18 rfl (tyX1_ok 3 (Nat.le_of_ble_eq_true rfl)) rfl rfl fun h7 => ?_
  refine r_aload_n (i := 6) rfl rfl rfl ?_
  refine r_iconst (i := 7) (0 : Int32) kc_iconst_0 rfl rfl ?_
  refine r_pB (y := false) (i := 8) (ci := 1) (kf := 4) rfl (Nat.le_of_ble_eq_true rfl) wF_Law_25 rfl (tyX1_ok 4 (Nat.le_of_ble_eq_true rfl)) rfl rfl fun h12 => ?_
  exact r_retV (i := 9) rfl rfl rfl rfl
-- Law_isByTime
def s_Law_isByTime (h : fw_H) (v0 : Option Nat) : Option Bool :=
(f_ck h v0 1).bind fun _ =>
(f_gB h v0 1 4).bind fun x1 =>
some x1
theorem c_Law_isByTime {G : fw_G} {h : fw_H} {v0 : Option Nat} : fw_Call G m_Law_isByTime (fw_eB h) 0 0 0 [fw_r v0] h (s_Law_isByTime h v0) := by
  refine fw_Call.of ok_Law_isByTime.1 (Nat.le_of_ble_eq_true rfl) [(0, some (fw_r v0))] rfl ?_
  refine r_ck ?_
  refine r_aload_n (i := 0) rfl rfl rfl ?_
  refine r_gB (i := 1) (ci := 1) (kf := 4) rfl (Nat.le_of_ble_eq_true rfl) wF_Law_25 rfl rfl fun x1 => ?_
  exact r_retB (i := 2) rfl rfl rfl rfl
-- Law_isPlain
def s_Law_isPlain (h : fw_H) (v0 : Option Nat) : Option Bool :=
(f_ck h v0 1).bind fun _ =>
(f_gI h v0 1 2).bind fun x1 =>
if ¬ x1 = (0 : Int32) then (some false) else
some true
theorem c_Law_isPlain {G : fw_G} {h : fw_H} {v0 : Option Nat} : fw_Call G m_Law_isPlain (fw_eB h) 0 0 0 [fw_r v0] h (s_Law_isPlain h v0) := by
  refine fw_Call.of ok_Law_isPlain.1 (Nat.le_of_ble_eq_true rfl) [(0, some (fw_r v0))] rfl ?_
  refine r_ck ?_
  refine r_aload_n (i := 0) rfl rfl rfl ?_
  refine r_gI (i := 1) (ci := 1) (kf := 2) rfl (Nat.le_of_ble_eq_true rfl) wF_Law_22 rfl rfl fun x1 => ?_
  refine r_if_ne (i := 2) (tgt := 11) rfl rfl rfl ?_ ?_
  · refine r_iconst (i := 5) (0 : Int32) kc_iconst_0 rfl rfl ?_
    exact r_retB (x := false) (i := 6) rfl rfl rfl rfl
  · refine r_iconst (i := 3) (1 : Int32) kc_iconst_1 rfl rfl ?_
    refine r_goto (i := 4) (tgt := 12) rfl rfl rfl ?_
    exact r_retB (x := true) (i := 6) rfl rfl rfl rfl
-- Rows_copy
def l_Rows_copy_11 (v0 : Option Nat) (v1 : Option Nat) : Nat → Int32 → fw_H → Option fw_H
  | 0, _, _ => none
  | nn + 1, a11_2, g11 =>
    (f_lnI g11 v0).bind fun x13 =>
    if x13 ≤ a11_2 then (some g11) else
    (f_lnI g11 v1).bind fun x19 =>
    if x19 ≤ a11_2 then (some g11) else
    (f_aI g11 v0 a11_2).bind fun x27 =>
    (f_sI g11 v1 a11_2 x27).bind fun h28 =>
    l_Rows_copy_11 v0 v1 nn (a11_2 + (1 : Int32)) h28
theorem cl_Rows_copy_11 {G : fw_G} {v0 : Option Nat} {v1 : Option Nat} : ∀ (nn : Nat) (a11_2 : Int32) (g11 : fw_H), fw_R G m_Rows_copy fw_eV 0 0 0 11 [(0, some (fw_r v0)), (1, some (fw_r v1)), (2, some (fw_i a11_2))] [] g11 (l_Rows_copy_11 v0 v1 nn a11_2 g11) := by
  intro nn
  induction nn with
  | zero => intros; exact r_none
  | succ nn ih =>
    intro a11_2 g11
    rw [l_Rows_copy_11]
    refine r_iload_n (i := 7) rfl rfl rfl ?_
    refine r_aload_n (i := 8) rfl rfl rfl ?_
    refine r_lnI (i := 9) rfl rfl fun x13 => ?_
    refine r_icmp_ge (i := 10) (tgt := 35) rfl rfl rfl ?_ ?_
    · exact r_retV (i := 23) rfl rfl rfl rfl
    · refine r_iload_n (i := 11) rfl rfl rfl ?_
      refine r_aload_n (i := 12) rfl rfl rfl ?_
      refine r_lnI (i := 13) rfl rfl fun x19 => ?_
      refine r_icmp_ge (i := 14) (tgt := 35) rfl rfl rfl ?_ ?_
      · exact r_retV (i := 23) rfl rfl rfl rfl
      · refine r_aload_n (i := 15) rfl rfl rfl ?_
        refine r_iload_n (i := 16) rfl rfl rfl ?_
        refine r_aload_n (i := 17) rfl rfl rfl ?_
        refine r_iload_n (i := 18) rfl rfl rfl ?_
        refine r_aI (i := 19) rfl rfl fun x27 => ?_
        refine r_sI (i := 20) rfl rfl fun h28 => ?_
        refine r_iinc (i := 21) (1 : Int32) kc_iconst_1 rfl rfl rfl (Nat.le_of_ble_eq_true rfl) ?_
        refine r_goto (i := 22) (tgt := 11) rfl rfl rfl ?_
        exact r_lv (fw_sub1 rfl (fw_sub1 rfl (fw_sub1 rfl fw_sub0))) (ih (a11_2 + (1 : Int32)) h28)
def s_Rows_copy (F : Nat) (h : fw_H) (v0 : Option Nat) (v1 : Option Nat) : Option fw_H :=
if v0 = none then (some h) else
if v1 = none then (some h) else
l_Rows_copy_11 v0 v1 F (0 : Int32) h
theorem c_Rows_copy {G : fw_G} (F : Nat) {h : fw_H} {v0 : Option Nat} {v1 : Option Nat} : fw_Call G m_Rows_copy fw_eV 0 0 0 [fw_r v0, fw_r v1] h (s_Rows_copy F h v0 v1) := by
  refine fw_Call.of ok_Rows_copy.1 (Nat.le_of_ble_eq_true rfl) [(0, some (fw_r v0)), (1, some (fw_r v1))] rfl ?_
  refine r_aload_n (i := 0) rfl rfl rfl ?_
  refine r_ifnull (i := 1) (tgt := 8) rfl rfl rfl ?_ ?_
  · exact r_retV (i := 4) rfl rfl rfl rfl
  · refine r_aload_n (i := 2) rfl rfl rfl ?_
    refine r_ifnonnull (i := 3) (tgt := 9) rfl rfl rfl ?_ ?_
    · refine r_iconst (i := 5) (0 : Int32) kc_iconst_0 rfl rfl ?_
      refine r_istore_n (i := 6) rfl rfl (Nat.le_of_ble_eq_true rfl) rfl ?_
      refine r_lv (fw_sub1 rfl (fw_sub1 rfl (fw_sub1 rfl fw_sub0))) (cl_Rows_copy_11 F _ _)
    · exact r_retV (i := 4) rfl rfl rfl rfl
-- Law_take
def s_Law_take (F : Nat) (h : fw_H) (v0 : Option Nat) (v1 : Option Nat) : Option fw_H :=
(f_ck h v0 1).bind fun _ =>
(f_gR h v1 1 0).bind fun x1 =>
(f_gR h v0 1 0).bind fun x5 =>
(s_Rows_copy F h x1 x5).bind fun h8 =>
(f_gI h8 v1 1 2).bind fun x13 =>
(f_pI h8 v0 1 2 x13).bind fun h16 =>
(f_gB h16 v1 1 4).bind fun x21 =>
(f_pB h16 v0 1 4 x21).bind fun h24 =>
some h24
theorem c_Law_take {G : fw_G} (F : Nat) {h : fw_H} {v0 : Option Nat} {v1 : Option Nat} : fw_Call G m_Law_take fw_eV 1 0 0 [fw_r v0, fw_r v1] h (s_Law_take F h v0 v1) := by
  refine fw_Call.of ok_Law_take.1 (Nat.le_of_ble_eq_true rfl) [(0, some (fw_r v0)), (1, some (fw_r v1))] rfl ?_
  refine r_ck ?_
  refine r_aload_n (i := 0) rfl rfl rfl ?_
  refine r_gR (i := 1) (ci := 1) (kf := 0) rfl (Nat.le_of_ble_eq_true rfl) wF_Law_9 rfl rfl fun x1 => ?_
  refine r_aload_n (i := 2) rfl rfl rfl ?_
  refine r_gR (i := 3) (ci := 1) (kf := 0) rfl (Nat.le_of_ble_eq_true rfl) wF_Law_9 rfl rfl fun x5 => ?_
  refine r_SV2 (i := 4) (k2 := 0) (n2 := 0) ok_Rows_copy wM_Law_29 (c_Rows_copy F) (Nat.le_of_ble_eq_true rfl) (Nat.le_of_ble_eq_true rfl) (Nat.le_of_ble_eq_true rfl) (Nat.le_of_ble_eq_true rfl) rfl rfl fun h8 => ?_
  refine r_aload_n (i := 5) rfl rfl rfl ?_
  refine r_aload_n (i := 6) rfl rfl rfl ?_
  refine r_gI (i := 7) (ci := 1) (kf := 2) rfl (Nat.le_of_ble_eq_true rfl) wF_Law_22 rfl rfl fun x13 => ?_
  refine r_pI (i := 8) (ci := 1) (kf := 2) rfl (Nat.le_of_ble_eq_true rfl) wF_Law_22 rfl (tyX1_ok 2 (Nat.le_of_ble_eq_true rfl)) rfl rfl fun h16 => ?_
  refine r_aload_n (i := 9) rfl rfl rfl ?_
  refine r_aload_n (i := 10) rfl rfl rfl ?_
  refine r_gB (i := 11) (ci := 1) (kf := 4) rfl (Nat.le_of_ble_eq_true rfl) wF_Law_25 rfl rfl fun x21 => ?_
  refine r_pB (i := 12) (ci := 1) (kf := 4) rfl (Nat.le_of_ble_eq_true rfl) wF_Law_25 rfl (tyX1_ok 4 (Nat.le_of_ble_eq_true rfl)) rfl rfl fun h24 => ?_
  exact r_retV (i := 13) rfl rfl rfl rfl
-- Law_emit
def s_Law_emit (h : fw_H) (v0 : Option Nat) (v1 : Int32) (v2 : Int32) : Option fw_H :=
(f_ck h v0 1).bind fun _ =>
fw_jn (fun (hj14 : fw_H) =>
fw_jn (fun (hj30 : fw_H) =>
(f_gR hj30 v0 1 0).bind fun x31 =>
(f_gI hj30 v0 1 2).bind fun x35 =>
(s_Rows_put hj30 x31 x35 ((v1 * (10000 : Int32)) + v2)).bind fun h45 =>
(f_gI h45 v0 1 2).bind fun x50 =>
(f_gR h45 v0 1 0).bind fun x56 =>
(f_lnI h45 x56).bind fun x59 =>
(f_pI h45 v0 1 2 (fw_min (x50 + (1 : Int32)) x59)).bind fun h63 =>
if ¬ v1 = (13 : Int32) then (some h63) else
(f_gI h63 v0 1 3).bind fun x73 =>
if x73 = (-1 : Int32) then (some h63) else
(f_gR h63 v0 1 0).bind fun x81 =>
(f_gI h63 v0 1 3).bind fun x85 =>
(f_gI h63 v0 1 2).bind fun x91 =>
(s_Rows_put h63 x81 x85 ((120000 : Int32) + x91)).bind fun h95 =>
(f_pI h95 v0 1 3 (-1 : Int32)).bind fun h100 =>
some h100) fun J30 =>
if ¬ v1 = (1 : Int32) then (J30 hj14) else
if ¬ v2 = (7 : Int32) then (J30 hj14) else
(f_pB hj14 v0 1 4 true).bind fun h27 =>
J30 h27) fun J14 =>
if ¬ v1 = (12 : Int32) then (J14 h) else
(f_gI h v0 1 2).bind fun x8 =>
(f_pI h v0 1 3 x8).bind fun h11 =>
J14 h11
theorem c_Law_emit {G : fw_G} {h : fw_H} {v0 : Option Nat} {v1 : Int32} {v2 : Int32} : fw_Call G m_Law_emit fw_eV 1 0 0 [fw_r v0, fw_i v1, fw_i v2] h (s_Law_emit h v0 v1 v2) := by
  refine fw_Call.of ok_Law_emit.1 (Nat.le_of_ble_eq_true rfl) [(0, some (fw_r v0)), (1, some (fw_i v1)), (2, some (fw_i v2))] rfl ?_
  refine r_ck ?_
  refine r_iload_n (i := 0) rfl rfl rfl ?_
  refine r_bipush (i := 1) (12 : Int32) kc_bipush_12 rfl rfl ?_
  refine r_join (P := fun J14 => ∀ (hj14 : fw_H), fw_R G m_Law_emit fw_eV 1 (0) (0) 14 [(0, some (fw_r v0)), (1, some (fw_i v1)), (2, some (fw_i v2))] [] hj14 (J14 hj14)) ?_ (fun J14 hJ14 => ?_)
  · intro hj14
    refine r_iload_n (i := 7) rfl rfl rfl ?_
    refine r_iconst (i := 8) (1 : Int32) kc_iconst_1 rfl rfl ?_
    refine r_join (P := fun J30 => ∀ (hj30 : fw_H), fw_R G m_Law_emit fw_eV 1 (0) (0) 30 [(0, some (fw_r v0)), (1, some (fw_i v1)), (2, some (fw_i v2))] [] hj30 (J30 hj30)) ?_ (fun J30 hJ30 => ?_)
    · intro hj30
      refine r_aload_n (i := 16) rfl rfl rfl ?_
      refine r_gR (i := 17) (ci := 1) (kf := 0) rfl (Nat.le_of_ble_eq_true rfl) wF_Law_9 rfl rfl fun x31 => ?_
      refine r_aload_n (i := 18) rfl rfl rfl ?_
      refine r_gI (i := 19) (ci := 1) (kf := 2) rfl (Nat.le_of_ble_eq_true rfl) wF_Law_22 rfl rfl fun x35 => ?_
      refine r_iload_n (i := 20) rfl rfl rfl ?_
      refine r_sipush (i := 21) (10000 : Int32) kc_sipush_10000 rfl rfl ?_
      refine r_imul (i := 22) rfl rfl ?_
      refine r_iload_n (i := 23) rfl rfl rfl ?_
      refine r_iadd (i := 24) rfl rfl ?_
      refine r_SV3 (i := 25) (k2 := 0) (n2 := 0) ok_Rows_put wM_Law_35 (c_Rows_put) (Nat.le_of_ble_eq_true rfl) (Nat.le_of_ble_eq_true rfl) (Nat.le_of_ble_eq_true rfl) (Nat.le_of_ble_eq_true rfl) rfl rfl fun h45 => ?_
      refine r_aload_n (i := 26) rfl rfl rfl ?_
      refine r_aload_n (i := 27) rfl rfl rfl ?_
      refine r_gI (i := 28) (ci := 1) (kf := 2) rfl (Nat.le_of_ble_eq_true rfl) wF_Law_22 rfl rfl fun x50 => ?_
      refine r_iconst (i := 29) (1 : Int32) kc_iconst_1 rfl rfl ?_
      refine r_iadd (i := 30) rfl rfl ?_
      refine r_aload_n (i := 31) rfl rfl rfl ?_
      refine r_gR (i := 32) (ci := 1) (kf := 0) rfl (Nat.le_of_ble_eq_true rfl) wF_Law_9 rfl rfl fun x56 => ?_
      refine r_lnI (i := 33) rfl rfl fun x59 => ?_
      refine r_min (i := 34) (Nat.le_of_ble_eq_true rfl) (Nat.le_of_ble_eq_true rfl) wM_Law_39 rfl rfl ?_
      refine r_pI (i := 35) (ci := 1) (kf := 2) rfl (Nat.le_of_ble_eq_true rfl) wF_Law_22 rfl (tyX1_ok 2 (Nat.le_of_ble_eq_true rfl)) rfl rfl fun h63 => ?_
      refine r_iload_n (i := 36) rfl rfl rfl ?_
      refine r_bipush (i := 37) (13 : Int32) kc_bipush_13 rfl rfl ?_
      refine r_icmp_ne (i := 38) (tgt := 103) rfl rfl rfl ?_ ?_
      · exact r_retV (i := 55) rfl rfl rfl rfl
      · refine r_aload_n (i := 39) rfl rfl rfl ?_
        refine r_gI (i := 40) (ci := 1) (kf := 3) rfl (Nat.le_of_ble_eq_true rfl) wF_Law_18 rfl rfl fun x73 => ?_
        refine r_iconst (i := 41) (-1 : Int32) kc_iconst_m1 rfl rfl ?_
        refine r_icmp_eq (i := 42) (tgt := 103) rfl rfl rfl ?_ ?_
        · exact r_retV (i := 55) rfl rfl rfl rfl
        · refine r_aload_n (i := 43) rfl rfl rfl ?_
          refine r_gR (i := 44) (ci := 1) (kf := 0) rfl (Nat.le_of_ble_eq_true rfl) wF_Law_9 rfl rfl fun x81 => ?_
          refine r_aload_n (i := 45) rfl rfl rfl ?_
          refine r_gI (i := 46) (ci := 1) (kf := 3) rfl (Nat.le_of_ble_eq_true rfl) wF_Law_18 rfl rfl fun x85 => ?_
          refine r_ldc (i := 47) wK_Law_45 rfl rfl ?_
          refine r_aload_n (i := 48) rfl rfl rfl ?_
          refine r_gI (i := 49) (ci := 1) (kf := 2) rfl (Nat.le_of_ble_eq_true rfl) wF_Law_22 rfl rfl fun x91 => ?_
          refine r_iadd (i := 50) rfl rfl ?_
          refine r_SV3 (i := 51) (k2 := 0) (n2 := 0) ok_Rows_put wM_Law_35 (c_Rows_put) (Nat.le_of_ble_eq_true rfl) (Nat.le_of_ble_eq_true rfl) (Nat.le_of_ble_eq_true rfl) (Nat.le_of_ble_eq_true rfl) rfl rfl fun h95 => ?_
          refine r_aload_n (i := 52) rfl rfl rfl ?_
          refine r_iconst (i := 53) (-1 : Int32) kc_iconst_m1 rfl rfl ?_
          refine r_pI (i := 54) (ci := 1) (kf := 3) rfl (Nat.le_of_ble_eq_true rfl) wF_Law_18 rfl (tyX1_ok 3 (Nat.le_of_ble_eq_true rfl)) rfl rfl fun h100 => ?_
          exact r_retV (i := 55) rfl rfl rfl rfl
    · refine r_icmp_ne (i := 9) (tgt := 30) rfl rfl rfl ?_ ?_
      · exact r_lv (fw_sub1 rfl (fw_sub1 rfl (fw_sub1 rfl fw_sub0))) (hJ30 hj14)
      · refine r_iload_n (i := 10) rfl rfl rfl ?_
        refine r_bipush (i := 11) (7 : Int32) kc_bipush_7 rfl rfl ?_
        refine r_icmp_ne (i := 12) (tgt := 30) rfl rfl rfl ?_ ?_
        · exact r_lv (fw_sub1 rfl (fw_sub1 rfl (fw_sub1 rfl fw_sub0))) (hJ30 hj14)
        · refine r_aload_n (i := 13) rfl rfl rfl ?_
          refine r_iconst (i := 14) (1 : Int32) kc_iconst_1 rfl rfl ?_
          refine r_pB (y := true) (i := 15) (ci := 1) (kf := 4) rfl (Nat.le_of_ble_eq_true rfl) wF_Law_25 rfl (tyX1_ok 4 (Nat.le_of_ble_eq_true rfl)) rfl rfl fun h27 => ?_
          exact r_lv (fw_sub1 rfl (fw_sub1 rfl (fw_sub1 rfl fw_sub0))) (hJ30 h27)
  · refine r_icmp_ne (i := 2) (tgt := 14) rfl rfl rfl ?_ ?_
    · exact r_lv (fw_sub1 rfl (fw_sub1 rfl (fw_sub1 rfl fw_sub0))) (hJ14 h)
    · refine r_aload_n (i := 3) rfl rfl rfl ?_
      refine r_aload_n (i := 4) rfl rfl rfl ?_
      refine r_gI (i := 5) (ci := 1) (kf := 2) rfl (Nat.le_of_ble_eq_true rfl) wF_Law_22 rfl rfl fun x8 => ?_
      refine r_pI (i := 6) (ci := 1) (kf := 3) rfl (Nat.le_of_ble_eq_true rfl) wF_Law_18 rfl (tyX1_ok 3 (Nat.le_of_ble_eq_true rfl)) rfl rfl fun h11 => ?_
      exact r_lv (fw_sub1 rfl (fw_sub1 rfl (fw_sub1 rfl fw_sub0))) (hJ14 h11)
-- Law_joined
def s_Law_joined (v0 : Int32) (v1 : Int64) (v2 : Int64) : Option Int32 :=
fw_jn (fun (j151_5 : Int64) =>
if (lg_cmp j151_5 (1000000 : Int64)) ≤ (0 : Int32) then (if (0 : Int32) ≤ (lg_cmp j151_5 (-1000000 : Int64)) then (some (Int64.toInt32 j151_5)) else
some (Int64.toInt32 (-1000000 : Int64))) else
some (Int64.toInt32 (1000000 : Int64))) fun J151 =>
if v0 = (2 : Int32) then (J151 (v1 + v2)) else
if v0 = (3 : Int32) then (J151 (v1 - v2)) else
if v0 = (4 : Int32) then (J151 (v1 * v2)) else
if v0 = (5 : Int32) then (if ¬ (lg_cmp v2 (0 : Int64)) = (0 : Int32) then ((f_ldiv v1 v2).bind fun x84 =>
J151 x84) else
J151 (0 : Int64)) else
if v0 = (6 : Int32) then (if ¬ (lg_cmp v1 v2) = (0 : Int32) then (J151 (0 : Int64)) else
J151 (1 : Int64)) else
if v0 = (7 : Int32) then (if (0 : Int32) ≤ (lg_cmp v1 v2) then (J151 (0 : Int64)) else
J151 (1 : Int64)) else
if v0 = (8 : Int32) then (if (lg_cmp v1 v2) ≤ (0 : Int32) then (J151 (0 : Int64)) else
J151 (1 : Int64)) else
if v0 = (9 : Int32) then (J151 (v1 &&& v2)) else
J151 (v1 ||| v2)
theorem c_Law_joined {G : fw_G} {h : fw_H} {v0 : Int32} {v1 : Int64} {v2 : Int64} : fw_Call G m_Law_joined (fw_eI h) 0 0 0 [fw_i v0, fw_j v1, fw_j v2] h (s_Law_joined v0 v1 v2) := by
  refine fw_Call.of ok_Law_joined.1 (Nat.le_of_ble_eq_true rfl) [(0, some (fw_i v0)), (1, some (fw_j v1)), (3, some (fw_j v2))] rfl ?_
  refine r_iload_n (i := 0) rfl rfl rfl ?_
  refine r_join (P := fun J151 => ∀ (j151_5 : Int64), fw_R G m_Law_joined (fw_eI h) 0 (0) (0) 151 [(5, some (fw_j j151_5))] [] h (J151 j151_5)) ?_ (fun J151 hJ151 => ?_)
  · intro j151_5
    refine r_lload (i := 64) rfl rfl rfl ?_
    refine r_ldc2 (i := 65) wL_Law_54 rfl rfl ?_
    refine r_lcmp (i := 66) rfl rfl ?_
    refine r_if_le (i := 67) (tgt := 166) rfl rfl rfl ?_ ?_
    · refine r_lload (i := 70) rfl rfl rfl ?_
      refine r_ldc2 (i := 71) wL_Law_56 rfl rfl ?_
      refine r_lcmp (i := 72) rfl rfl ?_
      refine r_if_ge (i := 73) (tgt := 181) rfl rfl rfl ?_ ?_
      · refine r_lload (i := 76) rfl rfl rfl ?_
        refine r_l2i (i := 77) rfl rfl ?_
        exact r_retI (i := 78) rfl rfl rfl rfl
      · refine r_ldc2 (i := 74) wL_Law_56 rfl rfl ?_
        refine r_goto (i := 75) (tgt := 183) rfl rfl rfl ?_
        refine r_l2i (i := 77) rfl rfl ?_
        exact r_retI (i := 78) rfl rfl rfl rfl
    · refine r_ldc2 (i := 68) wL_Law_54 rfl rfl ?_
      refine r_goto (i := 69) (tgt := 183) rfl rfl rfl ?_
      refine r_l2i (i := 77) rfl rfl ?_
      exact r_retI (i := 78) rfl rfl rfl rfl
  · refine r_split (fun e1_2 => ?_) (fun n1_2 => ?_)
    · refine r_tinK (i := 1) (tgt := 48) (len := 47) (v := (2 : Int32)) (off := 47) e1_2 rfl rfl (by decide) (by decide) rfl ?_
      refine r_lload_n (i := 2) rfl rfl rfl ?_
      refine r_lload_n (i := 3) rfl rfl rfl ?_
      refine r_ladd (i := 4) rfl rfl ?_
      refine r_lstore (i := 5) rfl rfl (Nat.le_of_ble_eq_true rfl) rfl ?_
      refine r_goto (i := 6) (tgt := 151) rfl rfl rfl ?_
      exact r_lv (fw_sub1 rfl fw_sub0) (hJ151 (v1 + v2))
    · refine r_split (fun e1_3 => ?_) (fun n1_3 => ?_)
      · refine r_tinK (i := 1) (tgt := 56) (len := 47) (v := (3 : Int32)) (off := 55) e1_3 rfl rfl (by decide) (by decide) rfl ?_
        refine r_lload_n (i := 7) rfl rfl rfl ?_
        refine r_lload_n (i := 8) rfl rfl rfl ?_
        refine r_lsub (i := 9) rfl rfl ?_
        refine r_lstore (i := 10) rfl rfl (Nat.le_of_ble_eq_true rfl) rfl ?_
        refine r_goto (i := 11) (tgt := 151) rfl rfl rfl ?_
        exact r_lv (fw_sub1 rfl fw_sub0) (hJ151 (v1 - v2))
      · refine r_split (fun e1_4 => ?_) (fun n1_4 => ?_)
        · refine r_tinK (i := 1) (tgt := 64) (len := 47) (v := (4 : Int32)) (off := 63) e1_4 rfl rfl (by decide) (by decide) rfl ?_
          refine r_lload_n (i := 12) rfl rfl rfl ?_
          refine r_lload_n (i := 13) rfl rfl rfl ?_
          refine r_lmul (i := 14) rfl rfl ?_
          refine r_lstore (i := 15) rfl rfl (Nat.le_of_ble_eq_true rfl) rfl ?_
          refine r_goto (i := 16) (tgt := 151) rfl rfl rfl ?_
          exact r_lv (fw_sub1 rfl fw_sub0) (hJ151 (v1 * v2))
        · refine r_split (fun e1_5 => ?_) (fun n1_5 => ?_)
          · refine r_tinK (i := 1) (tgt := 72) (len := 47) (v := (5 : Int32)) (off := 71) e1_5 rfl rfl (by decide) (by decide) rfl ?_
            refine r_lload_n (i := 17) rfl rfl rfl ?_
            refine r_lconst (i := 18) (0 : Int64) rfl rfl rfl ?_
            refine r_lcmp (i := 19) rfl rfl ?_
            refine r_if_ne (i := 20) (tgt := 82) rfl rfl rfl ?_ ?_
            · refine r_lload_n (i := 23) rfl rfl rfl ?_
              refine r_lload_n (i := 24) rfl rfl rfl ?_
              refine r_ldivN (i := 25) rfl rfl fun x84 => ?_
              refine r_lstore (i := 26) rfl rfl (Nat.le_of_ble_eq_true rfl) rfl ?_
              refine r_goto (i := 27) (tgt := 151) rfl rfl rfl ?_
              exact r_lv (fw_sub1 rfl fw_sub0) (hJ151 x84)
            · refine r_lconst (i := 21) (0 : Int64) rfl rfl rfl ?_
              refine r_goto (i := 22) (tgt := 85) rfl rfl rfl ?_
              refine r_lstore (i := 26) rfl rfl (Nat.le_of_ble_eq_true rfl) rfl ?_
              refine r_goto (i := 27) (tgt := 151) rfl rfl rfl ?_
              exact r_lv (fw_sub1 rfl fw_sub0) (hJ151 (0 : Int64))
          · refine r_split (fun e1_6 => ?_) (fun n1_6 => ?_)
            · refine r_tinK (i := 1) (tgt := 90) (len := 47) (v := (6 : Int32)) (off := 89) e1_6 rfl rfl (by decide) (by decide) rfl ?_
              refine r_lload_n (i := 28) rfl rfl rfl ?_
              refine r_lload_n (i := 29) rfl rfl rfl ?_
              refine r_lcmp (i := 30) rfl rfl ?_
              refine r_if_ne (i := 31) (tgt := 100) rfl rfl rfl ?_ ?_
              · refine r_lconst (i := 34) (0 : Int64) rfl rfl rfl ?_
                refine r_lstore (i := 35) rfl rfl (Nat.le_of_ble_eq_true rfl) rfl ?_
                refine r_goto (i := 36) (tgt := 151) rfl rfl rfl ?_
                exact r_lv (fw_sub1 rfl fw_sub0) (hJ151 (0 : Int64))
              · refine r_lconst (i := 32) (1 : Int64) rfl rfl rfl ?_
                refine r_goto (i := 33) (tgt := 101) rfl rfl rfl ?_
                refine r_lstore (i := 35) rfl rfl (Nat.le_of_ble_eq_true rfl) rfl ?_
                refine r_goto (i := 36) (tgt := 151) rfl rfl rfl ?_
                exact r_lv (fw_sub1 rfl fw_sub0) (hJ151 (1 : Int64))
            · refine r_split (fun e1_7 => ?_) (fun n1_7 => ?_)
              · refine r_tinK (i := 1) (tgt := 106) (len := 47) (v := (7 : Int32)) (off := 105) e1_7 rfl rfl (by decide) (by decide) rfl ?_
                refine r_lload_n (i := 37) rfl rfl rfl ?_
                refine r_lload_n (i := 38) rfl rfl rfl ?_
                refine r_lcmp (i := 39) rfl rfl ?_
                refine r_if_ge (i := 40) (tgt := 116) rfl rfl rfl ?_ ?_
                · refine r_lconst (i := 43) (0 : Int64) rfl rfl rfl ?_
                  refine r_lstore (i := 44) rfl rfl (Nat.le_of_ble_eq_true rfl) rfl ?_
                  refine r_goto (i := 45) (tgt := 151) rfl rfl rfl ?_
                  exact r_lv (fw_sub1 rfl fw_sub0) (hJ151 (0 : Int64))
                · refine r_lconst (i := 41) (1 : Int64) rfl rfl rfl ?_
                  refine r_goto (i := 42) (tgt := 117) rfl rfl rfl ?_
                  refine r_lstore (i := 44) rfl rfl (Nat.le_of_ble_eq_true rfl) rfl ?_
                  refine r_goto (i := 45) (tgt := 151) rfl rfl rfl ?_
                  exact r_lv (fw_sub1 rfl fw_sub0) (hJ151 (1 : Int64))
              · refine r_split (fun e1_8 => ?_) (fun n1_8 => ?_)
                · refine r_tinK (i := 1) (tgt := 122) (len := 47) (v := (8 : Int32)) (off := 121) e1_8 rfl rfl (by decide) (by decide) rfl ?_
                  refine r_lload_n (i := 46) rfl rfl rfl ?_
                  refine r_lload_n (i := 47) rfl rfl rfl ?_
                  refine r_lcmp (i := 48) rfl rfl ?_
                  refine r_if_le (i := 49) (tgt := 132) rfl rfl rfl ?_ ?_
                  · refine r_lconst (i := 52) (0 : Int64) rfl rfl rfl ?_
                    refine r_lstore (i := 53) rfl rfl (Nat.le_of_ble_eq_true rfl) rfl ?_
                    refine r_goto (i := 54) (tgt := 151) rfl rfl rfl ?_
                    exact r_lv (fw_sub1 rfl fw_sub0) (hJ151 (0 : Int64))
                  · refine r_lconst (i := 50) (1 : Int64) rfl rfl rfl ?_
                    refine r_goto (i := 51) (tgt := 133) rfl rfl rfl ?_
                    refine r_lstore (i := 53) rfl rfl (Nat.le_of_ble_eq_true rfl) rfl ?_
                    refine r_goto (i := 54) (tgt := 151) rfl rfl rfl ?_
                    exact r_lv (fw_sub1 rfl fw_sub0) (hJ151 (1 : Int64))
                · refine r_split (fun e1_9 => ?_) (fun n1_9 => ?_)
                  · refine r_tinK (i := 1) (tgt := 138) (len := 47) (v := (9 : Int32)) (off := 137) e1_9 rfl rfl (by decide) (by decide) rfl ?_
                    refine r_lload_n (i := 55) rfl rfl rfl ?_
                    refine r_lload_n (i := 56) rfl rfl rfl ?_
                    refine r_land (i := 57) rfl rfl ?_
                    refine r_lstore (i := 58) rfl rfl (Nat.le_of_ble_eq_true rfl) rfl ?_
                    refine r_goto (i := 59) (tgt := 151) rfl rfl rfl ?_
                    exact r_lv (fw_sub1 rfl fw_sub0) (hJ151 (v1 &&& v2))
                  · refine r_tout (i := 1) (tgt := 146) (len := 47) rfl rfl (by have m2 := fw_ni n1_2 (z := 2) (by decide); have m3 := fw_ni n1_3 (z := 3) (by decide); have m4 := fw_ni n1_4 (z := 4) (by decide); have m5 := fw_ni n1_5 (z := 5) (by decide); have m6 := fw_ni n1_6 (z := 6) (by decide); have m7 := fw_ni n1_7 (z := 7) (by decide); have m8 := fw_ni n1_8 (z := 8) (by decide); have m9 := fw_ni n1_9 (z := 9) (by decide); omega) rfl ?_
                    refine r_lload_n (i := 60) rfl rfl rfl ?_
                    refine r_lload_n (i := 61) rfl rfl rfl ?_
                    refine r_lor (i := 62) rfl rfl ?_
                    refine r_lstore (i := 63) rfl rfl (Nat.le_of_ble_eq_true rfl) rfl ?_
                    exact r_lv (fw_sub1 rfl fw_sub0) (hJ151 (v1 ||| v2))
-- Law_worth
def l_Law_worth_7 (v0 : Option Nat) (v1 : Option Nat) (K61 : Int32 → fw_H → Option (Int32 × fw_H)) : Nat → Int32 → Int32 → Int32 → fw_H → Option (Int32 × fw_H)
  | 0, _, _, _, _ => none
  | nn + 1, a7_2, a7_3, a7_4, g7 =>
    if (240 : Int32) ≤ a7_4 then (some ((0 : Int32), g7)) else
    (f_gI g7 v0 1 2).bind fun x17 =>
    if x17 ≤ a7_3 then (some ((0 : Int32), g7)) else
    (f_gR g7 v0 1 0).bind fun x24 =>
    (s_Rows_get g7 x24 a7_3).bind fun x28 =>
    (f_idiv x28 (10000 : Int32)).bind fun x34 =>
    (f_gR g7 v0 1 0).bind fun x38 =>
    (s_Rows_get g7 x38 a7_3).bind fun x42 =>
    (f_irem x42 (10000 : Int32)).bind fun x48 =>
    if ¬ x34 = (13 : Int32) then (if ¬ x34 = (12 : Int32) then (if ¬ x34 = (11 : Int32) then (if x34 = (0 : Int32) then ((f_gR g7 v0 1 1).bind fun x147 =>
    if ¬ x34 = (0 : Int32) then ((s_Rows_get g7 v1 x48).bind fun x164 =>
    (s_Rows_put g7 x147 a7_2 x164).bind fun h167 =>
    l_Law_worth_7 v0 v1 K61 nn (a7_2 + (1 : Int32)) (a7_3 + (1 : Int32)) (a7_4 + (1 : Int32)) h167) else
    (s_Rows_put g7 x147 a7_2 x48).bind fun h167 =>
    l_Law_worth_7 v0 v1 K61 nn (a7_2 + (1 : Int32)) (a7_3 + (1 : Int32)) (a7_4 + (1 : Int32)) h167) else
    if ¬ x34 = (1 : Int32) then ((f_gR g7 v0 1 1).bind fun x180 =>
    (f_gR g7 v0 1 1).bind fun x189 =>
    (s_Rows_get g7 x189 ((a7_2 + (-1 : Int32)) - (1 : Int32))).bind fun x195 =>
    (f_gR g7 v0 1 1).bind fun x200 =>
    (s_Rows_get g7 x200 (a7_2 + (-1 : Int32))).bind fun x204 =>
    (s_Law_joined x34 (Int32.toInt64 x195) (Int32.toInt64 x204)).bind fun x208 =>
    (s_Rows_put g7 x180 ((a7_2 + (-1 : Int32)) - (1 : Int32)) x208).bind fun h211 =>
    l_Law_worth_7 v0 v1 K61 nn (a7_2 + (-1 : Int32)) (a7_3 + (1 : Int32)) (a7_4 + (1 : Int32)) h211) else
    (f_gR g7 v0 1 1).bind fun x147 =>
    if ¬ x34 = (0 : Int32) then ((s_Rows_get g7 v1 x48).bind fun x164 =>
    (s_Rows_put g7 x147 a7_2 x164).bind fun h167 =>
    l_Law_worth_7 v0 v1 K61 nn (a7_2 + (1 : Int32)) (a7_3 + (1 : Int32)) (a7_4 + (1 : Int32)) h167) else
    (s_Rows_put g7 x147 a7_2 x48).bind fun h167 =>
    l_Law_worth_7 v0 v1 K61 nn (a7_2 + (1 : Int32)) (a7_3 + (1 : Int32)) (a7_4 + (1 : Int32)) h167) else
    (f_gR g7 v0 1 1).bind fun x111 =>
    (f_gR g7 v0 1 1).bind fun x119 =>
    (s_Rows_get g7 x119 (a7_2 - (1 : Int32))).bind fun x125 =>
    (s_Rows_put g7 x111 (a7_2 - (1 : Int32)) ((1 : Int32) - x125)).bind fun h129 =>
    l_Law_worth_7 v0 v1 K61 nn a7_2 (a7_3 + (1 : Int32)) (a7_4 + (1 : Int32)) h129) else
    (f_gR g7 v0 1 1).bind fun x83 =>
    (s_Rows_get g7 x83 (a7_2 + (-1 : Int32))).bind fun x87 =>
    if ¬ x87 = (0 : Int32) then (l_Law_worth_7 v0 v1 K61 nn (a7_2 + (-1 : Int32)) (a7_3 + (1 : Int32)) (a7_4 + (1 : Int32)) g7) else
    l_Law_worth_7 v0 v1 K61 nn (a7_2 + (-1 : Int32)) x48 (a7_4 + (1 : Int32)) g7) else
    K61 a7_2 g7
theorem cl_Law_worth_7 {G : fw_G} {v0 : Option Nat} {v1 : Option Nat} {K61 : Int32 → fw_H → Option (Int32 × fw_H)} (hK61 : ∀ (e61_2 : Int32) (he61 : fw_H), fw_R G m_Law_worth fw_wI 1 0 0 61 [(0, some (fw_r v0)), (2, some (fw_i e61_2))] [] he61 (K61 e61_2 he61)) : ∀ (nn : Nat) (a7_2 : Int32) (a7_3 : Int32) (a7_4 : Int32) (g7 : fw_H), fw_R G m_Law_worth fw_wI 1 0 0 7 [(0, some (fw_r v0)), (1, some (fw_r v1)), (2, some (fw_i a7_2)), (3, some (fw_i a7_3)), (4, some (fw_i a7_4))] [] g7 (l_Law_worth_7 v0 v1 K61 nn a7_2 a7_3 a7_4 g7) := by
  intro nn
  induction nn with
  | zero => intros; exact r_none
  | succ nn ih =>
    intro a7_2 a7_3 a7_4 g7
    rw [l_Law_worth_7]
    refine r_iload (i := 6) rfl rfl rfl ?_
    refine r_sipush (i := 7) (240 : Int32) kc_sipush_240 rfl rfl ?_
    refine r_icmp_ge (i := 8) (tgt := 220) rfl rfl rfl ?_ ?_
    · refine r_iconst (i := 111) (0 : Int32) kc_iconst_0 rfl rfl ?_
      exact r_retI (i := 112) rfl rfl rfl rfl
    · refine r_iload_n (i := 9) rfl rfl rfl ?_
      refine r_aload_n (i := 10) rfl rfl rfl ?_
      refine r_gI (i := 11) (ci := 1) (kf := 2) rfl (Nat.le_of_ble_eq_true rfl) wF_Law_22 rfl rfl fun x17 => ?_
      refine r_icmp_ge (i := 12) (tgt := 220) rfl rfl rfl ?_ ?_
      · refine r_iconst (i := 111) (0 : Int32) kc_iconst_0 rfl rfl ?_
        exact r_retI (i := 112) rfl rfl rfl rfl
      · refine r_aload_n (i := 13) rfl rfl rfl ?_
        refine r_gR (i := 14) (ci := 1) (kf := 0) rfl (Nat.le_of_ble_eq_true rfl) wF_Law_9 rfl rfl fun x24 => ?_
        refine r_iload_n (i := 15) rfl rfl rfl ?_
        refine r_SI2 (i := 16) (k2 := 0) (n2 := 0) ok_Rows_get wM_Law_46 (c_Rows_get) (Nat.le_of_ble_eq_true rfl) (Nat.le_of_ble_eq_true rfl) (Nat.le_of_ble_eq_true rfl) (Nat.le_of_ble_eq_true rfl) rfl rfl fun x28 => ?_
        refine r_sipush (i := 17) (10000 : Int32) kc_sipush_10000 rfl rfl ?_
        refine r_idivN (i := 18) rfl rfl fun x34 => ?_
        refine r_istore (i := 19) rfl rfl (Nat.le_of_ble_eq_true rfl) rfl ?_
        refine r_aload_n (i := 20) rfl rfl rfl ?_
        refine r_gR (i := 21) (ci := 1) (kf := 0) rfl (Nat.le_of_ble_eq_true rfl) wF_Law_9 rfl rfl fun x38 => ?_
        refine r_iload_n (i := 22) rfl rfl rfl ?_
        refine r_SI2 (i := 23) (k2 := 0) (n2 := 0) ok_Rows_get wM_Law_46 (c_Rows_get) (Nat.le_of_ble_eq_true rfl) (Nat.le_of_ble_eq_true rfl) (Nat.le_of_ble_eq_true rfl) (Nat.le_of_ble_eq_true rfl) rfl rfl fun x42 => ?_
        refine r_sipush (i := 24) (10000 : Int32) kc_sipush_10000 rfl rfl ?_
        refine r_iremN (i := 25) rfl rfl fun x48 => ?_
        refine r_istore (i := 26) rfl rfl (Nat.le_of_ble_eq_true rfl) rfl ?_
        refine r_iinc (i := 27) (1 : Int32) kc_iconst_1 rfl rfl rfl (Nat.le_of_ble_eq_true rfl) ?_
        refine r_iload (i := 28) rfl rfl rfl ?_
        refine r_bipush (i := 29) (13 : Int32) kc_bipush_13 rfl rfl ?_
        refine r_icmp_ne (i := 30) (tgt := 72) rfl rfl rfl ?_ ?_
        · refine r_iload (i := 38) rfl rfl rfl ?_
          refine r_bipush (i := 39) (12 : Int32) kc_bipush_12 rfl rfl ?_
          refine r_icmp_ne (i := 40) (tgt := 103) rfl rfl rfl ?_ ?_
          · refine r_iload (i := 52) rfl rfl rfl ?_
            refine r_bipush (i := 53) (11 : Int32) kc_bipush_11 rfl rfl ?_
            refine r_icmp_ne (i := 54) (tgt := 135) rfl rfl rfl ?_ ?_
            · refine r_iload (i := 70) rfl rfl rfl ?_
              refine r_if_eq (i := 71) (tgt := 146) rfl rfl rfl ?_ ?_
              · refine r_aload_n (i := 75) rfl rfl rfl ?_
                refine r_gR (i := 76) (ci := 1) (kf := 1) rfl (Nat.le_of_ble_eq_true rfl) wF_Law_15 rfl rfl fun x147 => ?_
                refine r_iload_n (i := 77) rfl rfl rfl ?_
                refine r_iload (i := 78) rfl rfl rfl ?_
                refine r_if_ne (i := 79) (tgt := 161) rfl rfl rfl ?_ ?_
                · refine r_aload_n (i := 82) rfl rfl rfl ?_
                  refine r_iload (i := 83) rfl rfl rfl ?_
                  refine r_SI2 (i := 84) (k2 := 0) (n2 := 0) ok_Rows_get wM_Law_46 (c_Rows_get) (Nat.le_of_ble_eq_true rfl) (Nat.le_of_ble_eq_true rfl) (Nat.le_of_ble_eq_true rfl) (Nat.le_of_ble_eq_true rfl) rfl rfl fun x164 => ?_
                  refine r_SV3 (i := 85) (k2 := 0) (n2 := 0) ok_Rows_put wM_Law_35 (c_Rows_put) (Nat.le_of_ble_eq_true rfl) (Nat.le_of_ble_eq_true rfl) (Nat.le_of_ble_eq_true rfl) (Nat.le_of_ble_eq_true rfl) rfl rfl fun h167 => ?_
                  refine r_iinc (i := 86) (1 : Int32) kc_iconst_1 rfl rfl rfl (Nat.le_of_ble_eq_true rfl) ?_
                  refine r_goto (i := 87) (tgt := 214) rfl rfl rfl ?_
                  refine r_iinc (i := 109) (1 : Int32) kc_iconst_1 rfl rfl rfl (Nat.le_of_ble_eq_true rfl) ?_
                  refine r_goto (i := 110) (tgt := 7) rfl rfl rfl ?_
                  exact r_lv (fw_sub1 rfl (fw_sub1 rfl (fw_sub1 rfl (fw_sub1 rfl (fw_sub1 rfl fw_sub0))))) (ih (a7_2 + (1 : Int32)) (a7_3 + (1 : Int32)) (a7_4 + (1 : Int32)) h167)
                · refine r_iload (i := 80) rfl rfl rfl ?_
                  refine r_goto (i := 81) (tgt := 167) rfl rfl rfl ?_
                  refine r_SV3 (i := 85) (k2 := 0) (n2 := 0) ok_Rows_put wM_Law_35 (c_Rows_put) (Nat.le_of_ble_eq_true rfl) (Nat.le_of_ble_eq_true rfl) (Nat.le_of_ble_eq_true rfl) (Nat.le_of_ble_eq_true rfl) rfl rfl fun h167 => ?_
                  refine r_iinc (i := 86) (1 : Int32) kc_iconst_1 rfl rfl rfl (Nat.le_of_ble_eq_true rfl) ?_
                  refine r_goto (i := 87) (tgt := 214) rfl rfl rfl ?_
                  refine r_iinc (i := 109) (1 : Int32) kc_iconst_1 rfl rfl rfl (Nat.le_of_ble_eq_true rfl) ?_
                  refine r_goto (i := 110) (tgt := 7) rfl rfl rfl ?_
                  exact r_lv (fw_sub1 rfl (fw_sub1 rfl (fw_sub1 rfl (fw_sub1 rfl (fw_sub1 rfl fw_sub0))))) (ih (a7_2 + (1 : Int32)) (a7_3 + (1 : Int32)) (a7_4 + (1 : Int32)) h167)
              · refine r_iload (i := 72) rfl rfl rfl ?_
                refine r_iconst (i := 73) (1 : Int32) kc_iconst_1 rfl rfl ?_
                refine r_icmp_ne (i := 74) (tgt := 176) rfl rfl rfl ?_ ?_
                · refine r_iinc (i := 88) (-1 : Int32) kc_iconst_m1 rfl rfl rfl (Nat.le_of_ble_eq_true rfl) ?_
                  refine r_aload_n (i := 89) rfl rfl rfl ?_
                  refine r_gR (i := 90) (ci := 1) (kf := 1) rfl (Nat.le_of_ble_eq_true rfl) wF_Law_15 rfl rfl fun x180 => ?_
                  refine r_iload_n (i := 91) rfl rfl rfl ?_
                  refine r_iconst (i := 92) (1 : Int32) kc_iconst_1 rfl rfl ?_
                  refine r_isub (i := 93) rfl rfl ?_
                  refine r_iload (i := 94) rfl rfl rfl ?_
                  refine r_aload_n (i := 95) rfl rfl rfl ?_
                  refine r_gR (i := 96) (ci := 1) (kf := 1) rfl (Nat.le_of_ble_eq_true rfl) wF_Law_15 rfl rfl fun x189 => ?_
                  refine r_iload_n (i := 97) rfl rfl rfl ?_
                  refine r_iconst (i := 98) (1 : Int32) kc_iconst_1 rfl rfl ?_
                  refine r_isub (i := 99) rfl rfl ?_
                  refine r_SI2 (i := 100) (k2 := 0) (n2 := 0) ok_Rows_get wM_Law_46 (c_Rows_get) (Nat.le_of_ble_eq_true rfl) (Nat.le_of_ble_eq_true rfl) (Nat.le_of_ble_eq_true rfl) (Nat.le_of_ble_eq_true rfl) rfl rfl fun x195 => ?_
                  refine r_i2l (i := 101) rfl rfl ?_
                  refine r_aload_n (i := 102) rfl rfl rfl ?_
                  refine r_gR (i := 103) (ci := 1) (kf := 1) rfl (Nat.le_of_ble_eq_true rfl) wF_Law_15 rfl rfl fun x200 => ?_
                  refine r_iload_n (i := 104) rfl rfl rfl ?_
                  refine r_SI2 (i := 105) (k2 := 0) (n2 := 0) ok_Rows_get wM_Law_46 (c_Rows_get) (Nat.le_of_ble_eq_true rfl) (Nat.le_of_ble_eq_true rfl) (Nat.le_of_ble_eq_true rfl) (Nat.le_of_ble_eq_true rfl) rfl rfl fun x204 => ?_
                  refine r_i2l (i := 106) rfl rfl ?_
                  refine r_SI3 (i := 107) (k2 := 0) (n2 := 0) ok_Law_joined wM_Law_50 (c_Law_joined) (Nat.le_of_ble_eq_true rfl) (Nat.le_of_ble_eq_true rfl) (Nat.le_of_ble_eq_true rfl) (Nat.le_of_ble_eq_true rfl) rfl rfl fun x208 => ?_
                  refine r_SV3 (i := 108) (k2 := 0) (n2 := 0) ok_Rows_put wM_Law_35 (c_Rows_put) (Nat.le_of_ble_eq_true rfl) (Nat.le_of_ble_eq_true rfl) (Nat.le_of_ble_eq_true rfl) (Nat.le_of_ble_eq_true rfl) rfl rfl fun h211 => ?_
                  refine r_iinc (i := 109) (1 : Int32) kc_iconst_1 rfl rfl rfl (Nat.le_of_ble_eq_true rfl) ?_
                  refine r_goto (i := 110) (tgt := 7) rfl rfl rfl ?_
                  exact r_lv (fw_sub1 rfl (fw_sub1 rfl (fw_sub1 rfl (fw_sub1 rfl (fw_sub1 rfl fw_sub0))))) (ih (a7_2 + (-1 : Int32)) (a7_3 + (1 : Int32)) (a7_4 + (1 : Int32)) h211)
                · refine r_aload_n (i := 75) rfl rfl rfl ?_
                  refine r_gR (i := 76) (ci := 1) (kf := 1) rfl (Nat.le_of_ble_eq_true rfl) wF_Law_15 rfl rfl fun x147 => ?_
                  refine r_iload_n (i := 77) rfl rfl rfl ?_
                  refine r_iload (i := 78) rfl rfl rfl ?_
                  refine r_if_ne (i := 79) (tgt := 161) rfl rfl rfl ?_ ?_
                  · refine r_aload_n (i := 82) rfl rfl rfl ?_
                    refine r_iload (i := 83) rfl rfl rfl ?_
                    refine r_SI2 (i := 84) (k2 := 0) (n2 := 0) ok_Rows_get wM_Law_46 (c_Rows_get) (Nat.le_of_ble_eq_true rfl) (Nat.le_of_ble_eq_true rfl) (Nat.le_of_ble_eq_true rfl) (Nat.le_of_ble_eq_true rfl) rfl rfl fun x164 => ?_
                    refine r_SV3 (i := 85) (k2 := 0) (n2 := 0) ok_Rows_put wM_Law_35 (c_Rows_put) (Nat.le_of_ble_eq_true rfl) (Nat.le_of_ble_eq_true rfl) (Nat.le_of_ble_eq_true rfl) (Nat.le_of_ble_eq_true rfl) rfl rfl fun h167 => ?_
                    refine r_iinc (i := 86) (1 : Int32) kc_iconst_1 rfl rfl rfl (Nat.le_of_ble_eq_true rfl) ?_
                    refine r_goto (i := 87) (tgt := 214) rfl rfl rfl ?_
                    refine r_iinc (i := 109) (1 : Int32) kc_iconst_1 rfl rfl rfl (Nat.le_of_ble_eq_true rfl) ?_
                    refine r_goto (i := 110) (tgt := 7) rfl rfl rfl ?_
                    exact r_lv (fw_sub1 rfl (fw_sub1 rfl (fw_sub1 rfl (fw_sub1 rfl (fw_sub1 rfl fw_sub0))))) (ih (a7_2 + (1 : Int32)) (a7_3 + (1 : Int32)) (a7_4 + (1 : Int32)) h167)
                  · refine r_iload (i := 80) rfl rfl rfl ?_
                    refine r_goto (i := 81) (tgt := 167) rfl rfl rfl ?_
                    refine r_SV3 (i := 85) (k2 := 0) (n2 := 0) ok_Rows_put wM_Law_35 (c_Rows_put) (Nat.le_of_ble_eq_true rfl) (Nat.le_of_ble_eq_true rfl) (Nat.le_of_ble_eq_true rfl) (Nat.le_of_ble_eq_true rfl) rfl rfl fun h167 => ?_
                    refine r_iinc (i := 86) (1 : Int32) kc_iconst_1 rfl rfl rfl (Nat.le_of_ble_eq_true rfl) ?_
                    refine r_goto (i := 87) (tgt := 214) rfl rfl rfl ?_
                    refine r_iinc (i := 109) (1 : Int32) kc_iconst_1 rfl rfl rfl (Nat.le_of_ble_eq_true rfl) ?_
                    refine r_goto (i := 110) (tgt := 7) rfl rfl rfl ?_
                    exact r_lv (fw_sub1 rfl (fw_sub1 rfl (fw_sub1 rfl (fw_sub1 rfl (fw_sub1 rfl fw_sub0))))) (ih (a7_2 + (1 : Int32)) (a7_3 + (1 : Int32)) (a7_4 + (1 : Int32)) h167)
            · refine r_aload_n (i := 55) rfl rfl rfl ?_
              refine r_gR (i := 56) (ci := 1) (kf := 1) rfl (Nat.le_of_ble_eq_true rfl) wF_Law_15 rfl rfl fun x111 => ?_
              refine r_iload_n (i := 57) rfl rfl rfl ?_
              refine r_iconst (i := 58) (1 : Int32) kc_iconst_1 rfl rfl ?_
              refine r_isub (i := 59) rfl rfl ?_
              refine r_iconst (i := 60) (1 : Int32) kc_iconst_1 rfl rfl ?_
              refine r_aload_n (i := 61) rfl rfl rfl ?_
              refine r_gR (i := 62) (ci := 1) (kf := 1) rfl (Nat.le_of_ble_eq_true rfl) wF_Law_15 rfl rfl fun x119 => ?_
              refine r_iload_n (i := 63) rfl rfl rfl ?_
              refine r_iconst (i := 64) (1 : Int32) kc_iconst_1 rfl rfl ?_
              refine r_isub (i := 65) rfl rfl ?_
              refine r_SI2 (i := 66) (k2 := 0) (n2 := 0) ok_Rows_get wM_Law_46 (c_Rows_get) (Nat.le_of_ble_eq_true rfl) (Nat.le_of_ble_eq_true rfl) (Nat.le_of_ble_eq_true rfl) (Nat.le_of_ble_eq_true rfl) rfl rfl fun x125 => ?_
              refine r_isub (i := 67) rfl rfl ?_
              refine r_SV3 (i := 68) (k2 := 0) (n2 := 0) ok_Rows_put wM_Law_35 (c_Rows_put) (Nat.le_of_ble_eq_true rfl) (Nat.le_of_ble_eq_true rfl) (Nat.le_of_ble_eq_true rfl) (Nat.le_of_ble_eq_true rfl) rfl rfl fun h129 => ?_
              refine r_goto (i := 69) (tgt := 214) rfl rfl rfl ?_
              refine r_iinc (i := 109) (1 : Int32) kc_iconst_1 rfl rfl rfl (Nat.le_of_ble_eq_true rfl) ?_
              refine r_goto (i := 110) (tgt := 7) rfl rfl rfl ?_
              exact r_lv (fw_sub1 rfl (fw_sub1 rfl (fw_sub1 rfl (fw_sub1 rfl (fw_sub1 rfl fw_sub0))))) (ih a7_2 (a7_3 + (1 : Int32)) (a7_4 + (1 : Int32)) h129)
          · refine r_iinc (i := 41) (-1 : Int32) kc_iconst_m1 rfl rfl rfl (Nat.le_of_ble_eq_true rfl) ?_
            refine r_aload_n (i := 42) rfl rfl rfl ?_
            refine r_gR (i := 43) (ci := 1) (kf := 1) rfl (Nat.le_of_ble_eq_true rfl) wF_Law_15 rfl rfl fun x83 => ?_
            refine r_iload_n (i := 44) rfl rfl rfl ?_
            refine r_SI2 (i := 45) (k2 := 0) (n2 := 0) ok_Rows_get wM_Law_46 (c_Rows_get) (Nat.le_of_ble_eq_true rfl) (Nat.le_of_ble_eq_true rfl) (Nat.le_of_ble_eq_true rfl) (Nat.le_of_ble_eq_true rfl) rfl rfl fun x87 => ?_
            refine r_if_ne (i := 46) (tgt := 98) rfl rfl rfl ?_ ?_
            · refine r_iload_n (i := 49) rfl rfl rfl ?_
              refine r_istore_n (i := 50) rfl rfl (Nat.le_of_ble_eq_true rfl) rfl ?_
              refine r_goto (i := 51) (tgt := 214) rfl rfl rfl ?_
              refine r_iinc (i := 109) (1 : Int32) kc_iconst_1 rfl rfl rfl (Nat.le_of_ble_eq_true rfl) ?_
              refine r_goto (i := 110) (tgt := 7) rfl rfl rfl ?_
              exact r_lv (fw_sub1 rfl (fw_sub1 rfl (fw_sub1 rfl (fw_sub1 rfl (fw_sub1 rfl fw_sub0))))) (ih (a7_2 + (-1 : Int32)) (a7_3 + (1 : Int32)) (a7_4 + (1 : Int32)) g7)
            · refine r_iload (i := 47) rfl rfl rfl ?_
              refine r_goto (i := 48) (tgt := 99) rfl rfl rfl ?_
              refine r_istore_n (i := 50) rfl rfl (Nat.le_of_ble_eq_true rfl) rfl ?_
              refine r_goto (i := 51) (tgt := 214) rfl rfl rfl ?_
              refine r_iinc (i := 109) (1 : Int32) kc_iconst_1 rfl rfl rfl (Nat.le_of_ble_eq_true rfl) ?_
              refine r_goto (i := 110) (tgt := 7) rfl rfl rfl ?_
              exact r_lv (fw_sub1 rfl (fw_sub1 rfl (fw_sub1 rfl (fw_sub1 rfl (fw_sub1 rfl fw_sub0))))) (ih (a7_2 + (-1 : Int32)) x48 (a7_4 + (1 : Int32)) g7)
        · exact r_lv (fw_sub1 rfl (fw_sub1 rfl fw_sub0)) (hK61 a7_2 g7)
def s_Law_worth (F : Nat) (h : fw_H) (v0 : Option Nat) (v1 : Option Nat) : Option (Int32 × fw_H) :=
(f_ck h v0 1).bind fun _ =>
l_Law_worth_7 v0 v1 (fun e61_2 he61 =>
(f_gR he61 v0 1 1).bind fun x62 =>
(s_Rows_get he61 x62 (e61_2 - (1 : Int32))).bind fun x68 =>
some (x68, he61)) F (0 : Int32) (0 : Int32) (0 : Int32) h
theorem c_Law_worth {G : fw_G} (F : Nat) {h : fw_H} {v0 : Option Nat} {v1 : Option Nat} : fw_Call G m_Law_worth fw_wI 1 0 0 [fw_r v0, fw_r v1] h (s_Law_worth F h v0 v1) := by
  refine fw_Call.of ok_Law_worth.1 (Nat.le_of_ble_eq_true rfl) [(0, some (fw_r v0)), (1, some (fw_r v1))] rfl ?_
  refine r_ck ?_
  refine r_iconst (i := 0) (0 : Int32) kc_iconst_0 rfl rfl ?_
  refine r_istore_n (i := 1) rfl rfl (Nat.le_of_ble_eq_true rfl) rfl ?_
  refine r_iconst (i := 2) (0 : Int32) kc_iconst_0 rfl rfl ?_
  refine r_istore_n (i := 3) rfl rfl (Nat.le_of_ble_eq_true rfl) rfl ?_
  refine r_iconst (i := 4) (0 : Int32) kc_iconst_0 rfl rfl ?_
  refine r_istore (i := 5) rfl rfl (Nat.le_of_ble_eq_true rfl) rfl ?_
  refine r_lv (fw_sub1 rfl (fw_sub1 rfl (fw_sub1 rfl (fw_sub1 rfl (fw_sub1 rfl fw_sub0))))) (cl_Law_worth_7 ?_ F _ _ _ _)
  · intro e61_2 he61
    refine r_aload_n (i := 31) rfl rfl rfl ?_
    refine r_gR (i := 32) (ci := 1) (kf := 1) rfl (Nat.le_of_ble_eq_true rfl) wF_Law_15 rfl rfl fun x62 => ?_
    refine r_iload_n (i := 33) rfl rfl rfl ?_
    refine r_iconst (i := 34) (1 : Int32) kc_iconst_1 rfl rfl ?_
    refine r_isub (i := 35) rfl rfl ?_
    refine r_SI2 (i := 36) (k2 := 0) (n2 := 0) ok_Rows_get wM_Law_46 (c_Rows_get) (Nat.le_of_ble_eq_true rfl) (Nat.le_of_ble_eq_true rfl) (Nat.le_of_ble_eq_true rfl) (Nat.le_of_ble_eq_true rfl) rfl rfl fun x68 => ?_
    exact r_retI (i := 37) rfl rfl rfl rfl
-- LText_init
def s_LText_init (h : fw_H) (v0 : Option Nat) (v1 : Option Nat) : Option fw_H :=
fw_new h (fw_O 1 [fw_r none, fw_r none, fw_i 0, fw_i 0, fw_i 0]) fun q5 h5 =>
(s_Law_init h5 q5).bind fun h9 =>
(f_pR h9 v0 2 1 q5).bind fun h12 =>
(f_pR h12 v0 2 0 v1).bind fun h17 =>
some h17
theorem c_LText_init {G : fw_G} {h : fw_H} {v0 : Option Nat} {v1 : Option Nat} (hv0 : v0.isSome = true) : fw_Call G m_LText_init fw_eV 2 3 285 [fw_r v0, fw_r v1] h (s_LText_init h v0 v1) := by
  refine fw_Call.of ok_LText_init.1 (Nat.le_of_ble_eq_true rfl) [(0, some (fw_r v0)), (1, some (fw_r v1))] rfl ?_
  refine r_aload_n (i := 0) rfl rfl rfl ?_
  refine r_obji (i := 1) hv0 (Nat.le_of_ble_eq_true rfl) (Nat.le_of_ble_eq_true rfl) wM_LText_3 wO_1 wO_2 rfl rfl ?_
  refine r_aload_n (i := 2) rfl rfl rfl ?_
  refine r_newON (i := 3) (k2 := 2) (n2 := 280) (ci := 1) rfl dfl_1 (Nat.le_of_ble_eq_true rfl) (Nat.le_of_ble_eq_true rfl) wC_LText_9 wN_Law wI_Law rfl rfl fun q5 h5 es5 => ?_
  refine r_dup_r (i := 4) rfl rfl ?_
  refine r_NV0 (i := 5) (k2 := 0) (n2 := 0) ok_Law_init wM_LText_11 es5 (c_Law_init es5) (Nat.le_of_ble_eq_true rfl) (Nat.le_of_ble_eq_true rfl) (Nat.le_of_ble_eq_true rfl) (Nat.le_of_ble_eq_true rfl) rfl rfl fun h9 => ?_
  refine r_pRF (i := 6) (ci := 2) (kf := 1) rfl (Nat.le_of_ble_eq_true rfl) wF_LText_12 rfl rfl rfl ⟨_, (tyX2_ok 1 (Nat.le_of_ble_eq_true rfl)), Or.inl ⟨_, rfl⟩⟩ rfl rfl fun h12 => ?_
  refine r_aload_n (i := 7) rfl rfl rfl ?_
  refine r_aload_n (i := 8) rfl rfl rfl ?_
  refine r_pRF (i := 9) (ci := 2) (kf := 0) rfl (Nat.le_of_ble_eq_true rfl) wF_LText_18 rfl rfl rfl ⟨_, (tyX2_ok 0 (Nat.le_of_ble_eq_true rfl)), Or.inl ⟨_, rfl⟩⟩ rfl rfl fun h17 => ?_
  exact r_retV (i := 10) rfl rfl rfl rfl
-- Tape_rewind
def s_Tape_rewind (h : fw_H) (v0 : Option Nat) : Option fw_H :=
(f_ck h v0 6).bind fun _ =>
(f_pI h v0 6 2 (0 : Int32)).bind fun h2 =>
(f_pI h2 v0 6 3 (-1 : Int32)).bind fun h7 =>
some h7
theorem c_Tape_rewind {G : fw_G} {h : fw_H} {v0 : Option Nat} : fw_Call G m_Tape_rewind fw_eV 0 0 0 [fw_r v0] h (s_Tape_rewind h v0) := by
  refine fw_Call.of ok_Tape_rewind.1 (Nat.le_of_ble_eq_true rfl) [(0, some (fw_r v0))] rfl ?_
  refine r_ck ?_
  refine r_aload_n (i := 0) rfl rfl rfl ?_
  refine r_iconst (i := 1) (0 : Int32) kc_iconst_0 rfl rfl ?_
  refine r_pI (i := 2) (ci := 6) (kf := 2) rfl (Nat.le_of_ble_eq_true rfl) wF_Tape_28 rfl (tyX6_ok 2 (Nat.le_of_ble_eq_true rfl)) rfl rfl fun h2 => ?_
  refine r_aload_n (i := 3) rfl rfl rfl ?_
  refine r_iconst (i := 4) (-1 : Int32) kc_iconst_m1 rfl rfl ?_
  refine r_pI (i := 5) (ci := 6) (kf := 3) rfl (Nat.le_of_ble_eq_true rfl) wF_Tape_15 rfl (tyX6_ok 3 (Nat.le_of_ble_eq_true rfl)) rfl rfl fun h7 => ?_
  exact r_retV (i := 6) rfl rfl rfl rfl
-- Tape_peek
def l_Tape_peek_15 (v0 : Option Nat) : Nat → Int32 → fw_H → Option (Int32 × fw_H)
  | 0, _, _ => none
  | nn + 1, a15_1, g15 =>
    if a15_1 < (0 : Int32) then ((f_gI g15 v0 6 1).bind fun x67 =>
    (f_pI g15 v0 6 2 x67).bind fun h70 =>
    some ((-1 : Int32), h70)) else
    (f_gI g15 v0 6 1).bind fun x21 =>
    if x21 ≤ a15_1 then ((f_gI g15 v0 6 1).bind fun x67 =>
    (f_pI g15 v0 6 2 x67).bind fun h70 =>
    some ((-1 : Int32), h70)) else
    (f_gR g15 v0 6 0).bind fun x29 =>
    (f_lnI g15 x29).bind fun x32 =>
    if x32 ≤ a15_1 then ((f_gI g15 v0 6 1).bind fun x67 =>
    (f_pI g15 v0 6 2 x67).bind fun h70 =>
    some ((-1 : Int32), h70)) else
    (f_pI g15 v0 6 2 a15_1).bind fun h38 =>
    (f_gR h38 v0 6 0).bind fun x42 =>
    (f_aI h38 x42 a15_1).bind fun x46 =>
    if x46 = (32 : Int32) then (l_Tape_peek_15 v0 nn (a15_1 + (1 : Int32)) h38) else
    (f_gR h38 v0 6 0).bind fun x53 =>
    (f_aI h38 x53 a15_1).bind fun x57 =>
    some (x57, h38)
theorem cl_Tape_peek_15 {G : fw_G} {v0 : Option Nat} : ∀ (nn : Nat) (a15_1 : Int32) (g15 : fw_H), fw_R G m_Tape_peek fw_wI 0 0 0 15 [(0, some (fw_r v0)), (1, some (fw_i a15_1))] [] g15 (l_Tape_peek_15 v0 nn a15_1 g15) := by
  intro nn
  induction nn with
  | zero => intros; exact r_none
  | succ nn ih =>
    intro a15_1 g15
    rw [l_Tape_peek_15]
    refine r_iload_n (i := 9) rfl rfl rfl ?_
    refine r_if_lt (i := 10) (tgt := 65) rfl rfl rfl ?_ ?_
    · refine r_aload_n (i := 36) rfl rfl rfl ?_
      refine r_aload_n (i := 37) rfl rfl rfl ?_
      refine r_gI (i := 38) (ci := 6) (kf := 1) rfl (Nat.le_of_ble_eq_true rfl) wF_Tape_19 rfl rfl fun x67 => ?_
      refine r_pI (i := 39) (ci := 6) (kf := 2) rfl (Nat.le_of_ble_eq_true rfl) wF_Tape_28 rfl (tyX6_ok 2 (Nat.le_of_ble_eq_true rfl)) rfl rfl fun h70 => ?_
      refine r_iconst (i := 40) (-1 : Int32) kc_iconst_m1 rfl rfl ?_
      exact r_retI (i := 41) rfl rfl rfl rfl
    · refine r_iload_n (i := 11) rfl rfl rfl ?_
      refine r_aload_n (i := 12) rfl rfl rfl ?_
      refine r_gI (i := 13) (ci := 6) (kf := 1) rfl (Nat.le_of_ble_eq_true rfl) wF_Tape_19 rfl rfl fun x21 => ?_
      refine r_icmp_ge (i := 14) (tgt := 65) rfl rfl rfl ?_ ?_
      · refine r_aload_n (i := 36) rfl rfl rfl ?_
        refine r_aload_n (i := 37) rfl rfl rfl ?_
        refine r_gI (i := 38) (ci := 6) (kf := 1) rfl (Nat.le_of_ble_eq_true rfl) wF_Tape_19 rfl rfl fun x67 => ?_
        refine r_pI (i := 39) (ci := 6) (kf := 2) rfl (Nat.le_of_ble_eq_true rfl) wF_Tape_28 rfl (tyX6_ok 2 (Nat.le_of_ble_eq_true rfl)) rfl rfl fun h70 => ?_
        refine r_iconst (i := 40) (-1 : Int32) kc_iconst_m1 rfl rfl ?_
        exact r_retI (i := 41) rfl rfl rfl rfl
      · refine r_iload_n (i := 15) rfl rfl rfl ?_
        refine r_aload_n (i := 16) rfl rfl rfl ?_
        refine r_gR (i := 17) (ci := 6) (kf := 0) rfl (Nat.le_of_ble_eq_true rfl) wF_Tape_9 rfl rfl fun x29 => ?_
        refine r_lnI (i := 18) rfl rfl fun x32 => ?_
        refine r_icmp_ge (i := 19) (tgt := 65) rfl rfl rfl ?_ ?_
        · refine r_aload_n (i := 36) rfl rfl rfl ?_
          refine r_aload_n (i := 37) rfl rfl rfl ?_
          refine r_gI (i := 38) (ci := 6) (kf := 1) rfl (Nat.le_of_ble_eq_true rfl) wF_Tape_19 rfl rfl fun x67 => ?_
          refine r_pI (i := 39) (ci := 6) (kf := 2) rfl (Nat.le_of_ble_eq_true rfl) wF_Tape_28 rfl (tyX6_ok 2 (Nat.le_of_ble_eq_true rfl)) rfl rfl fun h70 => ?_
          refine r_iconst (i := 40) (-1 : Int32) kc_iconst_m1 rfl rfl ?_
          exact r_retI (i := 41) rfl rfl rfl rfl
        · refine r_aload_n (i := 20) rfl rfl rfl ?_
          refine r_iload_n (i := 21) rfl rfl rfl ?_
          refine r_pI (i := 22) (ci := 6) (kf := 2) rfl (Nat.le_of_ble_eq_true rfl) wF_Tape_28 rfl (tyX6_ok 2 (Nat.le_of_ble_eq_true rfl)) rfl rfl fun h38 => ?_
          refine r_aload_n (i := 23) rfl rfl rfl ?_
          refine r_gR (i := 24) (ci := 6) (kf := 0) rfl (Nat.le_of_ble_eq_true rfl) wF_Tape_9 rfl rfl fun x42 => ?_
          refine r_iload_n (i := 25) rfl rfl rfl ?_
          refine r_aI (i := 26) rfl rfl fun x46 => ?_
          refine r_bipush (i := 27) (32 : Int32) kc_bipush_32 rfl rfl ?_
          refine r_icmp_eq (i := 28) (tgt := 59) rfl rfl rfl ?_ ?_
          · refine r_iinc (i := 34) (1 : Int32) kc_iconst_1 rfl rfl rfl (Nat.le_of_ble_eq_true rfl) ?_
            refine r_goto (i := 35) (tgt := 15) rfl rfl rfl ?_
            exact r_lv (fw_sub1 rfl (fw_sub1 rfl fw_sub0)) (ih (a15_1 + (1 : Int32)) h38)
          · refine r_aload_n (i := 29) rfl rfl rfl ?_
            refine r_gR (i := 30) (ci := 6) (kf := 0) rfl (Nat.le_of_ble_eq_true rfl) wF_Tape_9 rfl rfl fun x53 => ?_
            refine r_iload_n (i := 31) rfl rfl rfl ?_
            refine r_aI (i := 32) rfl rfl fun x57 => ?_
            exact r_retI (i := 33) rfl rfl rfl rfl
def s_Tape_peek (F : Nat) (h : fw_H) (v0 : Option Nat) : Option (Int32 × fw_H) :=
(f_ck h v0 6).bind fun _ =>
(f_gI h v0 6 3).bind fun x1 =>
if x1 = (-1 : Int32) then ((f_gI h v0 6 2).bind fun x11 =>
l_Tape_peek_15 v0 F x11 h) else
some ((-1 : Int32), h)
theorem c_Tape_peek {G : fw_G} (F : Nat) {h : fw_H} {v0 : Option Nat} : fw_Call G m_Tape_peek fw_wI 0 0 0 [fw_r v0] h (s_Tape_peek F h v0) := by
  refine fw_Call.of ok_Tape_peek.1 (Nat.le_of_ble_eq_true rfl) [(0, some (fw_r v0))] rfl ?_
  refine r_ck ?_
  refine r_aload_n (i := 0) rfl rfl rfl ?_
  refine r_gI (i := 1) (ci := 6) (kf := 3) rfl (Nat.le_of_ble_eq_true rfl) wF_Tape_15 rfl rfl fun x1 => ?_
  refine r_iconst (i := 2) (-1 : Int32) kc_iconst_m1 rfl rfl ?_
  refine r_icmp_eq (i := 3) (tgt := 10) rfl rfl rfl ?_ ?_
  · refine r_aload_n (i := 6) rfl rfl rfl ?_
    refine r_gI (i := 7) (ci := 6) (kf := 2) rfl (Nat.le_of_ble_eq_true rfl) wF_Tape_28 rfl rfl fun x11 => ?_
    refine r_istore_n (i := 8) rfl rfl (Nat.le_of_ble_eq_true rfl) rfl ?_
    refine r_lv (fw_sub1 rfl (fw_sub1 rfl fw_sub0)) (cl_Tape_peek_15 F _ _)
  · refine r_iconst (i := 4) (-1 : Int32) kc_iconst_m1 rfl rfl ?_
    exact r_retI (i := 5) rfl rfl rfl rfl
-- Tape_failAt
def s_Tape_failAt (h : fw_H) (v0 : Option Nat) (v1 : Int32) : Option fw_H :=
(f_ck h v0 6).bind fun _ =>
(f_gI h v0 6 3).bind fun x1 =>
if ¬ x1 = (-1 : Int32) then (some h) else
(f_pI h v0 6 3 v1).bind fun h10 =>
some h10
theorem c_Tape_failAt {G : fw_G} {h : fw_H} {v0 : Option Nat} {v1 : Int32} : fw_Call G m_Tape_failAt fw_eV 0 0 0 [fw_r v0, fw_i v1] h (s_Tape_failAt h v0 v1) := by
  refine fw_Call.of ok_Tape_failAt.1 (Nat.le_of_ble_eq_true rfl) [(0, some (fw_r v0)), (1, some (fw_i v1))] rfl ?_
  refine r_ck ?_
  refine r_aload_n (i := 0) rfl rfl rfl ?_
  refine r_gI (i := 1) (ci := 6) (kf := 3) rfl (Nat.le_of_ble_eq_true rfl) wF_Tape_15 rfl rfl fun x1 => ?_
  refine r_iconst (i := 2) (-1 : Int32) kc_iconst_m1 rfl rfl ?_
  refine r_icmp_ne (i := 3) (tgt := 13) rfl rfl rfl ?_ ?_
  · exact r_retV (i := 7) rfl rfl rfl rfl
  · refine r_aload_n (i := 4) rfl rfl rfl ?_
    refine r_iload_n (i := 5) rfl rfl rfl ?_
    refine r_pI (i := 6) (ci := 6) (kf := 3) rfl (Nat.le_of_ble_eq_true rfl) wF_Tape_15 rfl (tyX6_ok 3 (Nat.le_of_ble_eq_true rfl)) rfl rfl fun h10 => ?_
    exact r_retV (i := 7) rfl rfl rfl rfl
-- Tape_expect
def s_Tape_expect (F : Nat) (h : fw_H) (v0 : Option Nat) (v1 : Int32) : Option fw_H :=
(f_ck h v0 6).bind fun _ =>
(s_Tape_peek F h v0).bind fun x1 =>
if ¬ x1.1 = v1 then ((f_gI x1.2 v0 6 2).bind fun x23 =>
(s_Tape_failAt x1.2 v0 x23).bind fun h26 =>
some h26) else
(f_gI x1.2 v0 6 2).bind fun x10 =>
(f_pI x1.2 v0 6 2 (x10 + (1 : Int32))).bind fun h15 =>
some h15
theorem c_Tape_expect {G : fw_G} (F : Nat) {h : fw_H} {v0 : Option Nat} {v1 : Int32} : fw_Call G m_Tape_expect fw_eV 1 0 0 [fw_r v0, fw_i v1] h (s_Tape_expect F h v0 v1) := by
  refine fw_Call.of ok_Tape_expect.1 (Nat.le_of_ble_eq_true rfl) [(0, some (fw_r v0)), (1, some (fw_i v1))] rfl ?_
  refine r_ck ?_
  refine r_aload_n (i := 0) rfl rfl rfl ?_
  refine r_VwI0 (i := 1) (k2 := 0) (n2 := 0) ok_Tape_peek wM_Tape_35 (c_Tape_peek F) (fun _ e => fw_ckb e) (Nat.le_of_ble_eq_true rfl) (Nat.le_of_ble_eq_true rfl) (Nat.le_of_ble_eq_true rfl) (Nat.le_of_ble_eq_true rfl) rfl rfl fun x1 => ?_
  refine r_iload_n (i := 2) rfl rfl rfl ?_
  refine r_icmp_ne (i := 3) (tgt := 21) rfl rfl rfl ?_ ?_
  · refine r_aload_n (i := 11) rfl rfl rfl ?_
    refine r_aload_n (i := 12) rfl rfl rfl ?_
    refine r_gI (i := 13) (ci := 6) (kf := 2) rfl (Nat.le_of_ble_eq_true rfl) wF_Tape_28 rfl rfl fun x23 => ?_
    refine r_VV1 (i := 14) (k2 := 0) (n2 := 0) ok_Tape_failAt wM_Tape_31 (c_Tape_failAt) (fun _ e => fw_ckb e) (Nat.le_of_ble_eq_true rfl) (Nat.le_of_ble_eq_true rfl) (Nat.le_of_ble_eq_true rfl) (Nat.le_of_ble_eq_true rfl) rfl rfl fun h26 => ?_
    exact r_retV (i := 15) rfl rfl rfl rfl
  · refine r_aload_n (i := 4) rfl rfl rfl ?_
    refine r_dup_r (i := 5) rfl rfl ?_
    refine r_gI (i := 6) (ci := 6) (kf := 2) rfl (Nat.le_of_ble_eq_true rfl) wF_Tape_28 rfl rfl fun x10 => ?_
    refine r_iconst (i := 7) (1 : Int32) kc_iconst_1 rfl rfl ?_
    refine r_iadd (i := 8) rfl rfl ?_
    refine r_pI (i := 9) (ci := 6) (kf := 2) rfl (Nat.le_of_ble_eq_true rfl) wF_Tape_28 rfl (tyX6_ok 2 (Nat.le_of_ble_eq_true rfl)) rfl rfl fun h15 => ?_
    refine r_goto (i := 10) (tgt := 29) rfl rfl rfl ?_
    exact r_retV (i := 15) rfl rfl rfl rfl
-- Jdk_isLatin1
def s_Jdk_isLatin1 (h : fw_H) (v0 : Option Nat) : Option Bool :=
(f_ckS h v0).bind fun _ =>
if (1 : Int32) = (0 : Int32) then (some false) else
(f_gC h v0).bind fun x7 =>
if ¬ x7 = (0 : Int32) then (some false) else
some true
theorem c_Jdk_isLatin1 {G : fw_G} {h : fw_H} {v0 : Option Nat} : fw_Call G m_Jdk_isLatin1 (fw_eB h) 0 0 0 [fw_r v0] h (s_Jdk_isLatin1 h v0) := by
  refine fw_Call.of ok_Jdk_isLatin1.1 (Nat.le_of_ble_eq_true rfl) [(0, some (fw_r v0))] rfl ?_
  refine r_ckS ?_
  refine r_getsC (i := 0) wF_JStr_38 rfl rfl ?_
  refine r_if_eq (i := 1) (tgt := 17) rfl rfl rfl ?_ ?_
  · refine r_iconst (i := 7) (0 : Int32) kc_iconst_0 rfl rfl ?_
    exact r_retB (x := false) (i := 8) rfl rfl rfl rfl
  · refine r_aload_n (i := 2) rfl rfl rfl ?_
    refine r_gC (i := 3) wF_JStr_15 rfl rfl fun x7 => ?_
    refine r_if_ne (i := 4) (tgt := 17) rfl rfl rfl ?_ ?_
    · refine r_iconst (i := 7) (0 : Int32) kc_iconst_0 rfl rfl ?_
      exact r_retB (x := false) (i := 8) rfl rfl rfl rfl
    · refine r_iconst (i := 5) (1 : Int32) kc_iconst_1 rfl rfl ?_
      refine r_goto (i := 6) (tgt := 18) rfl rfl rfl ?_
      exact r_retB (x := true) (i := 8) rfl rfl rfl rfl
-- Jdk_coder
def s_Jdk_coder (h : fw_H) (v0 : Option Nat) : Option Int32 :=
(f_ckS h v0).bind fun _ =>
if (1 : Int32) = (0 : Int32) then ((f_toY (1 : Int32)).bind fun y =>
some y) else
(f_gC h v0).bind fun x7 =>
(f_toY x7).bind fun y =>
some y
theorem c_Jdk_coder {G : fw_G} {h : fw_H} {v0 : Option Nat} : fw_Call G m_Jdk_coder (fw_eI h) 0 0 0 [fw_r v0] h (s_Jdk_coder h v0) := by
  refine fw_Call.of ok_Jdk_coder.1 (Nat.le_of_ble_eq_true rfl) [(0, some (fw_r v0))] rfl ?_
  refine r_ckS ?_
  refine r_getsC (i := 0) wF_JStr_38 rfl rfl ?_
  refine r_if_eq (i := 1) (tgt := 13) rfl rfl rfl ?_ ?_
  · refine r_iconst (i := 5) (1 : Int32) kc_iconst_1 rfl rfl ?_
    exact r_retY (i := 6) (fun y _ => ⟨y, rfl, rfl⟩) rfl rfl rfl
  · refine r_aload_n (i := 2) rfl rfl rfl ?_
    refine r_gC (i := 3) wF_JStr_15 rfl rfl fun x7 => ?_
    refine r_goto (i := 4) (tgt := 14) rfl rfl rfl ?_
    exact r_retY (i := 6) (fun y _ => ⟨y, rfl, rfl⟩) rfl rfl rfl
-- Jdk_length
def s_Jdk_length (h : fw_H) (v0 : Option Nat) : Option Int32 :=
(f_ckS h v0).bind fun _ =>
(f_gS h v0).bind fun x1 =>
(f_lnY h x1).bind fun x4 =>
(s_Jdk_coder h v0).bind fun x6 =>
some (x4 >>> (x6 &&& 31))
theorem c_Jdk_length {G : fw_G} {h : fw_H} {v0 : Option Nat} : fw_Call G m_Jdk_length (fw_eI h) 1 0 0 [fw_r v0] h (s_Jdk_length h v0) := by
  refine fw_Call.of ok_Jdk_length.1 (Nat.le_of_ble_eq_true rfl) [(0, some (fw_r v0))] rfl ?_
  refine r_ckS ?_
  refine r_aload_n (i := 0) rfl rfl rfl ?_
  refine r_gS (i := 1) wF_JStr_9 rfl rfl fun x1 => ?_
  refine r_lnY (i := 2) rfl rfl fun x4 => ?_
  refine r_aload_n (i := 3) rfl rfl rfl ?_
  refine r_TI0 (i := 4) (k2 := 0) (n2 := 0) ok_Jdk_coder wM_JStr_335 (c_Jdk_coder) (fun _ e => fw_ckbS e) (Nat.le_of_ble_eq_true rfl) (Nat.le_of_ble_eq_true rfl) (Nat.le_of_ble_eq_true rfl) (Nat.le_of_ble_eq_true rfl) rfl rfl fun x6 => ?_
  refine r_ishr (i := 5) rfl rfl ?_
  exact r_retI (i := 6) rfl rfl rfl rfl
-- Jdk_canEncode
def s_Jdk_canEncode (v0 : Int32) : Option Bool :=
if v0 < (0 : Int32) then (some false) else
if (255 : Int32) < v0 then (some false) else
some true
theorem c_Jdk_canEncode {G : fw_G} {h : fw_H} {v0 : Int32} : fw_Call G m_Jdk_canEncode (fw_eB h) 0 0 0 [fw_i v0] h (s_Jdk_canEncode v0) := by
  refine fw_Call.of ok_Jdk_canEncode.1 (Nat.le_of_ble_eq_true rfl) [(0, some (fw_i v0))] rfl ?_
  refine r_iload_n (i := 0) rfl rfl rfl ?_
  refine r_if_lt (i := 1) (tgt := 15) rfl rfl rfl ?_ ?_
  · refine r_iconst (i := 7) (0 : Int32) kc_iconst_0 rfl rfl ?_
    exact r_retB (x := false) (i := 8) rfl rfl rfl rfl
  · refine r_iload_n (i := 2) rfl rfl rfl ?_
    refine r_sipush (i := 3) (255 : Int32) kc_sipush_255 rfl rfl ?_
    refine r_icmp_gt (i := 4) (tgt := 15) rfl rfl rfl ?_ ?_
    · refine r_iconst (i := 7) (0 : Int32) kc_iconst_0 rfl rfl ?_
      exact r_retB (x := false) (i := 8) rfl rfl rfl rfl
    · refine r_iconst (i := 5) (1 : Int32) kc_iconst_1 rfl rfl ?_
      refine r_goto (i := 6) (tgt := 16) rfl rfl rfl ?_
      exact r_retB (x := true) (i := 8) rfl rfl rfl rfl
-- Jdk_ixChar
def l_Jdk_ixChar_7 (h : fw_H) (v0 : Option Nat) (v1 : Int32) (v3 : Int32) : Nat → Int32 → Option Int32
  | 0, _ => none
  | nn + 1, a7_5 =>
    if v3 ≤ a7_5 then (some (-1 : Int32)) else
    (f_aY h v0 a7_5).bind fun x16 =>
    if ¬ x16 = (fw_i2b v1) then (l_Jdk_ixChar_7 h v0 v1 v3 nn (a7_5 + (1 : Int32))) else
    some a7_5
theorem cl_Jdk_ixChar_7 {G : fw_G} {h : fw_H} {v0 : Option Nat} {v1 : Int32} {v3 : Int32} : ∀ (nn : Nat) (a7_5 : Int32), fw_R G m_Jdk_ixChar (fw_eI h) 0 0 0 7 [(0, some (fw_r v0)), (3, some (fw_i v3)), (4, some (fw_i (fw_i2b v1))), (5, some (fw_i a7_5))] [] h (l_Jdk_ixChar_7 h v0 v1 v3 nn a7_5) := by
  intro nn
  induction nn with
  | zero => intros; exact r_none
  | succ nn ih =>
    intro a7_5
    rw [l_Jdk_ixChar_7]
    refine r_iload (i := 5) rfl rfl rfl ?_
    refine r_iload_n (i := 6) rfl rfl rfl ?_
    refine r_icmp_ge (i := 7) (tgt := 31) rfl rfl rfl ?_ ?_
    · refine r_iconst (i := 17) (-1 : Int32) kc_iconst_m1 rfl rfl ?_
      exact r_retI (i := 18) rfl rfl rfl rfl
    · refine r_aload_n (i := 8) rfl rfl rfl ?_
      refine r_iload (i := 9) rfl rfl rfl ?_
      refine r_aY (i := 10) rfl rfl fun x16 => ?_
      refine r_iload (i := 11) rfl rfl rfl ?_
      refine r_icmp_ne (i := 12) (tgt := 25) rfl rfl rfl ?_ ?_
      · refine r_iinc (i := 15) (1 : Int32) kc_iconst_1 rfl rfl rfl (Nat.le_of_ble_eq_true rfl) ?_
        refine r_goto (i := 16) (tgt := 7) rfl rfl rfl ?_
        exact r_lv (fw_sub1 rfl (fw_sub1 rfl (fw_sub1 rfl (fw_sub1 rfl fw_sub0)))) (ih (a7_5 + (1 : Int32)))
      · refine r_iload (i := 13) rfl rfl rfl ?_
        exact r_retI (i := 14) rfl rfl rfl rfl
def s_Jdk_ixChar (F : Nat) (h : fw_H) (v0 : Option Nat) (v1 : Int32) (v2 : Int32) (v3 : Int32) : Option Int32 :=
l_Jdk_ixChar_7 h v0 v1 v3 F v2
theorem c_Jdk_ixChar {G : fw_G} (F : Nat) {h : fw_H} {v0 : Option Nat} {v1 : Int32} {v2 : Int32} {v3 : Int32} : fw_Call G m_Jdk_ixChar (fw_eI h) 0 0 0 [fw_r v0, fw_i v1, fw_i v2, fw_i v3] h (s_Jdk_ixChar F h v0 v1 v2 v3) := by
  refine fw_Call.of ok_Jdk_ixChar.1 (Nat.le_of_ble_eq_true rfl) [(0, some (fw_r v0)), (1, some (fw_i v1)), (2, some (fw_i v2)), (3, some (fw_i v3))] rfl ?_
  refine r_iload_n (i := 0) rfl rfl rfl ?_
  refine r_i2b (i := 1) rfl rfl ?_
  refine r_istore (i := 2) rfl rfl (Nat.le_of_ble_eq_true rfl) rfl ?_
  refine r_iload_n (i := 3) rfl rfl rfl ?_
  refine r_istore (i := 4) rfl rfl (Nat.le_of_ble_eq_true rfl) rfl ?_
  refine r_lv (fw_sub1 rfl (fw_sub1 rfl (fw_sub1 rfl (fw_sub1 rfl fw_sub0)))) (cl_Jdk_ixChar_7 F _)
-- Jdk_ixB
def s_Jdk_ixB (F : Nat) (h : fw_H) (v0 : Option Nat) (v1 : Int32) (v2 : Int32) (v3 : Int32) : Option Int32 :=
(s_Jdk_canEncode v1).bind fun x1 =>
if x1 = true then ((f_lnY h v0).bind fun x17 =>
if (fw_max v2 (0 : Int32)) < (fw_min v3 x17) then ((s_Jdk_ixChar F h v0 v1 (fw_max v2 (0 : Int32)) (fw_min v3 x17)).bind fun x33 =>
some x33) else
some (-1 : Int32)) else
some (-1 : Int32)
theorem c_Jdk_ixB {G : fw_G} (F : Nat) {h : fw_H} {v0 : Option Nat} {v1 : Int32} {v2 : Int32} {v3 : Int32} : fw_Call G m_Jdk_ixB (fw_eI h) 1 0 0 [fw_r v0, fw_i v1, fw_i v2, fw_i v3] h (s_Jdk_ixB F h v0 v1 v2 v3) := by
  refine fw_Call.of ok_Jdk_ixB.1 (Nat.le_of_ble_eq_true rfl) [(0, some (fw_r v0)), (1, some (fw_i v1)), (2, some (fw_i v2)), (3, some (fw_i v3))] rfl ?_
  refine r_iload_n (i := 0) rfl rfl rfl ?_
  refine r_SB1 (i := 1) (k2 := 0) (n2 := 0) ok_Jdk_canEncode wM_JLat_88 (c_Jdk_canEncode) (Nat.le_of_ble_eq_true rfl) (Nat.le_of_ble_eq_true rfl) (Nat.le_of_ble_eq_true rfl) (Nat.le_of_ble_eq_true rfl) rfl rfl fun x1 => ?_
  refine r_ifneB (i := 2) (tgt := 9) rfl rfl rfl ?_ ?_
  · refine r_iload_n (i := 5) rfl rfl rfl ?_
    refine r_iconst (i := 6) (0 : Int32) kc_iconst_0 rfl rfl ?_
    refine r_max (i := 7) (Nat.le_of_ble_eq_true rfl) (Nat.le_of_ble_eq_true rfl) wM_JLat_92 rfl rfl ?_
    refine r_istore_n (i := 8) rfl rfl (Nat.le_of_ble_eq_true rfl) rfl ?_
    refine r_iload_n (i := 9) rfl rfl rfl ?_
    refine r_aload_n (i := 10) rfl rfl rfl ?_
    refine r_lnY (i := 11) rfl rfl fun x17 => ?_
    refine r_min (i := 12) (Nat.le_of_ble_eq_true rfl) (Nat.le_of_ble_eq_true rfl) wM_JLat_38 rfl rfl ?_
    refine r_istore_n (i := 13) rfl rfl (Nat.le_of_ble_eq_true rfl) rfl ?_
    refine r_iload_n (i := 14) rfl rfl rfl ?_
    refine r_iload_n (i := 15) rfl rfl rfl ?_
    refine r_icmp_lt (i := 16) (tgt := 29) rfl rfl rfl ?_ ?_
    · refine r_aload_n (i := 19) rfl rfl rfl ?_
      refine r_iload_n (i := 20) rfl rfl rfl ?_
      refine r_iload_n (i := 21) rfl rfl rfl ?_
      refine r_iload_n (i := 22) rfl rfl rfl ?_
      refine r_SI4 (i := 23) (k2 := 0) (n2 := 0) ok_Jdk_ixChar wM_JLat_95 (c_Jdk_ixChar F) (Nat.le_of_ble_eq_true rfl) (Nat.le_of_ble_eq_true rfl) (Nat.le_of_ble_eq_true rfl) (Nat.le_of_ble_eq_true rfl) rfl rfl fun x33 => ?_
      exact r_retI (i := 24) rfl rfl rfl rfl
    · refine r_iconst (i := 17) (-1 : Int32) kc_iconst_m1 rfl rfl ?_
      exact r_retI (i := 18) rfl rfl rfl rfl
  · refine r_iconst (i := 3) (-1 : Int32) kc_iconst_m1 rfl rfl ?_
    exact r_retI (i := 4) rfl rfl rfl rfl
-- Jdk_indexOf2
def s_Jdk_indexOf2 (F : Nat) (h : fw_H) (v0 : Option Nat) (v1 : Int32) (v2 : Int32) : Option Int32 :=
(f_ckS h v0).bind fun _ =>
(s_Jdk_isLatin1 h v0).bind fun x1 =>
if x1 = true then ((f_gS h v0).bind fun x8 =>
(s_Jdk_length h v0).bind fun x14 =>
(s_Jdk_ixB F h x8 v1 v2 x14).bind fun x17 =>
some x17) else
(f_gS h v0).bind fun x24 =>
(s_Jdk_length h v0).bind fun x30 =>
none
theorem c_Jdk_indexOf2 {G : fw_G} (F : Nat) {h : fw_H} {v0 : Option Nat} {v1 : Int32} {v2 : Int32} : fw_Call G m_Jdk_indexOf2 (fw_eI h) 2 0 0 [fw_r v0, fw_i v1, fw_i v2] h (s_Jdk_indexOf2 F h v0 v1 v2) := by
  refine fw_Call.of ok_Jdk_indexOf2.1 (Nat.le_of_ble_eq_true rfl) [(0, some (fw_r v0)), (1, some (fw_i v1)), (2, some (fw_i v2))] rfl ?_
  refine r_ckS ?_
  refine r_aload_n (i := 0) rfl rfl rfl ?_
  refine r_TB0 (i := 1) (k2 := 0) (n2 := 0) ok_Jdk_isLatin1 wM_JStr_492 (c_Jdk_isLatin1) (fun _ e => fw_ckbS e) (Nat.le_of_ble_eq_true rfl) (Nat.le_of_ble_eq_true rfl) (Nat.le_of_ble_eq_true rfl) (Nat.le_of_ble_eq_true rfl) rfl rfl fun x1 => ?_
  refine r_ifeqB (i := 2) (tgt := 23) rfl rfl rfl ?_ ?_
  · refine r_aload_n (i := 11) rfl rfl rfl ?_
    refine r_gS (i := 12) wF_JStr_9 rfl rfl fun x24 => ?_
    refine r_iload_n (i := 13) rfl rfl rfl ?_
    refine r_iload_n (i := 14) rfl rfl rfl ?_
    refine r_aload_n (i := 15) rfl rfl rfl ?_
    refine r_TI0 (i := 16) (k2 := 0) (n2 := 0) ok_Jdk_length wM_JStr_505 (c_Jdk_length) (fun _ e => fw_ckbS e) (Nat.le_of_ble_eq_true rfl) (Nat.le_of_ble_eq_true rfl) (Nat.le_of_ble_eq_true rfl) (Nat.le_of_ble_eq_true rfl) rfl rfl fun x30 => ?_
    exact r_none
  · refine r_aload_n (i := 3) rfl rfl rfl ?_
    refine r_gS (i := 4) wF_JStr_9 rfl rfl fun x8 => ?_
    refine r_iload_n (i := 5) rfl rfl rfl ?_
    refine r_iload_n (i := 6) rfl rfl rfl ?_
    refine r_aload_n (i := 7) rfl rfl rfl ?_
    refine r_TI0 (i := 8) (k2 := 0) (n2 := 0) ok_Jdk_length wM_JStr_505 (c_Jdk_length) (fun _ e => fw_ckbS e) (Nat.le_of_ble_eq_true rfl) (Nat.le_of_ble_eq_true rfl) (Nat.le_of_ble_eq_true rfl) (Nat.le_of_ble_eq_true rfl) rfl rfl fun x14 => ?_
    refine r_SI4 (i := 9) (k2 := 0) (n2 := 0) ok_Jdk_ixB wM_JStr_637 (c_Jdk_ixB F) (Nat.le_of_ble_eq_true rfl) (Nat.le_of_ble_eq_true rfl) (Nat.le_of_ble_eq_true rfl) (Nat.le_of_ble_eq_true rfl) rfl rfl fun x17 => ?_
    refine r_goto (i := 10) (tgt := 36) rfl rfl rfl ?_
    exact r_retI (i := 18) rfl rfl rfl rfl
-- Jdk_indexOf1
def s_Jdk_indexOf1 (F : Nat) (h : fw_H) (v0 : Option Nat) (v1 : Int32) : Option Int32 :=
(f_ckS h v0).bind fun _ =>
(s_Jdk_indexOf2 F h v0 v1 (0 : Int32)).bind fun x3 =>
some x3
theorem c_Jdk_indexOf1 {G : fw_G} (F : Nat) {h : fw_H} {v0 : Option Nat} {v1 : Int32} : fw_Call G m_Jdk_indexOf1 (fw_eI h) 3 0 0 [fw_r v0, fw_i v1] h (s_Jdk_indexOf1 F h v0 v1) := by
  refine fw_Call.of ok_Jdk_indexOf1.1 (Nat.le_of_ble_eq_true rfl) [(0, some (fw_r v0)), (1, some (fw_i v1))] rfl ?_
  refine r_ckS ?_
  refine r_aload_n (i := 0) rfl rfl rfl ?_
  refine r_iload_n (i := 1) rfl rfl rfl ?_
  refine r_iconst (i := 2) (0 : Int32) kc_iconst_0 rfl rfl ?_
  refine r_TI2 (i := 3) (k2 := 0) (n2 := 0) ok_Jdk_indexOf2 wM_JStr_633 (c_Jdk_indexOf2 F) (fun _ e => fw_ckbS e) (Nat.le_of_ble_eq_true rfl) (Nat.le_of_ble_eq_true rfl) (Nat.le_of_ble_eq_true rfl) (Nat.le_of_ble_eq_true rfl) rfl rfl fun x3 => ?_
  exact r_retI (i := 4) rfl rfl rfl rfl
-- Tape_skip
def s_Tape_skip (h : fw_H) (v0 : Option Nat) : Option fw_H :=
(f_ck h v0 6).bind fun _ =>
(f_gI h v0 6 2).bind fun x2 =>
(f_pI h v0 6 2 (x2 + (1 : Int32))).bind fun h7 =>
some h7
theorem c_Tape_skip {G : fw_G} {h : fw_H} {v0 : Option Nat} : fw_Call G m_Tape_skip fw_eV 0 0 0 [fw_r v0] h (s_Tape_skip h v0) := by
  refine fw_Call.of ok_Tape_skip.1 (Nat.le_of_ble_eq_true rfl) [(0, some (fw_r v0))] rfl ?_
  refine r_ck ?_
  refine r_aload_n (i := 0) rfl rfl rfl ?_
  refine r_dup_r (i := 1) rfl rfl ?_
  refine r_gI (i := 2) (ci := 6) (kf := 2) rfl (Nat.le_of_ble_eq_true rfl) wF_Tape_28 rfl rfl fun x2 => ?_
  refine r_iconst (i := 3) (1 : Int32) kc_iconst_1 rfl rfl ?_
  refine r_iadd (i := 4) rfl rfl ?_
  refine r_pI (i := 5) (ci := 6) (kf := 2) rfl (Nat.le_of_ble_eq_true rfl) wF_Tape_28 rfl (tyX6_ok 2 (Nat.le_of_ble_eq_true rfl)) rfl rfl fun h7 => ?_
  exact r_retV (i := 6) rfl rfl rfl rfl
-- Tape_isDigit
def s_Tape_isDigit (v0 : Int32) : Option Bool :=
if v0 < (48 : Int32) then (some false) else
if (57 : Int32) < v0 then (some false) else
some true
theorem c_Tape_isDigit {G : fw_G} {h : fw_H} {v0 : Int32} : fw_Call G m_Tape_isDigit (fw_eB h) 0 0 0 [fw_i v0] h (s_Tape_isDigit v0) := by
  refine fw_Call.of ok_Tape_isDigit.1 (Nat.le_of_ble_eq_true rfl) [(0, some (fw_i v0))] rfl ?_
  refine r_iload_n (i := 0) rfl rfl rfl ?_
  refine r_bipush (i := 1) (48 : Int32) kc_bipush_48 rfl rfl ?_
  refine r_icmp_lt (i := 2) (tgt := 16) rfl rfl rfl ?_ ?_
  · refine r_iconst (i := 8) (0 : Int32) kc_iconst_0 rfl rfl ?_
    exact r_retB (x := false) (i := 9) rfl rfl rfl rfl
  · refine r_iload_n (i := 3) rfl rfl rfl ?_
    refine r_bipush (i := 4) (57 : Int32) kc_bipush_57 rfl rfl ?_
    refine r_icmp_gt (i := 5) (tgt := 16) rfl rfl rfl ?_ ?_
    · refine r_iconst (i := 8) (0 : Int32) kc_iconst_0 rfl rfl ?_
      exact r_retB (x := false) (i := 9) rfl rfl rfl rfl
    · refine r_iconst (i := 6) (1 : Int32) kc_iconst_1 rfl rfl ?_
      refine r_goto (i := 7) (tgt := 17) rfl rfl rfl ?_
      exact r_retB (x := true) (i := 9) rfl rfl rfl rfl
-- Tape_here
def s_Tape_here (h : fw_H) (v0 : Option Nat) : Option Int32 :=
(f_ck h v0 6).bind fun _ =>
(f_gI h v0 6 2).bind fun x1 =>
if x1 < (0 : Int32) then (some (-1 : Int32)) else
(f_gI h v0 6 2).bind fun x8 =>
(f_gI h v0 6 1).bind fun x12 =>
if x12 ≤ x8 then (some (-1 : Int32)) else
(f_gI h v0 6 2).bind fun x19 =>
(f_gR h v0 6 0).bind fun x23 =>
(f_lnI h x23).bind fun x26 =>
if x26 ≤ x19 then (some (-1 : Int32)) else
(f_gR h v0 6 0).bind fun x31 =>
(f_gI h v0 6 2).bind fun x35 =>
(f_aI h x31 x35).bind fun x38 =>
some x38
theorem c_Tape_here {G : fw_G} {h : fw_H} {v0 : Option Nat} : fw_Call G m_Tape_here (fw_eI h) 0 0 0 [fw_r v0] h (s_Tape_here h v0) := by
  refine fw_Call.of ok_Tape_here.1 (Nat.le_of_ble_eq_true rfl) [(0, some (fw_r v0))] rfl ?_
  refine r_ck ?_
  refine r_aload_n (i := 0) rfl rfl rfl ?_
  refine r_gI (i := 1) (ci := 6) (kf := 2) rfl (Nat.le_of_ble_eq_true rfl) wF_Tape_28 rfl rfl fun x1 => ?_
  refine r_if_lt (i := 2) (tgt := 42) rfl rfl rfl ?_ ?_
  · refine r_iconst (i := 20) (-1 : Int32) kc_iconst_m1 rfl rfl ?_
    exact r_retI (i := 21) rfl rfl rfl rfl
  · refine r_aload_n (i := 3) rfl rfl rfl ?_
    refine r_gI (i := 4) (ci := 6) (kf := 2) rfl (Nat.le_of_ble_eq_true rfl) wF_Tape_28 rfl rfl fun x8 => ?_
    refine r_aload_n (i := 5) rfl rfl rfl ?_
    refine r_gI (i := 6) (ci := 6) (kf := 1) rfl (Nat.le_of_ble_eq_true rfl) wF_Tape_19 rfl rfl fun x12 => ?_
    refine r_icmp_ge (i := 7) (tgt := 42) rfl rfl rfl ?_ ?_
    · refine r_iconst (i := 20) (-1 : Int32) kc_iconst_m1 rfl rfl ?_
      exact r_retI (i := 21) rfl rfl rfl rfl
    · refine r_aload_n (i := 8) rfl rfl rfl ?_
      refine r_gI (i := 9) (ci := 6) (kf := 2) rfl (Nat.le_of_ble_eq_true rfl) wF_Tape_28 rfl rfl fun x19 => ?_
      refine r_aload_n (i := 10) rfl rfl rfl ?_
      refine r_gR (i := 11) (ci := 6) (kf := 0) rfl (Nat.le_of_ble_eq_true rfl) wF_Tape_9 rfl rfl fun x23 => ?_
      refine r_lnI (i := 12) rfl rfl fun x26 => ?_
      refine r_icmp_ge (i := 13) (tgt := 42) rfl rfl rfl ?_ ?_
      · refine r_iconst (i := 20) (-1 : Int32) kc_iconst_m1 rfl rfl ?_
        exact r_retI (i := 21) rfl rfl rfl rfl
      · refine r_aload_n (i := 14) rfl rfl rfl ?_
        refine r_gR (i := 15) (ci := 6) (kf := 0) rfl (Nat.le_of_ble_eq_true rfl) wF_Tape_9 rfl rfl fun x31 => ?_
        refine r_aload_n (i := 16) rfl rfl rfl ?_
        refine r_gI (i := 17) (ci := 6) (kf := 2) rfl (Nat.le_of_ble_eq_true rfl) wF_Tape_28 rfl rfl fun x35 => ?_
        refine r_aI (i := 18) rfl rfl fun x38 => ?_
        refine r_goto (i := 19) (tgt := 43) rfl rfl rfl ?_
        exact r_retI (i := 21) rfl rfl rfl rfl
-- Tape_number
def l_Tape_number_25 (v0 : Option Nat) (v1 : Int32) (K70 : Int32 → fw_H → Option (Int32 × fw_H)) : Nat → Int32 → Int32 → fw_H → Option (Int32 × fw_H)
  | 0, _, _, _ => none
  | nn + 1, a25_3, a25_4, g25 =>
    if v1 ≤ a25_4 then (K70 a25_3 g25) else
    (s_Tape_here g25 v0).bind fun x32 =>
    (s_Tape_isDigit x32).bind fun x35 =>
    if x35 = true then ((s_Tape_here g25 v0).bind fun x46 =>
    (f_gI g25 v0 6 2).bind fun x56 =>
    (f_pI g25 v0 6 2 (x56 + (1 : Int32))).bind fun h61 =>
    l_Tape_number_25 v0 v1 K70 nn (((a25_3 * (10 : Int32)) + x46) - (48 : Int32)) (a25_4 + (1 : Int32)) h61) else
    K70 a25_3 g25
theorem cl_Tape_number_25 {G : fw_G} {v0 : Option Nat} {v1 : Int32} {v2 : Int32} {K70 : Int32 → fw_H → Option (Int32 × fw_H)} (hK70 : ∀ (e70_3 : Int32) (he70 : fw_H), fw_R G m_Tape_number fw_wI 1 0 0 70 [(0, some (fw_r v0)), (2, some (fw_i v2)), (3, some (fw_i e70_3))] [] he70 (K70 e70_3 he70)) : ∀ (nn : Nat) (a25_3 : Int32) (a25_4 : Int32) (g25 : fw_H), fw_R G m_Tape_number fw_wI 1 0 0 25 [(0, some (fw_r v0)), (1, some (fw_i v1)), (2, some (fw_i v2)), (3, some (fw_i a25_3)), (4, some (fw_i a25_4))] [] g25 (l_Tape_number_25 v0 v1 K70 nn a25_3 a25_4 g25) := by
  intro nn
  induction nn with
  | zero => intros; exact r_none
  | succ nn ih =>
    intro a25_3 a25_4 g25
    rw [l_Tape_number_25]
    refine r_iload (i := 14) rfl rfl rfl ?_
    refine r_iload_n (i := 15) rfl rfl rfl ?_
    refine r_icmp_ge (i := 16) (tgt := 70) rfl rfl rfl ?_ ?_
    · exact r_lv (fw_sub1 rfl (fw_sub1 rfl (fw_sub1 rfl fw_sub0))) (hK70 a25_3 g25)
    · refine r_aload_n (i := 17) rfl rfl rfl ?_
      refine r_VI0 (i := 18) (k2 := 0) (n2 := 0) ok_Tape_here wM_Tape_43 (c_Tape_here) (fun _ e => fw_ckb e) (Nat.le_of_ble_eq_true rfl) (Nat.le_of_ble_eq_true rfl) (Nat.le_of_ble_eq_true rfl) (Nat.le_of_ble_eq_true rfl) rfl rfl fun x32 => ?_
      refine r_SB1 (i := 19) (k2 := 0) (n2 := 0) ok_Tape_isDigit wM_Tape_39 (c_Tape_isDigit) (Nat.le_of_ble_eq_true rfl) (Nat.le_of_ble_eq_true rfl) (Nat.le_of_ble_eq_true rfl) (Nat.le_of_ble_eq_true rfl) rfl rfl fun x35 => ?_
      refine r_ifeqB (i := 20) (tgt := 70) rfl rfl rfl ?_ ?_
      · exact r_lv (fw_sub1 rfl (fw_sub1 rfl (fw_sub1 rfl fw_sub0))) (hK70 a25_3 g25)
      · refine r_iload_n (i := 21) rfl rfl rfl ?_
        refine r_bipush (i := 22) (10 : Int32) kc_bipush_10 rfl rfl ?_
        refine r_imul (i := 23) rfl rfl ?_
        refine r_aload_n (i := 24) rfl rfl rfl ?_
        refine r_VI0 (i := 25) (k2 := 0) (n2 := 0) ok_Tape_here wM_Tape_43 (c_Tape_here) (fun _ e => fw_ckb e) (Nat.le_of_ble_eq_true rfl) (Nat.le_of_ble_eq_true rfl) (Nat.le_of_ble_eq_true rfl) (Nat.le_of_ble_eq_true rfl) rfl rfl fun x46 => ?_
        refine r_iadd (i := 26) rfl rfl ?_
        refine r_bipush (i := 27) (48 : Int32) kc_bipush_48 rfl rfl ?_
        refine r_isub (i := 28) rfl rfl ?_
        refine r_istore_n (i := 29) rfl rfl (Nat.le_of_ble_eq_true rfl) rfl ?_
        refine r_aload_n (i := 30) rfl rfl rfl ?_
        refine r_dup_r (i := 31) rfl rfl ?_
        refine r_gI (i := 32) (ci := 6) (kf := 2) rfl (Nat.le_of_ble_eq_true rfl) wF_Tape_28 rfl rfl fun x56 => ?_
        refine r_iconst (i := 33) (1 : Int32) kc_iconst_1 rfl rfl ?_
        refine r_iadd (i := 34) rfl rfl ?_
        refine r_pI (i := 35) (ci := 6) (kf := 2) rfl (Nat.le_of_ble_eq_true rfl) wF_Tape_28 rfl (tyX6_ok 2 (Nat.le_of_ble_eq_true rfl)) rfl rfl fun h61 => ?_
        refine r_iinc (i := 36) (1 : Int32) kc_iconst_1 rfl rfl rfl (Nat.le_of_ble_eq_true rfl) ?_
        refine r_goto (i := 37) (tgt := 25) rfl rfl rfl ?_
        exact r_lv (fw_sub1 rfl (fw_sub1 rfl (fw_sub1 rfl (fw_sub1 rfl (fw_sub1 rfl fw_sub0))))) (ih (((a25_3 * (10 : Int32)) + x46) - (48 : Int32)) (a25_4 + (1 : Int32)) h61)
def s_Tape_number (F : Nat) (h : fw_H) (v0 : Option Nat) (v1 : Int32) (v2 : Int32) : Option (Int32 × fw_H) :=
(f_ck h v0 6).bind fun _ =>
(s_Tape_peek F h v0).bind fun x1 =>
(s_Tape_isDigit x1.1).bind fun x4 =>
if x4 = true then (l_Tape_number_25 v0 v1 (fun e70_3 he70 =>
(s_Tape_here he70 v0).bind fun x71 =>
(s_Tape_isDigit x71).bind fun x74 =>
if x74 = true then ((f_gI he70 v0 6 2).bind fun x82 =>
(s_Tape_failAt he70 v0 x82).bind fun h85 =>
if e70_3 ≤ v2 then (some (e70_3, h85)) else
(f_gI h85 v0 6 2).bind fun x95 =>
(s_Tape_failAt h85 v0 (x95 - (1 : Int32))).bind fun h100 =>
some (e70_3, h100)) else
if e70_3 ≤ v2 then (some (e70_3, he70)) else
(f_gI he70 v0 6 2).bind fun x95 =>
(s_Tape_failAt he70 v0 (x95 - (1 : Int32))).bind fun h100 =>
some (e70_3, h100)) F (0 : Int32) (0 : Int32) x1.2) else
(f_gI x1.2 v0 6 2).bind fun x12 =>
(s_Tape_failAt x1.2 v0 x12).bind fun h15 =>
some ((0 : Int32), h15)
theorem c_Tape_number {G : fw_G} (F : Nat) {h : fw_H} {v0 : Option Nat} {v1 : Int32} {v2 : Int32} : fw_Call G m_Tape_number fw_wI 1 0 0 [fw_r v0, fw_i v1, fw_i v2] h (s_Tape_number F h v0 v1 v2) := by
  refine fw_Call.of ok_Tape_number.1 (Nat.le_of_ble_eq_true rfl) [(0, some (fw_r v0)), (1, some (fw_i v1)), (2, some (fw_i v2))] rfl ?_
  refine r_ck ?_
  refine r_aload_n (i := 0) rfl rfl rfl ?_
  refine r_VwI0 (i := 1) (k2 := 0) (n2 := 0) ok_Tape_peek wM_Tape_35 (c_Tape_peek F) (fun _ e => fw_ckb e) (Nat.le_of_ble_eq_true rfl) (Nat.le_of_ble_eq_true rfl) (Nat.le_of_ble_eq_true rfl) (Nat.le_of_ble_eq_true rfl) rfl rfl fun x1 => ?_
  refine r_SB1 (i := 2) (k2 := 0) (n2 := 0) ok_Tape_isDigit wM_Tape_39 (c_Tape_isDigit) (Nat.le_of_ble_eq_true rfl) (Nat.le_of_ble_eq_true rfl) (Nat.le_of_ble_eq_true rfl) (Nat.le_of_ble_eq_true rfl) rfl rfl fun x4 => ?_
  refine r_ifneB (i := 3) (tgt := 20) rfl rfl rfl ?_ ?_
  · refine r_iconst (i := 10) (0 : Int32) kc_iconst_0 rfl rfl ?_
    refine r_istore_n (i := 11) rfl rfl (Nat.le_of_ble_eq_true rfl) rfl ?_
    refine r_iconst (i := 12) (0 : Int32) kc_iconst_0 rfl rfl ?_
    refine r_istore (i := 13) rfl rfl (Nat.le_of_ble_eq_true rfl) rfl ?_
    refine r_lv (fw_sub1 rfl (fw_sub1 rfl (fw_sub1 rfl (fw_sub1 rfl (fw_sub1 rfl fw_sub0))))) (cl_Tape_number_25 ?_ F _ _ _)
    · intro e70_3 he70
      refine r_aload_n (i := 38) rfl rfl rfl ?_
      refine r_VI0 (i := 39) (k2 := 0) (n2 := 0) ok_Tape_here wM_Tape_43 (c_Tape_here) (fun _ e => fw_ckb e) (Nat.le_of_ble_eq_true rfl) (Nat.le_of_ble_eq_true rfl) (Nat.le_of_ble_eq_true rfl) (Nat.le_of_ble_eq_true rfl) rfl rfl fun x71 => ?_
      refine r_SB1 (i := 40) (k2 := 0) (n2 := 0) ok_Tape_isDigit wM_Tape_39 (c_Tape_isDigit) (Nat.le_of_ble_eq_true rfl) (Nat.le_of_ble_eq_true rfl) (Nat.le_of_ble_eq_true rfl) (Nat.le_of_ble_eq_true rfl) rfl rfl fun x74 => ?_
      refine r_ifeqB (i := 41) (tgt := 88) rfl rfl rfl ?_ ?_
      · refine r_iload_n (i := 46) rfl rfl rfl ?_
        refine r_iload_n (i := 47) rfl rfl rfl ?_
        refine r_icmp_le (i := 48) (tgt := 103) rfl rfl rfl ?_ ?_
        · refine r_iload_n (i := 55) rfl rfl rfl ?_
          exact r_retI (i := 56) rfl rfl rfl rfl
        · refine r_aload_n (i := 49) rfl rfl rfl ?_
          refine r_aload_n (i := 50) rfl rfl rfl ?_
          refine r_gI (i := 51) (ci := 6) (kf := 2) rfl (Nat.le_of_ble_eq_true rfl) wF_Tape_28 rfl rfl fun x95 => ?_
          refine r_iconst (i := 52) (1 : Int32) kc_iconst_1 rfl rfl ?_
          refine r_isub (i := 53) rfl rfl ?_
          refine r_VV1 (i := 54) (k2 := 0) (n2 := 0) ok_Tape_failAt wM_Tape_31 (c_Tape_failAt) (fun _ e => fw_ckb e) (Nat.le_of_ble_eq_true rfl) (Nat.le_of_ble_eq_true rfl) (Nat.le_of_ble_eq_true rfl) (Nat.le_of_ble_eq_true rfl) rfl rfl fun h100 => ?_
          refine r_iload_n (i := 55) rfl rfl rfl ?_
          exact r_retI (i := 56) rfl rfl rfl rfl
      · refine r_aload_n (i := 42) rfl rfl rfl ?_
        refine r_aload_n (i := 43) rfl rfl rfl ?_
        refine r_gI (i := 44) (ci := 6) (kf := 2) rfl (Nat.le_of_ble_eq_true rfl) wF_Tape_28 rfl rfl fun x82 => ?_
        refine r_VV1 (i := 45) (k2 := 0) (n2 := 0) ok_Tape_failAt wM_Tape_31 (c_Tape_failAt) (fun _ e => fw_ckb e) (Nat.le_of_ble_eq_true rfl) (Nat.le_of_ble_eq_true rfl) (Nat.le_of_ble_eq_true rfl) (Nat.le_of_ble_eq_true rfl) rfl rfl fun h85 => ?_
        refine r_iload_n (i := 46) rfl rfl rfl ?_
        refine r_iload_n (i := 47) rfl rfl rfl ?_
        refine r_icmp_le (i := 48) (tgt := 103) rfl rfl rfl ?_ ?_
        · refine r_iload_n (i := 55) rfl rfl rfl ?_
          exact r_retI (i := 56) rfl rfl rfl rfl
        · refine r_aload_n (i := 49) rfl rfl rfl ?_
          refine r_aload_n (i := 50) rfl rfl rfl ?_
          refine r_gI (i := 51) (ci := 6) (kf := 2) rfl (Nat.le_of_ble_eq_true rfl) wF_Tape_28 rfl rfl fun x95 => ?_
          refine r_iconst (i := 52) (1 : Int32) kc_iconst_1 rfl rfl ?_
          refine r_isub (i := 53) rfl rfl ?_
          refine r_VV1 (i := 54) (k2 := 0) (n2 := 0) ok_Tape_failAt wM_Tape_31 (c_Tape_failAt) (fun _ e => fw_ckb e) (Nat.le_of_ble_eq_true rfl) (Nat.le_of_ble_eq_true rfl) (Nat.le_of_ble_eq_true rfl) (Nat.le_of_ble_eq_true rfl) rfl rfl fun h100 => ?_
          refine r_iload_n (i := 55) rfl rfl rfl ?_
          exact r_retI (i := 56) rfl rfl rfl rfl
  · refine r_aload_n (i := 4) rfl rfl rfl ?_
    refine r_aload_n (i := 5) rfl rfl rfl ?_
    refine r_gI (i := 6) (ci := 6) (kf := 2) rfl (Nat.le_of_ble_eq_true rfl) wF_Tape_28 rfl rfl fun x12 => ?_
    refine r_VV1 (i := 7) (k2 := 0) (n2 := 0) ok_Tape_failAt wM_Tape_31 (c_Tape_failAt) (fun _ e => fw_ckb e) (Nat.le_of_ble_eq_true rfl) (Nat.le_of_ble_eq_true rfl) (Nat.le_of_ble_eq_true rfl) (Nat.le_of_ble_eq_true rfl) rfl rfl fun h15 => ?_
    refine r_iconst (i := 8) (0 : Int32) kc_iconst_0 rfl rfl ?_
    exact r_retI (i := 9) rfl rfl rfl rfl
-- Tape_fail
def s_Tape_fail (h : fw_H) (v0 : Option Nat) : Option fw_H :=
(f_ck h v0 6).bind fun _ =>
(f_gI h v0 6 2).bind fun x2 =>
(s_Tape_failAt h v0 x2).bind fun h5 =>
some h5
theorem c_Tape_fail {G : fw_G} {h : fw_H} {v0 : Option Nat} : fw_Call G m_Tape_fail fw_eV 1 0 0 [fw_r v0] h (s_Tape_fail h v0) := by
  refine fw_Call.of ok_Tape_fail.1 (Nat.le_of_ble_eq_true rfl) [(0, some (fw_r v0))] rfl ?_
  refine r_ck ?_
  refine r_aload_n (i := 0) rfl rfl rfl ?_
  refine r_aload_n (i := 1) rfl rfl rfl ?_
  refine r_gI (i := 2) (ci := 6) (kf := 2) rfl (Nat.le_of_ble_eq_true rfl) wF_Tape_28 rfl rfl fun x2 => ?_
  refine r_VV1 (i := 3) (k2 := 0) (n2 := 0) ok_Tape_failAt wM_Tape_31 (c_Tape_failAt) (fun _ e => fw_ckb e) (Nat.le_of_ble_eq_true rfl) (Nat.le_of_ble_eq_true rfl) (Nat.le_of_ble_eq_true rfl) (Nat.le_of_ble_eq_true rfl) rfl rfl fun h5 => ?_
  exact r_retV (i := 4) rfl rfl rfl rfl
