-- Walk_circle
def l_Walk_circle_11 (F : Nat) (v0 : Option Nat) : Nat → Int32 → fw_H → Option fw_H
  | 0, _, _ => none
  | nn + 1, a11_1, g11 =>
    if (3744 : Int32) < a11_1 then (some g11) else
    (s_Walk_markTrail g11 v0 a11_1).bind fun x20 =>
    if x20.1 = (-1 : Int32) then ((f_gI x20.2 v0 9 15).bind fun x44 =>
    (f_gI x20.2 v0 9 2).bind fun x49 =>
    (f_pI x20.2 v0 9 15 (x44 ||| ((1 : Int32) <<< (x49 &&& 31)))).bind fun h54 =>
    (s_Walk_hour F h54 v0).bind fun h58 =>
    l_Walk_circle_11 F v0 nn (a11_1 + (1 : Int32)) h58) else
    (f_pI x20.2 v0 9 13 x20.1).bind fun h31 =>
    (f_pI h31 v0 9 14 (a11_1 - x20.1)).bind fun h38 =>
    some h38
theorem cl_Walk_circle_11 {G : fw_G} {F : Nat} {v0 : Option Nat} : ∀ (nn : Nat) (a11_1 : Int32) (g11 : fw_H), fw_R G m_Walk_circle fw_eV 4 0 0 11 [(0, some (fw_r v0)), (1, some (fw_i a11_1))] [] g11 (l_Walk_circle_11 F v0 nn a11_1 g11) := by
  intro nn
  induction nn with
  | zero => intros; exact r_none
  | succ nn ih =>
    intro a11_1 g11
    rw [l_Walk_circle_11]
    refine r_iload_n (i := 7) rfl rfl rfl ?_
    refine r_sipush (i := 8) (3744 : Int32) kc_sipush_3744 rfl rfl ?_
    refine r_icmp_gt (i := 9) (tgt := 67) rfl rfl rfl ?_ ?_
    · exact r_retV (i := 39) rfl rfl rfl rfl
    · refine r_aload_n (i := 10) rfl rfl rfl ?_
      refine r_iload_n (i := 11) rfl rfl rfl ?_
      refine r_VwI1 (i := 12) (k2 := 0) (n2 := 0) ok_Walk_markTrail wM_Walk_171 (c_Walk_markTrail) (fun _ e => fw_ckb e) (Nat.le_of_ble_eq_true rfl) (Nat.le_of_ble_eq_true rfl) (Nat.le_of_ble_eq_true rfl) (Nat.le_of_ble_eq_true rfl) rfl rfl fun x20 => ?_
      refine r_istore_n (i := 13) rfl rfl (Nat.le_of_ble_eq_true rfl) rfl ?_
      refine r_iload_n (i := 14) rfl rfl rfl ?_
      refine r_iconst (i := 15) (-1 : Int32) kc_iconst_m1 rfl rfl ?_
      refine r_icmp_eq (i := 16) (tgt := 42) rfl rfl rfl ?_ ?_
      · refine r_aload_n (i := 26) rfl rfl rfl ?_
        refine r_dup_r (i := 27) rfl rfl ?_
        refine r_gI (i := 28) (ci := 9) (kf := 15) rfl (Nat.le_of_ble_eq_true rfl) wF_Walk_174 rfl rfl fun x44 => ?_
        refine r_iconst (i := 29) (1 : Int32) kc_iconst_1 rfl rfl ?_
        refine r_aload_n (i := 30) rfl rfl rfl ?_
        refine r_gI (i := 31) (ci := 9) (kf := 2) rfl (Nat.le_of_ble_eq_true rfl) wF_Walk_86 rfl rfl fun x49 => ?_
        refine r_ishl (i := 32) rfl rfl ?_
        refine r_ior (i := 33) rfl rfl ?_
        refine r_pI (i := 34) (ci := 9) (kf := 15) rfl (Nat.le_of_ble_eq_true rfl) wF_Walk_174 rfl (tyX9_ok 15 (Nat.le_of_ble_eq_true rfl)) rfl rfl fun h54 => ?_
        refine r_aload_n (i := 35) rfl rfl rfl ?_
        refine r_VV0 (i := 36) (k2 := 0) (n2 := 0) ok_Walk_hour wM_Walk_116 (c_Walk_hour F) (fun _ e => fw_ckb e) (Nat.le_of_ble_eq_true rfl) (Nat.le_of_ble_eq_true rfl) (Nat.le_of_ble_eq_true rfl) (Nat.le_of_ble_eq_true rfl) rfl rfl fun h58 => ?_
        refine r_iinc (i := 37) (1 : Int32) kc_iconst_1 rfl rfl rfl (Nat.le_of_ble_eq_true rfl) ?_
        refine r_goto (i := 38) (tgt := 11) rfl rfl rfl ?_
        exact r_lv (fw_sub1 rfl (fw_sub1 rfl fw_sub0)) (ih (a11_1 + (1 : Int32)) h58)
      · refine r_aload_n (i := 17) rfl rfl rfl ?_
        refine r_iload_n (i := 18) rfl rfl rfl ?_
        refine r_pI (i := 19) (ci := 9) (kf := 13) rfl (Nat.le_of_ble_eq_true rfl) wF_Walk_177 rfl (tyX9_ok 13 (Nat.le_of_ble_eq_true rfl)) rfl rfl fun h31 => ?_
        refine r_aload_n (i := 20) rfl rfl rfl ?_
        refine r_iload_n (i := 21) rfl rfl rfl ?_
        refine r_iload_n (i := 22) rfl rfl rfl ?_
        refine r_isub (i := 23) rfl rfl ?_
        refine r_pI (i := 24) (ci := 9) (kf := 14) rfl (Nat.le_of_ble_eq_true rfl) wF_Walk_180 rfl (tyX9_ok 14 (Nat.le_of_ble_eq_true rfl)) rfl rfl fun h38 => ?_
        exact r_retV (i := 25) rfl rfl rfl rfl
def s_Walk_circle (F : Nat) (h : fw_H) (v0 : Option Nat) : Option fw_H :=
(f_ck h v0 9).bind fun _ =>
(s_Walk_beginTrail F h v0).bind fun h1 =>
(f_pI h1 v0 9 15 (0 : Int32)).bind fun h6 =>
l_Walk_circle_11 F v0 F (0 : Int32) h6
theorem c_Walk_circle {G : fw_G} (F : Nat) {h : fw_H} {v0 : Option Nat} : fw_Call G m_Walk_circle fw_eV 4 0 0 [fw_r v0] h (s_Walk_circle F h v0) := by
  refine fw_Call.of ok_Walk_circle.1 (Nat.le_of_ble_eq_true rfl) [(0, some (fw_r v0))] rfl ?_
  refine r_ck ?_
  refine r_aload_n (i := 0) rfl rfl rfl ?_
  refine r_VV0 (i := 1) (k2 := 0) (n2 := 0) ok_Walk_beginTrail wM_Walk_168 (c_Walk_beginTrail F) (fun _ e => fw_ckb e) (Nat.le_of_ble_eq_true rfl) (Nat.le_of_ble_eq_true rfl) (Nat.le_of_ble_eq_true rfl) (Nat.le_of_ble_eq_true rfl) rfl rfl fun h1 => ?_
  refine r_aload_n (i := 2) rfl rfl rfl ?_
  refine r_iconst (i := 3) (0 : Int32) kc_iconst_0 rfl rfl ?_
  refine r_pI (i := 4) (ci := 9) (kf := 15) rfl (Nat.le_of_ble_eq_true rfl) wF_Walk_174 rfl (tyX9_ok 15 (Nat.le_of_ble_eq_true rfl)) rfl rfl fun h6 => ?_
  refine r_iconst (i := 5) (0 : Int32) kc_iconst_0 rfl rfl ?_
  refine r_istore_n (i := 6) rfl rfl (Nat.le_of_ble_eq_true rfl) rfl ?_
  refine r_lv (fw_sub1 rfl (fw_sub1 rfl fw_sub0)) (cl_Walk_circle_11 F _ _)
-- Walk_metInLoop
def l_Walk_metInLoop_4 (F : Nat) (v0 : Option Nat) : Nat → Int32 → Int32 → fw_H → Option (Int32 × fw_H)
  | 0, _, _, _ => none
  | nn + 1, a4_1, a4_2, g4 =>
    (f_gI g4 v0 9 14).bind fun x6 =>
    if x6 ≤ a4_2 then (some (a4_1, g4)) else
    (f_gI g4 v0 9 2).bind fun x15 =>
    (s_Walk_hour F g4 v0).bind fun h22 =>
    l_Walk_metInLoop_4 F v0 nn (a4_1 ||| ((1 : Int32) <<< (x15 &&& 31))) (a4_2 + (1 : Int32)) h22
theorem cl_Walk_metInLoop_4 {G : fw_G} {F : Nat} {v0 : Option Nat} : ∀ (nn : Nat) (a4_1 : Int32) (a4_2 : Int32) (g4 : fw_H), fw_R G m_Walk_metInLoop fw_wI 4 0 0 4 [(0, some (fw_r v0)), (1, some (fw_i a4_1)), (2, some (fw_i a4_2))] [] g4 (l_Walk_metInLoop_4 F v0 nn a4_1 a4_2 g4) := by
  intro nn
  induction nn with
  | zero => intros; exact r_none
  | succ nn ih =>
    intro a4_1 a4_2 g4
    rw [l_Walk_metInLoop_4]
    refine r_iload_n (i := 4) rfl rfl rfl ?_
    refine r_aload_n (i := 5) rfl rfl rfl ?_
    refine r_gI (i := 6) (ci := 9) (kf := 14) rfl (Nat.le_of_ble_eq_true rfl) wF_Walk_180 rfl rfl fun x6 => ?_
    refine r_icmp_ge (i := 7) (tgt := 31) rfl rfl rfl ?_ ?_
    · refine r_iload_n (i := 19) rfl rfl rfl ?_
      exact r_retI (i := 20) rfl rfl rfl rfl
    · refine r_iload_n (i := 8) rfl rfl rfl ?_
      refine r_iconst (i := 9) (1 : Int32) kc_iconst_1 rfl rfl ?_
      refine r_aload_n (i := 10) rfl rfl rfl ?_
      refine r_gI (i := 11) (ci := 9) (kf := 2) rfl (Nat.le_of_ble_eq_true rfl) wF_Walk_86 rfl rfl fun x15 => ?_
      refine r_ishl (i := 12) rfl rfl ?_
      refine r_ior (i := 13) rfl rfl ?_
      refine r_istore_n (i := 14) rfl rfl (Nat.le_of_ble_eq_true rfl) rfl ?_
      refine r_aload_n (i := 15) rfl rfl rfl ?_
      refine r_VV0 (i := 16) (k2 := 0) (n2 := 0) ok_Walk_hour wM_Walk_116 (c_Walk_hour F) (fun _ e => fw_ckb e) (Nat.le_of_ble_eq_true rfl) (Nat.le_of_ble_eq_true rfl) (Nat.le_of_ble_eq_true rfl) (Nat.le_of_ble_eq_true rfl) rfl rfl fun h22 => ?_
      refine r_iinc (i := 17) (1 : Int32) kc_iconst_1 rfl rfl rfl (Nat.le_of_ble_eq_true rfl) ?_
      refine r_goto (i := 18) (tgt := 4) rfl rfl rfl ?_
      exact r_lv (fw_sub1 rfl (fw_sub1 rfl (fw_sub1 rfl fw_sub0))) (ih (a4_1 ||| ((1 : Int32) <<< (x15 &&& 31))) (a4_2 + (1 : Int32)) h22)
def s_Walk_metInLoop (F : Nat) (h : fw_H) (v0 : Option Nat) : Option (Int32 × fw_H) :=
(f_ck h v0 9).bind fun _ =>
l_Walk_metInLoop_4 F v0 F (0 : Int32) (0 : Int32) h
theorem c_Walk_metInLoop {G : fw_G} (F : Nat) {h : fw_H} {v0 : Option Nat} : fw_Call G m_Walk_metInLoop fw_wI 4 0 0 [fw_r v0] h (s_Walk_metInLoop F h v0) := by
  refine fw_Call.of ok_Walk_metInLoop.1 (Nat.le_of_ble_eq_true rfl) [(0, some (fw_r v0))] rfl ?_
  refine r_ck ?_
  refine r_iconst (i := 0) (0 : Int32) kc_iconst_0 rfl rfl ?_
  refine r_istore_n (i := 1) rfl rfl (Nat.le_of_ble_eq_true rfl) rfl ?_
  refine r_iconst (i := 2) (0 : Int32) kc_iconst_0 rfl rfl ?_
  refine r_istore_n (i := 3) rfl rfl (Nat.le_of_ble_eq_true rfl) rfl ?_
  refine r_lv (fw_sub1 rfl (fw_sub1 rfl (fw_sub1 rfl fw_sub0))) (cl_Walk_metInLoop_4 F _ _ _)
-- Ways_init
def s_Ways_init (h : fw_H) (v0 : Option Nat) (v1 : Option Nat) : Option fw_H :=
fw_new h (fw_I 4 (fun _ => 0)) fun q6 h6 =>
(f_pR h6 v0 10 4 q6).bind fun h8 =>
(f_pR h8 v0 10 0 v1).bind fun h13 =>
some h13
theorem c_Ways_init {G : fw_G} {h : fw_H} {v0 : Option Nat} {v1 : Option Nat} (hv0 : v0.isSome = true) : fw_Call G m_Ways_init fw_eV 1 1 4 [fw_r v0, fw_r v1] h (s_Ways_init h v0 v1) := by
  refine fw_Call.of ok_Ways_init.1 (Nat.le_of_ble_eq_true rfl) [(0, some (fw_r v0)), (1, some (fw_r v1))] rfl ?_
  refine r_aload_n (i := 0) rfl rfl rfl ?_
  refine r_obji (i := 1) hv0 (Nat.le_of_ble_eq_true rfl) (Nat.le_of_ble_eq_true rfl) wM_Ways_3 wO_1 wO_2 rfl rfl ?_
  refine r_aload_n (i := 2) rfl rfl rfl ?_
  refine r_iconst (i := 3) (4 : Int32) kc_iconst_4 rfl rfl ?_
  refine r_newIN (i := 4) (k2 := 0) (n2 := 0) (N := 4) (by decide) (by decide) (Nat.le_of_ble_eq_true rfl) (Nat.le_of_ble_eq_true rfl) (Nat.le_of_ble_eq_true rfl) wA_int rfl rfl fun q6 h6 => ?_
  refine r_pRF (i := 5) (ci := 10) (kf := 4) rfl (Nat.le_of_ble_eq_true rfl) wF_Ways_9 rfl rfl rfl ⟨_, (tyX10_ok 4 (Nat.le_of_ble_eq_true rfl)), Or.inr ⟨_, rfl⟩⟩ rfl rfl fun h8 => ?_
  refine r_aload_n (i := 6) rfl rfl rfl ?_
  refine r_aload_n (i := 7) rfl rfl rfl ?_
  refine r_pRF (i := 8) (ci := 10) (kf := 0) rfl (Nat.le_of_ble_eq_true rfl) wF_Ways_15 rfl rfl rfl ⟨_, (tyX10_ok 0 (Nat.le_of_ble_eq_true rfl)), Or.inl ⟨_, rfl⟩⟩ rfl rfl fun h13 => ?_
  exact r_retV (i := 9) rfl rfl rfl rfl
-- Jdk_bitCount
def s_Jdk_bitCount (v0 : Int32) : Option Int32 :=
some ((((((((v0 - ((fw_iushr v0 (1 : Int32)) &&& (1431655765 : Int32))) &&& (858993459 : Int32)) + ((fw_iushr (v0 - ((fw_iushr v0 (1 : Int32)) &&& (1431655765 : Int32))) (2 : Int32)) &&& (858993459 : Int32))) + (fw_iushr (((v0 - ((fw_iushr v0 (1 : Int32)) &&& (1431655765 : Int32))) &&& (858993459 : Int32)) + ((fw_iushr (v0 - ((fw_iushr v0 (1 : Int32)) &&& (1431655765 : Int32))) (2 : Int32)) &&& (858993459 : Int32))) (4 : Int32))) &&& (252645135 : Int32)) + (fw_iushr (((((v0 - ((fw_iushr v0 (1 : Int32)) &&& (1431655765 : Int32))) &&& (858993459 : Int32)) + ((fw_iushr (v0 - ((fw_iushr v0 (1 : Int32)) &&& (1431655765 : Int32))) (2 : Int32)) &&& (858993459 : Int32))) + (fw_iushr (((v0 - ((fw_iushr v0 (1 : Int32)) &&& (1431655765 : Int32))) &&& (858993459 : Int32)) + ((fw_iushr (v0 - ((fw_iushr v0 (1 : Int32)) &&& (1431655765 : Int32))) (2 : Int32)) &&& (858993459 : Int32))) (4 : Int32))) &&& (252645135 : Int32)) (8 : Int32))) + (fw_iushr ((((((v0 - ((fw_iushr v0 (1 : Int32)) &&& (1431655765 : Int32))) &&& (858993459 : Int32)) + ((fw_iushr (v0 - ((fw_iushr v0 (1 : Int32)) &&& (1431655765 : Int32))) (2 : Int32)) &&& (858993459 : Int32))) + (fw_iushr (((v0 - ((fw_iushr v0 (1 : Int32)) &&& (1431655765 : Int32))) &&& (858993459 : Int32)) + ((fw_iushr (v0 - ((fw_iushr v0 (1 : Int32)) &&& (1431655765 : Int32))) (2 : Int32)) &&& (858993459 : Int32))) (4 : Int32))) &&& (252645135 : Int32)) + (fw_iushr (((((v0 - ((fw_iushr v0 (1 : Int32)) &&& (1431655765 : Int32))) &&& (858993459 : Int32)) + ((fw_iushr (v0 - ((fw_iushr v0 (1 : Int32)) &&& (1431655765 : Int32))) (2 : Int32)) &&& (858993459 : Int32))) + (fw_iushr (((v0 - ((fw_iushr v0 (1 : Int32)) &&& (1431655765 : Int32))) &&& (858993459 : Int32)) + ((fw_iushr (v0 - ((fw_iushr v0 (1 : Int32)) &&& (1431655765 : Int32))) (2 : Int32)) &&& (858993459 : Int32))) (4 : Int32))) &&& (252645135 : Int32)) (8 : Int32))) (16 : Int32))) &&& (63 : Int32))
theorem c_Jdk_bitCount {G : fw_G} {h : fw_H} {v0 : Int32} : fw_Call G m_Jdk_bitCount (fw_eI h) 0 0 0 [fw_i v0] h (s_Jdk_bitCount v0) := by
  refine fw_Call.of ok_Jdk_bitCount.1 (Nat.le_of_ble_eq_true rfl) [(0, some (fw_i v0))] rfl ?_
  refine r_iload_n (i := 0) rfl rfl rfl ?_
  refine r_iload_n (i := 1) rfl rfl rfl ?_
  refine r_iconst (i := 2) (1 : Int32) kc_iconst_1 rfl rfl ?_
  refine r_iushr (i := 3) rfl rfl ?_
  refine r_ldcw (i := 4) wK_JInt_265 rfl rfl ?_
  refine r_iand (i := 5) rfl rfl ?_
  refine r_isub (i := 6) rfl rfl ?_
  refine r_istore_n (i := 7) rfl rfl (Nat.le_of_ble_eq_true rfl) rfl ?_
  refine r_iload_n (i := 8) rfl rfl rfl ?_
  refine r_ldcw (i := 9) wK_JInt_266 rfl rfl ?_
  refine r_iand (i := 10) rfl rfl ?_
  refine r_iload_n (i := 11) rfl rfl rfl ?_
  refine r_iconst (i := 12) (2 : Int32) kc_iconst_2 rfl rfl ?_
  refine r_iushr (i := 13) rfl rfl ?_
  refine r_ldcw (i := 14) wK_JInt_266 rfl rfl ?_
  refine r_iand (i := 15) rfl rfl ?_
  refine r_iadd (i := 16) rfl rfl ?_
  refine r_istore_n (i := 17) rfl rfl (Nat.le_of_ble_eq_true rfl) rfl ?_
  refine r_iload_n (i := 18) rfl rfl rfl ?_
  refine r_iload_n (i := 19) rfl rfl rfl ?_
  refine r_iconst (i := 20) (4 : Int32) kc_iconst_4 rfl rfl ?_
  refine r_iushr (i := 21) rfl rfl ?_
  refine r_iadd (i := 22) rfl rfl ?_
  refine r_ldcw (i := 23) wK_JInt_267 rfl rfl ?_
  refine r_iand (i := 24) rfl rfl ?_
  refine r_istore_n (i := 25) rfl rfl (Nat.le_of_ble_eq_true rfl) rfl ?_
  refine r_iload_n (i := 26) rfl rfl rfl ?_
  refine r_iload_n (i := 27) rfl rfl rfl ?_
  refine r_bipush (i := 28) (8 : Int32) kc_bipush_8 rfl rfl ?_
  refine r_iushr (i := 29) rfl rfl ?_
  refine r_iadd (i := 30) rfl rfl ?_
  refine r_istore_n (i := 31) rfl rfl (Nat.le_of_ble_eq_true rfl) rfl ?_
  refine r_iload_n (i := 32) rfl rfl rfl ?_
  refine r_iload_n (i := 33) rfl rfl rfl ?_
  refine r_bipush (i := 34) (16 : Int32) kc_bipush_16 rfl rfl ?_
  refine r_iushr (i := 35) rfl rfl ?_
  refine r_iadd (i := 36) rfl rfl ?_
  refine r_istore_n (i := 37) rfl rfl (Nat.le_of_ble_eq_true rfl) rfl ?_
  refine r_iload_n (i := 38) rfl rfl rfl ?_
  refine r_bipush (i := 39) (63 : Int32) kc_bipush_63 rfl rfl ?_
  refine r_iand (i := 40) rfl rfl ?_
  exact r_retI (i := 41) rfl rfl rfl rfl
-- Ways_isWorse
def s_Ways_isWorse (h : fw_H) (v0 : Option Nat) (v1 : Int32) : Option Bool :=
(f_ck h v0 10).bind fun _ =>
(f_gI h v0 10 2).bind fun x1 =>
if ¬ x1 = (-1 : Int32) then ((s_Jdk_bitCount v1).bind fun x11 =>
(f_gI h v0 10 2).bind fun x15 =>
(s_Jdk_bitCount x15).bind fun x18 =>
if (0 : Int32) < (x11 - x18) then (some true) else
if ¬ (x11 - x18) = (0 : Int32) then (some false) else
(f_gI h v0 10 2).bind fun x33 =>
if v1 < x33 then (some false) else
some true) else
some false
theorem c_Ways_isWorse {G : fw_G} {h : fw_H} {v0 : Option Nat} {v1 : Int32} : fw_Call G m_Ways_isWorse (fw_eB h) 1 0 0 [fw_r v0, fw_i v1] h (s_Ways_isWorse h v0 v1) := by
  refine fw_Call.of ok_Ways_isWorse.1 (Nat.le_of_ble_eq_true rfl) [(0, some (fw_r v0)), (1, some (fw_i v1))] rfl ?_
  refine r_ck ?_
  refine r_aload_n (i := 0) rfl rfl rfl ?_
  refine r_gI (i := 1) (ci := 10) (kf := 2) rfl (Nat.le_of_ble_eq_true rfl) wF_Ways_23 rfl rfl fun x1 => ?_
  refine r_iconst (i := 2) (-1 : Int32) kc_iconst_m1 rfl rfl ?_
  refine r_icmp_ne (i := 3) (tgt := 10) rfl rfl rfl ?_ ?_
  · refine r_iload_n (i := 6) rfl rfl rfl ?_
    refine r_SI1 (i := 7) (k2 := 0) (n2 := 0) ok_Jdk_bitCount wM_Ways_59 (c_Jdk_bitCount) (Nat.le_of_ble_eq_true rfl) (Nat.le_of_ble_eq_true rfl) (Nat.le_of_ble_eq_true rfl) (Nat.le_of_ble_eq_true rfl) rfl rfl fun x11 => ?_
    refine r_aload_n (i := 8) rfl rfl rfl ?_
    refine r_gI (i := 9) (ci := 10) (kf := 2) rfl (Nat.le_of_ble_eq_true rfl) wF_Ways_23 rfl rfl fun x15 => ?_
    refine r_SI1 (i := 10) (k2 := 0) (n2 := 0) ok_Jdk_bitCount wM_Ways_59 (c_Jdk_bitCount) (Nat.le_of_ble_eq_true rfl) (Nat.le_of_ble_eq_true rfl) (Nat.le_of_ble_eq_true rfl) (Nat.le_of_ble_eq_true rfl) rfl rfl fun x18 => ?_
    refine r_isub (i := 11) rfl rfl ?_
    refine r_istore_n (i := 12) rfl rfl (Nat.le_of_ble_eq_true rfl) rfl ?_
    refine r_iload_n (i := 13) rfl rfl rfl ?_
    refine r_if_gt (i := 14) (tgt := 39) rfl rfl rfl ?_ ?_
    · refine r_iconst (i := 21) (1 : Int32) kc_iconst_1 rfl rfl ?_
      refine r_goto (i := 22) (tgt := 44) rfl rfl rfl ?_
      exact r_retB (x := true) (i := 24) rfl rfl rfl rfl
    · refine r_iload_n (i := 15) rfl rfl rfl ?_
      refine r_if_ne (i := 16) (tgt := 43) rfl rfl rfl ?_ ?_
      · refine r_iconst (i := 23) (0 : Int32) kc_iconst_0 rfl rfl ?_
        exact r_retB (x := false) (i := 24) rfl rfl rfl rfl
      · refine r_iload_n (i := 17) rfl rfl rfl ?_
        refine r_aload_n (i := 18) rfl rfl rfl ?_
        refine r_gI (i := 19) (ci := 10) (kf := 2) rfl (Nat.le_of_ble_eq_true rfl) wF_Ways_23 rfl rfl fun x33 => ?_
        refine r_icmp_lt (i := 20) (tgt := 43) rfl rfl rfl ?_ ?_
        · refine r_iconst (i := 23) (0 : Int32) kc_iconst_0 rfl rfl ?_
          exact r_retB (x := false) (i := 24) rfl rfl rfl rfl
        · refine r_iconst (i := 21) (1 : Int32) kc_iconst_1 rfl rfl ?_
          refine r_goto (i := 22) (tgt := 44) rfl rfl rfl ?_
          exact r_retB (x := true) (i := 24) rfl rfl rfl rfl
  · refine r_iconst (i := 4) (0 : Int32) kc_iconst_0 rfl rfl ?_
    exact r_retB (x := false) (i := 5) rfl rfl rfl rfl
-- Ways_unsettled
def l_Ways_unsettled_7 (h : fw_H) (v0 : Option Nat) (v1 : Int32) (K72 : Int32 → Int32 → Option Int32) : Nat → Int32 → Int32 → Int32 → Option Int32
  | 0, _, _, _ => none
  | nn + 1, a7_2, a7_3, a7_4 =>
    (f_gR h v0 10 0).bind fun x10 =>
    (s_Walk_doorCount h x10).bind fun x13 =>
    if x13 ≤ a7_4 then (K72 a7_2 a7_3) else
    (f_gR h v0 10 0).bind fun x20 =>
    (s_Walk_door h x20 a7_4).bind fun x25 =>
    (f_gR h v0 10 0).bind fun x33 =>
    (f_gI h x33 9 3).bind fun x36 =>
    if x25 = x36 then (l_Ways_unsettled_7 h v0 v1 K72 nn a7_2 a7_3 (a7_4 + (1 : Int32))) else
    if ¬ a7_2 = (-1 : Int32) then (l_Ways_unsettled_7 h v0 v1 K72 nn a7_2 (a7_3 + (1 : Int32)) (a7_4 + (1 : Int32))) else
    (s_Rows_has v1 x25).bind fun x53 =>
    if x53 = true then (l_Ways_unsettled_7 h v0 v1 K72 nn a7_2 (a7_3 + (1 : Int32)) (a7_4 + (1 : Int32))) else
    l_Ways_unsettled_7 h v0 v1 K72 nn x25 (a7_3 + (1 : Int32)) (a7_4 + (1 : Int32))
theorem cl_Ways_unsettled_7 {G : fw_G} {h : fw_H} {v0 : Option Nat} {v1 : Int32} {K72 : Int32 → Int32 → Option Int32} (hK72 : ∀ (e72_2 : Int32) (e72_3 : Int32), fw_R G m_Ways_unsettled (fw_eI h) 3 0 0 72 [(0, some (fw_r v0)), (2, some (fw_i e72_2)), (3, some (fw_i e72_3))] [] h (K72 e72_2 e72_3)) : ∀ (nn : Nat) (a7_2 : Int32) (a7_3 : Int32) (a7_4 : Int32), fw_R G m_Ways_unsettled (fw_eI h) 3 0 0 7 [(0, some (fw_r v0)), (1, some (fw_i v1)), (2, some (fw_i a7_2)), (3, some (fw_i a7_3)), (4, some (fw_i a7_4))] [] h (l_Ways_unsettled_7 h v0 v1 K72 nn a7_2 a7_3 a7_4) := by
  intro nn
  induction nn with
  | zero => intros; exact r_none
  | succ nn ih =>
    intro a7_2 a7_3 a7_4
    rw [l_Ways_unsettled_7]
    refine r_iload (i := 6) rfl rfl rfl ?_
    refine r_aload_n (i := 7) rfl rfl rfl ?_
    refine r_gR (i := 8) (ci := 10) (kf := 0) rfl (Nat.le_of_ble_eq_true rfl) wF_Ways_15 rfl rfl fun x10 => ?_
    refine r_VI0 (i := 9) (k2 := 0) (n2 := 0) ok_Walk_doorCount wM_Ways_64 (c_Walk_doorCount) (fun _ e => fw_ckb e) (Nat.le_of_ble_eq_true rfl) (Nat.le_of_ble_eq_true rfl) (Nat.le_of_ble_eq_true rfl) (Nat.le_of_ble_eq_true rfl) rfl rfl fun x13 => ?_
    refine r_icmp_ge (i := 10) (tgt := 72) rfl rfl rfl ?_ ?_
    · exact r_lv (fw_sub1 rfl (fw_sub1 rfl (fw_sub1 rfl fw_sub0))) (hK72 a7_2 a7_3)
    · refine r_aload_n (i := 11) rfl rfl rfl ?_
      refine r_gR (i := 12) (ci := 10) (kf := 0) rfl (Nat.le_of_ble_eq_true rfl) wF_Ways_15 rfl rfl fun x20 => ?_
      refine r_iload (i := 13) rfl rfl rfl ?_
      refine r_VI1 (i := 14) (k2 := 0) (n2 := 0) ok_Walk_door wM_Ways_68 (c_Walk_door) (fun _ e => fw_ckb e) (Nat.le_of_ble_eq_true rfl) (Nat.le_of_ble_eq_true rfl) (Nat.le_of_ble_eq_true rfl) (Nat.le_of_ble_eq_true rfl) rfl rfl fun x25 => ?_
      refine r_istore (i := 15) rfl rfl (Nat.le_of_ble_eq_true rfl) rfl ?_
      refine r_iload (i := 16) rfl rfl rfl ?_
      refine r_aload_n (i := 17) rfl rfl rfl ?_
      refine r_gR (i := 18) (ci := 10) (kf := 0) rfl (Nat.le_of_ble_eq_true rfl) wF_Ways_15 rfl rfl fun x33 => ?_
      refine r_gI (i := 19) (ci := 9) (kf := 3) rfl (Nat.le_of_ble_eq_true rfl) wF_Ways_46 rfl rfl fun x36 => ?_
      refine r_icmp_eq (i := 20) (tgt := 66) rfl rfl rfl ?_ ?_
      · refine r_iinc (i := 33) (1 : Int32) kc_iconst_1 rfl rfl rfl (Nat.le_of_ble_eq_true rfl) ?_
        refine r_goto (i := 34) (tgt := 7) rfl rfl rfl ?_
        exact r_lv (fw_sub1 rfl (fw_sub1 rfl (fw_sub1 rfl (fw_sub1 rfl (fw_sub1 rfl fw_sub0))))) (ih a7_2 a7_3 (a7_4 + (1 : Int32)))
      · refine r_iinc (i := 21) (1 : Int32) kc_iconst_1 rfl rfl rfl (Nat.le_of_ble_eq_true rfl) ?_
        refine r_iload_n (i := 22) rfl rfl rfl ?_
        refine r_iconst (i := 23) (-1 : Int32) kc_iconst_m1 rfl rfl ?_
        refine r_icmp_ne (i := 24) (tgt := 64) rfl rfl rfl ?_ ?_
        · refine r_iload_n (i := 31) rfl rfl rfl ?_
          refine r_istore_n (i := 32) rfl rfl (Nat.le_of_ble_eq_true rfl) rfl ?_
          refine r_iinc (i := 33) (1 : Int32) kc_iconst_1 rfl rfl rfl (Nat.le_of_ble_eq_true rfl) ?_
          refine r_goto (i := 34) (tgt := 7) rfl rfl rfl ?_
          exact r_lv (fw_sub1 rfl (fw_sub1 rfl (fw_sub1 rfl (fw_sub1 rfl (fw_sub1 rfl fw_sub0))))) (ih a7_2 (a7_3 + (1 : Int32)) (a7_4 + (1 : Int32)))
        · refine r_iload_n (i := 25) rfl rfl rfl ?_
          refine r_iload (i := 26) rfl rfl rfl ?_
          refine r_SB2 (i := 27) (k2 := 0) (n2 := 0) ok_Rows_has wM_Ways_71 (c_Rows_has) (Nat.le_of_ble_eq_true rfl) (Nat.le_of_ble_eq_true rfl) (Nat.le_of_ble_eq_true rfl) (Nat.le_of_ble_eq_true rfl) rfl rfl fun x53 => ?_
          refine r_ifneB (i := 28) (tgt := 64) rfl rfl rfl ?_ ?_
          · refine r_iload_n (i := 31) rfl rfl rfl ?_
            refine r_istore_n (i := 32) rfl rfl (Nat.le_of_ble_eq_true rfl) rfl ?_
            refine r_iinc (i := 33) (1 : Int32) kc_iconst_1 rfl rfl rfl (Nat.le_of_ble_eq_true rfl) ?_
            refine r_goto (i := 34) (tgt := 7) rfl rfl rfl ?_
            exact r_lv (fw_sub1 rfl (fw_sub1 rfl (fw_sub1 rfl (fw_sub1 rfl (fw_sub1 rfl fw_sub0))))) (ih a7_2 (a7_3 + (1 : Int32)) (a7_4 + (1 : Int32)))
          · refine r_iload (i := 29) rfl rfl rfl ?_
            refine r_goto (i := 30) (tgt := 65) rfl rfl rfl ?_
            refine r_istore_n (i := 32) rfl rfl (Nat.le_of_ble_eq_true rfl) rfl ?_
            refine r_iinc (i := 33) (1 : Int32) kc_iconst_1 rfl rfl rfl (Nat.le_of_ble_eq_true rfl) ?_
            refine r_goto (i := 34) (tgt := 7) rfl rfl rfl ?_
            exact r_lv (fw_sub1 rfl (fw_sub1 rfl (fw_sub1 rfl (fw_sub1 rfl (fw_sub1 rfl fw_sub0))))) (ih x25 (a7_3 + (1 : Int32)) (a7_4 + (1 : Int32)))
def s_Ways_unsettled (F : Nat) (h : fw_H) (v0 : Option Nat) (v1 : Int32) : Option Int32 :=
(f_ck h v0 10).bind fun _ =>
l_Ways_unsettled_7 h v0 v1 (fun e72_2 e72_3 =>
if e72_3 ≤ (1 : Int32) then (some (-1 : Int32)) else
(f_gR h v0 10 0).bind fun x78 =>
(s_Walk_isCalled F h x78).bind fun x81 =>
if x81 = true then (some e72_2) else
some (-1 : Int32)) F (-1 : Int32) (0 : Int32) (0 : Int32)
theorem c_Ways_unsettled {G : fw_G} (F : Nat) {h : fw_H} {v0 : Option Nat} {v1 : Int32} : fw_Call G m_Ways_unsettled (fw_eI h) 3 0 0 [fw_r v0, fw_i v1] h (s_Ways_unsettled F h v0 v1) := by
  refine fw_Call.of ok_Ways_unsettled.1 (Nat.le_of_ble_eq_true rfl) [(0, some (fw_r v0)), (1, some (fw_i v1))] rfl ?_
  refine r_ck ?_
  refine r_iconst (i := 0) (-1 : Int32) kc_iconst_m1 rfl rfl ?_
  refine r_istore_n (i := 1) rfl rfl (Nat.le_of_ble_eq_true rfl) rfl ?_
  refine r_iconst (i := 2) (0 : Int32) kc_iconst_0 rfl rfl ?_
  refine r_istore_n (i := 3) rfl rfl (Nat.le_of_ble_eq_true rfl) rfl ?_
  refine r_iconst (i := 4) (0 : Int32) kc_iconst_0 rfl rfl ?_
  refine r_istore (i := 5) rfl rfl (Nat.le_of_ble_eq_true rfl) rfl ?_
  refine r_lv (fw_sub1 rfl (fw_sub1 rfl (fw_sub1 rfl (fw_sub1 rfl (fw_sub1 rfl fw_sub0))))) (cl_Ways_unsettled_7 ?_ F _ _ _)
  · intro e72_2 e72_3
    refine r_iload_n (i := 35) rfl rfl rfl ?_
    refine r_iconst (i := 36) (1 : Int32) kc_iconst_1 rfl rfl ?_
    refine r_icmp_le (i := 37) (tgt := 91) rfl rfl rfl ?_ ?_
    · refine r_iconst (i := 44) (-1 : Int32) kc_iconst_m1 rfl rfl ?_
      exact r_retI (i := 45) rfl rfl rfl rfl
    · refine r_aload_n (i := 38) rfl rfl rfl ?_
      refine r_gR (i := 39) (ci := 10) (kf := 0) rfl (Nat.le_of_ble_eq_true rfl) wF_Ways_15 rfl rfl fun x78 => ?_
      refine r_VB0 (i := 40) (k2 := 0) (n2 := 0) ok_Walk_isCalled wM_Ways_77 (c_Walk_isCalled F) (fun _ e => fw_ckb e) (Nat.le_of_ble_eq_true rfl) (Nat.le_of_ble_eq_true rfl) (Nat.le_of_ble_eq_true rfl) (Nat.le_of_ble_eq_true rfl) rfl rfl fun x81 => ?_
      refine r_ifeqB (i := 41) (tgt := 91) rfl rfl rfl ?_ ?_
      · refine r_iconst (i := 44) (-1 : Int32) kc_iconst_m1 rfl rfl ?_
        exact r_retI (i := 45) rfl rfl rfl rfl
      · refine r_iload_n (i := 42) rfl rfl rfl ?_
        refine r_goto (i := 43) (tgt := 92) rfl rfl rfl ?_
        exact r_retI (i := 45) rfl rfl rfl rfl
-- Ways_tryTurns
def l_Ways_tryTurns_19 (F : Nat) (v0 : Option Nat) (v2 : Int32) (K164 : fw_H → Option fw_H) (K37 : Int32 → Int32 → fw_H → Option fw_H) : Nat → Int32 → fw_H → Option fw_H
  | 0, _, _ => none
  | nn + 1, a19_5, g19 =>
    if a19_5 ≤ (0 : Int32) then (K164 g19) else
    (s_Ways_unsettled F g19 v0 v2).bind fun x26 =>
    if x26 = (-1 : Int32) then ((f_gR g19 v0 10 0).bind fun x152 =>
    (s_Walk_hour F g19 x152).bind fun h155 =>
    l_Ways_tryTurns_19 F v0 v2 K164 K37 nn (a19_5 + (-1 : Int32)) h155) else
    K37 a19_5 x26 g19
theorem cl_Ways_tryTurns_19 {G : fw_G} {F : Nat} {g : Nat → fw_H → Option Nat → Int32 → Int32 → Int32 → Int32 → Option fw_H} {dd : Nat} {v0 : Option Nat} {v2 : Int32} {v3 : Int32} {v4 : Int32} {K164 : fw_H → Option fw_H} {K37 : Int32 → Int32 → fw_H → Option fw_H} (hdd : 4 ≤ dd) (hg0 : ∀ (h : fw_H) (v0 : Option Nat) (v1 : Int32) (v2 : Int32) (v3 : Int32) (v4 : Int32), fw_Call G m_Ways_tryTurns fw_eV dd 0 0 [fw_r v0, fw_i v1, fw_i v2, fw_i v3, fw_i v4] h (g 0 h v0 v1 v2 v3 v4)) (hk0 : ∀ {h : fw_H} {v0 : Option Nat} {v1 : Int32} {v2 : Int32} {v3 : Int32} {v4 : Int32} {x : fw_H}, g 0 h v0 v1 v2 v3 v4 = some x → f_ck h v0 10 = some ()) (hK164 : ∀ (he164 : fw_H), fw_R G m_Ways_tryTurns fw_eV (dd + 1) 0 0 164 [(0, some (fw_r v0)), (3, some (fw_i v3))] [] he164 (K164 he164)) (hK37 : ∀ (e37_5 : Int32) (e37_6 : Int32) (he37 : fw_H), fw_R G m_Ways_tryTurns fw_eV (dd + 1) 0 0 37 [(0, some (fw_r v0)), (2, some (fw_i v2)), (3, some (fw_i v3)), (4, some (fw_i v4)), (5, some (fw_i e37_5)), (6, some (fw_i e37_6))] [] he37 (K37 e37_5 e37_6 he37)) : ∀ (nn : Nat) (a19_5 : Int32) (g19 : fw_H), fw_R G m_Ways_tryTurns fw_eV (dd + 1) 0 0 19 [(0, some (fw_r v0)), (2, some (fw_i v2)), (3, some (fw_i v3)), (4, some (fw_i v4)), (5, some (fw_i a19_5))] [] g19 (l_Ways_tryTurns_19 F v0 v2 K164 K37 nn a19_5 g19) := by
  intro nn
  induction nn with
  | zero => intros; exact r_none
  | succ nn ih =>
    intro a19_5 g19
    rw [l_Ways_tryTurns_19]
    refine r_iload (i := 10) rfl rfl rfl ?_
    refine r_if_le (i := 11) (tgt := 164) rfl rfl rfl ?_ ?_
    · exact r_lv (fw_sub1 rfl (fw_sub1 rfl fw_sub0)) (hK164 g19)
    · refine r_aload_n (i := 12) rfl rfl rfl ?_
      refine r_iload_n (i := 13) rfl rfl rfl ?_
      refine r_VI1 (i := 14) (k2 := 0) (n2 := 0) ok_Ways_unsettled wM_Ways_39 (c_Ways_unsettled F) (fun _ e => fw_ckb e) (by omega) (Nat.le_of_ble_eq_true rfl) (Nat.le_of_ble_eq_true rfl) (Nat.le_of_ble_eq_true rfl) rfl rfl fun x26 => ?_
      refine r_istore (i := 15) rfl rfl (Nat.le_of_ble_eq_true rfl) rfl ?_
      refine r_iload (i := 16) rfl rfl rfl ?_
      refine r_iconst (i := 17) (-1 : Int32) kc_iconst_m1 rfl rfl ?_
      refine r_icmp_eq (i := 18) (tgt := 151) rfl rfl rfl ?_ ?_
      · refine r_aload_n (i := 86) rfl rfl rfl ?_
        refine r_gR (i := 87) (ci := 10) (kf := 0) rfl (Nat.le_of_ble_eq_true rfl) wF_Ways_15 rfl rfl fun x152 => ?_
        refine r_VV0 (i := 88) (k2 := 0) (n2 := 0) ok_Walk_hour wM_Ways_56 (c_Walk_hour F) (fun _ e => fw_ckb e) (by omega) (Nat.le_of_ble_eq_true rfl) (Nat.le_of_ble_eq_true rfl) (Nat.le_of_ble_eq_true rfl) rfl rfl fun h155 => ?_
        refine r_iinc (i := 89) (-1 : Int32) kc_iconst_m1 rfl rfl rfl (Nat.le_of_ble_eq_true rfl) ?_
        refine r_goto (i := 90) (tgt := 19) rfl rfl rfl ?_
        exact r_lv (fw_sub1 rfl (fw_sub1 rfl (fw_sub1 rfl (fw_sub1 rfl (fw_sub1 rfl fw_sub0))))) (ih (a19_5 + (-1 : Int32)) h155)
      · exact r_lv (fw_sub1 rfl (fw_sub1 rfl (fw_sub1 rfl (fw_sub1 rfl (fw_sub1 rfl (fw_sub1 rfl fw_sub0)))))) (hK37 a19_5 x26 g19)
def b_Ways_tryTurns (F : Nat) (g : Nat → fw_H → Option Nat → Int32 → Int32 → Int32 → Int32 → Option fw_H) (h : fw_H) (v0 : Option Nat) (v1 : Int32) (v2 : Int32) (v3 : Int32) (v4 : Int32) : Option fw_H :=
(f_ck h v0 10).bind fun _ =>
if (12 : Int32) < v4 then (some h) else
(s_Ways_isWorse h v0 v3).bind fun x9 =>
if x9 = true then (some h) else
l_Ways_tryTurns_19 F v0 v2 (fun he164 =>
(f_gR he164 v0 10 0).bind fun x165 =>
(f_gI he164 x165 9 2).bind fun x168 =>
(f_gI he164 v0 10 1).bind fun x172 =>
if ¬ x168 = x172 then (some he164) else
(f_pI he164 v0 10 2 v3).bind fun h180 =>
some h180) (fun e37_5 e37_6 he37 =>
(f_gR he37 v0 10 0).bind fun x38 =>
(f_gI he37 x38 9 2).bind fun x41 =>
(f_gR he37 v0 10 0).bind fun x47 =>
(f_gI he37 x47 9 3).bind fun x50 =>
(f_gR he37 v0 10 0).bind fun x56 =>
(f_gI he37 x56 9 4).bind fun x59 =>
(g 0 he37 v0 e37_5 (v2 ||| ((1 : Int32) <<< (e37_6 &&& 31))) v3 (v4 + (1 : Int32))).bind fun h78 =>
(f_gR h78 v0 10 0).bind fun x82 =>
(s_Walk_standAt h78 x82 x41 x50 x59).bind fun h91 =>
(f_gR h91 v0 10 0).bind fun x95 =>
(f_gI h91 x95 9 5).bind fun x99 =>
(f_pI h91 x95 9 5 (x99 ||| ((1 : Int32) <<< (e37_6 &&& 31)))).bind fun h107 =>
(g 0 h107 v0 e37_5 (v2 ||| ((1 : Int32) <<< (e37_6 &&& 31))) (v3 ||| ((1 : Int32) <<< (e37_6 &&& 31))) (v4 + (1 : Int32))).bind fun h129 =>
(f_gR h129 v0 10 0).bind fun x133 =>
(f_gI h129 x133 9 5).bind fun x137 =>
(f_pI h129 x133 9 5 (x137 &&& (((1 : Int32) <<< (e37_6 &&& 31)) ^^^ (-1 : Int32)))).bind fun h147 =>
some h147) F v1 h
theorem cb_Ways_tryTurns {G : fw_G} {F : Nat} {g : Nat → fw_H → Option Nat → Int32 → Int32 → Int32 → Int32 → Option fw_H} {dd : Nat} (hdd : 4 ≤ dd) (hg0 : ∀ (h : fw_H) (v0 : Option Nat) (v1 : Int32) (v2 : Int32) (v3 : Int32) (v4 : Int32), fw_Call G m_Ways_tryTurns fw_eV dd 0 0 [fw_r v0, fw_i v1, fw_i v2, fw_i v3, fw_i v4] h (g 0 h v0 v1 v2 v3 v4)) (hk0 : ∀ {h : fw_H} {v0 : Option Nat} {v1 : Int32} {v2 : Int32} {v3 : Int32} {v4 : Int32} {x : fw_H}, g 0 h v0 v1 v2 v3 v4 = some x → f_ck h v0 10 = some ()) {h : fw_H} {v0 : Option Nat} {v1 : Int32} {v2 : Int32} {v3 : Int32} {v4 : Int32} : fw_Call G m_Ways_tryTurns fw_eV (dd + 1) 0 0 [fw_r v0, fw_i v1, fw_i v2, fw_i v3, fw_i v4] h (b_Ways_tryTurns F g h v0 v1 v2 v3 v4) := by
  refine fw_Call.of ok_Ways_tryTurns.1 (Nat.le_of_ble_eq_true rfl) [(0, some (fw_r v0)), (1, some (fw_i v1)), (2, some (fw_i v2)), (3, some (fw_i v3)), (4, some (fw_i v4))] rfl ?_
  refine r_ck ?_
  refine r_iload (i := 0) rfl rfl rfl ?_
  refine r_bipush (i := 1) (12 : Int32) kc_bipush_12 rfl rfl ?_
  refine r_icmp_gt (i := 2) (tgt := 15) rfl rfl rfl ?_ ?_
  · exact r_retV (i := 7) rfl rfl rfl rfl
  · refine r_aload_n (i := 3) rfl rfl rfl ?_
    refine r_iload_n (i := 4) rfl rfl rfl ?_
    refine r_VB1 (i := 5) (k2 := 0) (n2 := 0) ok_Ways_isWorse wM_Ways_35 (c_Ways_isWorse) (fun _ e => fw_ckb e) (by omega) (Nat.le_of_ble_eq_true rfl) (Nat.le_of_ble_eq_true rfl) (Nat.le_of_ble_eq_true rfl) rfl rfl fun x9 => ?_
    refine r_ifeqB (i := 6) (tgt := 16) rfl rfl rfl ?_ ?_
    · refine r_iload_n (i := 8) rfl rfl rfl ?_
      refine r_istore (i := 9) rfl rfl (Nat.le_of_ble_eq_true rfl) rfl ?_
      refine r_lv (fw_sub1 rfl (fw_sub1 rfl (fw_sub1 rfl (fw_sub1 rfl (fw_sub1 rfl fw_sub0))))) (cl_Ways_tryTurns_19 hdd hg0 hk0 ?_ ?_ F _ _)
      · intro he164
        refine r_aload_n (i := 91) rfl rfl rfl ?_
        refine r_gR (i := 92) (ci := 10) (kf := 0) rfl (Nat.le_of_ble_eq_true rfl) wF_Ways_15 rfl rfl fun x165 => ?_
        refine r_gI (i := 93) (ci := 9) (kf := 2) rfl (Nat.le_of_ble_eq_true rfl) wF_Ways_43 rfl rfl fun x168 => ?_
        refine r_aload_n (i := 94) rfl rfl rfl ?_
        refine r_gI (i := 95) (ci := 10) (kf := 1) rfl (Nat.le_of_ble_eq_true rfl) wF_Ways_19 rfl rfl fun x172 => ?_
        refine r_icmp_ne (i := 96) (tgt := 183) rfl rfl rfl ?_ ?_
        · exact r_retV (i := 100) rfl rfl rfl rfl
        · refine r_aload_n (i := 97) rfl rfl rfl ?_
          refine r_iload_n (i := 98) rfl rfl rfl ?_
          refine r_pI (i := 99) (ci := 10) (kf := 2) rfl (Nat.le_of_ble_eq_true rfl) wF_Ways_23 rfl (tyX10_ok 2 (Nat.le_of_ble_eq_true rfl)) rfl rfl fun h180 => ?_
          exact r_retV (i := 100) rfl rfl rfl rfl
      · intro e37_5 e37_6 he37
        refine r_aload_n (i := 19) rfl rfl rfl ?_
        refine r_gR (i := 20) (ci := 10) (kf := 0) rfl (Nat.le_of_ble_eq_true rfl) wF_Ways_15 rfl rfl fun x38 => ?_
        refine r_gI (i := 21) (ci := 9) (kf := 2) rfl (Nat.le_of_ble_eq_true rfl) wF_Ways_43 rfl rfl fun x41 => ?_
        refine r_istore (i := 22) rfl rfl (Nat.le_of_ble_eq_true rfl) rfl ?_
        refine r_aload_n (i := 23) rfl rfl rfl ?_
        refine r_gR (i := 24) (ci := 10) (kf := 0) rfl (Nat.le_of_ble_eq_true rfl) wF_Ways_15 rfl rfl fun x47 => ?_
        refine r_gI (i := 25) (ci := 9) (kf := 3) rfl (Nat.le_of_ble_eq_true rfl) wF_Ways_46 rfl rfl fun x50 => ?_
        refine r_istore (i := 26) rfl rfl (Nat.le_of_ble_eq_true rfl) rfl ?_
        refine r_aload_n (i := 27) rfl rfl rfl ?_
        refine r_gR (i := 28) (ci := 10) (kf := 0) rfl (Nat.le_of_ble_eq_true rfl) wF_Ways_15 rfl rfl fun x56 => ?_
        refine r_gI (i := 29) (ci := 9) (kf := 4) rfl (Nat.le_of_ble_eq_true rfl) wF_Ways_49 rfl rfl fun x59 => ?_
        refine r_istore (i := 30) rfl rfl (Nat.le_of_ble_eq_true rfl) rfl ?_
        refine r_aload_n (i := 31) rfl rfl rfl ?_
        refine r_iload (i := 32) rfl rfl rfl ?_
        refine r_iload_n (i := 33) rfl rfl rfl ?_
        refine r_iconst (i := 34) (1 : Int32) kc_iconst_1 rfl rfl ?_
        refine r_iload (i := 35) rfl rfl rfl ?_
        refine r_ishl (i := 36) rfl rfl ?_
        refine r_ior (i := 37) rfl rfl ?_
        refine r_iload_n (i := 38) rfl rfl rfl ?_
        refine r_iload (i := 39) rfl rfl rfl ?_
        refine r_iconst (i := 40) (1 : Int32) kc_iconst_1 rfl rfl ?_
        refine r_iadd (i := 41) rfl rfl ?_
        refine r_VV4 (i := 42) (k2 := 0) (n2 := 0) ok_Ways_tryTurns wM_Ways_31 (hg0 _ _ _ _ _ _) (fun _ e => hk0 e) (Nat.le_refl _) (Nat.le_of_ble_eq_true rfl) (Nat.le_of_ble_eq_true rfl) (Nat.le_of_ble_eq_true rfl) rfl rfl fun h78 => ?_
        refine r_aload_n (i := 43) rfl rfl rfl ?_
        refine r_gR (i := 44) (ci := 10) (kf := 0) rfl (Nat.le_of_ble_eq_true rfl) wF_Ways_15 rfl rfl fun x82 => ?_
        refine r_iload (i := 45) rfl rfl rfl ?_
        refine r_iload (i := 46) rfl rfl rfl ?_
        refine r_iload (i := 47) rfl rfl rfl ?_
        refine r_VV3 (i := 48) (k2 := 0) (n2 := 0) ok_Walk_standAt wM_Ways_52 (c_Walk_standAt) (fun _ e => fw_ckb e) (by omega) (Nat.le_of_ble_eq_true rfl) (Nat.le_of_ble_eq_true rfl) (Nat.le_of_ble_eq_true rfl) rfl rfl fun h91 => ?_
        refine r_aload_n (i := 49) rfl rfl rfl ?_
        refine r_gR (i := 50) (ci := 10) (kf := 0) rfl (Nat.le_of_ble_eq_true rfl) wF_Ways_15 rfl rfl fun x95 => ?_
        refine r_dup_r (i := 51) rfl rfl ?_
        refine r_gI (i := 52) (ci := 9) (kf := 5) rfl (Nat.le_of_ble_eq_true rfl) wF_Ways_26 rfl rfl fun x99 => ?_
        refine r_iconst (i := 53) (1 : Int32) kc_iconst_1 rfl rfl ?_
        refine r_iload (i := 54) rfl rfl rfl ?_
        refine r_ishl (i := 55) rfl rfl ?_
        refine r_ior (i := 56) rfl rfl ?_
        refine r_pI (i := 57) (ci := 9) (kf := 5) rfl (Nat.le_of_ble_eq_true rfl) wF_Ways_26 rfl (tyX9_ok 5 (Nat.le_of_ble_eq_true rfl)) rfl rfl fun h107 => ?_
        refine r_aload_n (i := 58) rfl rfl rfl ?_
        refine r_iload (i := 59) rfl rfl rfl ?_
        refine r_iload_n (i := 60) rfl rfl rfl ?_
        refine r_iconst (i := 61) (1 : Int32) kc_iconst_1 rfl rfl ?_
        refine r_iload (i := 62) rfl rfl rfl ?_
        refine r_ishl (i := 63) rfl rfl ?_
        refine r_ior (i := 64) rfl rfl ?_
        refine r_iload_n (i := 65) rfl rfl rfl ?_
        refine r_iconst (i := 66) (1 : Int32) kc_iconst_1 rfl rfl ?_
        refine r_iload (i := 67) rfl rfl rfl ?_
        refine r_ishl (i := 68) rfl rfl ?_
        refine r_ior (i := 69) rfl rfl ?_
        refine r_iload (i := 70) rfl rfl rfl ?_
        refine r_iconst (i := 71) (1 : Int32) kc_iconst_1 rfl rfl ?_
        refine r_iadd (i := 72) rfl rfl ?_
        refine r_VV4 (i := 73) (k2 := 0) (n2 := 0) ok_Ways_tryTurns wM_Ways_31 (hg0 _ _ _ _ _ _) (fun _ e => hk0 e) (Nat.le_refl _) (Nat.le_of_ble_eq_true rfl) (Nat.le_of_ble_eq_true rfl) (Nat.le_of_ble_eq_true rfl) rfl rfl fun h129 => ?_
        refine r_aload_n (i := 74) rfl rfl rfl ?_
        refine r_gR (i := 75) (ci := 10) (kf := 0) rfl (Nat.le_of_ble_eq_true rfl) wF_Ways_15 rfl rfl fun x133 => ?_
        refine r_dup_r (i := 76) rfl rfl ?_
        refine r_gI (i := 77) (ci := 9) (kf := 5) rfl (Nat.le_of_ble_eq_true rfl) wF_Ways_26 rfl rfl fun x137 => ?_
        refine r_iconst (i := 78) (1 : Int32) kc_iconst_1 rfl rfl ?_
        refine r_iload (i := 79) rfl rfl rfl ?_
        refine r_ishl (i := 80) rfl rfl ?_
        refine r_iconst (i := 81) (-1 : Int32) kc_iconst_m1 rfl rfl ?_
        refine r_ixor (i := 82) rfl rfl ?_
        refine r_iand (i := 83) rfl rfl ?_
        refine r_pI (i := 84) (ci := 9) (kf := 5) rfl (Nat.le_of_ble_eq_true rfl) wF_Ways_26 rfl (tyX9_ok 5 (Nat.le_of_ble_eq_true rfl)) rfl rfl fun h147 => ?_
        exact r_retV (i := 85) rfl rfl rfl rfl
    · exact r_retV (i := 7) rfl rfl rfl rfl
def gr_Ways_tryTurns (F : Nat) : Nat → Nat → fw_H → Option Nat → Int32 → Int32 → Int32 → Int32 → Option fw_H
  | 0, _, _, _, _, _, _, _ => none
  | D + 1, sel, h, v0, v1, v2, v3, v4 => b_Ways_tryTurns F (gr_Ways_tryTurns F D) h v0 v1 v2 v3 v4
theorem kgr_Ways_tryTurns {F D sel : Nat} {h : fw_H} {v0 : Option Nat} {v1 : Int32} {v2 : Int32} {v3 : Int32} {v4 : Int32} {x : fw_H} (e : gr_Ways_tryTurns F D sel h v0 v1 v2 v3 v4 = some x) : f_ck h v0 10 = some () := by
  cases D with
  | zero => cases e
  | succ D =>
    rw [gr_Ways_tryTurns] at e
    exact fw_ckb e
theorem cgr_Ways_tryTurns {G : fw_G} (F : Nat) : ∀ D : Nat, (∀ (h : fw_H) (v0 : Option Nat) (v1 : Int32) (v2 : Int32) (v3 : Int32) (v4 : Int32), fw_Call G m_Ways_tryTurns fw_eV (4 + D) 0 0 [fw_r v0, fw_i v1, fw_i v2, fw_i v3, fw_i v4] h (gr_Ways_tryTurns F D 0 h v0 v1 v2 v3 v4)) := by
  intro D
  induction D with
  | zero => exact fun _ _ _ _ _ _ _ hr => by cases hr
  | succ D ih =>
    refine ?_
    · intro h v0 v1 v2 v3 v4
      exact cb_Ways_tryTurns (F := F) (g := gr_Ways_tryTurns F D) (dd := 4 + D) (by omega) (ih) kgr_Ways_tryTurns
def s_Ways_tryTurns (F : Nat) (h : fw_H) (v0 : Option Nat) (v1 : Int32) (v2 : Int32) (v3 : Int32) (v4 : Int32) : Option fw_H := gr_Ways_tryTurns F 80 0 h v0 v1 v2 v3 v4
theorem ck_Ways_tryTurns {F : Nat} {h : fw_H} {v0 : Option Nat} {v1 : Int32} {v2 : Int32} {v3 : Int32} {v4 : Int32} {x : fw_H} (e : s_Ways_tryTurns F h v0 v1 v2 v3 v4 = some x) : f_ck h v0 10 = some () := kgr_Ways_tryTurns e
theorem c_Ways_tryTurns {G : fw_G} (F : Nat) {h : fw_H} {v0 : Option Nat} {v1 : Int32} {v2 : Int32} {v3 : Int32} {v4 : Int32} : fw_Call G m_Ways_tryTurns fw_eV 84 0 0 [fw_r v0, fw_i v1, fw_i v2, fw_i v3, fw_i v4] h (s_Ways_tryTurns F h v0 v1 v2 v3 v4) := (cgr_Ways_tryTurns F 80) _ _ _ _ _ _
-- Ways_fewestTurns
def s_Ways_fewestTurns (F : Nat) (h : fw_H) (v0 : Option Nat) (v1 : Int32) (v2 : Int32) : Option (Int32 × fw_H) :=
(f_ck h v0 10).bind fun _ =>
(f_pI h v0 10 1 v1).bind fun h2 =>
(f_pI h2 v0 10 2 (-1 : Int32)).bind fun h7 =>
(f_gR h7 v0 10 0).bind fun x13 =>
(f_gI h7 x13 9 5).bind fun x16 =>
(s_Ways_tryTurns F h7 v0 v2 x16 (0 : Int32) (0 : Int32)).bind fun h21 =>
(f_gI h21 v0 10 2).bind fun x25 =>
some (x25, h21)
theorem c_Ways_fewestTurns {G : fw_G} (F : Nat) {h : fw_H} {v0 : Option Nat} {v1 : Int32} {v2 : Int32} : fw_Call G m_Ways_fewestTurns fw_wI 85 0 0 [fw_r v0, fw_i v1, fw_i v2] h (s_Ways_fewestTurns F h v0 v1 v2) := by
  refine fw_Call.of ok_Ways_fewestTurns.1 (Nat.le_of_ble_eq_true rfl) [(0, some (fw_r v0)), (1, some (fw_i v1)), (2, some (fw_i v2))] rfl ?_
  refine r_ck ?_
  refine r_aload_n (i := 0) rfl rfl rfl ?_
  refine r_iload_n (i := 1) rfl rfl rfl ?_
  refine r_pI (i := 2) (ci := 10) (kf := 1) rfl (Nat.le_of_ble_eq_true rfl) wF_Ways_19 rfl (tyX10_ok 1 (Nat.le_of_ble_eq_true rfl)) rfl rfl fun h2 => ?_
  refine r_aload_n (i := 3) rfl rfl rfl ?_
  refine r_iconst (i := 4) (-1 : Int32) kc_iconst_m1 rfl rfl ?_
  refine r_pI (i := 5) (ci := 10) (kf := 2) rfl (Nat.le_of_ble_eq_true rfl) wF_Ways_23 rfl (tyX10_ok 2 (Nat.le_of_ble_eq_true rfl)) rfl rfl fun h7 => ?_
  refine r_aload_n (i := 6) rfl rfl rfl ?_
  refine r_iload_n (i := 7) rfl rfl rfl ?_
  refine r_aload_n (i := 8) rfl rfl rfl ?_
  refine r_gR (i := 9) (ci := 10) (kf := 0) rfl (Nat.le_of_ble_eq_true rfl) wF_Ways_15 rfl rfl fun x13 => ?_
  refine r_gI (i := 10) (ci := 9) (kf := 5) rfl (Nat.le_of_ble_eq_true rfl) wF_Ways_26 rfl rfl fun x16 => ?_
  refine r_iconst (i := 11) (0 : Int32) kc_iconst_0 rfl rfl ?_
  refine r_iconst (i := 12) (0 : Int32) kc_iconst_0 rfl rfl ?_
  refine r_VV4 (i := 13) (k2 := 0) (n2 := 0) ok_Ways_tryTurns wM_Ways_31 (c_Ways_tryTurns F) (fun _ e => ck_Ways_tryTurns e) (Nat.le_of_ble_eq_true rfl) (Nat.le_of_ble_eq_true rfl) (Nat.le_of_ble_eq_true rfl) (Nat.le_of_ble_eq_true rfl) rfl rfl fun h21 => ?_
  refine r_aload_n (i := 14) rfl rfl rfl ?_
  refine r_gI (i := 15) (ci := 10) (kf := 2) rfl (Nat.le_of_ble_eq_true rfl) wF_Ways_23 rfl rfl fun x25 => ?_
  exact r_retI (i := 16) rfl rfl rfl rfl
-- Ways_shutMore
def l_Ways_shutMore_55 (g : Nat → fw_H → Option Nat → Int32 → Int32 → Int32 → Int32 → Option (Int32 × fw_H)) (v0 : Option Nat) (v1 : Int32) (v2 : Int32) (v3 : Int32) (v4 : Int32) : Nat → Int32 → fw_H → Option (Int32 × fw_H)
  | 0, _, _ => none
  | nn + 1, a55_5, g55 =>
    if v3 ≤ a55_5 then (some ((-1 : Int32), g55)) else
    (f_gR g55 v0 10 0).bind fun x62 =>
    (f_gR g55 x62 9 0).bind fun x65 =>
    (f_gI g55 x65 7 6).bind fun x68 =>
    (s_Rows_has x68 a55_5).bind fun x73 =>
    if x73 = true then (l_Ways_shutMore_55 g v0 v1 v2 v3 v4 nn (a55_5 + (1 : Int32)) g55) else
    (g 0 g55 v0 v1 (v2 - (1 : Int32)) a55_5 (v4 ||| ((1 : Int32) <<< (a55_5 &&& 31)))).bind fun x93 =>
    if x93.1 = (-1 : Int32) then (l_Ways_shutMore_55 g v0 v1 v2 v3 v4 nn (a55_5 + (1 : Int32)) x93.2) else
    some (x93.1, x93.2)
theorem cl_Ways_shutMore_55 {G : fw_G} {g : Nat → fw_H → Option Nat → Int32 → Int32 → Int32 → Int32 → Option (Int32 × fw_H)} {dd : Nat} {v0 : Option Nat} {v1 : Int32} {v2 : Int32} {v3 : Int32} {v4 : Int32} (hdd : 5 ≤ dd) (hg0 : ∀ (h : fw_H) (v0 : Option Nat) (v1 : Int32) (v2 : Int32) (v3 : Int32) (v4 : Int32), fw_Call G m_Ways_shutMore fw_wI dd 0 0 [fw_r v0, fw_i v1, fw_i v2, fw_i v3, fw_i v4] h (g 0 h v0 v1 v2 v3 v4)) (hk0 : ∀ {h : fw_H} {v0 : Option Nat} {v1 : Int32} {v2 : Int32} {v3 : Int32} {v4 : Int32} {x : Int32 × fw_H}, g 0 h v0 v1 v2 v3 v4 = some x → f_ck h v0 10 = some ()) : ∀ (nn : Nat) (a55_5 : Int32) (g55 : fw_H), fw_R G m_Ways_shutMore fw_wI (dd + 1) 0 0 55 [(0, some (fw_r v0)), (1, some (fw_i v1)), (2, some (fw_i v2)), (3, some (fw_i v3)), (4, some (fw_i v4)), (5, some (fw_i a55_5))] [] g55 (l_Ways_shutMore_55 g v0 v1 v2 v3 v4 nn a55_5 g55) := by
  intro nn
  induction nn with
  | zero => intros; exact r_none
  | succ nn ih =>
    intro a55_5 g55
    rw [l_Ways_shutMore_55]
    refine r_iload (i := 28) rfl rfl rfl ?_
    refine r_iload_n (i := 29) rfl rfl rfl ?_
    refine r_icmp_ge (i := 30) (tgt := 113) rfl rfl rfl ?_ ?_
    · refine r_iconst (i := 58) (-1 : Int32) kc_iconst_m1 rfl rfl ?_
      exact r_retI (i := 59) rfl rfl rfl rfl
    · refine r_aload_n (i := 31) rfl rfl rfl ?_
      refine r_gR (i := 32) (ci := 10) (kf := 0) rfl (Nat.le_of_ble_eq_true rfl) wF_Ways_15 rfl rfl fun x62 => ?_
      refine r_gR (i := 33) (ci := 9) (kf := 0) rfl (Nat.le_of_ble_eq_true rfl) wF_Ways_81 rfl rfl fun x65 => ?_
      refine r_gI (i := 34) (ci := 7) (kf := 6) rfl (Nat.le_of_ble_eq_true rfl) wF_Ways_94 rfl rfl fun x68 => ?_
      refine r_iload (i := 35) rfl rfl rfl ?_
      refine r_SB2 (i := 36) (k2 := 0) (n2 := 0) ok_Rows_has wM_Ways_71 (c_Rows_has) (by omega) (Nat.le_of_ble_eq_true rfl) (Nat.le_of_ble_eq_true rfl) (Nat.le_of_ble_eq_true rfl) rfl rfl fun x73 => ?_
      refine r_ifneB (i := 37) (tgt := 107) rfl rfl rfl ?_ ?_
      · refine r_iinc (i := 56) (1 : Int32) kc_iconst_1 rfl rfl rfl (Nat.le_of_ble_eq_true rfl) ?_
        refine r_goto (i := 57) (tgt := 55) rfl rfl rfl ?_
        exact r_lv (fw_sub1 rfl (fw_sub1 rfl (fw_sub1 rfl (fw_sub1 rfl (fw_sub1 rfl (fw_sub1 rfl fw_sub0)))))) (ih (a55_5 + (1 : Int32)) g55)
      · refine r_aload_n (i := 38) rfl rfl rfl ?_
        refine r_iload_n (i := 39) rfl rfl rfl ?_
        refine r_iload_n (i := 40) rfl rfl rfl ?_
        refine r_iconst (i := 41) (1 : Int32) kc_iconst_1 rfl rfl ?_
        refine r_isub (i := 42) rfl rfl ?_
        refine r_iload (i := 43) rfl rfl rfl ?_
        refine r_iload (i := 44) rfl rfl rfl ?_
        refine r_iconst (i := 45) (1 : Int32) kc_iconst_1 rfl rfl ?_
        refine r_iload (i := 46) rfl rfl rfl ?_
        refine r_ishl (i := 47) rfl rfl ?_
        refine r_ior (i := 48) rfl rfl ?_
        refine r_VwI4 (i := 49) (k2 := 0) (n2 := 0) ok_Ways_shutMore wM_Ways_90 (hg0 _ _ _ _ _ _) (fun _ e => hk0 e) (Nat.le_refl _) (Nat.le_of_ble_eq_true rfl) (Nat.le_of_ble_eq_true rfl) (Nat.le_of_ble_eq_true rfl) rfl rfl fun x93 => ?_
        refine r_istore (i := 50) rfl rfl (Nat.le_of_ble_eq_true rfl) rfl ?_
        refine r_iload (i := 51) rfl rfl rfl ?_
        refine r_iconst (i := 52) (-1 : Int32) kc_iconst_m1 rfl rfl ?_
        refine r_icmp_eq (i := 53) (tgt := 107) rfl rfl rfl ?_ ?_
        · refine r_iinc (i := 56) (1 : Int32) kc_iconst_1 rfl rfl rfl (Nat.le_of_ble_eq_true rfl) ?_
          refine r_goto (i := 57) (tgt := 55) rfl rfl rfl ?_
          exact r_lv (fw_sub1 rfl (fw_sub1 rfl (fw_sub1 rfl (fw_sub1 rfl (fw_sub1 rfl (fw_sub1 rfl fw_sub0)))))) (ih (a55_5 + (1 : Int32)) x93.2)
        · refine r_iload (i := 54) rfl rfl rfl ?_
          exact r_retI (i := 55) rfl rfl rfl rfl
def b_Ways_shutMore (F : Nat) (g : Nat → fw_H → Option Nat → Int32 → Int32 → Int32 → Int32 → Option (Int32 × fw_H)) (h : fw_H) (v0 : Option Nat) (v1 : Int32) (v2 : Int32) (v3 : Int32) (v4 : Int32) : Option (Int32 × fw_H) :=
(f_ck h v0 10).bind fun _ =>
if (0 : Int32) < v2 then (l_Ways_shutMore_55 g v0 v1 v2 v3 v4 F (v2 - (1 : Int32)) h) else
(f_gR h v0 10 0).bind fun x5 =>
(f_gR h v0 10 0).bind fun x9 =>
(f_gR h x9 9 0).bind fun x12 =>
(f_gI h x12 7 6).bind fun x15 =>
(s_Walk_openDoors F h x5 (x15 ||| v4)).bind fun h21 =>
(f_gR h21 v0 10 0).bind fun x25 =>
(s_Walk_restart h21 x25).bind fun h28 =>
(f_gR h28 v0 10 0).bind fun x32 =>
(s_Walk_hoursTo F h28 x32 v1).bind fun x36 =>
if ¬ x36.1 = (-1 : Int32) then (some ((-1 : Int32), x36.2)) else
some (v4, x36.2)
theorem cb_Ways_shutMore {G : fw_G} {F : Nat} {g : Nat → fw_H → Option Nat → Int32 → Int32 → Int32 → Int32 → Option (Int32 × fw_H)} {dd : Nat} (hdd : 5 ≤ dd) (hg0 : ∀ (h : fw_H) (v0 : Option Nat) (v1 : Int32) (v2 : Int32) (v3 : Int32) (v4 : Int32), fw_Call G m_Ways_shutMore fw_wI dd 0 0 [fw_r v0, fw_i v1, fw_i v2, fw_i v3, fw_i v4] h (g 0 h v0 v1 v2 v3 v4)) (hk0 : ∀ {h : fw_H} {v0 : Option Nat} {v1 : Int32} {v2 : Int32} {v3 : Int32} {v4 : Int32} {x : Int32 × fw_H}, g 0 h v0 v1 v2 v3 v4 = some x → f_ck h v0 10 = some ()) {h : fw_H} {v0 : Option Nat} {v1 : Int32} {v2 : Int32} {v3 : Int32} {v4 : Int32} : fw_Call G m_Ways_shutMore fw_wI (dd + 1) 0 0 [fw_r v0, fw_i v1, fw_i v2, fw_i v3, fw_i v4] h (b_Ways_shutMore F g h v0 v1 v2 v3 v4) := by
  refine fw_Call.of ok_Ways_shutMore.1 (Nat.le_of_ble_eq_true rfl) [(0, some (fw_r v0)), (1, some (fw_i v1)), (2, some (fw_i v2)), (3, some (fw_i v3)), (4, some (fw_i v4))] rfl ?_
  refine r_ck ?_
  refine r_iload_n (i := 0) rfl rfl rfl ?_
  refine r_if_gt (i := 1) (tgt := 50) rfl rfl rfl ?_ ?_
  · refine r_iload_n (i := 24) rfl rfl rfl ?_
    refine r_iconst (i := 25) (1 : Int32) kc_iconst_1 rfl rfl ?_
    refine r_isub (i := 26) rfl rfl ?_
    refine r_istore (i := 27) rfl rfl (Nat.le_of_ble_eq_true rfl) rfl ?_
    refine r_lv (fw_sub1 rfl (fw_sub1 rfl (fw_sub1 rfl (fw_sub1 rfl (fw_sub1 rfl (fw_sub1 rfl fw_sub0)))))) (cl_Ways_shutMore_55 hdd hg0 hk0 F _ _)
  · refine r_aload_n (i := 2) rfl rfl rfl ?_
    refine r_gR (i := 3) (ci := 10) (kf := 0) rfl (Nat.le_of_ble_eq_true rfl) wF_Ways_15 rfl rfl fun x5 => ?_
    refine r_aload_n (i := 4) rfl rfl rfl ?_
    refine r_gR (i := 5) (ci := 10) (kf := 0) rfl (Nat.le_of_ble_eq_true rfl) wF_Ways_15 rfl rfl fun x9 => ?_
    refine r_gR (i := 6) (ci := 9) (kf := 0) rfl (Nat.le_of_ble_eq_true rfl) wF_Ways_81 rfl rfl fun x12 => ?_
    refine r_gI (i := 7) (ci := 7) (kf := 6) rfl (Nat.le_of_ble_eq_true rfl) wF_Ways_94 rfl rfl fun x15 => ?_
    refine r_iload (i := 8) rfl rfl rfl ?_
    refine r_ior (i := 9) rfl rfl ?_
    refine r_VV1 (i := 10) (k2 := 0) (n2 := 0) ok_Walk_openDoors wM_Ways_97 (c_Walk_openDoors F) (fun _ e => fw_ckb e) (by omega) (Nat.le_of_ble_eq_true rfl) (Nat.le_of_ble_eq_true rfl) (Nat.le_of_ble_eq_true rfl) rfl rfl fun h21 => ?_
    refine r_aload_n (i := 11) rfl rfl rfl ?_
    refine r_gR (i := 12) (ci := 10) (kf := 0) rfl (Nat.le_of_ble_eq_true rfl) wF_Ways_15 rfl rfl fun x25 => ?_
    refine r_VV0 (i := 13) (k2 := 0) (n2 := 0) ok_Walk_restart wM_Ways_101 (c_Walk_restart) (fun _ e => fw_ckb e) (by omega) (Nat.le_of_ble_eq_true rfl) (Nat.le_of_ble_eq_true rfl) (Nat.le_of_ble_eq_true rfl) rfl rfl fun h28 => ?_
    refine r_aload_n (i := 14) rfl rfl rfl ?_
    refine r_gR (i := 15) (ci := 10) (kf := 0) rfl (Nat.le_of_ble_eq_true rfl) wF_Ways_15 rfl rfl fun x32 => ?_
    refine r_iload_n (i := 16) rfl rfl rfl ?_
    refine r_VwI1 (i := 17) (k2 := 0) (n2 := 0) ok_Walk_hoursTo wM_Ways_104 (c_Walk_hoursTo F) (fun _ e => fw_ckb e) (by omega) (Nat.le_of_ble_eq_true rfl) (Nat.le_of_ble_eq_true rfl) (Nat.le_of_ble_eq_true rfl) rfl rfl fun x36 => ?_
    refine r_iconst (i := 18) (-1 : Int32) kc_iconst_m1 rfl rfl ?_
    refine r_icmp_ne (i := 19) (tgt := 48) rfl rfl rfl ?_ ?_
    · refine r_iconst (i := 22) (-1 : Int32) kc_iconst_m1 rfl rfl ?_
      exact r_retI (i := 23) rfl rfl rfl rfl
    · refine r_iload (i := 20) rfl rfl rfl ?_
      refine r_goto (i := 21) (tgt := 49) rfl rfl rfl ?_
      exact r_retI (i := 23) rfl rfl rfl rfl
def gr_Ways_shutMore (F : Nat) : Nat → Nat → fw_H → Option Nat → Int32 → Int32 → Int32 → Int32 → Option (Int32 × fw_H)
  | 0, _, _, _, _, _, _, _ => none
  | D + 1, sel, h, v0, v1, v2, v3, v4 => b_Ways_shutMore F (gr_Ways_shutMore F D) h v0 v1 v2 v3 v4
theorem kgr_Ways_shutMore {F D sel : Nat} {h : fw_H} {v0 : Option Nat} {v1 : Int32} {v2 : Int32} {v3 : Int32} {v4 : Int32} {x : Int32 × fw_H} (e : gr_Ways_shutMore F D sel h v0 v1 v2 v3 v4 = some x) : f_ck h v0 10 = some () := by
  cases D with
  | zero => cases e
  | succ D =>
    rw [gr_Ways_shutMore] at e
    exact fw_ckb e
theorem cgr_Ways_shutMore {G : fw_G} (F : Nat) : ∀ D : Nat, (∀ (h : fw_H) (v0 : Option Nat) (v1 : Int32) (v2 : Int32) (v3 : Int32) (v4 : Int32), fw_Call G m_Ways_shutMore fw_wI (5 + D) 0 0 [fw_r v0, fw_i v1, fw_i v2, fw_i v3, fw_i v4] h (gr_Ways_shutMore F D 0 h v0 v1 v2 v3 v4)) := by
  intro D
  induction D with
  | zero => exact fun _ _ _ _ _ _ _ hr => by cases hr
  | succ D ih =>
    refine ?_
    · intro h v0 v1 v2 v3 v4
      exact cb_Ways_shutMore (F := F) (g := gr_Ways_shutMore F D) (dd := 5 + D) (by omega) (ih) kgr_Ways_shutMore
def s_Ways_shutMore (F : Nat) (h : fw_H) (v0 : Option Nat) (v1 : Int32) (v2 : Int32) (v3 : Int32) (v4 : Int32) : Option (Int32 × fw_H) := gr_Ways_shutMore F 80 0 h v0 v1 v2 v3 v4
theorem ck_Ways_shutMore {F : Nat} {h : fw_H} {v0 : Option Nat} {v1 : Int32} {v2 : Int32} {v3 : Int32} {v4 : Int32} {x : Int32 × fw_H} (e : s_Ways_shutMore F h v0 v1 v2 v3 v4 = some x) : f_ck h v0 10 = some () := kgr_Ways_shutMore e
theorem c_Ways_shutMore {G : fw_G} (F : Nat) {h : fw_H} {v0 : Option Nat} {v1 : Int32} {v2 : Int32} {v3 : Int32} {v4 : Int32} : fw_Call G m_Ways_shutMore fw_wI 85 0 0 [fw_r v0, fw_i v1, fw_i v2, fw_i v3, fw_i v4] h (s_Ways_shutMore F h v0 v1 v2 v3 v4) := (cgr_Ways_shutMore F 80) _ _ _ _ _ _
-- Ways_fewestShutters
def l_Ways_fewestShutters_2 (F : Nat) (v0 : Option Nat) (v1 : Int32) : Nat → Int32 → fw_H → Option (Int32 × fw_H)
  | 0, _, _ => none
  | nn + 1, a2_2, g2 =>
    if (3 : Int32) < a2_2 then (some ((-1 : Int32), g2)) else
    (f_gR g2 v0 10 0).bind fun x11 =>
    (f_gR g2 x11 9 0).bind fun x14 =>
    (f_gI g2 x14 7 1).bind fun x17 =>
    (s_Ways_shutMore F g2 v0 v1 a2_2 x17 (0 : Int32)).bind fun x21 =>
    if x21.1 = (-1 : Int32) then (l_Ways_fewestShutters_2 F v0 v1 nn (a2_2 + (1 : Int32)) x21.2) else
    some (x21.1, x21.2)
theorem cl_Ways_fewestShutters_2 {G : fw_G} {F : Nat} {v0 : Option Nat} {v1 : Int32} : ∀ (nn : Nat) (a2_2 : Int32) (g2 : fw_H), fw_R G m_Ways_fewestShutters fw_wI 86 0 0 2 [(0, some (fw_r v0)), (1, some (fw_i v1)), (2, some (fw_i a2_2))] [] g2 (l_Ways_fewestShutters_2 F v0 v1 nn a2_2 g2) := by
  intro nn
  induction nn with
  | zero => intros; exact r_none
  | succ nn ih =>
    intro a2_2 g2
    rw [l_Ways_fewestShutters_2]
    refine r_iload_n (i := 2) rfl rfl rfl ?_
    refine r_iconst (i := 3) (3 : Int32) kc_iconst_3 rfl rfl ?_
    refine r_icmp_gt (i := 4) (tgt := 38) rfl rfl rfl ?_ ?_
    · refine r_iconst (i := 22) (-1 : Int32) kc_iconst_m1 rfl rfl ?_
      exact r_retI (i := 23) rfl rfl rfl rfl
    · refine r_aload_n (i := 5) rfl rfl rfl ?_
      refine r_iload_n (i := 6) rfl rfl rfl ?_
      refine r_iload_n (i := 7) rfl rfl rfl ?_
      refine r_aload_n (i := 8) rfl rfl rfl ?_
      refine r_gR (i := 9) (ci := 10) (kf := 0) rfl (Nat.le_of_ble_eq_true rfl) wF_Ways_15 rfl rfl fun x11 => ?_
      refine r_gR (i := 10) (ci := 9) (kf := 0) rfl (Nat.le_of_ble_eq_true rfl) wF_Ways_81 rfl rfl fun x14 => ?_
      refine r_gI (i := 11) (ci := 7) (kf := 1) rfl (Nat.le_of_ble_eq_true rfl) wF_Ways_85 rfl rfl fun x17 => ?_
      refine r_iconst (i := 12) (0 : Int32) kc_iconst_0 rfl rfl ?_
      refine r_VwI4 (i := 13) (k2 := 0) (n2 := 0) ok_Ways_shutMore wM_Ways_90 (c_Ways_shutMore F) (fun _ e => ck_Ways_shutMore e) (Nat.le_of_ble_eq_true rfl) (Nat.le_of_ble_eq_true rfl) (Nat.le_of_ble_eq_true rfl) (Nat.le_of_ble_eq_true rfl) rfl rfl fun x21 => ?_
      refine r_istore_n (i := 14) rfl rfl (Nat.le_of_ble_eq_true rfl) rfl ?_
      refine r_iload_n (i := 15) rfl rfl rfl ?_
      refine r_iconst (i := 16) (-1 : Int32) kc_iconst_m1 rfl rfl ?_
      refine r_icmp_eq (i := 17) (tgt := 32) rfl rfl rfl ?_ ?_
      · refine r_iinc (i := 20) (1 : Int32) kc_iconst_1 rfl rfl rfl (Nat.le_of_ble_eq_true rfl) ?_
        refine r_goto (i := 21) (tgt := 2) rfl rfl rfl ?_
        exact r_lv (fw_sub1 rfl (fw_sub1 rfl (fw_sub1 rfl fw_sub0))) (ih (a2_2 + (1 : Int32)) x21.2)
      · refine r_iload_n (i := 18) rfl rfl rfl ?_
        exact r_retI (i := 19) rfl rfl rfl rfl
def s_Ways_fewestShutters (F : Nat) (h : fw_H) (v0 : Option Nat) (v1 : Int32) : Option (Int32 × fw_H) :=
(f_ck h v0 10).bind fun _ =>
l_Ways_fewestShutters_2 F v0 v1 F (0 : Int32) h
theorem c_Ways_fewestShutters {G : fw_G} (F : Nat) {h : fw_H} {v0 : Option Nat} {v1 : Int32} : fw_Call G m_Ways_fewestShutters fw_wI 86 0 0 [fw_r v0, fw_i v1] h (s_Ways_fewestShutters F h v0 v1) := by
  refine fw_Call.of ok_Ways_fewestShutters.1 (Nat.le_of_ble_eq_true rfl) [(0, some (fw_r v0)), (1, some (fw_i v1))] rfl ?_
  refine r_ck ?_
  refine r_iconst (i := 0) (0 : Int32) kc_iconst_0 rfl rfl ?_
  refine r_istore_n (i := 1) rfl rfl (Nat.le_of_ble_eq_true rfl) rfl ?_
  refine r_lv (fw_sub1 rfl (fw_sub1 rfl (fw_sub1 rfl fw_sub0))) (cl_Ways_fewestShutters_2 F _ _)
-- Ways_isThere
def l_Ways_isThere_9 (F : Nat) (v0 : Option Nat) (v2 : Int32) (K27 : fw_H → Option (Bool × fw_H)) : Nat → Int32 → fw_H → Option (Bool × fw_H)
  | 0, _, _ => none
  | nn + 1, a9_3, g9 =>
    if v2 ≤ a9_3 then (K27 g9) else
    (f_gR g9 v0 10 0).bind fun x15 =>
    (s_Walk_hour F g9 x15).bind fun h18 =>
    l_Ways_isThere_9 F v0 v2 K27 nn (a9_3 + (1 : Int32)) h18
theorem cl_Ways_isThere_9 {G : fw_G} {F : Nat} {v0 : Option Nat} {v1 : Int32} {v2 : Int32} {K27 : fw_H → Option (Bool × fw_H)} (hK27 : ∀ (he27 : fw_H), fw_R G m_Ways_isThere fw_wB 4 0 0 27 [(0, some (fw_r v0)), (1, some (fw_i v1))] [] he27 (K27 he27)) : ∀ (nn : Nat) (a9_3 : Int32) (g9 : fw_H), fw_R G m_Ways_isThere fw_wB 4 0 0 9 [(0, some (fw_r v0)), (1, some (fw_i v1)), (2, some (fw_i v2)), (3, some (fw_i a9_3))] [] g9 (l_Ways_isThere_9 F v0 v2 K27 nn a9_3 g9) := by
  intro nn
  induction nn with
  | zero => intros; exact r_none
  | succ nn ih =>
    intro a9_3 g9
    rw [l_Ways_isThere_9]
    refine r_iload_n (i := 5) rfl rfl rfl ?_
    refine r_iload_n (i := 6) rfl rfl rfl ?_
    refine r_icmp_ge (i := 7) (tgt := 27) rfl rfl rfl ?_ ?_
    · exact r_lv (fw_sub1 rfl (fw_sub1 rfl fw_sub0)) (hK27 g9)
    · refine r_aload_n (i := 8) rfl rfl rfl ?_
      refine r_gR (i := 9) (ci := 10) (kf := 0) rfl (Nat.le_of_ble_eq_true rfl) wF_Ways_15 rfl rfl fun x15 => ?_
      refine r_VV0 (i := 10) (k2 := 0) (n2 := 0) ok_Walk_hour wM_Ways_56 (c_Walk_hour F) (fun _ e => fw_ckb e) (Nat.le_of_ble_eq_true rfl) (Nat.le_of_ble_eq_true rfl) (Nat.le_of_ble_eq_true rfl) (Nat.le_of_ble_eq_true rfl) rfl rfl fun h18 => ?_
      refine r_iinc (i := 11) (1 : Int32) kc_iconst_1 rfl rfl rfl (Nat.le_of_ble_eq_true rfl) ?_
      refine r_goto (i := 12) (tgt := 9) rfl rfl rfl ?_
      exact r_lv (fw_sub1 rfl (fw_sub1 rfl (fw_sub1 rfl (fw_sub1 rfl fw_sub0)))) (ih (a9_3 + (1 : Int32)) h18)
def s_Ways_isThere (F : Nat) (h : fw_H) (v0 : Option Nat) (v1 : Int32) (v2 : Int32) : Option (Bool × fw_H) :=
(f_ck h v0 10).bind fun _ =>
(f_gR h v0 10 0).bind fun x1 =>
(s_Walk_restart h x1).bind fun h4 =>
l_Ways_isThere_9 F v0 v2 (fun he27 =>
(f_gR he27 v0 10 0).bind fun x28 =>
(f_gI he27 x28 9 2).bind fun x31 =>
if ¬ x31 = v1 then (some (false, he27)) else
some (true, he27)) F (0 : Int32) h4
theorem c_Ways_isThere {G : fw_G} (F : Nat) {h : fw_H} {v0 : Option Nat} {v1 : Int32} {v2 : Int32} : fw_Call G m_Ways_isThere fw_wB 4 0 0 [fw_r v0, fw_i v1, fw_i v2] h (s_Ways_isThere F h v0 v1 v2) := by
  refine fw_Call.of ok_Ways_isThere.1 (Nat.le_of_ble_eq_true rfl) [(0, some (fw_r v0)), (1, some (fw_i v1)), (2, some (fw_i v2))] rfl ?_
  refine r_ck ?_
  refine r_aload_n (i := 0) rfl rfl rfl ?_
  refine r_gR (i := 1) (ci := 10) (kf := 0) rfl (Nat.le_of_ble_eq_true rfl) wF_Ways_15 rfl rfl fun x1 => ?_
  refine r_VV0 (i := 2) (k2 := 0) (n2 := 0) ok_Walk_restart wM_Ways_101 (c_Walk_restart) (fun _ e => fw_ckb e) (Nat.le_of_ble_eq_true rfl) (Nat.le_of_ble_eq_true rfl) (Nat.le_of_ble_eq_true rfl) (Nat.le_of_ble_eq_true rfl) rfl rfl fun h4 => ?_
  refine r_iconst (i := 3) (0 : Int32) kc_iconst_0 rfl rfl ?_
  refine r_istore_n (i := 4) rfl rfl (Nat.le_of_ble_eq_true rfl) rfl ?_
  refine r_lv (fw_sub1 rfl (fw_sub1 rfl (fw_sub1 rfl (fw_sub1 rfl fw_sub0)))) (cl_Ways_isThere_9 ?_ F _ _)
  · intro he27
    refine r_aload_n (i := 13) rfl rfl rfl ?_
    refine r_gR (i := 14) (ci := 10) (kf := 0) rfl (Nat.le_of_ble_eq_true rfl) wF_Ways_15 rfl rfl fun x28 => ?_
    refine r_gI (i := 15) (ci := 9) (kf := 2) rfl (Nat.le_of_ble_eq_true rfl) wF_Ways_43 rfl rfl fun x31 => ?_
    refine r_iload_n (i := 16) rfl rfl rfl ?_
    refine r_icmp_ne (i := 17) (tgt := 42) rfl rfl rfl ?_ ?_
    · refine r_iconst (i := 20) (0 : Int32) kc_iconst_0 rfl rfl ?_
      exact r_retB (x := false) (i := 21) rfl rfl rfl rfl
    · refine r_iconst (i := 18) (1 : Int32) kc_iconst_1 rfl rfl ?_
      refine r_goto (i := 19) (tgt := 43) rfl rfl rfl ?_
      exact r_retB (x := true) (i := 21) rfl rfl rfl rfl
-- Ways_feasts
def s_Ways_feasts (F : Nat) (h : fw_H) (v0 : Option Nat) (v1 : Int32) (v2 : Int32) (v3 : Int32) (v4 : Int32) : Option (Bool × fw_H) :=
(f_ck h v0 10).bind fun _ =>
(f_gR h v0 10 0).bind fun x1 =>
(s_Walk_want F h x1 v1 v2).bind fun h6 =>
(s_Ways_isThere F h6 v0 v3 v4).bind fun x13 =>
(f_gR x13.2 v0 10 0).bind fun x19 =>
(s_Walk_want F x13.2 x19 v1 (-v2)).bind fun h25 =>
some (x13.1, h25)
theorem c_Ways_feasts {G : fw_G} (F : Nat) {h : fw_H} {v0 : Option Nat} {v1 : Int32} {v2 : Int32} {v3 : Int32} {v4 : Int32} : fw_Call G m_Ways_feasts fw_wB 5 0 0 [fw_r v0, fw_i v1, fw_i v2, fw_i v3, fw_i v4] h (s_Ways_feasts F h v0 v1 v2 v3 v4) := by
  refine fw_Call.of ok_Ways_feasts.1 (Nat.le_of_ble_eq_true rfl) [(0, some (fw_r v0)), (1, some (fw_i v1)), (2, some (fw_i v2)), (3, some (fw_i v3)), (4, some (fw_i v4))] rfl ?_
  refine r_ck ?_
  refine r_aload_n (i := 0) rfl rfl rfl ?_
  refine r_gR (i := 1) (ci := 10) (kf := 0) rfl (Nat.le_of_ble_eq_true rfl) wF_Ways_15 rfl rfl fun x1 => ?_
  refine r_iload_n (i := 2) rfl rfl rfl ?_
  refine r_iload_n (i := 3) rfl rfl rfl ?_
  refine r_VV2 (i := 4) (k2 := 0) (n2 := 0) ok_Walk_want wM_Ways_124 (c_Walk_want F) (fun _ e => fw_ckb e) (Nat.le_of_ble_eq_true rfl) (Nat.le_of_ble_eq_true rfl) (Nat.le_of_ble_eq_true rfl) (Nat.le_of_ble_eq_true rfl) rfl rfl fun h6 => ?_
  refine r_aload_n (i := 5) rfl rfl rfl ?_
  refine r_iload_n (i := 6) rfl rfl rfl ?_
  refine r_iload (i := 7) rfl rfl rfl ?_
  refine r_VwB2 (i := 8) (k2 := 0) (n2 := 0) ok_Ways_isThere wM_Ways_110 (c_Ways_isThere F) (fun _ e => fw_ckb e) (Nat.le_of_ble_eq_true rfl) (Nat.le_of_ble_eq_true rfl) (Nat.le_of_ble_eq_true rfl) (Nat.le_of_ble_eq_true rfl) rfl rfl fun x13 => ?_
  refine r_istore (i := 9) rfl rfl (Nat.le_of_ble_eq_true rfl) rfl ?_
  refine r_aload_n (i := 10) rfl rfl rfl ?_
  refine r_gR (i := 11) (ci := 10) (kf := 0) rfl (Nat.le_of_ble_eq_true rfl) wF_Ways_15 rfl rfl fun x19 => ?_
  refine r_iload_n (i := 12) rfl rfl rfl ?_
  refine r_iload_n (i := 13) rfl rfl rfl ?_
  refine r_ineg (i := 14) rfl rfl ?_
  refine r_VV2 (i := 15) (k2 := 0) (n2 := 0) ok_Walk_want wM_Ways_124 (c_Walk_want F) (fun _ e => fw_ckb e) (Nat.le_of_ble_eq_true rfl) (Nat.le_of_ble_eq_true rfl) (Nat.le_of_ble_eq_true rfl) (Nat.le_of_ble_eq_true rfl) rfl rfl fun h25 => ?_
  refine r_iload (i := 16) rfl rfl rfl ?_
  exact r_retB (i := 17) rfl rfl rfl rfl
-- Ways_leastFeast
def l_Ways_leastFeast_27 (F : Nat) (v0 : Option Nat) (v1 : Int32) (v2 : Int32) (a18_3 : Int32) (K88 : fw_H → Option (Int32 × fw_H)) : Nat → Int32 → fw_H → Option (Int32 × fw_H)
  | 0, _, _ => none
  | nn + 1, a27_4, g27 =>
    (f_gR g27 v0 10 0).bind fun x30 =>
    (f_gR g27 x30 9 0).bind fun x33 =>
    (f_gI g27 x33 7 0).bind fun x36 =>
    if x36 ≤ a27_4 then (K88 g27) else
    (f_gR g27 v0 10 0).bind fun x43 =>
    (f_gR g27 x43 9 0).bind fun x46 =>
    (s_Vil_trait g27 x46 a27_4 (0 : Int32)).bind fun x52 =>
    if (9 : Int32) < (x52 + a18_3) then (l_Ways_leastFeast_27 F v0 v1 v2 a18_3 K88 nn (a27_4 + (1 : Int32)) g27) else
    (s_Ways_feasts F g27 v0 a27_4 a18_3 v1 v2).bind fun x68 =>
    if x68.1 = true then ((f_pI x68.2 v0 10 3 a27_4).bind fun h77 =>
    some (a18_3, h77)) else
    l_Ways_leastFeast_27 F v0 v1 v2 a18_3 K88 nn (a27_4 + (1 : Int32)) x68.2
theorem cl_Ways_leastFeast_27 {G : fw_G} {F : Nat} {v0 : Option Nat} {v1 : Int32} {v2 : Int32} {a18_3 : Int32} {K88 : fw_H → Option (Int32 × fw_H)} (hK88 : ∀ (he88 : fw_H), fw_R G m_Ways_leastFeast fw_wI 6 0 0 88 [(0, some (fw_r v0)), (1, some (fw_i v1)), (2, some (fw_i v2)), (3, some (fw_i a18_3))] [] he88 (K88 he88)) : ∀ (nn : Nat) (a27_4 : Int32) (g27 : fw_H), fw_R G m_Ways_leastFeast fw_wI 6 0 0 27 [(0, some (fw_r v0)), (1, some (fw_i v1)), (2, some (fw_i v2)), (3, some (fw_i a18_3)), (4, some (fw_i a27_4))] [] g27 (l_Ways_leastFeast_27 F v0 v1 v2 a18_3 K88 nn a27_4 g27) := by
  intro nn
  induction nn with
  | zero => intros; exact r_none
  | succ nn ih =>
    intro a27_4 g27
    rw [l_Ways_leastFeast_27]
    refine r_iload (i := 17) rfl rfl rfl ?_
    refine r_aload_n (i := 18) rfl rfl rfl ?_
    refine r_gR (i := 19) (ci := 10) (kf := 0) rfl (Nat.le_of_ble_eq_true rfl) wF_Ways_15 rfl rfl fun x30 => ?_
    refine r_gR (i := 20) (ci := 9) (kf := 0) rfl (Nat.le_of_ble_eq_true rfl) wF_Ways_81 rfl rfl fun x33 => ?_
    refine r_gI (i := 21) (ci := 7) (kf := 0) rfl (Nat.le_of_ble_eq_true rfl) wF_Ways_113 rfl rfl fun x36 => ?_
    refine r_icmp_ge (i := 22) (tgt := 88) rfl rfl rfl ?_ ?_
    · exact r_lv (fw_sub1 rfl (fw_sub1 rfl (fw_sub1 rfl (fw_sub1 rfl fw_sub0)))) (hK88 g27)
    · refine r_aload_n (i := 23) rfl rfl rfl ?_
      refine r_gR (i := 24) (ci := 10) (kf := 0) rfl (Nat.le_of_ble_eq_true rfl) wF_Ways_15 rfl rfl fun x43 => ?_
      refine r_gR (i := 25) (ci := 9) (kf := 0) rfl (Nat.le_of_ble_eq_true rfl) wF_Ways_81 rfl rfl fun x46 => ?_
      refine r_iload (i := 26) rfl rfl rfl ?_
      refine r_iconst (i := 27) (0 : Int32) kc_iconst_0 rfl rfl ?_
      refine r_VI2 (i := 28) (k2 := 0) (n2 := 0) ok_Vil_trait wM_Ways_116 (c_Vil_trait) (fun _ e => fw_ckb e) (Nat.le_of_ble_eq_true rfl) (Nat.le_of_ble_eq_true rfl) (Nat.le_of_ble_eq_true rfl) (Nat.le_of_ble_eq_true rfl) rfl rfl fun x52 => ?_
      refine r_iload_n (i := 29) rfl rfl rfl ?_
      refine r_iadd (i := 30) rfl rfl ?_
      refine r_bipush (i := 31) (9 : Int32) kc_bipush_9 rfl rfl ?_
      refine r_icmp_gt (i := 32) (tgt := 82) rfl rfl rfl ?_ ?_
      · refine r_iinc (i := 45) (1 : Int32) kc_iconst_1 rfl rfl rfl (Nat.le_of_ble_eq_true rfl) ?_
        refine r_goto (i := 46) (tgt := 27) rfl rfl rfl ?_
        exact r_lv (fw_sub1 rfl (fw_sub1 rfl (fw_sub1 rfl (fw_sub1 rfl (fw_sub1 rfl fw_sub0))))) (ih (a27_4 + (1 : Int32)) g27)
      · refine r_aload_n (i := 33) rfl rfl rfl ?_
        refine r_iload (i := 34) rfl rfl rfl ?_
        refine r_iload_n (i := 35) rfl rfl rfl ?_
        refine r_iload_n (i := 36) rfl rfl rfl ?_
        refine r_iload_n (i := 37) rfl rfl rfl ?_
        refine r_VwB4 (i := 38) (k2 := 0) (n2 := 0) ok_Ways_feasts wM_Ways_120 (c_Ways_feasts F) (fun _ e => fw_ckb e) (Nat.le_of_ble_eq_true rfl) (Nat.le_of_ble_eq_true rfl) (Nat.le_of_ble_eq_true rfl) (Nat.le_of_ble_eq_true rfl) rfl rfl fun x68 => ?_
        refine r_ifeqB (i := 39) (tgt := 82) rfl rfl rfl ?_ ?_
        · refine r_iinc (i := 45) (1 : Int32) kc_iconst_1 rfl rfl rfl (Nat.le_of_ble_eq_true rfl) ?_
          refine r_goto (i := 46) (tgt := 27) rfl rfl rfl ?_
          exact r_lv (fw_sub1 rfl (fw_sub1 rfl (fw_sub1 rfl (fw_sub1 rfl (fw_sub1 rfl fw_sub0))))) (ih (a27_4 + (1 : Int32)) x68.2)
        · refine r_aload_n (i := 40) rfl rfl rfl ?_
          refine r_iload (i := 41) rfl rfl rfl ?_
          refine r_pI (i := 42) (ci := 10) (kf := 3) rfl (Nat.le_of_ble_eq_true rfl) wF_Ways_107 rfl (tyX10_ok 3 (Nat.le_of_ble_eq_true rfl)) rfl rfl fun h77 => ?_
          refine r_iload_n (i := 43) rfl rfl rfl ?_
          exact r_retI (i := 44) rfl rfl rfl rfl
def l_Ways_leastFeast_18 (F : Nat) (v0 : Option Nat) (v1 : Int32) (v2 : Int32) : Nat → Int32 → fw_H → Option (Int32 × fw_H)
  | 0, _, _ => none
  | nn + 1, a18_3, g18 =>
    if (9 : Int32) < a18_3 then (some ((-1 : Int32), g18)) else
    l_Ways_leastFeast_27 F v0 v1 v2 a18_3 (fun he88 =>
    l_Ways_leastFeast_18 F v0 v1 v2 nn (a18_3 + (1 : Int32)) he88) F (0 : Int32) g18
theorem cl_Ways_leastFeast_18 {G : fw_G} {F : Nat} {v0 : Option Nat} {v1 : Int32} {v2 : Int32} : ∀ (nn : Nat) (a18_3 : Int32) (g18 : fw_H), fw_R G m_Ways_leastFeast fw_wI 6 0 0 18 [(0, some (fw_r v0)), (1, some (fw_i v1)), (2, some (fw_i v2)), (3, some (fw_i a18_3))] [] g18 (l_Ways_leastFeast_18 F v0 v1 v2 nn a18_3 g18) := by
  intro nn
  induction nn with
  | zero => intros; exact r_none
  | succ nn ih =>
    intro a18_3 g18
    rw [l_Ways_leastFeast_18]
    refine r_iload_n (i := 12) rfl rfl rfl ?_
    refine r_bipush (i := 13) (9 : Int32) kc_bipush_9 rfl rfl ?_
    refine r_icmp_gt (i := 14) (tgt := 94) rfl rfl rfl ?_ ?_
    · refine r_iconst (i := 49) (-1 : Int32) kc_iconst_m1 rfl rfl ?_
      exact r_retI (i := 50) rfl rfl rfl rfl
    · refine r_iconst (i := 15) (0 : Int32) kc_iconst_0 rfl rfl ?_
      refine r_istore (i := 16) rfl rfl (Nat.le_of_ble_eq_true rfl) rfl ?_
      refine r_lv (fw_sub1 rfl (fw_sub1 rfl (fw_sub1 rfl (fw_sub1 rfl (fw_sub1 rfl fw_sub0))))) (cl_Ways_leastFeast_27 ?_ F _ _)
      · intro he88
        refine r_iinc (i := 47) (1 : Int32) kc_iconst_1 rfl rfl rfl (Nat.le_of_ble_eq_true rfl) ?_
        refine r_goto (i := 48) (tgt := 18) rfl rfl rfl ?_
        exact r_lv (fw_sub1 rfl (fw_sub1 rfl (fw_sub1 rfl (fw_sub1 rfl fw_sub0)))) (ih (a18_3 + (1 : Int32)) he88)
def s_Ways_leastFeast (F : Nat) (h : fw_H) (v0 : Option Nat) (v1 : Int32) (v2 : Int32) : Option (Int32 × fw_H) :=
(f_ck h v0 10).bind fun _ =>
(f_pI h v0 10 3 (-1 : Int32)).bind fun h2 =>
(s_Ways_isThere F h2 v0 v1 v2).bind fun x8 =>
if x8.1 = true then (some ((0 : Int32), x8.2)) else
l_Ways_leastFeast_18 F v0 v1 v2 F (1 : Int32) x8.2
theorem c_Ways_leastFeast {G : fw_G} (F : Nat) {h : fw_H} {v0 : Option Nat} {v1 : Int32} {v2 : Int32} : fw_Call G m_Ways_leastFeast fw_wI 6 0 0 [fw_r v0, fw_i v1, fw_i v2] h (s_Ways_leastFeast F h v0 v1 v2) := by
  refine fw_Call.of ok_Ways_leastFeast.1 (Nat.le_of_ble_eq_true rfl) [(0, some (fw_r v0)), (1, some (fw_i v1)), (2, some (fw_i v2))] rfl ?_
  refine r_ck ?_
  refine r_aload_n (i := 0) rfl rfl rfl ?_
  refine r_iconst (i := 1) (-1 : Int32) kc_iconst_m1 rfl rfl ?_
  refine r_pI (i := 2) (ci := 10) (kf := 3) rfl (Nat.le_of_ble_eq_true rfl) wF_Ways_107 rfl (tyX10_ok 3 (Nat.le_of_ble_eq_true rfl)) rfl rfl fun h2 => ?_
  refine r_aload_n (i := 3) rfl rfl rfl ?_
  refine r_iload_n (i := 4) rfl rfl rfl ?_
  refine r_iload_n (i := 5) rfl rfl rfl ?_
  refine r_VwB2 (i := 6) (k2 := 0) (n2 := 0) ok_Ways_isThere wM_Ways_110 (c_Ways_isThere F) (fun _ e => fw_ckb e) (Nat.le_of_ble_eq_true rfl) (Nat.le_of_ble_eq_true rfl) (Nat.le_of_ble_eq_true rfl) (Nat.le_of_ble_eq_true rfl) rfl rfl fun x8 => ?_
  refine r_ifeqB (i := 7) (tgt := 16) rfl rfl rfl ?_ ?_
  · refine r_iconst (i := 10) (1 : Int32) kc_iconst_1 rfl rfl ?_
    refine r_istore_n (i := 11) rfl rfl (Nat.le_of_ble_eq_true rfl) rfl ?_
    refine r_lv (fw_sub1 rfl (fw_sub1 rfl (fw_sub1 rfl (fw_sub1 rfl fw_sub0)))) (cl_Ways_leastFeast_18 F _ _)
  · refine r_iconst (i := 8) (0 : Int32) kc_iconst_0 rfl rfl ?_
    exact r_retI (i := 9) rfl rfl rfl rfl
-- Ways_feaster
def s_Ways_feaster (h : fw_H) (v0 : Option Nat) : Option Int32 :=
(f_ck h v0 10).bind fun _ =>
(f_gI h v0 10 3).bind fun x1 =>
some x1
theorem c_Ways_feaster {G : fw_G} {h : fw_H} {v0 : Option Nat} : fw_Call G m_Ways_feaster (fw_eI h) 0 0 0 [fw_r v0] h (s_Ways_feaster h v0) := by
  refine fw_Call.of ok_Ways_feaster.1 (Nat.le_of_ble_eq_true rfl) [(0, some (fw_r v0))] rfl ?_
  refine r_ck ?_
  refine r_aload_n (i := 0) rfl rfl rfl ?_
  refine r_gI (i := 1) (ci := 10) (kf := 3) rfl (Nat.le_of_ble_eq_true rfl) wF_Ways_107 rfl rfl fun x1 => ?_
  exact r_retI (i := 2) rfl rfl rfl rfl
-- Ways_gain
def l_Ways_gain_53 (F : Nat) (v0 : Option Nat) (v1 : Int32) (v2 : Int32) : Nat → Int32 → Int32 → fw_H → Option (Int32 × fw_H)
  | 0, _, _, _ => none
  | nn + 1, a53_6, a53_7, g53 =>
    if (24 : Int32) ≤ a53_7 then (some (a53_6, g53)) else
    (f_gR g53 v0 10 0).bind fun x61 =>
    (s_Walk_hour F g53 x61).bind fun h64 =>
    (f_gR h64 v0 10 0).bind fun x68 =>
    (f_gI h64 x68 9 2).bind fun x71 =>
    if ¬ x71 = v1 then ((f_gR h64 v0 10 0).bind fun x85 =>
    (f_gI h64 x85 9 2).bind fun x88 =>
    if ¬ x88 = v2 then (l_Ways_gain_53 F v0 v1 v2 nn a53_6 (a53_7 + (1 : Int32)) h64) else
    l_Ways_gain_53 F v0 v1 v2 nn (a53_6 + (-1 : Int32)) (a53_7 + (1 : Int32)) h64) else
    l_Ways_gain_53 F v0 v1 v2 nn (a53_6 + (1 : Int32)) (a53_7 + (1 : Int32)) h64
theorem cl_Ways_gain_53 {G : fw_G} {F : Nat} {v0 : Option Nat} {v1 : Int32} {v2 : Int32} : ∀ (nn : Nat) (a53_6 : Int32) (a53_7 : Int32) (g53 : fw_H), fw_R G m_Ways_gain fw_wI 4 0 0 53 [(0, some (fw_r v0)), (1, some (fw_i v1)), (2, some (fw_i v2)), (6, some (fw_i a53_6)), (7, some (fw_i a53_7))] [] g53 (l_Ways_gain_53 F v0 v1 v2 nn a53_6 a53_7 g53) := by
  intro nn
  induction nn with
  | zero => intros; exact r_none
  | succ nn ih =>
    intro a53_6 a53_7 g53
    rw [l_Ways_gain_53]
    refine r_iload (i := 34) rfl rfl rfl ?_
    refine r_bipush (i := 35) (24 : Int32) kc_bipush_24 rfl rfl ?_
    refine r_icmp_ge (i := 36) (tgt := 104) rfl rfl rfl ?_ ?_
    · refine r_iload (i := 55) rfl rfl rfl ?_
      exact r_retI (i := 56) rfl rfl rfl rfl
    · refine r_aload_n (i := 37) rfl rfl rfl ?_
      refine r_gR (i := 38) (ci := 10) (kf := 0) rfl (Nat.le_of_ble_eq_true rfl) wF_Ways_15 rfl rfl fun x61 => ?_
      refine r_VV0 (i := 39) (k2 := 0) (n2 := 0) ok_Walk_hour wM_Ways_56 (c_Walk_hour F) (fun _ e => fw_ckb e) (Nat.le_of_ble_eq_true rfl) (Nat.le_of_ble_eq_true rfl) (Nat.le_of_ble_eq_true rfl) (Nat.le_of_ble_eq_true rfl) rfl rfl fun h64 => ?_
      refine r_aload_n (i := 40) rfl rfl rfl ?_
      refine r_gR (i := 41) (ci := 10) (kf := 0) rfl (Nat.le_of_ble_eq_true rfl) wF_Ways_15 rfl rfl fun x68 => ?_
      refine r_gI (i := 42) (ci := 9) (kf := 2) rfl (Nat.le_of_ble_eq_true rfl) wF_Ways_43 rfl rfl fun x71 => ?_
      refine r_iload_n (i := 43) rfl rfl rfl ?_
      refine r_icmp_ne (i := 44) (tgt := 84) rfl rfl rfl ?_ ?_
      · refine r_aload_n (i := 47) rfl rfl rfl ?_
        refine r_gR (i := 48) (ci := 10) (kf := 0) rfl (Nat.le_of_ble_eq_true rfl) wF_Ways_15 rfl rfl fun x85 => ?_
        refine r_gI (i := 49) (ci := 9) (kf := 2) rfl (Nat.le_of_ble_eq_true rfl) wF_Ways_43 rfl rfl fun x88 => ?_
        refine r_iload_n (i := 50) rfl rfl rfl ?_
        refine r_icmp_ne (i := 51) (tgt := 98) rfl rfl rfl ?_ ?_
        · refine r_iinc (i := 53) (1 : Int32) kc_iconst_1 rfl rfl rfl (Nat.le_of_ble_eq_true rfl) ?_
          refine r_goto (i := 54) (tgt := 53) rfl rfl rfl ?_
          exact r_lv (fw_sub1 rfl (fw_sub1 rfl (fw_sub1 rfl (fw_sub1 rfl (fw_sub1 rfl fw_sub0))))) (ih a53_6 (a53_7 + (1 : Int32)) h64)
        · refine r_iinc (i := 52) (-1 : Int32) kc_iconst_m1 rfl rfl rfl (Nat.le_of_ble_eq_true rfl) ?_
          refine r_iinc (i := 53) (1 : Int32) kc_iconst_1 rfl rfl rfl (Nat.le_of_ble_eq_true rfl) ?_
          refine r_goto (i := 54) (tgt := 53) rfl rfl rfl ?_
          exact r_lv (fw_sub1 rfl (fw_sub1 rfl (fw_sub1 rfl (fw_sub1 rfl (fw_sub1 rfl fw_sub0))))) (ih (a53_6 + (-1 : Int32)) (a53_7 + (1 : Int32)) h64)
      · refine r_iinc (i := 45) (1 : Int32) kc_iconst_1 rfl rfl rfl (Nat.le_of_ble_eq_true rfl) ?_
        refine r_goto (i := 46) (tgt := 98) rfl rfl rfl ?_
        refine r_iinc (i := 53) (1 : Int32) kc_iconst_1 rfl rfl rfl (Nat.le_of_ble_eq_true rfl) ?_
        refine r_goto (i := 54) (tgt := 53) rfl rfl rfl ?_
        exact r_lv (fw_sub1 rfl (fw_sub1 rfl (fw_sub1 rfl (fw_sub1 rfl (fw_sub1 rfl fw_sub0))))) (ih (a53_6 + (1 : Int32)) (a53_7 + (1 : Int32)) h64)
def s_Ways_gain (F : Nat) (h : fw_H) (v0 : Option Nat) (v1 : Int32) (v2 : Int32) (v3 : Int32) (v4 : Int32) : Option (Int32 × fw_H) :=
(f_ck h v0 10).bind fun _ =>
(f_gR h v0 10 0).bind fun x10 =>
(f_gR h v0 10 0).bind fun x14 =>
(f_gR h x14 9 0).bind fun x17 =>
(f_gI h x17 7 7).bind fun x20 =>
(f_pI h x10 9 5 (((x20 &&& ((((1 : Int32) <<< (v1 &&& 31)) ||| ((1 : Int32) <<< (v2 &&& 31))) ^^^ (-1 : Int32))) ||| (v3 <<< (v1 &&& 31))) ||| (v4 <<< (v2 &&& 31)))).bind fun h37 =>
(f_gR h37 v0 10 0).bind fun x41 =>
(s_Walk_restart h37 x41).bind fun h44 =>
l_Ways_gain_53 F v0 v1 v2 F (0 : Int32) (0 : Int32) h44
theorem c_Ways_gain {G : fw_G} (F : Nat) {h : fw_H} {v0 : Option Nat} {v1 : Int32} {v2 : Int32} {v3 : Int32} {v4 : Int32} : fw_Call G m_Ways_gain fw_wI 4 0 0 [fw_r v0, fw_i v1, fw_i v2, fw_i v3, fw_i v4] h (s_Ways_gain F h v0 v1 v2 v3 v4) := by
  refine fw_Call.of ok_Ways_gain.1 (Nat.le_of_ble_eq_true rfl) [(0, some (fw_r v0)), (1, some (fw_i v1)), (2, some (fw_i v2)), (3, some (fw_i v3)), (4, some (fw_i v4))] rfl ?_
  refine r_ck ?_
  refine r_iconst (i := 0) (1 : Int32) kc_iconst_1 rfl rfl ?_
  refine r_iload_n (i := 1) rfl rfl rfl ?_
  refine r_ishl (i := 2) rfl rfl ?_
  refine r_iconst (i := 3) (1 : Int32) kc_iconst_1 rfl rfl ?_
  refine r_iload_n (i := 4) rfl rfl rfl ?_
  refine r_ishl (i := 5) rfl rfl ?_
  refine r_ior (i := 6) rfl rfl ?_
  refine r_istore (i := 7) rfl rfl (Nat.le_of_ble_eq_true rfl) rfl ?_
  refine r_aload_n (i := 8) rfl rfl rfl ?_
  refine r_gR (i := 9) (ci := 10) (kf := 0) rfl (Nat.le_of_ble_eq_true rfl) wF_Ways_15 rfl rfl fun x10 => ?_
  refine r_aload_n (i := 10) rfl rfl rfl ?_
  refine r_gR (i := 11) (ci := 10) (kf := 0) rfl (Nat.le_of_ble_eq_true rfl) wF_Ways_15 rfl rfl fun x14 => ?_
  refine r_gR (i := 12) (ci := 9) (kf := 0) rfl (Nat.le_of_ble_eq_true rfl) wF_Ways_81 rfl rfl fun x17 => ?_
  refine r_gI (i := 13) (ci := 7) (kf := 7) rfl (Nat.le_of_ble_eq_true rfl) wF_Ways_128 rfl rfl fun x20 => ?_
  refine r_iload (i := 14) rfl rfl rfl ?_
  refine r_iconst (i := 15) (-1 : Int32) kc_iconst_m1 rfl rfl ?_
  refine r_ixor (i := 16) rfl rfl ?_
  refine r_iand (i := 17) rfl rfl ?_
  refine r_iload_n (i := 18) rfl rfl rfl ?_
  refine r_iload_n (i := 19) rfl rfl rfl ?_
  refine r_ishl (i := 20) rfl rfl ?_
  refine r_ior (i := 21) rfl rfl ?_
  refine r_iload (i := 22) rfl rfl rfl ?_
  refine r_iload_n (i := 23) rfl rfl rfl ?_
  refine r_ishl (i := 24) rfl rfl ?_
  refine r_ior (i := 25) rfl rfl ?_
  refine r_pI (i := 26) (ci := 9) (kf := 5) rfl (Nat.le_of_ble_eq_true rfl) wF_Ways_26 rfl (tyX9_ok 5 (Nat.le_of_ble_eq_true rfl)) rfl rfl fun h37 => ?_
  refine r_aload_n (i := 27) rfl rfl rfl ?_
  refine r_gR (i := 28) (ci := 10) (kf := 0) rfl (Nat.le_of_ble_eq_true rfl) wF_Ways_15 rfl rfl fun x41 => ?_
  refine r_VV0 (i := 29) (k2 := 0) (n2 := 0) ok_Walk_restart wM_Ways_101 (c_Walk_restart) (fun _ e => fw_ckb e) (Nat.le_of_ble_eq_true rfl) (Nat.le_of_ble_eq_true rfl) (Nat.le_of_ble_eq_true rfl) (Nat.le_of_ble_eq_true rfl) rfl rfl fun h44 => ?_
  refine r_iconst (i := 30) (0 : Int32) kc_iconst_0 rfl rfl ?_
  refine r_istore (i := 31) rfl rfl (Nat.le_of_ble_eq_true rfl) rfl ?_
  refine r_iconst (i := 32) (0 : Int32) kc_iconst_0 rfl rfl ?_
  refine r_istore (i := 33) rfl rfl (Nat.le_of_ble_eq_true rfl) rfl ?_
  refine r_lv (fw_sub1 rfl (fw_sub1 rfl (fw_sub1 rfl (fw_sub1 rfl (fw_sub1 rfl fw_sub0))))) (cl_Ways_gain_53 F _ _ _)
-- Ways_rest
def l_Ways_rest_3 (F : Nat) (v0 : Option Nat) (v1 : Int32) (v2 : Int32) (K42 : fw_H → Option (Int32 × fw_H)) : Nat → Int32 → fw_H → Option (Int32 × fw_H)
  | 0, _, _ => none
  | nn + 1, a3_4, g3 =>
    (f_gR g3 v0 10 4).bind fun x6 =>
    (f_lnI g3 x6).bind fun x9 =>
    if x9 ≤ a3_4 then (K42 g3) else
    (f_gR g3 v0 10 4).bind fun x14 =>
    (s_Ways_gain F g3 v0 v1 v2 (a3_4 >>> ((1 : Int32) &&& 31)) (a3_4 &&& (1 : Int32))).bind fun x30 =>
    (s_Rows_put x30.2 x14 a3_4 x30.1).bind fun h33 =>
    l_Ways_rest_3 F v0 v1 v2 K42 nn (a3_4 + (1 : Int32)) h33
theorem cl_Ways_rest_3 {G : fw_G} {F : Nat} {v0 : Option Nat} {v1 : Int32} {v2 : Int32} {v3 : Int32} {K42 : fw_H → Option (Int32 × fw_H)} (hK42 : ∀ (he42 : fw_H), fw_R G m_Ways_rest fw_wI 5 0 0 42 [(0, some (fw_r v0)), (3, some (fw_i v3))] [] he42 (K42 he42)) : ∀ (nn : Nat) (a3_4 : Int32) (g3 : fw_H), fw_R G m_Ways_rest fw_wI 5 0 0 3 [(0, some (fw_r v0)), (1, some (fw_i v1)), (2, some (fw_i v2)), (3, some (fw_i v3)), (4, some (fw_i a3_4))] [] g3 (l_Ways_rest_3 F v0 v1 v2 K42 nn a3_4 g3) := by
  intro nn
  induction nn with
  | zero => intros; exact r_none
  | succ nn ih =>
    intro a3_4 g3
    rw [l_Ways_rest_3]
    refine r_iload (i := 2) rfl rfl rfl ?_
    refine r_aload_n (i := 3) rfl rfl rfl ?_
    refine r_gR (i := 4) (ci := 10) (kf := 4) rfl (Nat.le_of_ble_eq_true rfl) wF_Ways_9 rfl rfl fun x6 => ?_
    refine r_lnI (i := 5) rfl rfl fun x9 => ?_
    refine r_icmp_ge (i := 6) (tgt := 42) rfl rfl rfl ?_ ?_
    · exact r_lv (fw_sub1 rfl (fw_sub1 rfl fw_sub0)) (hK42 g3)
    · refine r_aload_n (i := 7) rfl rfl rfl ?_
      refine r_gR (i := 8) (ci := 10) (kf := 4) rfl (Nat.le_of_ble_eq_true rfl) wF_Ways_9 rfl rfl fun x14 => ?_
      refine r_iload (i := 9) rfl rfl rfl ?_
      refine r_aload_n (i := 10) rfl rfl rfl ?_
      refine r_iload_n (i := 11) rfl rfl rfl ?_
      refine r_iload_n (i := 12) rfl rfl rfl ?_
      refine r_iload (i := 13) rfl rfl rfl ?_
      refine r_iconst (i := 14) (1 : Int32) kc_iconst_1 rfl rfl ?_
      refine r_ishr (i := 15) rfl rfl ?_
      refine r_iload (i := 16) rfl rfl rfl ?_
      refine r_iconst (i := 17) (1 : Int32) kc_iconst_1 rfl rfl ?_
      refine r_iand (i := 18) rfl rfl ?_
      refine r_VwI4 (i := 19) (k2 := 0) (n2 := 0) ok_Ways_gain wM_Ways_129 (c_Ways_gain F) (fun _ e => fw_ckb e) (Nat.le_of_ble_eq_true rfl) (Nat.le_of_ble_eq_true rfl) (Nat.le_of_ble_eq_true rfl) (Nat.le_of_ble_eq_true rfl) rfl rfl fun x30 => ?_
      refine r_SV3 (i := 20) (k2 := 0) (n2 := 0) ok_Rows_put wM_Ways_132 (c_Rows_put) (Nat.le_of_ble_eq_true rfl) (Nat.le_of_ble_eq_true rfl) (Nat.le_of_ble_eq_true rfl) (Nat.le_of_ble_eq_true rfl) rfl rfl fun h33 => ?_
      refine r_iinc (i := 21) (1 : Int32) kc_iconst_1 rfl rfl rfl (Nat.le_of_ble_eq_true rfl) ?_
      refine r_goto (i := 22) (tgt := 3) rfl rfl rfl ?_
      exact r_lv (fw_sub1 rfl (fw_sub1 rfl (fw_sub1 rfl (fw_sub1 rfl (fw_sub1 rfl fw_sub0))))) (ih (a3_4 + (1 : Int32)) h33)
def l_Ways_rest_48 (v0 : Option Nat) (v3 : Int32) (he42 : fw_H) (K129 : Int32 → Option (Int32 × fw_H)) : Nat → Int32 → Int32 → Option (Int32 × fw_H)
  | 0, _, _ => none
  | nn + 1, a48_4, a48_5 =>
    (f_gR he42 v0 10 4).bind fun x51 =>
    (f_lnI he42 x51).bind fun x54 =>
    if x54 ≤ a48_5 then (K129 a48_4) else
    (f_gR he42 v0 10 4).bind fun x59 =>
    (s_Rows_get he42 x59 a48_5).bind fun x64 =>
    (f_gR he42 v0 10 4).bind fun x70 =>
    (s_Rows_get he42 x70 (a48_5 ^^^ (2 : Int32))).bind fun x77 =>
    if x64 < x77 then (l_Ways_rest_48 v0 v3 he42 K129 nn a48_4 (a48_5 + (1 : Int32))) else
    (f_gR he42 v0 10 4).bind fun x86 =>
    (s_Rows_get he42 x86 (a48_5 ^^^ (1 : Int32))).bind fun x93 =>
    if x93 < x64 then (l_Ways_rest_48 v0 v3 he42 K129 nn a48_4 (a48_5 + (1 : Int32))) else
    if ¬ a48_4 = v3 then (l_Ways_rest_48 v0 v3 he42 K129 nn (a48_4 + (1 : Int32)) (a48_5 + (1 : Int32))) else
    some ((((10 : Int32) * (a48_5 >>> ((1 : Int32) &&& 31))) + (a48_5 &&& (1 : Int32))), he42)
theorem cl_Ways_rest_48 {G : fw_G} {v0 : Option Nat} {v3 : Int32} {he42 : fw_H} {K129 : Int32 → Option (Int32 × fw_H)} (hK129 : ∀ (e129_4 : Int32), fw_R G m_Ways_rest fw_wI 5 0 0 129 [(3, some (fw_i v3)), (4, some (fw_i e129_4))] [] he42 (K129 e129_4)) : ∀ (nn : Nat) (a48_4 : Int32) (a48_5 : Int32), fw_R G m_Ways_rest fw_wI 5 0 0 48 [(0, some (fw_r v0)), (3, some (fw_i v3)), (4, some (fw_i a48_4)), (5, some (fw_i a48_5))] [] he42 (l_Ways_rest_48 v0 v3 he42 K129 nn a48_4 a48_5) := by
  intro nn
  induction nn with
  | zero => intros; exact r_none
  | succ nn ih =>
    intro a48_4 a48_5
    rw [l_Ways_rest_48]
    refine r_iload (i := 27) rfl rfl rfl ?_
    refine r_aload_n (i := 28) rfl rfl rfl ?_
    refine r_gR (i := 29) (ci := 10) (kf := 4) rfl (Nat.le_of_ble_eq_true rfl) wF_Ways_9 rfl rfl fun x51 => ?_
    refine r_lnI (i := 30) rfl rfl fun x54 => ?_
    refine r_icmp_ge (i := 31) (tgt := 129) rfl rfl rfl ?_ ?_
    · exact r_lv (fw_sub1 rfl (fw_sub1 rfl fw_sub0)) (hK129 a48_4)
    · refine r_aload_n (i := 32) rfl rfl rfl ?_
      refine r_gR (i := 33) (ci := 10) (kf := 4) rfl (Nat.le_of_ble_eq_true rfl) wF_Ways_9 rfl rfl fun x59 => ?_
      refine r_iload (i := 34) rfl rfl rfl ?_
      refine r_SI2 (i := 35) (k2 := 0) (n2 := 0) ok_Rows_get wM_Ways_136 (c_Rows_get) (Nat.le_of_ble_eq_true rfl) (Nat.le_of_ble_eq_true rfl) (Nat.le_of_ble_eq_true rfl) (Nat.le_of_ble_eq_true rfl) rfl rfl fun x64 => ?_
      refine r_istore (i := 36) rfl rfl (Nat.le_of_ble_eq_true rfl) rfl ?_
      refine r_aload_n (i := 37) rfl rfl rfl ?_
      refine r_gR (i := 38) (ci := 10) (kf := 4) rfl (Nat.le_of_ble_eq_true rfl) wF_Ways_9 rfl rfl fun x70 => ?_
      refine r_iload (i := 39) rfl rfl rfl ?_
      refine r_iconst (i := 40) (2 : Int32) kc_iconst_2 rfl rfl ?_
      refine r_ixor (i := 41) rfl rfl ?_
      refine r_SI2 (i := 42) (k2 := 0) (n2 := 0) ok_Rows_get wM_Ways_136 (c_Rows_get) (Nat.le_of_ble_eq_true rfl) (Nat.le_of_ble_eq_true rfl) (Nat.le_of_ble_eq_true rfl) (Nat.le_of_ble_eq_true rfl) rfl rfl fun x77 => ?_
      refine r_iload (i := 43) rfl rfl rfl ?_
      refine r_icmp_gt (i := 44) (tgt := 123) rfl rfl rfl ?_ ?_
      · refine r_iinc (i := 67) (1 : Int32) kc_iconst_1 rfl rfl rfl (Nat.le_of_ble_eq_true rfl) ?_
        refine r_goto (i := 68) (tgt := 48) rfl rfl rfl ?_
        exact r_lv (fw_sub1 rfl (fw_sub1 rfl (fw_sub1 rfl (fw_sub1 rfl fw_sub0)))) (ih a48_4 (a48_5 + (1 : Int32)))
      · refine r_aload_n (i := 45) rfl rfl rfl ?_
        refine r_gR (i := 46) (ci := 10) (kf := 4) rfl (Nat.le_of_ble_eq_true rfl) wF_Ways_9 rfl rfl fun x86 => ?_
        refine r_iload (i := 47) rfl rfl rfl ?_
        refine r_iconst (i := 48) (1 : Int32) kc_iconst_1 rfl rfl ?_
        refine r_ixor (i := 49) rfl rfl ?_
        refine r_SI2 (i := 50) (k2 := 0) (n2 := 0) ok_Rows_get wM_Ways_136 (c_Rows_get) (Nat.le_of_ble_eq_true rfl) (Nat.le_of_ble_eq_true rfl) (Nat.le_of_ble_eq_true rfl) (Nat.le_of_ble_eq_true rfl) rfl rfl fun x93 => ?_
        refine r_iload (i := 51) rfl rfl rfl ?_
        refine r_icmp_lt (i := 52) (tgt := 123) rfl rfl rfl ?_ ?_
        · refine r_iinc (i := 67) (1 : Int32) kc_iconst_1 rfl rfl rfl (Nat.le_of_ble_eq_true rfl) ?_
          refine r_goto (i := 68) (tgt := 48) rfl rfl rfl ?_
          exact r_lv (fw_sub1 rfl (fw_sub1 rfl (fw_sub1 rfl (fw_sub1 rfl fw_sub0)))) (ih a48_4 (a48_5 + (1 : Int32)))
        · refine r_iload (i := 53) rfl rfl rfl ?_
          refine r_iload_n (i := 54) rfl rfl rfl ?_
          refine r_icmp_ne (i := 55) (tgt := 120) rfl rfl rfl ?_ ?_
          · refine r_iinc (i := 66) (1 : Int32) kc_iconst_1 rfl rfl rfl (Nat.le_of_ble_eq_true rfl) ?_
            refine r_iinc (i := 67) (1 : Int32) kc_iconst_1 rfl rfl rfl (Nat.le_of_ble_eq_true rfl) ?_
            refine r_goto (i := 68) (tgt := 48) rfl rfl rfl ?_
            exact r_lv (fw_sub1 rfl (fw_sub1 rfl (fw_sub1 rfl (fw_sub1 rfl fw_sub0)))) (ih (a48_4 + (1 : Int32)) (a48_5 + (1 : Int32)))
          · refine r_bipush (i := 56) (10 : Int32) kc_bipush_10 rfl rfl ?_
            refine r_iload (i := 57) rfl rfl rfl ?_
            refine r_iconst (i := 58) (1 : Int32) kc_iconst_1 rfl rfl ?_
            refine r_ishr (i := 59) rfl rfl ?_
            refine r_imul (i := 60) rfl rfl ?_
            refine r_iload (i := 61) rfl rfl rfl ?_
            refine r_iconst (i := 62) (1 : Int32) kc_iconst_1 rfl rfl ?_
            refine r_iand (i := 63) rfl rfl ?_
            refine r_iadd (i := 64) rfl rfl ?_
            exact r_retI (i := 65) rfl rfl rfl rfl
def s_Ways_rest (F : Nat) (h : fw_H) (v0 : Option Nat) (v1 : Int32) (v2 : Int32) (v3 : Int32) : Option (Int32 × fw_H) :=
(f_ck h v0 10).bind fun _ =>
l_Ways_rest_3 F v0 v1 v2 (fun he42 =>
l_Ways_rest_48 v0 v3 he42 (fun e129_4 =>
if ¬ v3 = (-1 : Int32) then (some ((-1 : Int32), he42)) else
some (e129_4, he42)) F (0 : Int32) (0 : Int32)) F (0 : Int32) h
theorem c_Ways_rest {G : fw_G} (F : Nat) {h : fw_H} {v0 : Option Nat} {v1 : Int32} {v2 : Int32} {v3 : Int32} : fw_Call G m_Ways_rest fw_wI 5 0 0 [fw_r v0, fw_i v1, fw_i v2, fw_i v3] h (s_Ways_rest F h v0 v1 v2 v3) := by
  refine fw_Call.of ok_Ways_rest.1 (Nat.le_of_ble_eq_true rfl) [(0, some (fw_r v0)), (1, some (fw_i v1)), (2, some (fw_i v2)), (3, some (fw_i v3))] rfl ?_
  refine r_ck ?_
  refine r_iconst (i := 0) (0 : Int32) kc_iconst_0 rfl rfl ?_
  refine r_istore (i := 1) rfl rfl (Nat.le_of_ble_eq_true rfl) rfl ?_
  refine r_lv (fw_sub1 rfl (fw_sub1 rfl (fw_sub1 rfl (fw_sub1 rfl (fw_sub1 rfl fw_sub0))))) (cl_Ways_rest_3 ?_ F _ _)
  · intro he42
    refine r_iconst (i := 23) (0 : Int32) kc_iconst_0 rfl rfl ?_
    refine r_istore (i := 24) rfl rfl (Nat.le_of_ble_eq_true rfl) rfl ?_
    refine r_iconst (i := 25) (0 : Int32) kc_iconst_0 rfl rfl ?_
    refine r_istore (i := 26) rfl rfl (Nat.le_of_ble_eq_true rfl) rfl ?_
    refine r_lv (fw_sub1 rfl (fw_sub1 rfl (fw_sub1 rfl (fw_sub1 rfl fw_sub0)))) (cl_Ways_rest_48 ?_ F _ _)
    · intro e129_4
      refine r_iload_n (i := 69) rfl rfl rfl ?_
      refine r_iconst (i := 70) (-1 : Int32) kc_iconst_m1 rfl rfl ?_
      refine r_icmp_ne (i := 71) (tgt := 139) rfl rfl rfl ?_ ?_
      · refine r_iconst (i := 74) (-1 : Int32) kc_iconst_m1 rfl rfl ?_
        exact r_retI (i := 75) rfl rfl rfl rfl
      · refine r_iload (i := 72) rfl rfl rfl ?_
        refine r_goto (i := 73) (tgt := 140) rfl rfl rfl ?_
        exact r_retI (i := 75) rfl rfl rfl rfl
-- Joy_init
def s_Joy_init (h : fw_H) (v0 : Option Nat) : Option fw_H :=
fw_new h (fw_O 6 [fw_r none, fw_i 0, fw_i 0, fw_i 0]) fun q5 h5 =>
(s_Tape_init h5 q5).bind fun h9 =>
(f_pR h9 v0 11 0 q5).bind fun h12 =>
fw_new h12 (fw_O 8 [fw_r none, fw_r none, fw_r none, fw_i 0]) fun q16 h16 =>
(f_gR h16 v0 11 0).bind fun x21 =>
(s_VText_init h16 q16 x21).bind fun h24 =>
(f_pR h24 v0 11 1 q16).bind fun h27 =>
fw_new h27 (fw_O 2 [fw_r none, fw_r none]) fun q31 h31 =>
(f_gR h31 v0 11 0).bind fun x36 =>
(s_LText_init h31 q31 x36).bind fun h39 =>
(f_pR h39 v0 11 2 q31).bind fun h42 =>
fw_new h42 (fw_O 7 [fw_i 0, fw_i 0, fw_r none, fw_r none, fw_r none, fw_i 0, fw_i 0, fw_i 0, fw_i 0, fw_i 0, fw_i 0, fw_i 0, fw_i 0, fw_r none, fw_i 0]) fun q46 h46 =>
(s_Vil_init h46 q46).bind fun h50 =>
(f_pR h50 v0 11 3 q46).bind fun h53 =>
fw_new h53 (fw_O 7 [fw_i 0, fw_i 0, fw_r none, fw_r none, fw_r none, fw_i 0, fw_i 0, fw_i 0, fw_i 0, fw_i 0, fw_i 0, fw_i 0, fw_i 0, fw_r none, fw_i 0]) fun q57 h57 =>
(s_Vil_init h57 q57).bind fun h61 =>
(f_pR h61 v0 11 4 q57).bind fun h64 =>
fw_new h64 (fw_O 1 [fw_r none, fw_r none, fw_i 0, fw_i 0, fw_i 0]) fun q68 h68 =>
(s_Law_init h68 q68).bind fun h72 =>
(f_pR h72 v0 11 6 q68).bind fun h75 =>
fw_new h75 (fw_Q 4 (fun _ => none)) fun q80 h80 =>
(f_pR h80 v0 11 7 q80).bind fun h83 =>
(f_pI h83 v0 11 9 (-1 : Int32)).bind fun h88 =>
fw_new h88 (fw_O 0 [fw_r none, fw_r none, fw_r none, fw_r none, fw_i 0, fw_i 0]) fun q92 h92 =>
(s_Acts_init h92 q92).bind fun h96 =>
(f_pR h96 v0 11 10 q92).bind fun h99 =>
fw_new h99 (fw_O 9 [fw_r none, fw_r none, fw_i 0, fw_i 0, fw_i 0, fw_i 0, fw_i 0, fw_r none, fw_r none, fw_r none, fw_r none, fw_r none, fw_i 0, fw_i 0, fw_i 0, fw_i 0]) fun q103 h103 =>
(s_Walk_init h103 q103).bind fun h107 =>
(f_pR h107 v0 11 12 q103).bind fun h110 =>
fw_new h110 (fw_O 10 [fw_r none, fw_i 0, fw_i 0, fw_i 0, fw_r none]) fun q114 h114 =>
(f_gR h114 v0 11 12).bind fun x119 =>
(s_Ways_init h114 q114 x119).bind fun h122 =>
(f_pR h122 v0 11 13 q114).bind fun h125 =>
fw_new h125 (fw_O 5 [fw_r none, fw_r none, fw_r none]) fun q129 h129 =>
(f_gR h129 v0 11 12).bind fun x134 =>
(s_Spread_init h129 q129 x134).bind fun h137 =>
(f_pR h137 v0 11 14 q129).bind fun h140 =>
fw_new h140 (fw_O 4 [fw_r none, fw_r none, fw_r none, fw_i 0, fw_r none, fw_i 0, fw_i 0, fw_i 0, fw_i 0]) fun q144 h144 =>
(f_gR h144 v0 11 12).bind fun x149 =>
(s_Seen_init h144 q144 x149).bind fun h152 =>
(f_pR h152 v0 11 15 q144).bind fun h155 =>
some h155
theorem c_Joy_init {G : fw_G} {h : fw_H} {v0 : Option Nat} (hv0 : v0.isSome = true) : fw_Call G m_Joy_init fw_eV 3 52 6750 [fw_r v0] h (s_Joy_init h v0) := by
  refine fw_Call.of ok_Joy_init.1 (Nat.le_of_ble_eq_true rfl) [(0, some (fw_r v0))] rfl ?_
  refine r_aload_n (i := 0) rfl rfl rfl ?_
  refine r_obji (i := 1) hv0 (Nat.le_of_ble_eq_true rfl) (Nat.le_of_ble_eq_true rfl) wM_Joy_1 wO_1 wO_2 rfl rfl ?_
  refine r_aload_n (i := 2) rfl rfl rfl ?_
  refine r_newON (i := 3) (k2 := 51) (n2 := 6746) (ci := 6) rfl dfl_6 (Nat.le_of_ble_eq_true rfl) (Nat.le_of_ble_eq_true rfl) wC_Joy_7 wN_Tape wI_Tape rfl rfl fun q5 h5 es5 => ?_
  refine r_dup_r (i := 4) rfl rfl ?_
  refine r_NV0 (i := 5) (k2 := 50) (n2 := 6506) ok_Tape_init wM_Joy_9 es5 (c_Tape_init es5) (Nat.le_of_ble_eq_true rfl) (Nat.le_of_ble_eq_true rfl) (Nat.le_of_ble_eq_true rfl) (Nat.le_of_ble_eq_true rfl) rfl rfl fun h9 => ?_
  refine r_pRF (i := 6) (ci := 11) (kf := 0) rfl (Nat.le_of_ble_eq_true rfl) wF_Joy_10 rfl rfl rfl ⟨_, (tyX11_ok 0 (Nat.le_of_ble_eq_true rfl)), Or.inl ⟨_, rfl⟩⟩ rfl rfl fun h12 => ?_
  refine r_aload_n (i := 7) rfl rfl rfl ?_
  refine r_newON (i := 8) (k2 := 49) (n2 := 6502) (ci := 8) rfl dfl_8 (Nat.le_of_ble_eq_true rfl) (Nat.le_of_ble_eq_true rfl) wC_Joy_16 wN_VText wI_VText rfl rfl fun q16 h16 es16 => ?_
  refine r_dup_r (i := 9) rfl rfl ?_
  refine r_aload_n (i := 10) rfl rfl rfl ?_
  refine r_gR (i := 11) (ci := 11) (kf := 0) rfl (Nat.le_of_ble_eq_true rfl) wF_Joy_10 rfl rfl fun x21 => ?_
  refine r_NV1 (i := 12) (k2 := 43) (n2 := 6277) ok_VText_init wM_Joy_18 es16 (c_VText_init es16) (Nat.le_of_ble_eq_true rfl) (Nat.le_of_ble_eq_true rfl) (Nat.le_of_ble_eq_true rfl) (Nat.le_of_ble_eq_true rfl) rfl rfl fun h24 => ?_
  refine r_pRF (i := 13) (ci := 11) (kf := 1) rfl (Nat.le_of_ble_eq_true rfl) wF_Joy_21 rfl rfl rfl ⟨_, (tyX11_ok 1 (Nat.le_of_ble_eq_true rfl)), Or.inl ⟨_, rfl⟩⟩ rfl rfl fun h27 => ?_
  refine r_aload_n (i := 14) rfl rfl rfl ?_
  refine r_newON (i := 15) (k2 := 42) (n2 := 6275) (ci := 2) rfl dfl_2 (Nat.le_of_ble_eq_true rfl) (Nat.le_of_ble_eq_true rfl) wC_Joy_25 wN_LText wI_LText rfl rfl fun q31 h31 es31 => ?_
  refine r_dup_r (i := 16) rfl rfl ?_
  refine r_aload_n (i := 17) rfl rfl rfl ?_
  refine r_gR (i := 18) (ci := 11) (kf := 0) rfl (Nat.le_of_ble_eq_true rfl) wF_Joy_10 rfl rfl fun x36 => ?_
  refine r_NV1 (i := 19) (k2 := 39) (n2 := 5990) ok_LText_init wM_Joy_27 es31 (c_LText_init es31) (Nat.le_of_ble_eq_true rfl) (Nat.le_of_ble_eq_true rfl) (Nat.le_of_ble_eq_true rfl) (Nat.le_of_ble_eq_true rfl) rfl rfl fun h39 => ?_
  refine r_pRF (i := 20) (ci := 11) (kf := 2) rfl (Nat.le_of_ble_eq_true rfl) wF_Joy_28 rfl rfl rfl ⟨_, (tyX11_ok 2 (Nat.le_of_ble_eq_true rfl)), Or.inl ⟨_, rfl⟩⟩ rfl rfl fun h42 => ?_
  refine r_aload_n (i := 21) rfl rfl rfl ?_
  refine r_newON (i := 22) (k2 := 38) (n2 := 5975) (ci := 7) rfl dfl_7 (Nat.le_of_ble_eq_true rfl) (Nat.le_of_ble_eq_true rfl) wC_Joy_32 wN_Vil wI_Vil rfl rfl fun q46 h46 es46 => ?_
  refine r_dup_r (i := 23) rfl rfl ?_
  refine r_NV0 (i := 24) (k2 := 34) (n2 := 5771) ok_Vil_init wM_Joy_34 es46 (c_Vil_init es46) (Nat.le_of_ble_eq_true rfl) (Nat.le_of_ble_eq_true rfl) (Nat.le_of_ble_eq_true rfl) (Nat.le_of_ble_eq_true rfl) rfl rfl fun h50 => ?_
  refine r_pRF (i := 25) (ci := 11) (kf := 3) rfl (Nat.le_of_ble_eq_true rfl) wF_Joy_35 rfl rfl rfl ⟨_, (tyX11_ok 3 (Nat.le_of_ble_eq_true rfl)), Or.inl ⟨_, rfl⟩⟩ rfl rfl fun h53 => ?_
  refine r_aload_n (i := 26) rfl rfl rfl ?_
  refine r_newON (i := 27) (k2 := 33) (n2 := 5756) (ci := 7) rfl dfl_7 (Nat.le_of_ble_eq_true rfl) (Nat.le_of_ble_eq_true rfl) wC_Joy_32 wN_Vil wI_Vil rfl rfl fun q57 h57 es57 => ?_
  refine r_dup_r (i := 28) rfl rfl ?_
  refine r_NV0 (i := 29) (k2 := 29) (n2 := 5552) ok_Vil_init wM_Joy_34 es57 (c_Vil_init es57) (Nat.le_of_ble_eq_true rfl) (Nat.le_of_ble_eq_true rfl) (Nat.le_of_ble_eq_true rfl) (Nat.le_of_ble_eq_true rfl) rfl rfl fun h61 => ?_
  refine r_pRF (i := 30) (ci := 11) (kf := 4) rfl (Nat.le_of_ble_eq_true rfl) wF_Joy_39 rfl rfl rfl ⟨_, (tyX11_ok 4 (Nat.le_of_ble_eq_true rfl)), Or.inl ⟨_, rfl⟩⟩ rfl rfl fun h64 => ?_
  refine r_aload_n (i := 31) rfl rfl rfl ?_
  refine r_newON (i := 32) (k2 := 28) (n2 := 5547) (ci := 1) rfl dfl_1 (Nat.le_of_ble_eq_true rfl) (Nat.le_of_ble_eq_true rfl) wC_Joy_42 wN_Law wI_Law rfl rfl fun q68 h68 es68 => ?_
  refine r_dup_r (i := 33) rfl rfl ?_
  refine r_NV0 (i := 34) (k2 := 26) (n2 := 5267) ok_Law_init wM_Joy_44 es68 (c_Law_init es68) (Nat.le_of_ble_eq_true rfl) (Nat.le_of_ble_eq_true rfl) (Nat.le_of_ble_eq_true rfl) (Nat.le_of_ble_eq_true rfl) rfl rfl fun h72 => ?_
  refine r_pRF (i := 35) (ci := 11) (kf := 6) rfl (Nat.le_of_ble_eq_true rfl) wF_Joy_45 rfl rfl rfl ⟨_, (tyX11_ok 6 (Nat.le_of_ble_eq_true rfl)), Or.inl ⟨_, rfl⟩⟩ rfl rfl fun h75 => ?_
  refine r_aload_n (i := 36) rfl rfl rfl ?_
  refine r_iconst (i := 37) (4 : Int32) kc_iconst_4 rfl rfl ?_
  refine r_newQN (i := 38) (k2 := 25) (n2 := 5263) (N := 4) (by decide) (by decide) (Nat.le_of_ble_eq_true rfl) (Nat.le_of_ble_eq_true rfl) (Nat.le_of_ble_eq_true rfl) wC_Joy_42 rfl rfl fun q80 h80 => ?_
  refine r_pRF (i := 39) (ci := 11) (kf := 7) rfl (Nat.le_of_ble_eq_true rfl) wF_Joy_49 rfl rfl rfl ⟨_, (tyX11_ok 7 (Nat.le_of_ble_eq_true rfl)), Or.inr ⟨_, rfl⟩⟩ rfl rfl fun h83 => ?_
  refine r_aload_n (i := 40) rfl rfl rfl ?_
  refine r_iconst (i := 41) (-1 : Int32) kc_iconst_m1 rfl rfl ?_
  refine r_pI (i := 42) (ci := 11) (kf := 9) rfl (Nat.le_of_ble_eq_true rfl) wF_Joy_53 rfl (tyX11_ok 9 (Nat.le_of_ble_eq_true rfl)) rfl rfl fun h88 => ?_
  refine r_aload_n (i := 43) rfl rfl rfl ?_
  refine r_newON (i := 44) (k2 := 24) (n2 := 5257) (ci := 0) rfl dfl_0 (Nat.le_of_ble_eq_true rfl) (Nat.le_of_ble_eq_true rfl) wC_Joy_57 wN_Acts wI_Acts rfl rfl fun q92 h92 es92 => ?_
  refine r_dup_r (i := 45) rfl rfl ?_
  refine r_NV0 (i := 46) (k2 := 20) (n2 := 5097) ok_Acts_init wM_Joy_59 es92 (c_Acts_init es92) (Nat.le_of_ble_eq_true rfl) (Nat.le_of_ble_eq_true rfl) (Nat.le_of_ble_eq_true rfl) (Nat.le_of_ble_eq_true rfl) rfl rfl fun h96 => ?_
  refine r_pRF (i := 47) (ci := 11) (kf := 10) rfl (Nat.le_of_ble_eq_true rfl) wF_Joy_60 rfl rfl rfl ⟨_, (tyX11_ok 10 (Nat.le_of_ble_eq_true rfl)), Or.inl ⟨_, rfl⟩⟩ rfl rfl fun h99 => ?_
  refine r_aload_n (i := 48) rfl rfl rfl ?_
  refine r_newON (i := 49) (k2 := 19) (n2 := 5081) (ci := 9) rfl dfl_9 (Nat.le_of_ble_eq_true rfl) (Nat.le_of_ble_eq_true rfl) wC_Joy_64 wN_Walk wI_Walk rfl rfl fun q103 h103 es103 => ?_
  refine r_dup_r (i := 50) rfl rfl ?_
  refine r_NV0 (i := 51) (k2 := 9) (n2 := 378) ok_Walk_init wM_Joy_66 es103 (c_Walk_init es103) (Nat.le_of_ble_eq_true rfl) (Nat.le_of_ble_eq_true rfl) (Nat.le_of_ble_eq_true rfl) (Nat.le_of_ble_eq_true rfl) rfl rfl fun h107 => ?_
  refine r_pRF (i := 52) (ci := 11) (kf := 12) rfl (Nat.le_of_ble_eq_true rfl) wF_Joy_67 rfl rfl rfl ⟨_, (tyX11_ok 12 (Nat.le_of_ble_eq_true rfl)), Or.inl ⟨_, rfl⟩⟩ rfl rfl fun h110 => ?_
  refine r_aload_n (i := 53) rfl rfl rfl ?_
  refine r_newON (i := 54) (k2 := 8) (n2 := 373) (ci := 10) rfl dfl_10 (Nat.le_of_ble_eq_true rfl) (Nat.le_of_ble_eq_true rfl) wC_Joy_71 wN_Ways wI_Ways rfl rfl fun q114 h114 es114 => ?_
  refine r_dup_r (i := 55) rfl rfl ?_
  refine r_aload_n (i := 56) rfl rfl rfl ?_
  refine r_gR (i := 57) (ci := 11) (kf := 12) rfl (Nat.le_of_ble_eq_true rfl) wF_Joy_67 rfl rfl fun x119 => ?_
  refine r_NV1 (i := 58) (k2 := 7) (n2 := 369) ok_Ways_init wM_Joy_73 es114 (c_Ways_init es114) (Nat.le_of_ble_eq_true rfl) (Nat.le_of_ble_eq_true rfl) (Nat.le_of_ble_eq_true rfl) (Nat.le_of_ble_eq_true rfl) rfl rfl fun h122 => ?_
  refine r_pRF (i := 59) (ci := 11) (kf := 13) rfl (Nat.le_of_ble_eq_true rfl) wF_Joy_76 rfl rfl rfl ⟨_, (tyX11_ok 13 (Nat.le_of_ble_eq_true rfl)), Or.inl ⟨_, rfl⟩⟩ rfl rfl fun h125 => ?_
  refine r_aload_n (i := 60) rfl rfl rfl ?_
  refine r_newON (i := 61) (k2 := 6) (n2 := 366) (ci := 5) rfl dfl_5 (Nat.le_of_ble_eq_true rfl) (Nat.le_of_ble_eq_true rfl) wC_Joy_80 wN_Spread wI_Spread rfl rfl fun q129 h129 es129 => ?_
  refine r_dup_r (i := 62) rfl rfl ?_
  refine r_aload_n (i := 63) rfl rfl rfl ?_
  refine r_gR (i := 64) (ci := 11) (kf := 12) rfl (Nat.le_of_ble_eq_true rfl) wF_Joy_67 rfl rfl fun x134 => ?_
  refine r_NV1 (i := 65) (k2 := 4) (n2 := 54) ok_Spread_init wM_Joy_82 es129 (c_Spread_init es129) (Nat.le_of_ble_eq_true rfl) (Nat.le_of_ble_eq_true rfl) (Nat.le_of_ble_eq_true rfl) (Nat.le_of_ble_eq_true rfl) rfl rfl fun h137 => ?_
  refine r_pRF (i := 66) (ci := 11) (kf := 14) rfl (Nat.le_of_ble_eq_true rfl) wF_Joy_83 rfl rfl rfl ⟨_, (tyX11_ok 14 (Nat.le_of_ble_eq_true rfl)), Or.inl ⟨_, rfl⟩⟩ rfl rfl fun h140 => ?_
  refine r_aload_n (i := 67) rfl rfl rfl ?_
  refine r_newON (i := 68) (k2 := 3) (n2 := 45) (ci := 4) rfl dfl_4 (Nat.le_of_ble_eq_true rfl) (Nat.le_of_ble_eq_true rfl) wC_Joy_87 wN_Seen wI_Seen rfl rfl fun q144 h144 es144 => ?_
  refine r_dup_r (i := 69) rfl rfl ?_
  refine r_aload_n (i := 70) rfl rfl rfl ?_
  refine r_gR (i := 71) (ci := 11) (kf := 12) rfl (Nat.le_of_ble_eq_true rfl) wF_Joy_67 rfl rfl fun x149 => ?_
  refine r_NV1 (i := 72) (k2 := 0) (n2 := 0) ok_Seen_init wM_Joy_89 es144 (c_Seen_init es144) (Nat.le_of_ble_eq_true rfl) (Nat.le_of_ble_eq_true rfl) (Nat.le_of_ble_eq_true rfl) (Nat.le_of_ble_eq_true rfl) rfl rfl fun h152 => ?_
  refine r_pRF (i := 73) (ci := 11) (kf := 15) rfl (Nat.le_of_ble_eq_true rfl) wF_Joy_90 rfl rfl rfl ⟨_, (tyX11_ok 15 (Nat.le_of_ble_eq_true rfl)), Or.inl ⟨_, rfl⟩⟩ rfl rfl fun h155 => ?_
  exact r_retV (i := 74) rfl rfl rfl rfl
-- Joy_feed
def s_Joy_feed (F : Nat) (h : fw_H) (v0 : Option Nat) (v1 : Int32) (v2 : Int32) (v3 : Int32) (v4 : Int32) (v5 : Int32) : Option (Int32 × fw_H) :=
(f_ck h v0 11).bind fun _ =>
(s_Tape_signsOf F v1).bind fun x1 =>
(s_Tape_signsOf F v2).bind fun x5 =>
(s_Tape_signsOf F v3).bind fun x10 =>
(s_Tape_signsOf F v4).bind fun x16 =>
(s_Tape_signsOf F v5).bind fun x22 =>
(f_gR h v0 11 0).bind fun x29 =>
(s_Tape_size h x29).bind fun x32 =>
if (x32 + ((((x1 + x5) + x10) + x16) + x22)) ≤ (240 : Int32) then ((f_gR h v0 11 0).bind fun x47 =>
(s_Tape_add F h x47 v1).bind fun h51 =>
(f_gR h51 v0 11 0).bind fun x55 =>
(s_Tape_add F h51 x55 v2).bind fun h59 =>
(f_gR h59 v0 11 0).bind fun x63 =>
(s_Tape_add F h59 x63 v3).bind fun h67 =>
(f_gR h67 v0 11 0).bind fun x71 =>
(s_Tape_add F h67 x71 v4).bind fun h76 =>
(f_gR h76 v0 11 0).bind fun x80 =>
(s_Tape_add F h76 x80 v5).bind fun h85 =>
(f_gR h85 v0 11 0).bind fun x89 =>
(s_Tape_size h85 x89).bind fun x92 =>
some (x92, h85)) else
some ((-1 : Int32), h)
theorem c_Joy_feed {G : fw_G} (F : Nat) {h : fw_H} {v0 : Option Nat} {v1 : Int32} {v2 : Int32} {v3 : Int32} {v4 : Int32} {v5 : Int32} : fw_Call G m_Joy_feed fw_wI 2 0 0 [fw_r v0, fw_i v1, fw_i v2, fw_i v3, fw_i v4, fw_i v5] h (s_Joy_feed F h v0 v1 v2 v3 v4 v5) := by
  refine fw_Call.of ok_Joy_feed.1 (Nat.le_of_ble_eq_true rfl) [(0, some (fw_r v0)), (1, some (fw_i v1)), (2, some (fw_i v2)), (3, some (fw_i v3)), (4, some (fw_i v4)), (5, some (fw_i v5))] rfl ?_
  refine r_ck ?_
  refine r_iload_n (i := 0) rfl rfl rfl ?_
  refine r_SI1 (i := 1) (k2 := 0) (n2 := 0) ok_Tape_signsOf wM_Joy_94 (c_Tape_signsOf F) (Nat.le_of_ble_eq_true rfl) (Nat.le_of_ble_eq_true rfl) (Nat.le_of_ble_eq_true rfl) (Nat.le_of_ble_eq_true rfl) rfl rfl fun x1 => ?_
  refine r_iload_n (i := 2) rfl rfl rfl ?_
  refine r_SI1 (i := 3) (k2 := 0) (n2 := 0) ok_Tape_signsOf wM_Joy_94 (c_Tape_signsOf F) (Nat.le_of_ble_eq_true rfl) (Nat.le_of_ble_eq_true rfl) (Nat.le_of_ble_eq_true rfl) (Nat.le_of_ble_eq_true rfl) rfl rfl fun x5 => ?_
  refine r_iadd (i := 4) rfl rfl ?_
  refine r_iload_n (i := 5) rfl rfl rfl ?_
  refine r_SI1 (i := 6) (k2 := 0) (n2 := 0) ok_Tape_signsOf wM_Joy_94 (c_Tape_signsOf F) (Nat.le_of_ble_eq_true rfl) (Nat.le_of_ble_eq_true rfl) (Nat.le_of_ble_eq_true rfl) (Nat.le_of_ble_eq_true rfl) rfl rfl fun x10 => ?_
  refine r_iadd (i := 7) rfl rfl ?_
  refine r_iload (i := 8) rfl rfl rfl ?_
  refine r_SI1 (i := 9) (k2 := 0) (n2 := 0) ok_Tape_signsOf wM_Joy_94 (c_Tape_signsOf F) (Nat.le_of_ble_eq_true rfl) (Nat.le_of_ble_eq_true rfl) (Nat.le_of_ble_eq_true rfl) (Nat.le_of_ble_eq_true rfl) rfl rfl fun x16 => ?_
  refine r_iadd (i := 10) rfl rfl ?_
  refine r_iload (i := 11) rfl rfl rfl ?_
  refine r_SI1 (i := 12) (k2 := 0) (n2 := 0) ok_Tape_signsOf wM_Joy_94 (c_Tape_signsOf F) (Nat.le_of_ble_eq_true rfl) (Nat.le_of_ble_eq_true rfl) (Nat.le_of_ble_eq_true rfl) (Nat.le_of_ble_eq_true rfl) rfl rfl fun x22 => ?_
  refine r_iadd (i := 13) rfl rfl ?_
  refine r_istore (i := 14) rfl rfl (Nat.le_of_ble_eq_true rfl) rfl ?_
  refine r_aload_n (i := 15) rfl rfl rfl ?_
  refine r_gR (i := 16) (ci := 11) (kf := 0) rfl (Nat.le_of_ble_eq_true rfl) wF_Joy_10 rfl rfl fun x29 => ?_
  refine r_VI0 (i := 17) (k2 := 0) (n2 := 0) ok_Tape_size wM_Joy_98 (c_Tape_size) (fun _ e => fw_ckb e) (Nat.le_of_ble_eq_true rfl) (Nat.le_of_ble_eq_true rfl) (Nat.le_of_ble_eq_true rfl) (Nat.le_of_ble_eq_true rfl) rfl rfl fun x32 => ?_
  refine r_iload (i := 18) rfl rfl rfl ?_
  refine r_iadd (i := 19) rfl rfl ?_
  refine r_sipush (i := 20) (240 : Int32) kc_sipush_240 rfl rfl ?_
  refine r_icmp_le (i := 21) (tgt := 46) rfl rfl rfl ?_ ?_
  · refine r_aload_n (i := 24) rfl rfl rfl ?_
    refine r_gR (i := 25) (ci := 11) (kf := 0) rfl (Nat.le_of_ble_eq_true rfl) wF_Joy_10 rfl rfl fun x47 => ?_
    refine r_iload_n (i := 26) rfl rfl rfl ?_
    refine r_VV1 (i := 27) (k2 := 0) (n2 := 0) ok_Tape_add wM_Joy_102 (c_Tape_add F) (fun _ e => fw_ckb e) (Nat.le_of_ble_eq_true rfl) (Nat.le_of_ble_eq_true rfl) (Nat.le_of_ble_eq_true rfl) (Nat.le_of_ble_eq_true rfl) rfl rfl fun h51 => ?_
    refine r_aload_n (i := 28) rfl rfl rfl ?_
    refine r_gR (i := 29) (ci := 11) (kf := 0) rfl (Nat.le_of_ble_eq_true rfl) wF_Joy_10 rfl rfl fun x55 => ?_
    refine r_iload_n (i := 30) rfl rfl rfl ?_
    refine r_VV1 (i := 31) (k2 := 0) (n2 := 0) ok_Tape_add wM_Joy_102 (c_Tape_add F) (fun _ e => fw_ckb e) (Nat.le_of_ble_eq_true rfl) (Nat.le_of_ble_eq_true rfl) (Nat.le_of_ble_eq_true rfl) (Nat.le_of_ble_eq_true rfl) rfl rfl fun h59 => ?_
    refine r_aload_n (i := 32) rfl rfl rfl ?_
    refine r_gR (i := 33) (ci := 11) (kf := 0) rfl (Nat.le_of_ble_eq_true rfl) wF_Joy_10 rfl rfl fun x63 => ?_
    refine r_iload_n (i := 34) rfl rfl rfl ?_
    refine r_VV1 (i := 35) (k2 := 0) (n2 := 0) ok_Tape_add wM_Joy_102 (c_Tape_add F) (fun _ e => fw_ckb e) (Nat.le_of_ble_eq_true rfl) (Nat.le_of_ble_eq_true rfl) (Nat.le_of_ble_eq_true rfl) (Nat.le_of_ble_eq_true rfl) rfl rfl fun h67 => ?_
    refine r_aload_n (i := 36) rfl rfl rfl ?_
    refine r_gR (i := 37) (ci := 11) (kf := 0) rfl (Nat.le_of_ble_eq_true rfl) wF_Joy_10 rfl rfl fun x71 => ?_
    refine r_iload (i := 38) rfl rfl rfl ?_
    refine r_VV1 (i := 39) (k2 := 0) (n2 := 0) ok_Tape_add wM_Joy_102 (c_Tape_add F) (fun _ e => fw_ckb e) (Nat.le_of_ble_eq_true rfl) (Nat.le_of_ble_eq_true rfl) (Nat.le_of_ble_eq_true rfl) (Nat.le_of_ble_eq_true rfl) rfl rfl fun h76 => ?_
    refine r_aload_n (i := 40) rfl rfl rfl ?_
    refine r_gR (i := 41) (ci := 11) (kf := 0) rfl (Nat.le_of_ble_eq_true rfl) wF_Joy_10 rfl rfl fun x80 => ?_
    refine r_iload (i := 42) rfl rfl rfl ?_
    refine r_VV1 (i := 43) (k2 := 0) (n2 := 0) ok_Tape_add wM_Joy_102 (c_Tape_add F) (fun _ e => fw_ckb e) (Nat.le_of_ble_eq_true rfl) (Nat.le_of_ble_eq_true rfl) (Nat.le_of_ble_eq_true rfl) (Nat.le_of_ble_eq_true rfl) rfl rfl fun h85 => ?_
    refine r_aload_n (i := 44) rfl rfl rfl ?_
    refine r_gR (i := 45) (ci := 11) (kf := 0) rfl (Nat.le_of_ble_eq_true rfl) wF_Joy_10 rfl rfl fun x89 => ?_
    refine r_VI0 (i := 46) (k2 := 0) (n2 := 0) ok_Tape_size wM_Joy_98 (c_Tape_size) (fun _ e => fw_ckb e) (Nat.le_of_ble_eq_true rfl) (Nat.le_of_ble_eq_true rfl) (Nat.le_of_ble_eq_true rfl) (Nat.le_of_ble_eq_true rfl) rfl rfl fun x92 => ?_
    exact r_retI (i := 47) rfl rfl rfl rfl
  · refine r_iconst (i := 22) (-1 : Int32) kc_iconst_m1 rfl rfl ?_
    exact r_retI (i := 23) rfl rfl rfl rfl
-- Joy_end
def s_Joy_end (h : fw_H) (v0 : Option Nat) (v1 : Int32) : Option (Bool × fw_H) :=
(f_ck h v0 11).bind fun _ =>
(f_gR h v0 11 0).bind fun x1 =>
(s_Tape_cut h x1 v1).bind fun x5 =>
some (x5.1, x5.2)
theorem c_Joy_end {G : fw_G} {h : fw_H} {v0 : Option Nat} {v1 : Int32} : fw_Call G m_Joy_end fw_wB 1 0 0 [fw_r v0, fw_i v1] h (s_Joy_end h v0 v1) := by
  refine fw_Call.of ok_Joy_end.1 (Nat.le_of_ble_eq_true rfl) [(0, some (fw_r v0)), (1, some (fw_i v1))] rfl ?_
  refine r_ck ?_
  refine r_aload_n (i := 0) rfl rfl rfl ?_
  refine r_gR (i := 1) (ci := 11) (kf := 0) rfl (Nat.le_of_ble_eq_true rfl) wF_Joy_10 rfl rfl fun x1 => ?_
  refine r_iload_n (i := 2) rfl rfl rfl ?_
  refine r_VwB1 (i := 3) (k2 := 0) (n2 := 0) ok_Tape_cut wM_Joy_106 (c_Tape_cut) (fun _ e => fw_ckb e) (Nat.le_of_ble_eq_true rfl) (Nat.le_of_ble_eq_true rfl) (Nat.le_of_ble_eq_true rfl) (Nat.le_of_ble_eq_true rfl) rfl rfl fun x5 => ?_
  exact r_retB (i := 4) rfl rfl rfl rfl
-- Joy_fault
def s_Joy_fault (F : Nat) (h : fw_H) (v0 : Option Nat) (v1 : Int32) : Option (Int32 × fw_H) :=
(f_ck h v0 11).bind fun _ =>
if v1 = (0 : Int32) then ((f_gR h v0 11 1).bind fun x29 =>
(s_VText_read F h x29).bind fun x32 =>
some (x32.1, x32.2)) else
if v1 = (1 : Int32) then ((f_gR h v0 11 2).bind fun x37 =>
(s_LText_read F h x37).bind fun x40 =>
some (x40.1, x40.2)) else
some ((-2 : Int32), h)
theorem c_Joy_fault {G : fw_G} (F : Nat) {h : fw_H} {v0 : Option Nat} {v1 : Int32} : fw_Call G m_Joy_fault fw_wI 169 0 0 [fw_r v0, fw_i v1] h (s_Joy_fault F h v0 v1) := by
  refine fw_Call.of ok_Joy_fault.1 (Nat.le_of_ble_eq_true rfl) [(0, some (fw_r v0)), (1, some (fw_i v1))] rfl ?_
  refine r_ck ?_
  refine r_iload_n (i := 0) rfl rfl rfl ?_
  refine r_split (fun e1_0 => ?_) (fun n1_0 => ?_)
  · refine r_lookK (i := 1) (tgt := 28) (len := 27) (v := (0 : Int32)) (off := 27) e1_0 rfl rfl (by decide) (by decide) rfl ?_
    refine r_aload_n (i := 2) rfl rfl rfl ?_
    refine r_gR (i := 3) (ci := 11) (kf := 1) rfl (Nat.le_of_ble_eq_true rfl) wF_Joy_21 rfl rfl fun x29 => ?_
    refine r_VwI0 (i := 4) (k2 := 0) (n2 := 0) ok_VText_read wM_Joy_110 (c_VText_read F) (fun _ e => fw_ckb e) (Nat.le_of_ble_eq_true rfl) (Nat.le_of_ble_eq_true rfl) (Nat.le_of_ble_eq_true rfl) (Nat.le_of_ble_eq_true rfl) rfl rfl fun x32 => ?_
    exact r_retI (i := 5) rfl rfl rfl rfl
  · refine r_split (fun e1_1 => ?_) (fun n1_1 => ?_)
    · refine r_lookK (i := 1) (tgt := 36) (len := 27) (v := (1 : Int32)) (off := 35) e1_1 rfl rfl (by decide) (by decide) rfl ?_
      refine r_aload_n (i := 6) rfl rfl rfl ?_
      refine r_gR (i := 7) (ci := 11) (kf := 2) rfl (Nat.le_of_ble_eq_true rfl) wF_Joy_28 rfl rfl fun x37 => ?_
      refine r_VwI0 (i := 8) (k2 := 0) (n2 := 0) ok_LText_read wM_Joy_113 (c_LText_read F) (fun _ e => fw_ckb e) (Nat.le_of_ble_eq_true rfl) (Nat.le_of_ble_eq_true rfl) (Nat.le_of_ble_eq_true rfl) (Nat.le_of_ble_eq_true rfl) rfl rfl fun x40 => ?_
      exact r_retI (i := 9) rfl rfl rfl rfl
    · refine r_look (i := 1) (tgt := 44) (len := 27) rfl rfl (by decide) (fw_lookD2 (fw_ni n1_0 (by decide)) (fw_ni n1_1 (by decide))) rfl ?_
      refine r_bipush (i := 10) (-2 : Int32) kc_bipush_m2 rfl rfl ?_
      exact r_retI (i := 11) rfl rfl rfl rfl
-- Joy_settle
def s_Joy_settle (F : Nat) (h : fw_H) (v0 : Option Nat) : Option (Int32 × fw_H) :=
(f_ck h v0 11).bind fun _ =>
(f_gR h v0 11 3).bind fun x1 =>
(f_gR h v0 11 1).bind fun x5 =>
(f_gR h x5 8 1).bind fun x8 =>
(s_Vil_take F h x1 x8).bind fun h11 =>
(f_gR h11 v0 11 10).bind fun x15 =>
(s_Acts_clear h11 x15).bind fun h18 =>
(f_gR h18 v0 11 15).bind fun x22 =>
(s_Seen_clear h18 x22).bind fun h25 =>
(f_pB h25 v0 11 5 false).bind fun h30 =>
(f_gR h30 v0 11 0).bind fun x34 =>
(s_Tape_cut h30 x34 (0 : Int32)).bind fun x38 =>
(f_gR x38.2 v0 11 3).bind fun x43 =>
(f_gI x38.2 x43 7 0).bind fun x46 =>
some (x46, x38.2)
theorem c_Joy_settle {G : fw_G} (F : Nat) {h : fw_H} {v0 : Option Nat} : fw_Call G m_Joy_settle fw_wI 2 0 0 [fw_r v0] h (s_Joy_settle F h v0) := by
  refine fw_Call.of ok_Joy_settle.1 (Nat.le_of_ble_eq_true rfl) [(0, some (fw_r v0))] rfl ?_
  refine r_ck ?_
  refine r_aload_n (i := 0) rfl rfl rfl ?_
  refine r_gR (i := 1) (ci := 11) (kf := 3) rfl (Nat.le_of_ble_eq_true rfl) wF_Joy_35 rfl rfl fun x1 => ?_
  refine r_aload_n (i := 2) rfl rfl rfl ?_
  refine r_gR (i := 3) (ci := 11) (kf := 1) rfl (Nat.le_of_ble_eq_true rfl) wF_Joy_21 rfl rfl fun x5 => ?_
  refine r_gR (i := 4) (ci := 8) (kf := 1) rfl (Nat.le_of_ble_eq_true rfl) wF_Joy_123 rfl rfl fun x8 => ?_
  refine r_VV1 (i := 5) (k2 := 0) (n2 := 0) ok_Vil_take wM_Joy_126 (c_Vil_take F) (fun _ e => fw_ckb e) (Nat.le_of_ble_eq_true rfl) (Nat.le_of_ble_eq_true rfl) (Nat.le_of_ble_eq_true rfl) (Nat.le_of_ble_eq_true rfl) rfl rfl fun h11 => ?_
  refine r_aload_n (i := 6) rfl rfl rfl ?_
  refine r_gR (i := 7) (ci := 11) (kf := 10) rfl (Nat.le_of_ble_eq_true rfl) wF_Joy_60 rfl rfl fun x15 => ?_
  refine r_VV0 (i := 8) (k2 := 0) (n2 := 0) ok_Acts_clear wM_Joy_130 (c_Acts_clear) (fun _ e => fw_ckb e) (Nat.le_of_ble_eq_true rfl) (Nat.le_of_ble_eq_true rfl) (Nat.le_of_ble_eq_true rfl) (Nat.le_of_ble_eq_true rfl) rfl rfl fun h18 => ?_
  refine r_aload_n (i := 9) rfl rfl rfl ?_
  refine r_gR (i := 10) (ci := 11) (kf := 15) rfl (Nat.le_of_ble_eq_true rfl) wF_Joy_90 rfl rfl fun x22 => ?_
  refine r_VV0 (i := 11) (k2 := 0) (n2 := 0) ok_Seen_clear wM_Joy_133 (c_Seen_clear) (fun _ e => fw_ckb e) (Nat.le_of_ble_eq_true rfl) (Nat.le_of_ble_eq_true rfl) (Nat.le_of_ble_eq_true rfl) (Nat.le_of_ble_eq_true rfl) rfl rfl fun h25 => ?_
  refine r_aload_n (i := 12) rfl rfl rfl ?_
  refine r_iconst (i := 13) (0 : Int32) kc_iconst_0 rfl rfl ?_
  refine r_pB (y := false) (i := 14) (ci := 11) (kf := 5) rfl (Nat.le_of_ble_eq_true rfl) wF_Joy_134 rfl (tyX11_ok 5 (Nat.le_of_ble_eq_true rfl)) rfl rfl fun h30 => ?_
  refine r_aload_n (i := 15) rfl rfl rfl ?_
  refine r_gR (i := 16) (ci := 11) (kf := 0) rfl (Nat.le_of_ble_eq_true rfl) wF_Joy_10 rfl rfl fun x34 => ?_
  refine r_iconst (i := 17) (0 : Int32) kc_iconst_0 rfl rfl ?_
  refine r_VwB1 (i := 18) (k2 := 0) (n2 := 0) ok_Tape_cut wM_Joy_106 (c_Tape_cut) (fun _ e => fw_ckb e) (Nat.le_of_ble_eq_true rfl) (Nat.le_of_ble_eq_true rfl) (Nat.le_of_ble_eq_true rfl) (Nat.le_of_ble_eq_true rfl) rfl rfl fun x38 => ?_
  refine r_pop (i := 19) rfl rfl ?_
  refine r_aload_n (i := 20) rfl rfl rfl ?_
  refine r_gR (i := 21) (ci := 11) (kf := 3) rfl (Nat.le_of_ble_eq_true rfl) wF_Joy_35 rfl rfl fun x43 => ?_
  refine r_gI (i := 22) (ci := 7) (kf := 0) rfl (Nat.le_of_ble_eq_true rfl) wF_Joy_138 rfl rfl fun x46 => ?_
  exact r_retI (i := 23) rfl rfl rfl rfl
-- Joy_enact
def s_Joy_enact (F : Nat) (h : fw_H) (v0 : Option Nat) : Option (Int32 × fw_H) :=
(f_ck h v0 11).bind fun _ =>
(f_gI h v0 11 8).bind fun x1 =>
if x1 < (0 : Int32) then (some ((-1 : Int32), h)) else
(f_gR h v0 11 7).bind fun x11 =>
(f_lnQ h x11).bind fun x14 =>
if x1 < x14 then (fw_new h (fw_O 1 [fw_r none, fw_r none, fw_i 0, fw_i 0, fw_i 0]) fun q20 h20 =>
(s_Law_init h20 q20).bind fun h24 =>
(f_gR h24 v0 11 2).bind fun x30 =>
(f_gR h24 x30 2 1).bind fun x33 =>
(s_Law_take F h24 q20 x33).bind fun h36 =>
(f_gR h36 v0 11 7).bind fun x40 =>
(f_sQ h36 x40 x1 q20).bind fun h45 =>
(f_gI h45 v0 11 8).bind fun x48 =>
(f_pI h45 v0 11 8 (x48 + (1 : Int32))).bind fun h53 =>
(f_gR h53 v0 11 0).bind fun x57 =>
(s_Tape_cut h53 x57 (0 : Int32)).bind fun x61 =>
some (x1, x61.2)) else
some ((-1 : Int32), h)
theorem c_Joy_enact {G : fw_G} (F : Nat) {h : fw_H} {v0 : Option Nat} : fw_Call G m_Joy_enact fw_wI 2 3 285 [fw_r v0] h (s_Joy_enact F h v0) := by
  refine fw_Call.of ok_Joy_enact.1 (Nat.le_of_ble_eq_true rfl) [(0, some (fw_r v0))] rfl ?_
  refine r_ck ?_
  refine r_aload_n (i := 0) rfl rfl rfl ?_
  refine r_gI (i := 1) (ci := 11) (kf := 8) rfl (Nat.le_of_ble_eq_true rfl) wF_Joy_117 rfl rfl fun x1 => ?_
  refine r_istore_n (i := 2) rfl rfl (Nat.le_of_ble_eq_true rfl) rfl ?_
  refine r_iload_n (i := 3) rfl rfl rfl ?_
  refine r_if_lt (i := 4) (tgt := 18) rfl rfl rfl ?_ ?_
  · refine r_iconst (i := 10) (-1 : Int32) kc_iconst_m1 rfl rfl ?_
    exact r_retI (i := 11) rfl rfl rfl rfl
  · refine r_iload_n (i := 5) rfl rfl rfl ?_
    refine r_aload_n (i := 6) rfl rfl rfl ?_
    refine r_gR (i := 7) (ci := 11) (kf := 7) rfl (Nat.le_of_ble_eq_true rfl) wF_Joy_49 rfl rfl fun x11 => ?_
    refine r_lnQ (i := 8) rfl rfl fun x14 => ?_
    refine r_icmp_lt (i := 9) (tgt := 20) rfl rfl rfl ?_ ?_
    · refine r_newON (i := 12) (k2 := 2) (n2 := 280) (ci := 1) rfl dfl_1 (Nat.le_of_ble_eq_true rfl) (Nat.le_of_ble_eq_true rfl) wC_Joy_42 wN_Law wI_Law rfl rfl fun q20 h20 es20 => ?_
      refine r_dup_r (i := 13) rfl rfl ?_
      refine r_NV0 (i := 14) (k2 := 0) (n2 := 0) ok_Law_init wM_Joy_44 es20 (c_Law_init es20) (Nat.le_of_ble_eq_true rfl) (Nat.le_of_ble_eq_true rfl) (Nat.le_of_ble_eq_true rfl) (Nat.le_of_ble_eq_true rfl) rfl rfl fun h24 => ?_
      refine r_astore_n (i := 15) rfl rfl (Nat.le_of_ble_eq_true rfl) rfl ?_
      refine r_aload_n (i := 16) rfl rfl rfl ?_
      refine r_aload_n (i := 17) rfl rfl rfl ?_
      refine r_gR (i := 18) (ci := 11) (kf := 2) rfl (Nat.le_of_ble_eq_true rfl) wF_Joy_28 rfl rfl fun x30 => ?_
      refine r_gR (i := 19) (ci := 2) (kf := 1) rfl (Nat.le_of_ble_eq_true rfl) wF_Joy_141 rfl rfl fun x33 => ?_
      refine r_VV1 (i := 20) (k2 := 0) (n2 := 0) ok_Law_take wM_Joy_143 (c_Law_take F) (fun _ e => fw_ckb e) (Nat.le_of_ble_eq_true rfl) (Nat.le_of_ble_eq_true rfl) (Nat.le_of_ble_eq_true rfl) (Nat.le_of_ble_eq_true rfl) rfl rfl fun h36 => ?_
      refine r_aload_n (i := 21) rfl rfl rfl ?_
      refine r_gR (i := 22) (ci := 11) (kf := 7) rfl (Nat.le_of_ble_eq_true rfl) wF_Joy_49 rfl rfl fun x40 => ?_
      refine r_iload_n (i := 23) rfl rfl rfl ?_
      refine r_aload_n (i := 24) rfl rfl rfl ?_
      refine r_sQ (i := 25) rfl rfl fun h45 => ?_
      refine r_aload_n (i := 26) rfl rfl rfl ?_
      refine r_dup_r (i := 27) rfl rfl ?_
      refine r_gI (i := 28) (ci := 11) (kf := 8) rfl (Nat.le_of_ble_eq_true rfl) wF_Joy_117 rfl rfl fun x48 => ?_
      refine r_iconst (i := 29) (1 : Int32) kc_iconst_1 rfl rfl ?_
      refine r_iadd (i := 30) rfl rfl ?_
      refine r_pI (i := 31) (ci := 11) (kf := 8) rfl (Nat.le_of_ble_eq_true rfl) wF_Joy_117 rfl (tyX11_ok 8 (Nat.le_of_ble_eq_true rfl)) rfl rfl fun h53 => ?_
      refine r_aload_n (i := 32) rfl rfl rfl ?_
      refine r_gR (i := 33) (ci := 11) (kf := 0) rfl (Nat.le_of_ble_eq_true rfl) wF_Joy_10 rfl rfl fun x57 => ?_
      refine r_iconst (i := 34) (0 : Int32) kc_iconst_0 rfl rfl ?_
      refine r_VwB1 (i := 35) (k2 := 0) (n2 := 0) ok_Tape_cut wM_Joy_106 (c_Tape_cut) (fun _ e => fw_ckb e) (Nat.le_of_ble_eq_true rfl) (Nat.le_of_ble_eq_true rfl) (Nat.le_of_ble_eq_true rfl) (Nat.le_of_ble_eq_true rfl) rfl rfl fun x61 => ?_
      refine r_pop (i := 36) rfl rfl ?_
      refine r_iload_n (i := 37) rfl rfl rfl ?_
      exact r_retI (i := 38) rfl rfl rfl rfl
    · refine r_iconst (i := 10) (-1 : Int32) kc_iconst_m1 rfl rfl ?_
      exact r_retI (i := 11) rfl rfl rfl rfl
-- Joy_text
def s_Joy_text (F : Nat) (h : fw_H) (v0 : Option Nat) (v1 : Int32) : Option (Int32 × fw_H) :=
(f_ck h v0 11).bind fun _ =>
if ¬ v1 = (0 : Int32) then (if ¬ v1 = (1 : Int32) then (some ((-1 : Int32), h)) else
(f_gI h v0 11 8).bind fun x26 =>
if (4 : Int32) ≤ x26 then (some ((-1 : Int32), h)) else
(f_gR h v0 11 2).bind fun x34 =>
(s_LText_read F h x34).bind fun x37 =>
if ¬ x37.1 = (-1 : Int32) then (some ((-1 : Int32), x37.2)) else
(s_Joy_enact F x37.2 v0).bind fun x45 =>
some (x45.1, x45.2)) else
(f_gR h v0 11 1).bind fun x5 =>
(s_VText_read F h x5).bind fun x8 =>
if ¬ x8.1 = (-1 : Int32) then (if ¬ v1 = (1 : Int32) then (some ((-1 : Int32), x8.2)) else
(f_gI x8.2 v0 11 8).bind fun x26 =>
if (4 : Int32) ≤ x26 then (some ((-1 : Int32), x8.2)) else
(f_gR x8.2 v0 11 2).bind fun x34 =>
(s_LText_read F x8.2 x34).bind fun x37 =>
if ¬ x37.1 = (-1 : Int32) then (some ((-1 : Int32), x37.2)) else
(s_Joy_enact F x37.2 v0).bind fun x45 =>
some (x45.1, x45.2)) else
(s_Joy_settle F x8.2 v0).bind fun x16 =>
some (x16.1, x16.2)
theorem c_Joy_text {G : fw_G} (F : Nat) {h : fw_H} {v0 : Option Nat} {v1 : Int32} : fw_Call G m_Joy_text fw_wI 169 3 285 [fw_r v0, fw_i v1] h (s_Joy_text F h v0 v1) := by
  refine fw_Call.of ok_Joy_text.1 (Nat.le_of_ble_eq_true rfl) [(0, some (fw_r v0)), (1, some (fw_i v1))] rfl ?_
  refine r_ck ?_
  refine r_iload_n (i := 0) rfl rfl rfl ?_
  refine r_if_ne (i := 1) (tgt := 20) rfl rfl rfl ?_ ?_
  · refine r_iload_n (i := 10) rfl rfl rfl ?_
    refine r_iconst (i := 11) (1 : Int32) kc_iconst_1 rfl rfl ?_
    refine r_icmp_ne (i := 12) (tgt := 49) rfl rfl rfl ?_ ?_
    · refine r_iconst (i := 25) (-1 : Int32) kc_iconst_m1 rfl rfl ?_
      exact r_retI (i := 26) rfl rfl rfl rfl
    · refine r_aload_n (i := 13) rfl rfl rfl ?_
      refine r_gI (i := 14) (ci := 11) (kf := 8) rfl (Nat.le_of_ble_eq_true rfl) wF_Joy_117 rfl rfl fun x26 => ?_
      refine r_iconst (i := 15) (4 : Int32) kc_iconst_4 rfl rfl ?_
      refine r_icmp_ge (i := 16) (tgt := 49) rfl rfl rfl ?_ ?_
      · refine r_iconst (i := 25) (-1 : Int32) kc_iconst_m1 rfl rfl ?_
        exact r_retI (i := 26) rfl rfl rfl rfl
      · refine r_aload_n (i := 17) rfl rfl rfl ?_
        refine r_gR (i := 18) (ci := 11) (kf := 2) rfl (Nat.le_of_ble_eq_true rfl) wF_Joy_28 rfl rfl fun x34 => ?_
        refine r_VwI0 (i := 19) (k2 := 3) (n2 := 285) ok_LText_read wM_Joy_113 (c_LText_read F) (fun _ e => fw_ckb e) (Nat.le_of_ble_eq_true rfl) (Nat.le_of_ble_eq_true rfl) (Nat.le_of_ble_eq_true rfl) (Nat.le_of_ble_eq_true rfl) rfl rfl fun x37 => ?_
        refine r_iconst (i := 20) (-1 : Int32) kc_iconst_m1 rfl rfl ?_
        refine r_icmp_ne (i := 21) (tgt := 49) rfl rfl rfl ?_ ?_
        · refine r_iconst (i := 25) (-1 : Int32) kc_iconst_m1 rfl rfl ?_
          exact r_retI (i := 26) rfl rfl rfl rfl
        · refine r_aload_n (i := 22) rfl rfl rfl ?_
          refine r_VwI0 (i := 23) (k2 := 0) (n2 := 0) ok_Joy_enact wM_Joy_120 (c_Joy_enact F) (fun _ e => fw_ckb e) (Nat.le_of_ble_eq_true rfl) (Nat.le_of_ble_eq_true rfl) (Nat.le_of_ble_eq_true rfl) (Nat.le_of_ble_eq_true rfl) rfl rfl fun x45 => ?_
          exact r_retI (i := 24) rfl rfl rfl rfl
  · refine r_aload_n (i := 2) rfl rfl rfl ?_
    refine r_gR (i := 3) (ci := 11) (kf := 1) rfl (Nat.le_of_ble_eq_true rfl) wF_Joy_21 rfl rfl fun x5 => ?_
    refine r_VwI0 (i := 4) (k2 := 3) (n2 := 285) ok_VText_read wM_Joy_110 (c_VText_read F) (fun _ e => fw_ckb e) (Nat.le_of_ble_eq_true rfl) (Nat.le_of_ble_eq_true rfl) (Nat.le_of_ble_eq_true rfl) (Nat.le_of_ble_eq_true rfl) rfl rfl fun x8 => ?_
    refine r_iconst (i := 5) (-1 : Int32) kc_iconst_m1 rfl rfl ?_
    refine r_icmp_ne (i := 6) (tgt := 20) rfl rfl rfl ?_ ?_
    · refine r_iload_n (i := 10) rfl rfl rfl ?_
      refine r_iconst (i := 11) (1 : Int32) kc_iconst_1 rfl rfl ?_
      refine r_icmp_ne (i := 12) (tgt := 49) rfl rfl rfl ?_ ?_
      · refine r_iconst (i := 25) (-1 : Int32) kc_iconst_m1 rfl rfl ?_
        exact r_retI (i := 26) rfl rfl rfl rfl
      · refine r_aload_n (i := 13) rfl rfl rfl ?_
        refine r_gI (i := 14) (ci := 11) (kf := 8) rfl (Nat.le_of_ble_eq_true rfl) wF_Joy_117 rfl rfl fun x26 => ?_
        refine r_iconst (i := 15) (4 : Int32) kc_iconst_4 rfl rfl ?_
        refine r_icmp_ge (i := 16) (tgt := 49) rfl rfl rfl ?_ ?_
        · refine r_iconst (i := 25) (-1 : Int32) kc_iconst_m1 rfl rfl ?_
          exact r_retI (i := 26) rfl rfl rfl rfl
        · refine r_aload_n (i := 17) rfl rfl rfl ?_
          refine r_gR (i := 18) (ci := 11) (kf := 2) rfl (Nat.le_of_ble_eq_true rfl) wF_Joy_28 rfl rfl fun x34 => ?_
          refine r_VwI0 (i := 19) (k2 := 3) (n2 := 285) ok_LText_read wM_Joy_113 (c_LText_read F) (fun _ e => fw_ckb e) (Nat.le_of_ble_eq_true rfl) (Nat.le_of_ble_eq_true rfl) (Nat.le_of_ble_eq_true rfl) (Nat.le_of_ble_eq_true rfl) rfl rfl fun x37 => ?_
          refine r_iconst (i := 20) (-1 : Int32) kc_iconst_m1 rfl rfl ?_
          refine r_icmp_ne (i := 21) (tgt := 49) rfl rfl rfl ?_ ?_
          · refine r_iconst (i := 25) (-1 : Int32) kc_iconst_m1 rfl rfl ?_
            exact r_retI (i := 26) rfl rfl rfl rfl
          · refine r_aload_n (i := 22) rfl rfl rfl ?_
            refine r_VwI0 (i := 23) (k2 := 0) (n2 := 0) ok_Joy_enact wM_Joy_120 (c_Joy_enact F) (fun _ e => fw_ckb e) (Nat.le_of_ble_eq_true rfl) (Nat.le_of_ble_eq_true rfl) (Nat.le_of_ble_eq_true rfl) (Nat.le_of_ble_eq_true rfl) rfl rfl fun x45 => ?_
            exact r_retI (i := 24) rfl rfl rfl rfl
    · refine r_aload_n (i := 7) rfl rfl rfl ?_
      refine r_VwI0 (i := 8) (k2 := 3) (n2 := 285) ok_Joy_settle wM_Joy_114 (c_Joy_settle F) (fun _ e => fw_ckb e) (Nat.le_of_ble_eq_true rfl) (Nat.le_of_ble_eq_true rfl) (Nat.le_of_ble_eq_true rfl) (Nat.le_of_ble_eq_true rfl) rfl rfl fun x16 => ?_
      exact r_retI (i := 9) rfl rfl rfl rfl
-- Joy_bit
def s_Joy_bit (v0 : Bool) : Option Int32 :=
if v0 = true then (some (1 : Int32)) else
some (0 : Int32)
theorem c_Joy_bit {G : fw_G} {h : fw_H} {v0 : Bool} : fw_Call G m_Joy_bit (fw_eI h) 0 0 0 [fw_i (fw_b v0)] h (s_Joy_bit v0) := by
  refine fw_Call.of ok_Joy_bit.1 (Nat.le_of_ble_eq_true rfl) [(0, some (fw_i (fw_b v0)))] rfl ?_
  refine r_iload_n (i := 0) rfl rfl rfl ?_
  refine r_ifeqB (i := 1) (tgt := 8) rfl rfl rfl ?_ ?_
  · refine r_iconst (i := 4) (0 : Int32) kc_iconst_0 rfl rfl ?_
    exact r_retI (i := 5) rfl rfl rfl rfl
  · refine r_iconst (i := 2) (1 : Int32) kc_iconst_1 rfl rfl ?_
    refine r_goto (i := 3) (tgt := 9) rfl rfl rfl ?_
    exact r_retI (i := 5) rfl rfl rfl rfl
-- Joy_window
def s_Joy_window (h : fw_H) (v0 : Option Nat) (v1 : Int32) (v2 : Int32) : Option Int32 :=
(f_ck h v0 11).bind fun _ =>
(f_gR h v0 11 3).bind fun x1 =>
(s_Vil_hasWindow h x1 v1).bind fun x5 =>
if x5 = true then (if v2 < (0 : Int32) then (some (-1 : Int32)) else
if v2 ≤ (3 : Int32) then (if (2 : Int32) ≤ v2 then (if ¬ v2 = (2 : Int32) then ((f_gR h v0 11 3).bind fun x53 =>
(f_gI h x53 7 6).bind fun x56 =>
(s_Rows_has x56 v1).bind fun x60 =>
(s_Joy_bit x60).bind fun x63 =>
some x63) else
(f_gR h v0 11 3).bind fun x43 =>
(f_gI h x43 7 5).bind fun x46 =>
(s_Rows_has x46 v1).bind fun x60 =>
(s_Joy_bit x60).bind fun x63 =>
some x63) else
(f_gR h v0 11 3).bind fun x28 =>
(s_Vil_endOf h x28 v1 v2).bind fun x33 =>
some x33) else
some (-1 : Int32)) else
some (-1 : Int32)
theorem c_Joy_window {G : fw_G} {h : fw_H} {v0 : Option Nat} {v1 : Int32} {v2 : Int32} : fw_Call G m_Joy_window (fw_eI h) 2 0 0 [fw_r v0, fw_i v1, fw_i v2] h (s_Joy_window h v0 v1 v2) := by
  refine fw_Call.of ok_Joy_window.1 (Nat.le_of_ble_eq_true rfl) [(0, some (fw_r v0)), (1, some (fw_i v1)), (2, some (fw_i v2))] rfl ?_
  refine r_ck ?_
  refine r_aload_n (i := 0) rfl rfl rfl ?_
  refine r_gR (i := 1) (ci := 11) (kf := 3) rfl (Nat.le_of_ble_eq_true rfl) wF_Joy_35 rfl rfl fun x1 => ?_
  refine r_iload_n (i := 2) rfl rfl rfl ?_
  refine r_VB1 (i := 3) (k2 := 0) (n2 := 0) ok_Vil_hasWindow wM_Joy_177 (c_Vil_hasWindow) (fun _ e => fw_ckb e) (Nat.le_of_ble_eq_true rfl) (Nat.le_of_ble_eq_true rfl) (Nat.le_of_ble_eq_true rfl) (Nat.le_of_ble_eq_true rfl) rfl rfl fun x5 => ?_
  refine r_ifeqB (i := 4) (tgt := 20) rfl rfl rfl ?_ ?_
  · refine r_iconst (i := 10) (-1 : Int32) kc_iconst_m1 rfl rfl ?_
    exact r_retI (i := 11) rfl rfl rfl rfl
  · refine r_iload_n (i := 5) rfl rfl rfl ?_
    refine r_if_lt (i := 6) (tgt := 20) rfl rfl rfl ?_ ?_
    · refine r_iconst (i := 10) (-1 : Int32) kc_iconst_m1 rfl rfl ?_
      exact r_retI (i := 11) rfl rfl rfl rfl
    · refine r_iload_n (i := 7) rfl rfl rfl ?_
      refine r_iconst (i := 8) (3 : Int32) kc_iconst_3 rfl rfl ?_
      refine r_icmp_le (i := 9) (tgt := 22) rfl rfl rfl ?_ ?_
      · refine r_iload_n (i := 12) rfl rfl rfl ?_
        refine r_iconst (i := 13) (2 : Int32) kc_iconst_2 rfl rfl ?_
        refine r_icmp_ge (i := 14) (tgt := 37) rfl rfl rfl ?_ ?_
        · refine r_iload_n (i := 21) rfl rfl rfl ?_
          refine r_iconst (i := 22) (2 : Int32) kc_iconst_2 rfl rfl ?_
          refine r_icmp_ne (i := 23) (tgt := 52) rfl rfl rfl ?_ ?_
          · refine r_aload_n (i := 28) rfl rfl rfl ?_
            refine r_gR (i := 29) (ci := 11) (kf := 3) rfl (Nat.le_of_ble_eq_true rfl) wF_Joy_35 rfl rfl fun x53 => ?_
            refine r_gI (i := 30) (ci := 7) (kf := 6) rfl (Nat.le_of_ble_eq_true rfl) wF_Joy_186 rfl rfl fun x56 => ?_
            refine r_iload_n (i := 31) rfl rfl rfl ?_
            refine r_SB2 (i := 32) (k2 := 0) (n2 := 0) ok_Rows_has wM_Joy_159 (c_Rows_has) (Nat.le_of_ble_eq_true rfl) (Nat.le_of_ble_eq_true rfl) (Nat.le_of_ble_eq_true rfl) (Nat.le_of_ble_eq_true rfl) rfl rfl fun x60 => ?_
            refine r_SI1 (i := 33) (k2 := 0) (n2 := 0) ok_Joy_bit wM_Joy_165 (c_Joy_bit) (Nat.le_of_ble_eq_true rfl) (Nat.le_of_ble_eq_true rfl) (Nat.le_of_ble_eq_true rfl) (Nat.le_of_ble_eq_true rfl) rfl rfl fun x63 => ?_
            exact r_retI (i := 34) rfl rfl rfl rfl
          · refine r_aload_n (i := 24) rfl rfl rfl ?_
            refine r_gR (i := 25) (ci := 11) (kf := 3) rfl (Nat.le_of_ble_eq_true rfl) wF_Joy_35 rfl rfl fun x43 => ?_
            refine r_gI (i := 26) (ci := 7) (kf := 5) rfl (Nat.le_of_ble_eq_true rfl) wF_Joy_183 rfl rfl fun x46 => ?_
            refine r_goto (i := 27) (tgt := 59) rfl rfl rfl ?_
            refine r_iload_n (i := 31) rfl rfl rfl ?_
            refine r_SB2 (i := 32) (k2 := 0) (n2 := 0) ok_Rows_has wM_Joy_159 (c_Rows_has) (Nat.le_of_ble_eq_true rfl) (Nat.le_of_ble_eq_true rfl) (Nat.le_of_ble_eq_true rfl) (Nat.le_of_ble_eq_true rfl) rfl rfl fun x60 => ?_
            refine r_SI1 (i := 33) (k2 := 0) (n2 := 0) ok_Joy_bit wM_Joy_165 (c_Joy_bit) (Nat.le_of_ble_eq_true rfl) (Nat.le_of_ble_eq_true rfl) (Nat.le_of_ble_eq_true rfl) (Nat.le_of_ble_eq_true rfl) rfl rfl fun x63 => ?_
            exact r_retI (i := 34) rfl rfl rfl rfl
        · refine r_aload_n (i := 15) rfl rfl rfl ?_
          refine r_gR (i := 16) (ci := 11) (kf := 3) rfl (Nat.le_of_ble_eq_true rfl) wF_Joy_35 rfl rfl fun x28 => ?_
          refine r_iload_n (i := 17) rfl rfl rfl ?_
          refine r_iload_n (i := 18) rfl rfl rfl ?_
          refine r_VI2 (i := 19) (k2 := 0) (n2 := 0) ok_Vil_endOf wM_Joy_180 (c_Vil_endOf) (fun _ e => fw_ckb e) (Nat.le_of_ble_eq_true rfl) (Nat.le_of_ble_eq_true rfl) (Nat.le_of_ble_eq_true rfl) (Nat.le_of_ble_eq_true rfl) rfl rfl fun x33 => ?_
          exact r_retI (i := 20) rfl rfl rfl rfl
      · refine r_iconst (i := 10) (-1 : Int32) kc_iconst_m1 rfl rfl ?_
        exact r_retI (i := 11) rfl rfl rfl rfl
