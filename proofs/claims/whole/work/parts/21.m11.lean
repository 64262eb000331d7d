-- Mod_see
def s_Mod_see (h : fw_H) (v0 : Option Nat) (v1 : Int32) (v2 : Int32) : Option (Int32 × fw_H) :=
(f_ck h v0 12).bind fun _ =>
(s_Mod_isHouse h v0 v2).bind fun x2 =>
if x2 = true then ((s_Mod_in v1 (1 : Int32) (20 : Int32)).bind fun x12 =>
if x12 = true then ((f_gI h v0 12 47).bind fun x19 =>
if ¬ x19 = (12 : Int32) then ((f_gR h v0 12 45).bind fun x30 =>
(f_gI h v0 12 47).bind fun x34 =>
(f_sI h x30 x34 v1).bind fun h38 =>
(f_gR h38 v0 12 46).bind fun x40 =>
(f_gI h38 v0 12 47).bind fun x44 =>
(f_sI h38 x40 x44 v2).bind fun h48 =>
(f_gI h48 v0 12 47).bind fun x51 =>
(f_pI h48 v0 12 47 (x51 + (1 : Int32))).bind fun h56 =>
(f_gI h56 v0 12 47).bind fun x60 =>
some (x60, h56)) else
some ((-1 : Int32), h)) else
some ((-1 : Int32), h)) else
some ((-1 : Int32), h)
theorem c_Mod_see {G : fw_G} {h : fw_H} {v0 : Option Nat} {v1 : Int32} {v2 : Int32} : fw_Call G m_Mod_see fw_wI 2 0 0 [fw_r v0, fw_i v1, fw_i v2] h (s_Mod_see h v0 v1 v2) := by
  refine fw_Call.of ok_Mod_see.1 (Nat.le_of_ble_eq_true rfl) [(0, some (fw_r v0)), (1, some (fw_i v1)), (2, some (fw_i v2))] rfl ?_
  refine r_ck ?_
  refine r_aload_n (i := 0) rfl rfl rfl ?_
  refine r_iload_n (i := 1) rfl rfl rfl ?_
  refine r_VB1 (i := 2) (k2 := 0) (n2 := 0) ok_Mod_isHouse wM_Mod_279 (c_Mod_isHouse) (fun _ e => fw_ckb e) (Nat.le_of_ble_eq_true rfl) (Nat.le_of_ble_eq_true rfl) (Nat.le_of_ble_eq_true rfl) (Nat.le_of_ble_eq_true rfl) rfl rfl fun x2 => ?_
  refine r_ifeqB (i := 3) (tgt := 27) rfl rfl rfl ?_ ?_
  · refine r_iconst (i := 13) (-1 : Int32) kc_iconst_m1 rfl rfl ?_
    exact r_retI (i := 14) rfl rfl rfl rfl
  · refine r_iload_n (i := 4) rfl rfl rfl ?_
    refine r_iconst (i := 5) (1 : Int32) kc_iconst_1 rfl rfl ?_
    refine r_bipush (i := 6) (20 : Int32) kc_bipush_20 rfl rfl ?_
    refine r_SB3 (i := 7) (k2 := 0) (n2 := 0) ok_Mod_in wM_Mod_275 (c_Mod_in) (Nat.le_of_ble_eq_true rfl) (Nat.le_of_ble_eq_true rfl) (Nat.le_of_ble_eq_true rfl) (Nat.le_of_ble_eq_true rfl) rfl rfl fun x12 => ?_
    refine r_ifeqB (i := 8) (tgt := 27) rfl rfl rfl ?_ ?_
    · refine r_iconst (i := 13) (-1 : Int32) kc_iconst_m1 rfl rfl ?_
      exact r_retI (i := 14) rfl rfl rfl rfl
    · refine r_aload_n (i := 9) rfl rfl rfl ?_
      refine r_gI (i := 10) (ci := 12) (kf := 47) rfl (Nat.le_of_ble_eq_true rfl) wF_Mod_259 rfl rfl fun x19 => ?_
      refine r_bipush (i := 11) (12 : Int32) kc_bipush_12 rfl rfl ?_
      refine r_icmp_ne (i := 12) (tgt := 29) rfl rfl rfl ?_ ?_
      · refine r_aload_n (i := 15) rfl rfl rfl ?_
        refine r_gR (i := 16) (ci := 12) (kf := 45) rfl (Nat.le_of_ble_eq_true rfl) wF_Mod_87 rfl rfl fun x30 => ?_
        refine r_aload_n (i := 17) rfl rfl rfl ?_
        refine r_gI (i := 18) (ci := 12) (kf := 47) rfl (Nat.le_of_ble_eq_true rfl) wF_Mod_259 rfl rfl fun x34 => ?_
        refine r_iload_n (i := 19) rfl rfl rfl ?_
        refine r_sI (i := 20) rfl rfl fun h38 => ?_
        refine r_aload_n (i := 21) rfl rfl rfl ?_
        refine r_gR (i := 22) (ci := 12) (kf := 46) rfl (Nat.le_of_ble_eq_true rfl) wF_Mod_90 rfl rfl fun x40 => ?_
        refine r_aload_n (i := 23) rfl rfl rfl ?_
        refine r_gI (i := 24) (ci := 12) (kf := 47) rfl (Nat.le_of_ble_eq_true rfl) wF_Mod_259 rfl rfl fun x44 => ?_
        refine r_iload_n (i := 25) rfl rfl rfl ?_
        refine r_sI (i := 26) rfl rfl fun h48 => ?_
        refine r_aload_n (i := 27) rfl rfl rfl ?_
        refine r_dup_r (i := 28) rfl rfl ?_
        refine r_gI (i := 29) (ci := 12) (kf := 47) rfl (Nat.le_of_ble_eq_true rfl) wF_Mod_259 rfl rfl fun x51 => ?_
        refine r_iconst (i := 30) (1 : Int32) kc_iconst_1 rfl rfl ?_
        refine r_iadd (i := 31) rfl rfl ?_
        refine r_pI (i := 32) (ci := 12) (kf := 47) rfl (Nat.le_of_ble_eq_true rfl) wF_Mod_259 rfl (tyX12_ok 47 (Nat.le_of_ble_eq_true rfl)) rfl rfl fun h56 => ?_
        refine r_aload_n (i := 33) rfl rfl rfl ?_
        refine r_gI (i := 34) (ci := 12) (kf := 47) rfl (Nat.le_of_ble_eq_true rfl) wF_Mod_259 rfl rfl fun x60 => ?_
        exact r_retI (i := 35) rfl rfl rfl rfl
      · refine r_iconst (i := 13) (-1 : Int32) kc_iconst_m1 rfl rfl ?_
        exact r_retI (i := 14) rfl rfl rfl rfl
-- Mod_isSoBy
def l_Mod_isSoBy_30 (v0 : Option Nat) (a13_3 : Int32) (h24 : fw_H) (K80 : Int32 → Option (Bool × fw_H)) : Nat → Int32 → Int32 → Option (Bool × fw_H)
  | 0, _, _ => none
  | nn + 1, a30_2, a30_4 =>
    (f_gI h24 v0 12 47).bind fun x33 =>
    if x33 ≤ a30_4 then (K80 a30_2) else
    if a30_2 = (0 : Int32) then (l_Mod_isSoBy_30 v0 a13_3 h24 K80 nn (0 : Int32) (a30_4 + (1 : Int32))) else
    (f_gR h24 v0 12 45).bind fun x44 =>
    (f_aI h24 x44 a30_4).bind fun x49 =>
    if ¬ x49 = a13_3 then (l_Mod_isSoBy_30 v0 a13_3 h24 K80 nn (1 : Int32) (a30_4 + (1 : Int32))) else
    (f_gR h24 v0 12 46).bind fun x55 =>
    (f_aI h24 x55 a30_4).bind fun x60 =>
    (f_gI h24 v0 12 32).bind fun x62 =>
    if ¬ x60 = x62 then (l_Mod_isSoBy_30 v0 a13_3 h24 K80 nn (0 : Int32) (a30_4 + (1 : Int32))) else
    l_Mod_isSoBy_30 v0 a13_3 h24 K80 nn (1 : Int32) (a30_4 + (1 : Int32))
theorem cl_Mod_isSoBy_30 {G : fw_G} {v0 : Option Nat} {a13_3 : Int32} {h24 : fw_H} {K80 : Int32 → Option (Bool × fw_H)} (hK80 : ∀ (e80_2 : Int32), fw_R G m_Mod_isSoBy fw_wB 8 0 0 80 [(0, some (fw_r v0)), (2, some (fw_i e80_2)), (3, some (fw_i a13_3))] [] h24 (K80 e80_2)) : ∀ (nn : Nat) (a30_2 : Int32) (a30_4 : Int32), fw_R G m_Mod_isSoBy fw_wB 8 0 0 30 [(0, some (fw_r v0)), (2, some (fw_i a30_2)), (3, some (fw_i a13_3)), (4, some (fw_i a30_4))] [] h24 (l_Mod_isSoBy_30 v0 a13_3 h24 K80 nn a30_2 a30_4) := by
  intro nn
  induction nn with
  | zero => intros; exact r_none
  | succ nn ih =>
    intro a30_2 a30_4
    rw [l_Mod_isSoBy_30]
    refine r_iload (i := 18) rfl rfl rfl ?_
    refine r_aload_n (i := 19) rfl rfl rfl ?_
    refine r_gI (i := 20) (ci := 12) (kf := 47) rfl (Nat.le_of_ble_eq_true rfl) wF_Mod_259 rfl rfl fun x33 => ?_
    refine r_icmp_ge (i := 21) (tgt := 80) rfl rfl rfl ?_ ?_
    · exact r_lv (fw_sub1 rfl (fw_sub1 rfl (fw_sub1 rfl fw_sub0))) (hK80 a30_2)
    · refine r_iload_n (i := 22) rfl rfl rfl ?_
      refine r_if_eq (i := 23) (tgt := 72) rfl rfl rfl ?_ ?_
      · refine r_iconst (i := 39) (0 : Int32) kc_iconst_0 rfl rfl ?_
        refine r_istore_n (i := 40) rfl rfl (Nat.le_of_ble_eq_true rfl) rfl ?_
        refine r_iinc (i := 41) (1 : Int32) kc_iconst_1 rfl rfl rfl (Nat.le_of_ble_eq_true rfl) ?_
        refine r_goto (i := 42) (tgt := 30) rfl rfl rfl ?_
        exact r_lv (fw_sub1 rfl (fw_sub1 rfl (fw_sub1 rfl (fw_sub1 rfl fw_sub0)))) (ih (0 : Int32) (a30_4 + (1 : Int32)))
      · refine r_aload_n (i := 24) rfl rfl rfl ?_
        refine r_gR (i := 25) (ci := 12) (kf := 45) rfl (Nat.le_of_ble_eq_true rfl) wF_Mod_87 rfl rfl fun x44 => ?_
        refine r_iload (i := 26) rfl rfl rfl ?_
        refine r_aI (i := 27) rfl rfl fun x49 => ?_
        refine r_iload_n (i := 28) rfl rfl rfl ?_
        refine r_icmp_ne (i := 29) (tgt := 68) rfl rfl rfl ?_ ?_
        · refine r_iconst (i := 37) (1 : Int32) kc_iconst_1 rfl rfl ?_
          refine r_goto (i := 38) (tgt := 73) rfl rfl rfl ?_
          refine r_istore_n (i := 40) rfl rfl (Nat.le_of_ble_eq_true rfl) rfl ?_
          refine r_iinc (i := 41) (1 : Int32) kc_iconst_1 rfl rfl rfl (Nat.le_of_ble_eq_true rfl) ?_
          refine r_goto (i := 42) (tgt := 30) rfl rfl rfl ?_
          exact r_lv (fw_sub1 rfl (fw_sub1 rfl (fw_sub1 rfl (fw_sub1 rfl fw_sub0)))) (ih (1 : Int32) (a30_4 + (1 : Int32)))
        · refine r_aload_n (i := 30) rfl rfl rfl ?_
          refine r_gR (i := 31) (ci := 12) (kf := 46) rfl (Nat.le_of_ble_eq_true rfl) wF_Mod_90 rfl rfl fun x55 => ?_
          refine r_iload (i := 32) rfl rfl rfl ?_
          refine r_aI (i := 33) rfl rfl fun x60 => ?_
          refine r_aload_n (i := 34) rfl rfl rfl ?_
          refine r_gI (i := 35) (ci := 12) (kf := 32) rfl (Nat.le_of_ble_eq_true rfl) wF_Mod_330 rfl rfl fun x62 => ?_
          refine r_icmp_ne (i := 36) (tgt := 72) rfl rfl rfl ?_ ?_
          · refine r_iconst (i := 39) (0 : Int32) kc_iconst_0 rfl rfl ?_
            refine r_istore_n (i := 40) rfl rfl (Nat.le_of_ble_eq_true rfl) rfl ?_
            refine r_iinc (i := 41) (1 : Int32) kc_iconst_1 rfl rfl rfl (Nat.le_of_ble_eq_true rfl) ?_
            refine r_goto (i := 42) (tgt := 30) rfl rfl rfl ?_
            exact r_lv (fw_sub1 rfl (fw_sub1 rfl (fw_sub1 rfl (fw_sub1 rfl fw_sub0)))) (ih (0 : Int32) (a30_4 + (1 : Int32)))
          · refine r_iconst (i := 37) (1 : Int32) kc_iconst_1 rfl rfl ?_
            refine r_goto (i := 38) (tgt := 73) rfl rfl rfl ?_
            refine r_istore_n (i := 40) rfl rfl (Nat.le_of_ble_eq_true rfl) rfl ?_
            refine r_iinc (i := 41) (1 : Int32) kc_iconst_1 rfl rfl rfl (Nat.le_of_ble_eq_true rfl) ?_
            refine r_goto (i := 42) (tgt := 30) rfl rfl rfl ?_
            exact r_lv (fw_sub1 rfl (fw_sub1 rfl (fw_sub1 rfl (fw_sub1 rfl fw_sub0)))) (ih (1 : Int32) (a30_4 + (1 : Int32)))
def l_Mod_isSoBy_13 (F : Nat) (v0 : Option Nat) (K86 : Int32 → fw_H → Option (Bool × fw_H)) : Nat → Int32 → Int32 → fw_H → Option (Bool × fw_H)
  | 0, _, _, _ => none
  | nn + 1, a13_2, a13_3, g13 =>
    if (20 : Int32) < a13_3 then (K86 a13_2 g13) else
    if a13_2 = (0 : Int32) then (K86 a13_2 g13) else
    (s_Mod_walk F g13 v0).bind fun h24 =>
    l_Mod_isSoBy_30 v0 a13_3 h24 (fun e80_2 =>
    l_Mod_isSoBy_13 F v0 K86 nn e80_2 (a13_3 + (1 : Int32)) h24) F a13_2 (0 : Int32)
theorem cl_Mod_isSoBy_13 {G : fw_G} {F : Nat} {v0 : Option Nat} {K86 : Int32 → fw_H → Option (Bool × fw_H)} (hK86 : ∀ (e86_2 : Int32) (he86 : fw_H), fw_R G m_Mod_isSoBy fw_wB 8 0 0 86 [(0, some (fw_r v0)), (2, some (fw_i e86_2))] [] he86 (K86 e86_2 he86)) : ∀ (nn : Nat) (a13_2 : Int32) (a13_3 : Int32) (g13 : fw_H), fw_R G m_Mod_isSoBy fw_wB 8 0 0 13 [(0, some (fw_r v0)), (2, some (fw_i a13_2)), (3, some (fw_i a13_3))] [] g13 (l_Mod_isSoBy_13 F v0 K86 nn a13_2 a13_3 g13) := by
  intro nn
  induction nn with
  | zero => intros; exact r_none
  | succ nn ih =>
    intro a13_2 a13_3 g13
    rw [l_Mod_isSoBy_13]
    refine r_iload_n (i := 9) rfl rfl rfl ?_
    refine r_bipush (i := 10) (20 : Int32) kc_bipush_20 rfl rfl ?_
    refine r_icmp_gt (i := 11) (tgt := 86) rfl rfl rfl ?_ ?_
    · exact r_lv (fw_sub1 rfl (fw_sub1 rfl fw_sub0)) (hK86 a13_2 g13)
    · refine r_iload_n (i := 12) rfl rfl rfl ?_
      refine r_if_eq (i := 13) (tgt := 86) rfl rfl rfl ?_ ?_
      · exact r_lv (fw_sub1 rfl (fw_sub1 rfl fw_sub0)) (hK86 a13_2 g13)
      · refine r_aload_n (i := 14) rfl rfl rfl ?_
        refine r_VV0 (i := 15) (k2 := 0) (n2 := 0) ok_Mod_walk wM_Mod_345 (c_Mod_walk F) (fun _ e => fw_ckb e) (Nat.le_of_ble_eq_true rfl) (Nat.le_of_ble_eq_true rfl) (Nat.le_of_ble_eq_true rfl) (Nat.le_of_ble_eq_true rfl) rfl rfl fun h24 => ?_
        refine r_iconst (i := 16) (0 : Int32) kc_iconst_0 rfl rfl ?_
        refine r_istore (i := 17) rfl rfl (Nat.le_of_ble_eq_true rfl) rfl ?_
        refine r_lv (fw_sub1 rfl (fw_sub1 rfl (fw_sub1 rfl (fw_sub1 rfl fw_sub0)))) (cl_Mod_isSoBy_30 ?_ F _ _)
        · intro e80_2
          refine r_iinc (i := 43) (1 : Int32) kc_iconst_1 rfl rfl rfl (Nat.le_of_ble_eq_true rfl) ?_
          refine r_goto (i := 44) (tgt := 13) rfl rfl rfl ?_
          exact r_lv (fw_sub1 rfl (fw_sub1 rfl (fw_sub1 rfl fw_sub0))) (ih e80_2 (a13_3 + (1 : Int32)) h24)
def s_Mod_isSoBy (F : Nat) (h : fw_H) (v0 : Option Nat) (v1 : Int32) : Option (Bool × fw_H) :=
(f_ck h v0 12).bind fun _ =>
(s_Mod_layEnvy F h v0 v1).bind fun h2 =>
(s_Mod_startWalk h2 v0).bind fun h6 =>
l_Mod_isSoBy_13 F v0 (fun e86_2 he86 =>
(s_Mod_layEnvy F he86 v0 (-1 : Int32)).bind fun h88 =>
(f_toB e86_2).bind fun b92 =>
some (b92, h88)) F (1 : Int32) (1 : Int32) h6
theorem c_Mod_isSoBy {G : fw_G} (F : Nat) {h : fw_H} {v0 : Option Nat} {v1 : Int32} : fw_Call G m_Mod_isSoBy fw_wB 8 0 0 [fw_r v0, fw_i v1] h (s_Mod_isSoBy F h v0 v1) := by
  refine fw_Call.of ok_Mod_isSoBy.1 (Nat.le_of_ble_eq_true rfl) [(0, some (fw_r v0)), (1, some (fw_i v1))] rfl ?_
  refine r_ck ?_
  refine r_aload_n (i := 0) rfl rfl rfl ?_
  refine r_iload_n (i := 1) rfl rfl rfl ?_
  refine r_VV1 (i := 2) (k2 := 0) (n2 := 0) ok_Mod_layEnvy wM_Mod_256 (c_Mod_layEnvy F) (fun _ e => fw_ckb e) (Nat.le_of_ble_eq_true rfl) (Nat.le_of_ble_eq_true rfl) (Nat.le_of_ble_eq_true rfl) (Nat.le_of_ble_eq_true rfl) rfl rfl fun h2 => ?_
  refine r_aload_n (i := 3) rfl rfl rfl ?_
  refine r_VV0 (i := 4) (k2 := 0) (n2 := 0) ok_Mod_startWalk wM_Mod_342 (c_Mod_startWalk) (fun _ e => fw_ckb e) (Nat.le_of_ble_eq_true rfl) (Nat.le_of_ble_eq_true rfl) (Nat.le_of_ble_eq_true rfl) (Nat.le_of_ble_eq_true rfl) rfl rfl fun h6 => ?_
  refine r_iconst (i := 5) (1 : Int32) kc_iconst_1 rfl rfl ?_
  refine r_istore_n (i := 6) rfl rfl (Nat.le_of_ble_eq_true rfl) rfl ?_
  refine r_iconst (i := 7) (1 : Int32) kc_iconst_1 rfl rfl ?_
  refine r_istore_n (i := 8) rfl rfl (Nat.le_of_ble_eq_true rfl) rfl ?_
  refine r_lv (fw_sub1 rfl (fw_sub1 rfl (fw_sub1 rfl fw_sub0))) (cl_Mod_isSoBy_13 ?_ F _ _ _)
  · intro e86_2 he86
    refine r_aload_n (i := 45) rfl rfl rfl ?_
    refine r_iconst (i := 46) (-1 : Int32) kc_iconst_m1 rfl rfl ?_
    refine r_VV1 (i := 47) (k2 := 0) (n2 := 0) ok_Mod_layEnvy wM_Mod_256 (c_Mod_layEnvy F) (fun _ e => fw_ckb e) (Nat.le_of_ble_eq_true rfl) (Nat.le_of_ble_eq_true rfl) (Nat.le_of_ble_eq_true rfl) (Nat.le_of_ble_eq_true rfl) rfl rfl fun h88 => ?_
    refine r_iload_n (i := 48) rfl rfl rfl ?_
    refine r_toB fun b92 eb92 => ?_
    exact r_retB (i := 49) rfl rfl rfl rfl
-- Mod_envied
def l_Mod_envied_18 (F : Nat) (v0 : Option Nat) (v1 : Int32) (K50 : Int32 → fw_H → Option (Int32 × fw_H)) : Nat → Int32 → Int32 → fw_H → Option (Int32 × fw_H)
  | 0, _, _, _ => none
  | nn + 1, a18_2, a18_3, g18 =>
    (s_Mod_everyHouse g18 v0).bind fun x20 =>
    if x20 < a18_3 then (K50 a18_2 g18) else
    (s_Mod_isSoBy F g18 v0 a18_3).bind fun x28 =>
    if x28.1 = true then (if ¬ a18_2 = v1 then (l_Mod_envied_18 F v0 v1 K50 nn (a18_2 + (1 : Int32)) (a18_3 + (1 : Int32)) x28.2) else
    some (a18_3, x28.2)) else
    l_Mod_envied_18 F v0 v1 K50 nn a18_2 (a18_3 + (1 : Int32)) x28.2
theorem cl_Mod_envied_18 {G : fw_G} {F : Nat} {v0 : Option Nat} {v1 : Int32} {K50 : Int32 → fw_H → Option (Int32 × fw_H)} (hK50 : ∀ (e50_2 : Int32) (he50 : fw_H), fw_R G m_Mod_envied fw_wI 9 0 0 50 [(1, some (fw_i v1)), (2, some (fw_i e50_2))] [] he50 (K50 e50_2 he50)) : ∀ (nn : Nat) (a18_2 : Int32) (a18_3 : Int32) (g18 : fw_H), fw_R G m_Mod_envied fw_wI 9 0 0 18 [(0, some (fw_r v0)), (1, some (fw_i v1)), (2, some (fw_i a18_2)), (3, some (fw_i a18_3))] [] g18 (l_Mod_envied_18 F v0 v1 K50 nn a18_2 a18_3 g18) := by
  intro nn
  induction nn with
  | zero => intros; exact r_none
  | succ nn ih =>
    intro a18_2 a18_3 g18
    rw [l_Mod_envied_18]
    refine r_iload_n (i := 12) rfl rfl rfl ?_
    refine r_aload_n (i := 13) rfl rfl rfl ?_
    refine r_VI0 (i := 14) (k2 := 0) (n2 := 0) ok_Mod_everyHouse wM_Mod_369 (c_Mod_everyHouse) (fun _ e => fw_ckb e) (Nat.le_of_ble_eq_true rfl) (Nat.le_of_ble_eq_true rfl) (Nat.le_of_ble_eq_true rfl) (Nat.le_of_ble_eq_true rfl) rfl rfl fun x20 => ?_
    refine r_icmp_gt (i := 15) (tgt := 50) rfl rfl rfl ?_ ?_
    · exact r_lv (fw_sub1 rfl (fw_sub1 rfl fw_sub0)) (hK50 a18_2 g18)
    · refine r_aload_n (i := 16) rfl rfl rfl ?_
      refine r_iload_n (i := 17) rfl rfl rfl ?_
      refine r_VwB1 (i := 18) (k2 := 0) (n2 := 0) ok_Mod_isSoBy wM_Mod_416 (c_Mod_isSoBy F) (fun _ e => fw_ckb e) (Nat.le_of_ble_eq_true rfl) (Nat.le_of_ble_eq_true rfl) (Nat.le_of_ble_eq_true rfl) (Nat.le_of_ble_eq_true rfl) rfl rfl fun x28 => ?_
      refine r_ifeqB (i := 19) (tgt := 44) rfl rfl rfl ?_ ?_
      · refine r_iinc (i := 26) (1 : Int32) kc_iconst_1 rfl rfl rfl (Nat.le_of_ble_eq_true rfl) ?_
        refine r_goto (i := 27) (tgt := 18) rfl rfl rfl ?_
        exact r_lv (fw_sub1 rfl (fw_sub1 rfl (fw_sub1 rfl (fw_sub1 rfl fw_sub0)))) (ih a18_2 (a18_3 + (1 : Int32)) x28.2)
      · refine r_iload_n (i := 20) rfl rfl rfl ?_
        refine r_iload_n (i := 21) rfl rfl rfl ?_
        refine r_icmp_ne (i := 22) (tgt := 41) rfl rfl rfl ?_ ?_
        · refine r_iinc (i := 25) (1 : Int32) kc_iconst_1 rfl rfl rfl (Nat.le_of_ble_eq_true rfl) ?_
          refine r_iinc (i := 26) (1 : Int32) kc_iconst_1 rfl rfl rfl (Nat.le_of_ble_eq_true rfl) ?_
          refine r_goto (i := 27) (tgt := 18) rfl rfl rfl ?_
          exact r_lv (fw_sub1 rfl (fw_sub1 rfl (fw_sub1 rfl (fw_sub1 rfl fw_sub0)))) (ih (a18_2 + (1 : Int32)) (a18_3 + (1 : Int32)) x28.2)
        · refine r_iload_n (i := 23) rfl rfl rfl ?_
          exact r_retI (i := 24) rfl rfl rfl rfl
def s_Mod_envied (F : Nat) (h : fw_H) (v0 : Option Nat) (v1 : Int32) : Option (Int32 × fw_H) :=
(f_ck h v0 12).bind fun _ =>
(f_gI h v0 12 24).bind fun x1 =>
if x1 = (0 : Int32) then (some ((-1 : Int32), h)) else
if (-1 : Int32) ≤ v1 then (l_Mod_envied_18 F v0 v1 (fun e50_2 he50 =>
if ¬ v1 = (-1 : Int32) then (some ((-1 : Int32), he50)) else
some (e50_2, he50)) F (0 : Int32) (0 : Int32) h) else
some ((-1 : Int32), h)
theorem c_Mod_envied {G : fw_G} (F : Nat) {h : fw_H} {v0 : Option Nat} {v1 : Int32} : fw_Call G m_Mod_envied fw_wI 9 0 0 [fw_r v0, fw_i v1] h (s_Mod_envied F h v0 v1) := by
  refine fw_Call.of ok_Mod_envied.1 (Nat.le_of_ble_eq_true rfl) [(0, some (fw_r v0)), (1, some (fw_i v1))] rfl ?_
  refine r_ck ?_
  refine r_aload_n (i := 0) rfl rfl rfl ?_
  refine r_gI (i := 1) (ci := 12) (kf := 24) rfl (Nat.le_of_ble_eq_true rfl) wF_Mod_250 rfl rfl fun x1 => ?_
  refine r_if_eq (i := 2) (tgt := 12) rfl rfl rfl ?_ ?_
  · refine r_iconst (i := 6) (-1 : Int32) kc_iconst_m1 rfl rfl ?_
    exact r_retI (i := 7) rfl rfl rfl rfl
  · refine r_iload_n (i := 3) rfl rfl rfl ?_
    refine r_iconst (i := 4) (-1 : Int32) kc_iconst_m1 rfl rfl ?_
    refine r_icmp_ge (i := 5) (tgt := 14) rfl rfl rfl ?_ ?_
    · refine r_iconst (i := 8) (0 : Int32) kc_iconst_0 rfl rfl ?_
      refine r_istore_n (i := 9) rfl rfl (Nat.le_of_ble_eq_true rfl) rfl ?_
      refine r_iconst (i := 10) (0 : Int32) kc_iconst_0 rfl rfl ?_
      refine r_istore_n (i := 11) rfl rfl (Nat.le_of_ble_eq_true rfl) rfl ?_
      refine r_lv (fw_sub1 rfl (fw_sub1 rfl (fw_sub1 rfl (fw_sub1 rfl fw_sub0)))) (cl_Mod_envied_18 ?_ F _ _ _)
      · intro e50_2 he50
        refine r_iload_n (i := 28) rfl rfl rfl ?_
        refine r_iconst (i := 29) (-1 : Int32) kc_iconst_m1 rfl rfl ?_
        refine r_icmp_ne (i := 30) (tgt := 59) rfl rfl rfl ?_ ?_
        · refine r_iconst (i := 33) (-1 : Int32) kc_iconst_m1 rfl rfl ?_
          exact r_retI (i := 34) rfl rfl rfl rfl
        · refine r_iload_n (i := 31) rfl rfl rfl ?_
          refine r_goto (i := 32) (tgt := 60) rfl rfl rfl ?_
          exact r_retI (i := 34) rfl rfl rfl rfl
    · refine r_iconst (i := 6) (-1 : Int32) kc_iconst_m1 rfl rfl ?_
      exact r_retI (i := 7) rfl rfl rfl rfl
-- Mod_sure
def l_Mod_sure_4 (F : Nat) (v0 : Option Nat) : Nat → Int32 → Int32 → fw_H → Option (Int32 × fw_H)
  | 0, _, _, _ => none
  | nn + 1, a4_1, a4_2, g4 =>
    (f_gI g4 v0 12 24).bind fun x5 =>
    if x5 ≤ (0 : Int32) then (some (a4_1, g4)) else
    (s_Mod_everyHouse g4 v0).bind fun x13 =>
    if x13 < a4_2 then (some (a4_1, g4)) else
    (s_Mod_isSoBy F g4 v0 a4_2).bind fun x21 =>
    if x21.1 = true then (if ¬ a4_1 = (-1 : Int32) then (l_Mod_sure_4 F v0 nn (a4_1 &&& a4_2) (a4_2 + (1 : Int32)) x21.2) else
    l_Mod_sure_4 F v0 nn a4_2 (a4_2 + (1 : Int32)) x21.2) else
    l_Mod_sure_4 F v0 nn a4_1 (a4_2 + (1 : Int32)) x21.2
theorem cl_Mod_sure_4 {G : fw_G} {F : Nat} {v0 : Option Nat} : ∀ (nn : Nat) (a4_1 : Int32) (a4_2 : Int32) (g4 : fw_H), fw_R G m_Mod_sure fw_wI 9 0 0 4 [(0, some (fw_r v0)), (1, some (fw_i a4_1)), (2, some (fw_i a4_2))] [] g4 (l_Mod_sure_4 F v0 nn a4_1 a4_2 g4) := by
  intro nn
  induction nn with
  | zero => intros; exact r_none
  | succ nn ih =>
    intro a4_1 a4_2 g4
    rw [l_Mod_sure_4]
    refine r_aload_n (i := 4) rfl rfl rfl ?_
    refine r_gI (i := 5) (ci := 12) (kf := 24) rfl (Nat.le_of_ble_eq_true rfl) wF_Mod_250 rfl rfl fun x5 => ?_
    refine r_if_le (i := 6) (tgt := 50) rfl rfl rfl ?_ ?_
    · refine r_iload_n (i := 28) rfl rfl rfl ?_
      exact r_retI (i := 29) rfl rfl rfl rfl
    · refine r_iload_n (i := 7) rfl rfl rfl ?_
      refine r_aload_n (i := 8) rfl rfl rfl ?_
      refine r_VI0 (i := 9) (k2 := 0) (n2 := 0) ok_Mod_everyHouse wM_Mod_369 (c_Mod_everyHouse) (fun _ e => fw_ckb e) (Nat.le_of_ble_eq_true rfl) (Nat.le_of_ble_eq_true rfl) (Nat.le_of_ble_eq_true rfl) (Nat.le_of_ble_eq_true rfl) rfl rfl fun x13 => ?_
      refine r_icmp_gt (i := 10) (tgt := 50) rfl rfl rfl ?_ ?_
      · refine r_iload_n (i := 28) rfl rfl rfl ?_
        exact r_retI (i := 29) rfl rfl rfl rfl
      · refine r_aload_n (i := 11) rfl rfl rfl ?_
        refine r_iload_n (i := 12) rfl rfl rfl ?_
        refine r_VwB1 (i := 13) (k2 := 0) (n2 := 0) ok_Mod_isSoBy wM_Mod_416 (c_Mod_isSoBy F) (fun _ e => fw_ckb e) (Nat.le_of_ble_eq_true rfl) (Nat.le_of_ble_eq_true rfl) (Nat.le_of_ble_eq_true rfl) (Nat.le_of_ble_eq_true rfl) rfl rfl fun x21 => ?_
        refine r_ifneB (i := 14) (tgt := 31) rfl rfl rfl ?_ ?_
        · refine r_iload_n (i := 17) rfl rfl rfl ?_
          refine r_iconst (i := 18) (-1 : Int32) kc_iconst_m1 rfl rfl ?_
          refine r_icmp_ne (i := 19) (tgt := 40) rfl rfl rfl ?_ ?_
          · refine r_iload_n (i := 22) rfl rfl rfl ?_
            refine r_iload_n (i := 23) rfl rfl rfl ?_
            refine r_iand (i := 24) rfl rfl ?_
            refine r_istore_n (i := 25) rfl rfl (Nat.le_of_ble_eq_true rfl) rfl ?_
            refine r_iinc (i := 26) (1 : Int32) kc_iconst_1 rfl rfl rfl (Nat.le_of_ble_eq_true rfl) ?_
            refine r_goto (i := 27) (tgt := 4) rfl rfl rfl ?_
            exact r_lv (fw_sub1 rfl (fw_sub1 rfl (fw_sub1 rfl fw_sub0))) (ih (a4_1 &&& a4_2) (a4_2 + (1 : Int32)) x21.2)
          · refine r_iload_n (i := 20) rfl rfl rfl ?_
            refine r_goto (i := 21) (tgt := 43) rfl rfl rfl ?_
            refine r_istore_n (i := 25) rfl rfl (Nat.le_of_ble_eq_true rfl) rfl ?_
            refine r_iinc (i := 26) (1 : Int32) kc_iconst_1 rfl rfl rfl (Nat.le_of_ble_eq_true rfl) ?_
            refine r_goto (i := 27) (tgt := 4) rfl rfl rfl ?_
            exact r_lv (fw_sub1 rfl (fw_sub1 rfl (fw_sub1 rfl fw_sub0))) (ih a4_2 (a4_2 + (1 : Int32)) x21.2)
        · refine r_iload_n (i := 15) rfl rfl rfl ?_
          refine r_goto (i := 16) (tgt := 43) rfl rfl rfl ?_
          refine r_istore_n (i := 25) rfl rfl (Nat.le_of_ble_eq_true rfl) rfl ?_
          refine r_iinc (i := 26) (1 : Int32) kc_iconst_1 rfl rfl rfl (Nat.le_of_ble_eq_true rfl) ?_
          refine r_goto (i := 27) (tgt := 4) rfl rfl rfl ?_
          exact r_lv (fw_sub1 rfl (fw_sub1 rfl (fw_sub1 rfl fw_sub0))) (ih a4_1 (a4_2 + (1 : Int32)) x21.2)
def s_Mod_sure (F : Nat) (h : fw_H) (v0 : Option Nat) : Option (Int32 × fw_H) :=
(f_ck h v0 12).bind fun _ =>
l_Mod_sure_4 F v0 F (-1 : Int32) (0 : Int32) h
theorem c_Mod_sure {G : fw_G} (F : Nat) {h : fw_H} {v0 : Option Nat} : fw_Call G m_Mod_sure fw_wI 9 0 0 [fw_r v0] h (s_Mod_sure F h v0) := by
  refine fw_Call.of ok_Mod_sure.1 (Nat.le_of_ble_eq_true rfl) [(0, some (fw_r v0))] rfl ?_
  refine r_ck ?_
  refine r_iconst (i := 0) (-1 : Int32) kc_iconst_m1 rfl rfl ?_
  refine r_istore_n (i := 1) rfl rfl (Nat.le_of_ble_eq_true rfl) rfl ?_
  refine r_iconst (i := 2) (0 : Int32) kc_iconst_0 rfl rfl ?_
  refine r_istore_n (i := 3) rfl rfl (Nat.le_of_ble_eq_true rfl) rfl ?_
  refine r_lv (fw_sub1 rfl (fw_sub1 rfl (fw_sub1 rfl fw_sub0))) (cl_Mod_sure_4 F _ _ _)
-- Mod_sills
def l_Mod_sills_43 (v0 : Option Nat) (x24 : Int32) (h29 : fw_H) (K85 : Int32 → Option (Int32 × fw_H)) : Nat → Int32 → Int32 → Option (Int32 × fw_H)
  | 0, _, _ => none
  | nn + 1, a43_4, a43_5 =>
    if a43_5 < (0 : Int32) then (K85 a43_4) else
    (f_gI h29 v0 12 32).bind fun x50 =>
    if x24 = x50 then (l_Mod_sills_43 v0 x24 h29 K85 nn a43_4 (a43_5 + (-1 : Int32))) else
    (f_gI h29 v0 12 32).bind fun x61 =>
    (s_Mod_goes h29 v0 a43_5 x24 x61).bind fun x64 =>
    if x64 = true then (l_Mod_sills_43 v0 x24 h29 K85 nn a43_5 (a43_5 + (-1 : Int32))) else
    l_Mod_sills_43 v0 x24 h29 K85 nn a43_4 (a43_5 + (-1 : Int32))
theorem cl_Mod_sills_43 {G : fw_G} {v0 : Option Nat} {a17_1 : Int32} {a17_2 : Int32} {x24 : Int32} {h29 : fw_H} {K85 : Int32 → Option (Int32 × fw_H)} (hK85 : ∀ (e85_4 : Int32), fw_R G m_Mod_sills fw_wI 8 0 0 85 [(0, some (fw_r v0)), (1, some (fw_i a17_1)), (2, some (fw_i a17_2)), (4, some (fw_i e85_4))] [] h29 (K85 e85_4)) : ∀ (nn : Nat) (a43_4 : Int32) (a43_5 : Int32), fw_R G m_Mod_sills fw_wI 8 0 0 43 [(0, some (fw_r v0)), (1, some (fw_i a17_1)), (2, some (fw_i a17_2)), (3, some (fw_i x24)), (4, some (fw_i a43_4)), (5, some (fw_i a43_5))] [] h29 (l_Mod_sills_43 v0 x24 h29 K85 nn a43_4 a43_5) := by
  intro nn
  induction nn with
  | zero => intros; exact r_none
  | succ nn ih =>
    intro a43_4 a43_5
    rw [l_Mod_sills_43]
    refine r_iload (i := 26) rfl rfl rfl ?_
    refine r_if_lt (i := 27) (tgt := 85) rfl rfl rfl ?_ ?_
    · exact r_lv (fw_sub1 rfl (fw_sub1 rfl (fw_sub1 rfl (fw_sub1 rfl fw_sub0)))) (hK85 a43_4)
    · refine r_iload_n (i := 28) rfl rfl rfl ?_
      refine r_aload_n (i := 29) rfl rfl rfl ?_
      refine r_gI (i := 30) (ci := 12) (kf := 32) rfl (Nat.le_of_ble_eq_true rfl) wF_Mod_330 rfl rfl fun x50 => ?_
      refine r_icmp_eq (i := 31) (tgt := 75) rfl rfl rfl ?_ ?_
      · refine r_iload (i := 41) rfl rfl rfl ?_
        refine r_istore (i := 42) rfl rfl (Nat.le_of_ble_eq_true rfl) rfl ?_
        refine r_iinc (i := 43) (-1 : Int32) kc_iconst_m1 rfl rfl rfl (Nat.le_of_ble_eq_true rfl) ?_
        refine r_goto (i := 44) (tgt := 43) rfl rfl rfl ?_
        exact r_lv (fw_sub1 rfl (fw_sub1 rfl (fw_sub1 rfl (fw_sub1 rfl (fw_sub1 rfl (fw_sub1 rfl fw_sub0)))))) (ih a43_4 (a43_5 + (-1 : Int32)))
      · refine r_aload_n (i := 32) rfl rfl rfl ?_
        refine r_iload (i := 33) rfl rfl rfl ?_
        refine r_iload_n (i := 34) rfl rfl rfl ?_
        refine r_aload_n (i := 35) rfl rfl rfl ?_
        refine r_gI (i := 36) (ci := 12) (kf := 32) rfl (Nat.le_of_ble_eq_true rfl) wF_Mod_330 rfl rfl fun x61 => ?_
        refine r_VB3 (i := 37) (k2 := 0) (n2 := 0) ok_Mod_goes wM_Mod_292 (c_Mod_goes) (fun _ e => fw_ckb e) (Nat.le_of_ble_eq_true rfl) (Nat.le_of_ble_eq_true rfl) (Nat.le_of_ble_eq_true rfl) (Nat.le_of_ble_eq_true rfl) rfl rfl fun x64 => ?_
        refine r_ifeqB (i := 38) (tgt := 75) rfl rfl rfl ?_ ?_
        · refine r_iload (i := 41) rfl rfl rfl ?_
          refine r_istore (i := 42) rfl rfl (Nat.le_of_ble_eq_true rfl) rfl ?_
          refine r_iinc (i := 43) (-1 : Int32) kc_iconst_m1 rfl rfl rfl (Nat.le_of_ble_eq_true rfl) ?_
          refine r_goto (i := 44) (tgt := 43) rfl rfl rfl ?_
          exact r_lv (fw_sub1 rfl (fw_sub1 rfl (fw_sub1 rfl (fw_sub1 rfl (fw_sub1 rfl (fw_sub1 rfl fw_sub0)))))) (ih a43_4 (a43_5 + (-1 : Int32)))
        · refine r_iload (i := 39) rfl rfl rfl ?_
          refine r_goto (i := 40) (tgt := 77) rfl rfl rfl ?_
          refine r_istore (i := 42) rfl rfl (Nat.le_of_ble_eq_true rfl) rfl ?_
          refine r_iinc (i := 43) (-1 : Int32) kc_iconst_m1 rfl rfl rfl (Nat.le_of_ble_eq_true rfl) ?_
          refine r_goto (i := 44) (tgt := 43) rfl rfl rfl ?_
          exact r_lv (fw_sub1 rfl (fw_sub1 rfl (fw_sub1 rfl (fw_sub1 rfl (fw_sub1 rfl (fw_sub1 rfl fw_sub0)))))) (ih a43_5 (a43_5 + (-1 : Int32)))
def l_Mod_sills_17 (F : Nat) (v0 : Option Nat) : Nat → Int32 → Int32 → fw_H → Option (Int32 × fw_H)
  | 0, _, _, _ => none
  | nn + 1, a17_1, a17_2, g17 =>
    if (48 : Int32) ≤ a17_2 then (some (a17_1, g17)) else
    (f_gI g17 v0 12 32).bind fun x24 =>
    (s_Mod_walk F g17 v0).bind fun h29 =>
    (f_gI h29 v0 12 25).bind fun x36 =>
    l_Mod_sills_43 v0 x24 h29 (fun e85_4 =>
    if ¬ e85_4 = (-1 : Int32) then (l_Mod_sills_17 F v0 nn (a17_1 ||| ((1 : Int32) <<< (e85_4 &&& 31))) (a17_2 + (1 : Int32)) h29) else
    l_Mod_sills_17 F v0 nn (a17_1 ||| (0 : Int32)) (a17_2 + (1 : Int32)) h29) F (-1 : Int32) (x36 - (1 : Int32))
theorem cl_Mod_sills_17 {G : fw_G} {F : Nat} {v0 : Option Nat} : ∀ (nn : Nat) (a17_1 : Int32) (a17_2 : Int32) (g17 : fw_H), fw_R G m_Mod_sills fw_wI 8 0 0 17 [(0, some (fw_r v0)), (1, some (fw_i a17_1)), (2, some (fw_i a17_2))] [] g17 (l_Mod_sills_17 F v0 nn a17_1 a17_2 g17) := by
  intro nn
  induction nn with
  | zero => intros; exact r_none
  | succ nn ih =>
    intro a17_1 a17_2 g17
    rw [l_Mod_sills_17]
    refine r_iload_n (i := 11) rfl rfl rfl ?_
    refine r_bipush (i := 12) (48 : Int32) kc_bipush_48 rfl rfl ?_
    refine r_icmp_ge (i := 13) (tgt := 108) rfl rfl rfl ?_ ?_
    · refine r_iload_n (i := 58) rfl rfl rfl ?_
      exact r_retI (i := 59) rfl rfl rfl rfl
    · refine r_aload_n (i := 14) rfl rfl rfl ?_
      refine r_gI (i := 15) (ci := 12) (kf := 32) rfl (Nat.le_of_ble_eq_true rfl) wF_Mod_330 rfl rfl fun x24 => ?_
      refine r_istore_n (i := 16) rfl rfl (Nat.le_of_ble_eq_true rfl) rfl ?_
      refine r_aload_n (i := 17) rfl rfl rfl ?_
      refine r_VV0 (i := 18) (k2 := 0) (n2 := 0) ok_Mod_walk wM_Mod_345 (c_Mod_walk F) (fun _ e => fw_ckb e) (Nat.le_of_ble_eq_true rfl) (Nat.le_of_ble_eq_true rfl) (Nat.le_of_ble_eq_true rfl) (Nat.le_of_ble_eq_true rfl) rfl rfl fun h29 => ?_
      refine r_iconst (i := 19) (-1 : Int32) kc_iconst_m1 rfl rfl ?_
      refine r_istore (i := 20) rfl rfl (Nat.le_of_ble_eq_true rfl) rfl ?_
      refine r_aload_n (i := 21) rfl rfl rfl ?_
      refine r_gI (i := 22) (ci := 12) (kf := 25) rfl (Nat.le_of_ble_eq_true rfl) wF_Mod_253 rfl rfl fun x36 => ?_
      refine r_iconst (i := 23) (1 : Int32) kc_iconst_1 rfl rfl ?_
      refine r_isub (i := 24) rfl rfl ?_
      refine r_istore (i := 25) rfl rfl (Nat.le_of_ble_eq_true rfl) rfl ?_
      refine r_lv (fw_sub1 rfl (fw_sub1 rfl (fw_sub1 rfl (fw_sub1 rfl (fw_sub1 rfl (fw_sub1 rfl fw_sub0)))))) (cl_Mod_sills_43 ?_ F _ _)
      · intro e85_4
        refine r_iload_n (i := 45) rfl rfl rfl ?_
        refine r_iload (i := 46) rfl rfl rfl ?_
        refine r_iconst (i := 47) (-1 : Int32) kc_iconst_m1 rfl rfl ?_
        refine r_icmp_ne (i := 48) (tgt := 96) rfl rfl rfl ?_ ?_
        · refine r_iconst (i := 51) (1 : Int32) kc_iconst_1 rfl rfl ?_
          refine r_iload (i := 52) rfl rfl rfl ?_
          refine r_ishl (i := 53) rfl rfl ?_
          refine r_ior (i := 54) rfl rfl ?_
          refine r_istore_n (i := 55) rfl rfl (Nat.le_of_ble_eq_true rfl) rfl ?_
          refine r_iinc (i := 56) (1 : Int32) kc_iconst_1 rfl rfl rfl (Nat.le_of_ble_eq_true rfl) ?_
          refine r_goto (i := 57) (tgt := 17) rfl rfl rfl ?_
          exact r_lv (fw_sub1 rfl (fw_sub1 rfl (fw_sub1 rfl fw_sub0))) (ih (a17_1 ||| ((1 : Int32) <<< (e85_4 &&& 31))) (a17_2 + (1 : Int32)) h29)
        · refine r_iconst (i := 49) (0 : Int32) kc_iconst_0 rfl rfl ?_
          refine r_goto (i := 50) (tgt := 100) rfl rfl rfl ?_
          refine r_ior (i := 54) rfl rfl ?_
          refine r_istore_n (i := 55) rfl rfl (Nat.le_of_ble_eq_true rfl) rfl ?_
          refine r_iinc (i := 56) (1 : Int32) kc_iconst_1 rfl rfl rfl (Nat.le_of_ble_eq_true rfl) ?_
          refine r_goto (i := 57) (tgt := 17) rfl rfl rfl ?_
          exact r_lv (fw_sub1 rfl (fw_sub1 rfl (fw_sub1 rfl fw_sub0))) (ih (a17_1 ||| (0 : Int32)) (a17_2 + (1 : Int32)) h29)
def s_Mod_sills (F : Nat) (h : fw_H) (v0 : Option Nat) : Option (Int32 × fw_H) :=
(f_ck h v0 12).bind fun _ =>
(f_gI h v0 12 24).bind fun x1 =>
if ¬ x1 = (0 : Int32) then ((s_Mod_startWalk h v0).bind fun h12 =>
l_Mod_sills_17 F v0 F (0 : Int32) (0 : Int32) h12) else
some ((-1 : Int32), h)
theorem c_Mod_sills {G : fw_G} (F : Nat) {h : fw_H} {v0 : Option Nat} : fw_Call G m_Mod_sills fw_wI 8 0 0 [fw_r v0] h (s_Mod_sills F h v0) := by
  refine fw_Call.of ok_Mod_sills.1 (Nat.le_of_ble_eq_true rfl) [(0, some (fw_r v0))] rfl ?_
  refine r_ck ?_
  refine r_aload_n (i := 0) rfl rfl rfl ?_
  refine r_gI (i := 1) (ci := 12) (kf := 24) rfl (Nat.le_of_ble_eq_true rfl) wF_Mod_250 rfl rfl fun x1 => ?_
  refine r_if_ne (i := 2) (tgt := 9) rfl rfl rfl ?_ ?_
  · refine r_iconst (i := 5) (0 : Int32) kc_iconst_0 rfl rfl ?_
    refine r_istore_n (i := 6) rfl rfl (Nat.le_of_ble_eq_true rfl) rfl ?_
    refine r_aload_n (i := 7) rfl rfl rfl ?_
    refine r_VV0 (i := 8) (k2 := 0) (n2 := 0) ok_Mod_startWalk wM_Mod_342 (c_Mod_startWalk) (fun _ e => fw_ckb e) (Nat.le_of_ble_eq_true rfl) (Nat.le_of_ble_eq_true rfl) (Nat.le_of_ble_eq_true rfl) (Nat.le_of_ble_eq_true rfl) rfl rfl fun h12 => ?_
    refine r_iconst (i := 9) (0 : Int32) kc_iconst_0 rfl rfl ?_
    refine r_istore_n (i := 10) rfl rfl (Nat.le_of_ble_eq_true rfl) rfl ?_
    refine r_lv (fw_sub1 rfl (fw_sub1 rfl (fw_sub1 rfl fw_sub0))) (cl_Mod_sills_17 F _ _ _)
  · refine r_iconst (i := 3) (-1 : Int32) kc_iconst_m1 rfl rfl ?_
    exact r_retI (i := 4) rfl rfl rfl rfl
-- Mod_sees
def s_Mod_sees (F : Nat) (h : fw_H) (v0 : Option Nat) (v1 : Int32) : Option Int32 :=
(f_ck h v0 12).bind fun _ =>
(s_Mod_isHouse h v0 v1).bind fun x2 =>
if x2 = true then ((s_Mod_seenFrom F h v0 v1).bind fun x10 =>
some x10) else
some (-1 : Int32)
theorem c_Mod_sees {G : fw_G} (F : Nat) {h : fw_H} {v0 : Option Nat} {v1 : Int32} : fw_Call G m_Mod_sees (fw_eI h) 2 0 0 [fw_r v0, fw_i v1] h (s_Mod_sees F h v0 v1) := by
  refine fw_Call.of ok_Mod_sees.1 (Nat.le_of_ble_eq_true rfl) [(0, some (fw_r v0)), (1, some (fw_i v1))] rfl ?_
  refine r_ck ?_
  refine r_aload_n (i := 0) rfl rfl rfl ?_
  refine r_iload_n (i := 1) rfl rfl rfl ?_
  refine r_VB1 (i := 2) (k2 := 0) (n2 := 0) ok_Mod_isHouse wM_Mod_279 (c_Mod_isHouse) (fun _ e => fw_ckb e) (Nat.le_of_ble_eq_true rfl) (Nat.le_of_ble_eq_true rfl) (Nat.le_of_ble_eq_true rfl) (Nat.le_of_ble_eq_true rfl) rfl rfl fun x2 => ?_
  refine r_ifeqB (i := 3) (tgt := 16) rfl rfl rfl ?_ ?_
  · refine r_iconst (i := 8) (-1 : Int32) kc_iconst_m1 rfl rfl ?_
    exact r_retI (i := 9) rfl rfl rfl rfl
  · refine r_aload_n (i := 4) rfl rfl rfl ?_
    refine r_iload_n (i := 5) rfl rfl rfl ?_
    refine r_VI1 (i := 6) (k2 := 0) (n2 := 0) ok_Mod_seenFrom wM_Mod_295 (c_Mod_seenFrom F) (fun _ e => fw_ckb e) (Nat.le_of_ble_eq_true rfl) (Nat.le_of_ble_eq_true rfl) (Nat.le_of_ble_eq_true rfl) (Nat.le_of_ble_eq_true rfl) rfl rfl fun x10 => ?_
    refine r_goto (i := 7) (tgt := 17) rfl rfl rfl ?_
    exact r_retI (i := 9) rfl rfl rfl rfl
-- Mod_laughs
def l_Mod_laughs_4 (h : fw_H) (v0 : Option Nat) : Nat → Int32 → Int32 → Option Int32
  | 0, _, _ => none
  | nn + 1, a4_1, a4_2 =>
    (f_gI h v0 12 24).bind fun x6 =>
    if x6 ≤ a4_2 then (some a4_1) else
    (f_gR h v0 12 26).bind fun x14 =>
    (f_aI h x14 ((24 : Int32) + a4_2)).bind fun x21 =>
    l_Mod_laughs_4 h v0 nn (a4_1 + x21) (a4_2 + (1 : Int32))
theorem cl_Mod_laughs_4 {G : fw_G} {h : fw_H} {v0 : Option Nat} : ∀ (nn : Nat) (a4_1 : Int32) (a4_2 : Int32), fw_R G m_Mod_laughs (fw_eI h) 0 0 0 4 [(0, some (fw_r v0)), (1, some (fw_i a4_1)), (2, some (fw_i a4_2))] [] h (l_Mod_laughs_4 h v0 nn a4_1 a4_2) := by
  intro nn
  induction nn with
  | zero => intros; exact r_none
  | succ nn ih =>
    intro a4_1 a4_2
    rw [l_Mod_laughs_4]
    refine r_iload_n (i := 4) rfl rfl rfl ?_
    refine r_aload_n (i := 5) rfl rfl rfl ?_
    refine r_gI (i := 6) (ci := 12) (kf := 24) rfl (Nat.le_of_ble_eq_true rfl) wF_Mod_250 rfl rfl fun x6 => ?_
    refine r_icmp_ge (i := 7) (tgt := 30) rfl rfl rfl ?_ ?_
    · refine r_iload_n (i := 19) rfl rfl rfl ?_
      exact r_retI (i := 20) rfl rfl rfl rfl
    · refine r_iload_n (i := 8) rfl rfl rfl ?_
      refine r_aload_n (i := 9) rfl rfl rfl ?_
      refine r_gR (i := 10) (ci := 12) (kf := 26) rfl (Nat.le_of_ble_eq_true rfl) wF_Mod_55 rfl rfl fun x14 => ?_
      refine r_bipush (i := 11) (24 : Int32) kc_bipush_24 rfl rfl ?_
      refine r_iload_n (i := 12) rfl rfl rfl ?_
      refine r_iadd (i := 13) rfl rfl ?_
      refine r_aI (i := 14) rfl rfl fun x21 => ?_
      refine r_iadd (i := 15) rfl rfl ?_
      refine r_istore_n (i := 16) rfl rfl (Nat.le_of_ble_eq_true rfl) rfl ?_
      refine r_iinc (i := 17) (1 : Int32) kc_iconst_1 rfl rfl rfl (Nat.le_of_ble_eq_true rfl) ?_
      refine r_goto (i := 18) (tgt := 4) rfl rfl rfl ?_
      exact r_lv (fw_sub1 rfl (fw_sub1 rfl (fw_sub1 rfl fw_sub0))) (ih (a4_1 + x21) (a4_2 + (1 : Int32)))
def s_Mod_laughs (F : Nat) (h : fw_H) (v0 : Option Nat) : Option Int32 :=
(f_ck h v0 12).bind fun _ =>
l_Mod_laughs_4 h v0 F (0 : Int32) (0 : Int32)
theorem c_Mod_laughs {G : fw_G} (F : Nat) {h : fw_H} {v0 : Option Nat} : fw_Call G m_Mod_laughs (fw_eI h) 0 0 0 [fw_r v0] h (s_Mod_laughs F h v0) := by
  refine fw_Call.of ok_Mod_laughs.1 (Nat.le_of_ble_eq_true rfl) [(0, some (fw_r v0))] rfl ?_
  refine r_ck ?_
  refine r_iconst (i := 0) (0 : Int32) kc_iconst_0 rfl rfl ?_
  refine r_istore_n (i := 1) rfl rfl (Nat.le_of_ble_eq_true rfl) rfl ?_
  refine r_iconst (i := 2) (0 : Int32) kc_iconst_0 rfl rfl ?_
  refine r_istore_n (i := 3) rfl rfl (Nat.le_of_ble_eq_true rfl) rfl ?_
  refine r_lv (fw_sub1 rfl (fw_sub1 rfl (fw_sub1 rfl fw_sub0))) (cl_Mod_laughs_4 F _ _)
-- Mod_most
def l_Mod_most_15 (h : fw_H) (v0 : Option Nat) : Nat → Int32 → Int32 → Option Int32
  | 0, _, _ => none
  | nn + 1, a15_1, a15_2 =>
    (f_gI h v0 12 24).bind fun x17 =>
    if x17 ≤ a15_2 then (some a15_1) else
    (f_gR h v0 12 26).bind fun x24 =>
    (f_aI h x24 ((24 : Int32) + a15_2)).bind fun x31 =>
    (f_gR h v0 12 26).bind fun x33 =>
    (f_aI h x33 ((24 : Int32) + a15_1)).bind fun x40 =>
    if x31 ≤ x40 then (l_Mod_most_15 h v0 nn a15_1 (a15_2 + (1 : Int32))) else
    l_Mod_most_15 h v0 nn a15_2 (a15_2 + (1 : Int32))
theorem cl_Mod_most_15 {G : fw_G} {h : fw_H} {v0 : Option Nat} : ∀ (nn : Nat) (a15_1 : Int32) (a15_2 : Int32), fw_R G m_Mod_most (fw_eI h) 0 0 0 15 [(0, some (fw_r v0)), (1, some (fw_i a15_1)), (2, some (fw_i a15_2))] [] h (l_Mod_most_15 h v0 nn a15_1 a15_2) := by
  intro nn
  induction nn with
  | zero => intros; exact r_none
  | succ nn ih =>
    intro a15_1 a15_2
    rw [l_Mod_most_15]
    refine r_iload_n (i := 9) rfl rfl rfl ?_
    refine r_aload_n (i := 10) rfl rfl rfl ?_
    refine r_gI (i := 11) (ci := 12) (kf := 24) rfl (Nat.le_of_ble_eq_true rfl) wF_Mod_250 rfl rfl fun x17 => ?_
    refine r_icmp_ge (i := 12) (tgt := 56) rfl rfl rfl ?_ ?_
    · refine r_iload_n (i := 32) rfl rfl rfl ?_
      exact r_retI (i := 33) rfl rfl rfl rfl
    · refine r_aload_n (i := 13) rfl rfl rfl ?_
      refine r_gR (i := 14) (ci := 12) (kf := 26) rfl (Nat.le_of_ble_eq_true rfl) wF_Mod_55 rfl rfl fun x24 => ?_
      refine r_bipush (i := 15) (24 : Int32) kc_bipush_24 rfl rfl ?_
      refine r_iload_n (i := 16) rfl rfl rfl ?_
      refine r_iadd (i := 17) rfl rfl ?_
      refine r_aI (i := 18) rfl rfl fun x31 => ?_
      refine r_aload_n (i := 19) rfl rfl rfl ?_
      refine r_gR (i := 20) (ci := 12) (kf := 26) rfl (Nat.le_of_ble_eq_true rfl) wF_Mod_55 rfl rfl fun x33 => ?_
      refine r_bipush (i := 21) (24 : Int32) kc_bipush_24 rfl rfl ?_
      refine r_iload_n (i := 22) rfl rfl rfl ?_
      refine r_iadd (i := 23) rfl rfl ?_
      refine r_aI (i := 24) rfl rfl fun x40 => ?_
      refine r_icmp_le (i := 25) (tgt := 48) rfl rfl rfl ?_ ?_
      · refine r_iload_n (i := 28) rfl rfl rfl ?_
        refine r_istore_n (i := 29) rfl rfl (Nat.le_of_ble_eq_true rfl) rfl ?_
        refine r_iinc (i := 30) (1 : Int32) kc_iconst_1 rfl rfl rfl (Nat.le_of_ble_eq_true rfl) ?_
        refine r_goto (i := 31) (tgt := 15) rfl rfl rfl ?_
        exact r_lv (fw_sub1 rfl (fw_sub1 rfl (fw_sub1 rfl fw_sub0))) (ih a15_1 (a15_2 + (1 : Int32)))
      · refine r_iload_n (i := 26) rfl rfl rfl ?_
        refine r_goto (i := 27) (tgt := 49) rfl rfl rfl ?_
        refine r_istore_n (i := 29) rfl rfl (Nat.le_of_ble_eq_true rfl) rfl ?_
        refine r_iinc (i := 30) (1 : Int32) kc_iconst_1 rfl rfl rfl (Nat.le_of_ble_eq_true rfl) ?_
        refine r_goto (i := 31) (tgt := 15) rfl rfl rfl ?_
        exact r_lv (fw_sub1 rfl (fw_sub1 rfl (fw_sub1 rfl fw_sub0))) (ih a15_2 (a15_2 + (1 : Int32)))
def s_Mod_most (F : Nat) (h : fw_H) (v0 : Option Nat) : Option Int32 :=
(f_ck h v0 12).bind fun _ =>
(f_gI h v0 12 24).bind fun x1 =>
fw_jn (fun (t12_0 : Int32) =>
l_Mod_most_15 h v0 F t12_0 (1 : Int32)) fun J12 =>
if ¬ x1 = (0 : Int32) then (J12 (0 : Int32)) else
J12 (-1 : Int32)
theorem c_Mod_most {G : fw_G} (F : Nat) {h : fw_H} {v0 : Option Nat} : fw_Call G m_Mod_most (fw_eI h) 0 0 0 [fw_r v0] h (s_Mod_most F h v0) := by
  refine fw_Call.of ok_Mod_most.1 (Nat.le_of_ble_eq_true rfl) [(0, some (fw_r v0))] rfl ?_
  refine r_ck ?_
  refine r_aload_n (i := 0) rfl rfl rfl ?_
  refine r_gI (i := 1) (ci := 12) (kf := 24) rfl (Nat.le_of_ble_eq_true rfl) wF_Mod_250 rfl rfl fun x1 => ?_
  refine r_join (P := fun J12 => ∀ (t12_0 : Int32), fw_R G m_Mod_most (fw_eI h) 0 (0) (0) 12 [(0, some (fw_r v0))] [fw_i t12_0] h (J12 t12_0)) ?_ (fun J12 hJ12 => ?_)
  · intro t12_0
    refine r_istore_n (i := 6) rfl rfl (Nat.le_of_ble_eq_true rfl) rfl ?_
    refine r_iconst (i := 7) (1 : Int32) kc_iconst_1 rfl rfl ?_
    refine r_istore_n (i := 8) rfl rfl (Nat.le_of_ble_eq_true rfl) rfl ?_
    refine r_lv (fw_sub1 rfl (fw_sub1 rfl (fw_sub1 rfl fw_sub0))) (cl_Mod_most_15 F _ _)
  · refine r_if_ne (i := 2) (tgt := 11) rfl rfl rfl ?_ ?_
    · refine r_iconst (i := 5) (0 : Int32) kc_iconst_0 rfl rfl ?_
      exact r_lv (fw_sub1 rfl fw_sub0) (hJ12 (0 : Int32))
    · refine r_iconst (i := 3) (-1 : Int32) kc_iconst_m1 rfl rfl ?_
      refine r_goto (i := 4) (tgt := 12) rfl rfl rfl ?_
      exact r_lv (fw_sub1 rfl fw_sub0) (hJ12 (-1 : Int32))
-- Mod_widows
def l_Mod_widows_13 (h : fw_H) (v0 : Option Nat) : Nat → Int32 → Int32 → Option Int32
  | 0, _, _ => none
  | nn + 1, a13_1, a13_2 =>
    (f_gI h v0 12 24).bind fun x15 =>
    if x15 ≤ a13_2 then (some a13_1) else
    (f_gR h v0 12 26).bind fun x23 =>
    (f_aI h x23 ((24 : Int32) + a13_2)).bind fun x30 =>
    if ¬ x30 = (0 : Int32) then (l_Mod_widows_13 h v0 nn (a13_1 ||| (0 : Int32)) (a13_2 + (1 : Int32))) else
    l_Mod_widows_13 h v0 nn (a13_1 ||| ((1 : Int32) <<< (a13_2 &&& 31))) (a13_2 + (1 : Int32))
theorem cl_Mod_widows_13 {G : fw_G} {h : fw_H} {v0 : Option Nat} : ∀ (nn : Nat) (a13_1 : Int32) (a13_2 : Int32), fw_R G m_Mod_widows (fw_eI h) 0 0 0 13 [(0, some (fw_r v0)), (1, some (fw_i a13_1)), (2, some (fw_i a13_2))] [] h (l_Mod_widows_13 h v0 nn a13_1 a13_2) := by
  intro nn
  induction nn with
  | zero => intros; exact r_none
  | succ nn ih =>
    intro a13_1 a13_2
    rw [l_Mod_widows_13]
    refine r_iload_n (i := 9) rfl rfl rfl ?_
    refine r_aload_n (i := 10) rfl rfl rfl ?_
    refine r_gI (i := 11) (ci := 12) (kf := 24) rfl (Nat.le_of_ble_eq_true rfl) wF_Mod_250 rfl rfl fun x15 => ?_
    refine r_icmp_ge (i := 12) (tgt := 49) rfl rfl rfl ?_ ?_
    · refine r_iload_n (i := 30) rfl rfl rfl ?_
      exact r_retI (i := 31) rfl rfl rfl rfl
    · refine r_iload_n (i := 13) rfl rfl rfl ?_
      refine r_aload_n (i := 14) rfl rfl rfl ?_
      refine r_gR (i := 15) (ci := 12) (kf := 26) rfl (Nat.le_of_ble_eq_true rfl) wF_Mod_55 rfl rfl fun x23 => ?_
      refine r_bipush (i := 16) (24 : Int32) kc_bipush_24 rfl rfl ?_
      refine r_iload_n (i := 17) rfl rfl rfl ?_
      refine r_iadd (i := 18) rfl rfl ?_
      refine r_aI (i := 19) rfl rfl fun x30 => ?_
      refine r_if_ne (i := 20) (tgt := 40) rfl rfl rfl ?_ ?_
      · refine r_iconst (i := 25) (0 : Int32) kc_iconst_0 rfl rfl ?_
        refine r_ior (i := 26) rfl rfl ?_
        refine r_istore_n (i := 27) rfl rfl (Nat.le_of_ble_eq_true rfl) rfl ?_
        refine r_iinc (i := 28) (1 : Int32) kc_iconst_1 rfl rfl rfl (Nat.le_of_ble_eq_true rfl) ?_
        refine r_goto (i := 29) (tgt := 13) rfl rfl rfl ?_
        exact r_lv (fw_sub1 rfl (fw_sub1 rfl (fw_sub1 rfl fw_sub0))) (ih (a13_1 ||| (0 : Int32)) (a13_2 + (1 : Int32)))
      · refine r_iconst (i := 21) (1 : Int32) kc_iconst_1 rfl rfl ?_
        refine r_iload_n (i := 22) rfl rfl rfl ?_
        refine r_ishl (i := 23) rfl rfl ?_
        refine r_goto (i := 24) (tgt := 41) rfl rfl rfl ?_
        refine r_ior (i := 26) rfl rfl ?_
        refine r_istore_n (i := 27) rfl rfl (Nat.le_of_ble_eq_true rfl) rfl ?_
        refine r_iinc (i := 28) (1 : Int32) kc_iconst_1 rfl rfl rfl (Nat.le_of_ble_eq_true rfl) ?_
        refine r_goto (i := 29) (tgt := 13) rfl rfl rfl ?_
        exact r_lv (fw_sub1 rfl (fw_sub1 rfl (fw_sub1 rfl fw_sub0))) (ih (a13_1 ||| ((1 : Int32) <<< (a13_2 &&& 31))) (a13_2 + (1 : Int32)))
def s_Mod_widows (F : Nat) (h : fw_H) (v0 : Option Nat) : Option Int32 :=
(f_ck h v0 12).bind fun _ =>
(f_gI h v0 12 24).bind fun x1 =>
if ¬ x1 = (0 : Int32) then (l_Mod_widows_13 h v0 F (0 : Int32) (0 : Int32)) else
some (-1 : Int32)
theorem c_Mod_widows {G : fw_G} (F : Nat) {h : fw_H} {v0 : Option Nat} : fw_Call G m_Mod_widows (fw_eI h) 0 0 0 [fw_r v0] h (s_Mod_widows F h v0) := by
  refine fw_Call.of ok_Mod_widows.1 (Nat.le_of_ble_eq_true rfl) [(0, some (fw_r v0))] rfl ?_
  refine r_ck ?_
  refine r_aload_n (i := 0) rfl rfl rfl ?_
  refine r_gI (i := 1) (ci := 12) (kf := 24) rfl (Nat.le_of_ble_eq_true rfl) wF_Mod_250 rfl rfl fun x1 => ?_
  refine r_if_ne (i := 2) (tgt := 9) rfl rfl rfl ?_ ?_
  · refine r_iconst (i := 5) (0 : Int32) kc_iconst_0 rfl rfl ?_
    refine r_istore_n (i := 6) rfl rfl (Nat.le_of_ble_eq_true rfl) rfl ?_
    refine r_iconst (i := 7) (0 : Int32) kc_iconst_0 rfl rfl ?_
    refine r_istore_n (i := 8) rfl rfl (Nat.le_of_ble_eq_true rfl) rfl ?_
    refine r_lv (fw_sub1 rfl (fw_sub1 rfl (fw_sub1 rfl fw_sub0))) (cl_Mod_widows_13 F _ _)
  · refine r_iconst (i := 3) (-1 : Int32) kc_iconst_m1 rfl rfl ?_
    exact r_retI (i := 4) rfl rfl rfl rfl
-- Mod_image
def l_Mod_image_11 (v0 : Option Nat) : Nat → Int32 → fw_H → Option (Int32 × fw_H)
  | 0, _, _ => none
  | nn + 1, a11_1, g11 =>
    if (118 : Int32) ≤ a11_1 then ((f_pB g11 v0 12 49 true).bind fun h37 =>
    (f_gR h37 v0 12 26).bind fun x41 =>
    (f_aI h37 x41 (56 : Int32)).bind fun x46 =>
    some (x46, h37)) else
    (f_gR g11 v0 12 48).bind fun x18 =>
    (f_gR g11 v0 12 26).bind fun x23 =>
    (f_aI g11 x23 a11_1).bind fun x27 =>
    (f_sI g11 x18 a11_1 x27).bind fun h28 =>
    l_Mod_image_11 v0 nn (a11_1 + (1 : Int32)) h28
theorem cl_Mod_image_11 {G : fw_G} {v0 : Option Nat} : ∀ (nn : Nat) (a11_1 : Int32) (g11 : fw_H), fw_R G m_Mod_image fw_wI 0 0 0 11 [(0, some (fw_r v0)), (1, some (fw_i a11_1))] [] g11 (l_Mod_image_11 v0 nn a11_1 g11) := by
  intro nn
  induction nn with
  | zero => intros; exact r_none
  | succ nn ih =>
    intro a11_1 g11
    rw [l_Mod_image_11]
    refine r_iload_n (i := 7) rfl rfl rfl ?_
    refine r_bipush (i := 8) (118 : Int32) kc_bipush_118 rfl rfl ?_
    refine r_icmp_ge (i := 9) (tgt := 35) rfl rfl rfl ?_ ?_
    · refine r_aload_n (i := 20) rfl rfl rfl ?_
      refine r_iconst (i := 21) (1 : Int32) kc_iconst_1 rfl rfl ?_
      refine r_pB (y := true) (i := 22) (ci := 12) (kf := 49) rfl (Nat.le_of_ble_eq_true rfl) wF_Mod_265 rfl (tyX12_ok 49 (Nat.le_of_ble_eq_true rfl)) rfl rfl fun h37 => ?_
      refine r_aload_n (i := 23) rfl rfl rfl ?_
      refine r_gR (i := 24) (ci := 12) (kf := 26) rfl (Nat.le_of_ble_eq_true rfl) wF_Mod_55 rfl rfl fun x41 => ?_
      refine r_bipush (i := 25) (56 : Int32) kc_bipush_56 rfl rfl ?_
      refine r_aI (i := 26) rfl rfl fun x46 => ?_
      exact r_retI (i := 27) rfl rfl rfl rfl
    · refine r_aload_n (i := 10) rfl rfl rfl ?_
      refine r_gR (i := 11) (ci := 12) (kf := 48) rfl (Nat.le_of_ble_eq_true rfl) wF_Mod_93 rfl rfl fun x18 => ?_
      refine r_iload_n (i := 12) rfl rfl rfl ?_
      refine r_aload_n (i := 13) rfl rfl rfl ?_
      refine r_gR (i := 14) (ci := 12) (kf := 26) rfl (Nat.le_of_ble_eq_true rfl) wF_Mod_55 rfl rfl fun x23 => ?_
      refine r_iload_n (i := 15) rfl rfl rfl ?_
      refine r_aI (i := 16) rfl rfl fun x27 => ?_
      refine r_sI (i := 17) rfl rfl fun h28 => ?_
      refine r_iinc (i := 18) (1 : Int32) kc_iconst_1 rfl rfl rfl (Nat.le_of_ble_eq_true rfl) ?_
      refine r_goto (i := 19) (tgt := 11) rfl rfl rfl ?_
      exact r_lv (fw_sub1 rfl (fw_sub1 rfl fw_sub0)) (ih (a11_1 + (1 : Int32)) h28)
def s_Mod_image (F : Nat) (h : fw_H) (v0 : Option Nat) : Option (Int32 × fw_H) :=
(f_ck h v0 12).bind fun _ =>
(f_gI h v0 12 24).bind fun x1 =>
if ¬ x1 = (0 : Int32) then (l_Mod_image_11 v0 F (0 : Int32) h) else
some ((-1 : Int32), h)
theorem c_Mod_image {G : fw_G} (F : Nat) {h : fw_H} {v0 : Option Nat} : fw_Call G m_Mod_image fw_wI 0 0 0 [fw_r v0] h (s_Mod_image F h v0) := by
  refine fw_Call.of ok_Mod_image.1 (Nat.le_of_ble_eq_true rfl) [(0, some (fw_r v0))] rfl ?_
  refine r_ck ?_
  refine r_aload_n (i := 0) rfl rfl rfl ?_
  refine r_gI (i := 1) (ci := 12) (kf := 24) rfl (Nat.le_of_ble_eq_true rfl) wF_Mod_250 rfl rfl fun x1 => ?_
  refine r_if_ne (i := 2) (tgt := 9) rfl rfl rfl ?_ ?_
  · refine r_iconst (i := 5) (0 : Int32) kc_iconst_0 rfl rfl ?_
    refine r_istore_n (i := 6) rfl rfl (Nat.le_of_ble_eq_true rfl) rfl ?_
    refine r_lv (fw_sub1 rfl (fw_sub1 rfl fw_sub0)) (cl_Mod_image_11 F _ _)
  · refine r_iconst (i := 3) (-1 : Int32) kc_iconst_m1 rfl rfl ?_
    exact r_retI (i := 4) rfl rfl rfl rfl
-- Mod_back
def l_Mod_back_11 (v0 : Option Nat) : Nat → Int32 → fw_H → Option (Int32 × fw_H)
  | 0, _, _ => none
  | nn + 1, a11_1, g11 =>
    if (118 : Int32) ≤ a11_1 then ((f_pI g11 v0 12 31 (0 : Int32)).bind fun h37 =>
    (f_gR h37 v0 12 26).bind fun x41 =>
    (f_aI h37 x41 (56 : Int32)).bind fun x46 =>
    some (x46, h37)) else
    (f_gR g11 v0 12 26).bind fun x18 =>
    (f_gR g11 v0 12 48).bind fun x23 =>
    (f_aI g11 x23 a11_1).bind fun x27 =>
    (f_sI g11 x18 a11_1 x27).bind fun h28 =>
    l_Mod_back_11 v0 nn (a11_1 + (1 : Int32)) h28
theorem cl_Mod_back_11 {G : fw_G} {v0 : Option Nat} : ∀ (nn : Nat) (a11_1 : Int32) (g11 : fw_H), fw_R G m_Mod_back fw_wI 0 0 0 11 [(0, some (fw_r v0)), (1, some (fw_i a11_1))] [] g11 (l_Mod_back_11 v0 nn a11_1 g11) := by
  intro nn
  induction nn with
  | zero => intros; exact r_none
  | succ nn ih =>
    intro a11_1 g11
    rw [l_Mod_back_11]
    refine r_iload_n (i := 7) rfl rfl rfl ?_
    refine r_bipush (i := 8) (118 : Int32) kc_bipush_118 rfl rfl ?_
    refine r_icmp_ge (i := 9) (tgt := 35) rfl rfl rfl ?_ ?_
    · refine r_aload_n (i := 20) rfl rfl rfl ?_
      refine r_iconst (i := 21) (0 : Int32) kc_iconst_0 rfl rfl ?_
      refine r_pI (i := 22) (ci := 12) (kf := 31) rfl (Nat.le_of_ble_eq_true rfl) wF_Mod_262 rfl (tyX12_ok 31 (Nat.le_of_ble_eq_true rfl)) rfl rfl fun h37 => ?_
      refine r_aload_n (i := 23) rfl rfl rfl ?_
      refine r_gR (i := 24) (ci := 12) (kf := 26) rfl (Nat.le_of_ble_eq_true rfl) wF_Mod_55 rfl rfl fun x41 => ?_
      refine r_bipush (i := 25) (56 : Int32) kc_bipush_56 rfl rfl ?_
      refine r_aI (i := 26) rfl rfl fun x46 => ?_
      exact r_retI (i := 27) rfl rfl rfl rfl
    · refine r_aload_n (i := 10) rfl rfl rfl ?_
      refine r_gR (i := 11) (ci := 12) (kf := 26) rfl (Nat.le_of_ble_eq_true rfl) wF_Mod_55 rfl rfl fun x18 => ?_
      refine r_iload_n (i := 12) rfl rfl rfl ?_
      refine r_aload_n (i := 13) rfl rfl rfl ?_
      refine r_gR (i := 14) (ci := 12) (kf := 48) rfl (Nat.le_of_ble_eq_true rfl) wF_Mod_93 rfl rfl fun x23 => ?_
      refine r_iload_n (i := 15) rfl rfl rfl ?_
      refine r_aI (i := 16) rfl rfl fun x27 => ?_
      refine r_sI (i := 17) rfl rfl fun h28 => ?_
      refine r_iinc (i := 18) (1 : Int32) kc_iconst_1 rfl rfl rfl (Nat.le_of_ble_eq_true rfl) ?_
      refine r_goto (i := 19) (tgt := 11) rfl rfl rfl ?_
      exact r_lv (fw_sub1 rfl (fw_sub1 rfl fw_sub0)) (ih (a11_1 + (1 : Int32)) h28)
def s_Mod_back (F : Nat) (h : fw_H) (v0 : Option Nat) : Option (Int32 × fw_H) :=
(f_ck h v0 12).bind fun _ =>
(f_gB h v0 12 49).bind fun x1 =>
if x1 = true then (l_Mod_back_11 v0 F (0 : Int32) h) else
some ((-1 : Int32), h)
theorem c_Mod_back {G : fw_G} (F : Nat) {h : fw_H} {v0 : Option Nat} : fw_Call G m_Mod_back fw_wI 0 0 0 [fw_r v0] h (s_Mod_back F h v0) := by
  refine fw_Call.of ok_Mod_back.1 (Nat.le_of_ble_eq_true rfl) [(0, some (fw_r v0))] rfl ?_
  refine r_ck ?_
  refine r_aload_n (i := 0) rfl rfl rfl ?_
  refine r_gB (i := 1) (ci := 12) (kf := 49) rfl (Nat.le_of_ble_eq_true rfl) wF_Mod_265 rfl rfl fun x1 => ?_
  refine r_ifneB (i := 2) (tgt := 9) rfl rfl rfl ?_ ?_
  · refine r_iconst (i := 5) (0 : Int32) kc_iconst_0 rfl rfl ?_
    refine r_istore_n (i := 6) rfl rfl (Nat.le_of_ble_eq_true rfl) rfl ?_
    refine r_lv (fw_sub1 rfl (fw_sub1 rfl fw_sub0)) (cl_Mod_back_11 F _ _)
  · refine r_iconst (i := 3) (-1 : Int32) kc_iconst_m1 rfl rfl ?_
    exact r_retI (i := 4) rfl rfl rfl rfl
-- Mod_count
def s_Mod_count (F : Nat) (h : fw_H) (v0 : Option Nat) (v1 : Int32) : Option Int32 :=
(f_ck h v0 12).bind fun _ =>
if v1 = (0 : Int32) then ((f_gI h v0 12 24).bind fun x77 =>
some x77) else
if v1 = (1 : Int32) then ((f_gI h v0 12 25).bind fun x82 =>
some x82) else
if v1 = (2 : Int32) then ((f_gI h v0 12 13).bind fun x87 =>
some x87) else
if v1 = (3 : Int32) then ((f_gI h v0 12 2).bind fun x92 =>
some x92) else
if v1 = (4 : Int32) then ((f_gI h v0 12 28).bind fun x97 =>
some x97) else
if v1 = (5 : Int32) then ((f_gR h v0 12 26).bind fun x102 =>
(f_aI h x102 (56 : Int32)).bind fun x107 =>
some x107) else
if v1 = (6 : Int32) then ((f_gI h v0 12 24).bind fun x110 =>
if x110 ≤ (0 : Int32) then (some (-1 : Int32)) else
(f_gR h v0 12 26).bind fun x117 =>
(f_aI h x117 (54 : Int32)).bind fun x122 =>
some x122) else
if v1 = (7 : Int32) then ((f_gI h v0 12 24).bind fun x129 =>
if x129 ≤ (0 : Int32) then (some (-1 : Int32)) else
(f_gR h v0 12 26).bind fun x136 =>
(f_aI h x136 (55 : Int32)).bind fun x141 =>
some x141) else
if v1 = (8 : Int32) then ((f_gR h v0 12 26).bind fun x148 =>
(f_aI h x148 (52 : Int32)).bind fun x153 =>
some x153) else
if v1 = (9 : Int32) then ((f_gR h v0 12 26).bind fun x156 =>
(f_aI h x156 (53 : Int32)).bind fun x161 =>
some x161) else
if v1 = (10 : Int32) then ((s_Mod_laughs F h v0).bind fun x164 =>
some x164) else
if v1 = (11 : Int32) then ((f_gI h v0 12 29).bind fun x169 =>
some x169) else
if v1 = (12 : Int32) then ((f_gI h v0 12 47).bind fun x174 =>
some x174) else
if v1 = (13 : Int32) then ((f_gR h v0 12 26).bind fun x179 =>
(f_aI h x179 (57 : Int32)).bind fun x184 =>
some x184) else
if v1 = (14 : Int32) then ((f_gI h v0 12 31).bind fun x187 =>
some x187) else
some (-1000000 : Int32)
theorem c_Mod_count {G : fw_G} (F : Nat) {h : fw_H} {v0 : Option Nat} {v1 : Int32} : fw_Call G m_Mod_count (fw_eI h) 1 0 0 [fw_r v0, fw_i v1] h (s_Mod_count F h v0 v1) := by
  refine fw_Call.of ok_Mod_count.1 (Nat.le_of_ble_eq_true rfl) [(0, some (fw_r v0)), (1, some (fw_i v1))] rfl ?_
  refine r_ck ?_
  refine r_iload_n (i := 0) rfl rfl rfl ?_
  refine r_split (fun e1_0 => ?_) (fun n1_0 => ?_)
  · refine r_tinK (i := 1) (tgt := 76) (len := 75) (v := (0 : Int32)) (off := 75) e1_0 rfl rfl (by decide) (by decide) rfl ?_
    refine r_aload_n (i := 2) rfl rfl rfl ?_
    refine r_gI (i := 3) (ci := 12) (kf := 24) rfl (Nat.le_of_ble_eq_true rfl) wF_Mod_250 rfl rfl fun x77 => ?_
    exact r_retI (i := 4) rfl rfl rfl rfl
  · refine r_split (fun e1_1 => ?_) (fun n1_1 => ?_)
    · refine r_tinK (i := 1) (tgt := 81) (len := 75) (v := (1 : Int32)) (off := 80) e1_1 rfl rfl (by decide) (by decide) rfl ?_
      refine r_aload_n (i := 5) rfl rfl rfl ?_
      refine r_gI (i := 6) (ci := 12) (kf := 25) rfl (Nat.le_of_ble_eq_true rfl) wF_Mod_253 rfl rfl fun x82 => ?_
      exact r_retI (i := 7) rfl rfl rfl rfl
    · refine r_split (fun e1_2 => ?_) (fun n1_2 => ?_)
      · refine r_tinK (i := 1) (tgt := 86) (len := 75) (v := (2 : Int32)) (off := 85) e1_2 rfl rfl (by decide) (by decide) rfl ?_
        refine r_aload_n (i := 8) rfl rfl rfl ?_
        refine r_gI (i := 9) (ci := 12) (kf := 13) rfl (Nat.le_of_ble_eq_true rfl) wF_Mod_272 rfl rfl fun x87 => ?_
        exact r_retI (i := 10) rfl rfl rfl rfl
      · refine r_split (fun e1_3 => ?_) (fun n1_3 => ?_)
        · refine r_tinK (i := 1) (tgt := 91) (len := 75) (v := (3 : Int32)) (off := 90) e1_3 rfl rfl (by decide) (by decide) rfl ?_
          refine r_aload_n (i := 11) rfl rfl rfl ?_
          refine r_gI (i := 12) (ci := 12) (kf := 2) rfl (Nat.le_of_ble_eq_true rfl) wF_Mod_103 rfl rfl fun x92 => ?_
          exact r_retI (i := 13) rfl rfl rfl rfl
        · refine r_split (fun e1_4 => ?_) (fun n1_4 => ?_)
          · refine r_tinK (i := 1) (tgt := 96) (len := 75) (v := (4 : Int32)) (off := 95) e1_4 rfl rfl (by decide) (by decide) rfl ?_
            refine r_aload_n (i := 14) rfl rfl rfl ?_
            refine r_gI (i := 15) (ci := 12) (kf := 28) rfl (Nat.le_of_ble_eq_true rfl) wF_Mod_61 rfl rfl fun x97 => ?_
            exact r_retI (i := 16) rfl rfl rfl rfl
          · refine r_split (fun e1_5 => ?_) (fun n1_5 => ?_)
            · refine r_tinK (i := 1) (tgt := 101) (len := 75) (v := (5 : Int32)) (off := 100) e1_5 rfl rfl (by decide) (by decide) rfl ?_
              refine r_aload_n (i := 17) rfl rfl rfl ?_
              refine r_gR (i := 18) (ci := 12) (kf := 26) rfl (Nat.le_of_ble_eq_true rfl) wF_Mod_55 rfl rfl fun x102 => ?_
              refine r_bipush (i := 19) (56 : Int32) kc_bipush_56 rfl rfl ?_
              refine r_aI (i := 20) rfl rfl fun x107 => ?_
              exact r_retI (i := 21) rfl rfl rfl rfl
            · refine r_split (fun e1_6 => ?_) (fun n1_6 => ?_)
              · refine r_tinK (i := 1) (tgt := 109) (len := 75) (v := (6 : Int32)) (off := 108) e1_6 rfl rfl (by decide) (by decide) rfl ?_
                refine r_aload_n (i := 22) rfl rfl rfl ?_
                refine r_gI (i := 23) (ci := 12) (kf := 24) rfl (Nat.le_of_ble_eq_true rfl) wF_Mod_250 rfl rfl fun x110 => ?_
                refine r_if_le (i := 24) (tgt := 126) rfl rfl rfl ?_ ?_
                · refine r_iconst (i := 30) (-1 : Int32) kc_iconst_m1 rfl rfl ?_
                  exact r_retI (i := 31) rfl rfl rfl rfl
                · refine r_aload_n (i := 25) rfl rfl rfl ?_
                  refine r_gR (i := 26) (ci := 12) (kf := 26) rfl (Nat.le_of_ble_eq_true rfl) wF_Mod_55 rfl rfl fun x117 => ?_
                  refine r_bipush (i := 27) (54 : Int32) kc_bipush_54 rfl rfl ?_
                  refine r_aI (i := 28) rfl rfl fun x122 => ?_
                  refine r_goto (i := 29) (tgt := 127) rfl rfl rfl ?_
                  exact r_retI (i := 31) rfl rfl rfl rfl
              · refine r_split (fun e1_7 => ?_) (fun n1_7 => ?_)
                · refine r_tinK (i := 1) (tgt := 128) (len := 75) (v := (7 : Int32)) (off := 127) e1_7 rfl rfl (by decide) (by decide) rfl ?_
                  refine r_aload_n (i := 32) rfl rfl rfl ?_
                  refine r_gI (i := 33) (ci := 12) (kf := 24) rfl (Nat.le_of_ble_eq_true rfl) wF_Mod_250 rfl rfl fun x129 => ?_
                  refine r_if_le (i := 34) (tgt := 145) rfl rfl rfl ?_ ?_
                  · refine r_iconst (i := 40) (-1 : Int32) kc_iconst_m1 rfl rfl ?_
                    exact r_retI (i := 41) rfl rfl rfl rfl
                  · refine r_aload_n (i := 35) rfl rfl rfl ?_
                    refine r_gR (i := 36) (ci := 12) (kf := 26) rfl (Nat.le_of_ble_eq_true rfl) wF_Mod_55 rfl rfl fun x136 => ?_
                    refine r_bipush (i := 37) (55 : Int32) kc_bipush_55 rfl rfl ?_
                    refine r_aI (i := 38) rfl rfl fun x141 => ?_
                    refine r_goto (i := 39) (tgt := 146) rfl rfl rfl ?_
                    exact r_retI (i := 41) rfl rfl rfl rfl
                · refine r_split (fun e1_8 => ?_) (fun n1_8 => ?_)
                  · refine r_tinK (i := 1) (tgt := 147) (len := 75) (v := (8 : Int32)) (off := 146) e1_8 rfl rfl (by decide) (by decide) rfl ?_
                    refine r_aload_n (i := 42) rfl rfl rfl ?_
                    refine r_gR (i := 43) (ci := 12) (kf := 26) rfl (Nat.le_of_ble_eq_true rfl) wF_Mod_55 rfl rfl fun x148 => ?_
                    refine r_bipush (i := 44) (52 : Int32) kc_bipush_52 rfl rfl ?_
                    refine r_aI (i := 45) rfl rfl fun x153 => ?_
                    exact r_retI (i := 46) rfl rfl rfl rfl
                  · refine r_split (fun e1_9 => ?_) (fun n1_9 => ?_)
                    · refine r_tinK (i := 1) (tgt := 155) (len := 75) (v := (9 : Int32)) (off := 154) e1_9 rfl rfl (by decide) (by decide) rfl ?_
                      refine r_aload_n (i := 47) rfl rfl rfl ?_
                      refine r_gR (i := 48) (ci := 12) (kf := 26) rfl (Nat.le_of_ble_eq_true rfl) wF_Mod_55 rfl rfl fun x156 => ?_
                      refine r_bipush (i := 49) (53 : Int32) kc_bipush_53 rfl rfl ?_
                      refine r_aI (i := 50) rfl rfl fun x161 => ?_
                      exact r_retI (i := 51) rfl rfl rfl rfl
                    · refine r_split (fun e1_10 => ?_) (fun n1_10 => ?_)
                      · refine r_tinK (i := 1) (tgt := 163) (len := 75) (v := (10 : Int32)) (off := 162) e1_10 rfl rfl (by decide) (by decide) rfl ?_
                        refine r_aload_n (i := 52) rfl rfl rfl ?_
                        refine r_VI0 (i := 53) (k2 := 0) (n2 := 0) ok_Mod_laughs wM_Mod_419 (c_Mod_laughs F) (fun _ e => fw_ckb e) (Nat.le_of_ble_eq_true rfl) (Nat.le_of_ble_eq_true rfl) (Nat.le_of_ble_eq_true rfl) (Nat.le_of_ble_eq_true rfl) rfl rfl fun x164 => ?_
                        exact r_retI (i := 54) rfl rfl rfl rfl
                      · refine r_split (fun e1_11 => ?_) (fun n1_11 => ?_)
                        · refine r_tinK (i := 1) (tgt := 168) (len := 75) (v := (11 : Int32)) (off := 167) e1_11 rfl rfl (by decide) (by decide) rfl ?_
                          refine r_aload_n (i := 55) rfl rfl rfl ?_
                          refine r_gI (i := 56) (ci := 12) (kf := 29) rfl (Nat.le_of_ble_eq_true rfl) wF_Mod_321 rfl rfl fun x169 => ?_
                          exact r_retI (i := 57) rfl rfl rfl rfl
                        · refine r_split (fun e1_12 => ?_) (fun n1_12 => ?_)
                          · refine r_tinK (i := 1) (tgt := 173) (len := 75) (v := (12 : Int32)) (off := 172) e1_12 rfl rfl (by decide) (by decide) rfl ?_
                            refine r_aload_n (i := 58) rfl rfl rfl ?_
                            refine r_gI (i := 59) (ci := 12) (kf := 47) rfl (Nat.le_of_ble_eq_true rfl) wF_Mod_259 rfl rfl fun x174 => ?_
                            exact r_retI (i := 60) rfl rfl rfl rfl
                          · refine r_split (fun e1_13 => ?_) (fun n1_13 => ?_)
                            · refine r_tinK (i := 1) (tgt := 178) (len := 75) (v := (13 : Int32)) (off := 177) e1_13 rfl rfl (by decide) (by decide) rfl ?_
                              refine r_aload_n (i := 61) rfl rfl rfl ?_
                              refine r_gR (i := 62) (ci := 12) (kf := 26) rfl (Nat.le_of_ble_eq_true rfl) wF_Mod_55 rfl rfl fun x179 => ?_
                              refine r_bipush (i := 63) (57 : Int32) kc_bipush_57 rfl rfl ?_
                              refine r_aI (i := 64) rfl rfl fun x184 => ?_
                              exact r_retI (i := 65) rfl rfl rfl rfl
                            · refine r_split (fun e1_14 => ?_) (fun n1_14 => ?_)
                              · refine r_tinK (i := 1) (tgt := 186) (len := 75) (v := (14 : Int32)) (off := 185) e1_14 rfl rfl (by decide) (by decide) rfl ?_
                                refine r_aload_n (i := 66) rfl rfl rfl ?_
                                refine r_gI (i := 67) (ci := 12) (kf := 31) rfl (Nat.le_of_ble_eq_true rfl) wF_Mod_262 rfl rfl fun x187 => ?_
                                exact r_retI (i := 68) rfl rfl rfl rfl
                              · refine r_tout (i := 1) (tgt := 191) (len := 75) rfl rfl (by have m0 := fw_ni n1_0 (z := 0) (by decide); have m1 := fw_ni n1_1 (z := 1) (by decide); have m2 := fw_ni n1_2 (z := 2) (by decide); have m3 := fw_ni n1_3 (z := 3) (by decide); have m4 := fw_ni n1_4 (z := 4) (by decide); have m5 := fw_ni n1_5 (z := 5) (by decide); have m6 := fw_ni n1_6 (z := 6) (by decide); have m7 := fw_ni n1_7 (z := 7) (by decide); have m8 := fw_ni n1_8 (z := 8) (by decide); have m9 := fw_ni n1_9 (z := 9) (by decide); have m10 := fw_ni n1_10 (z := 10) (by decide); have m11 := fw_ni n1_11 (z := 11) (by decide); have m12 := fw_ni n1_12 (z := 12) (by decide); have m13 := fw_ni n1_13 (z := 13) (by decide); have m14 := fw_ni n1_14 (z := 14) (by decide); omega) rfl ?_
                                refine r_ldcw (i := 69) wK_Mod_291 rfl rfl ?_
                                exact r_retI (i := 70) rfl rfl rfl rfl
