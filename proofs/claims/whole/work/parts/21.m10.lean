-- Mod_stand
def l_Mod_stand_25 (h : fw_H) (v0 : Option Nat) (K56 : Int32 → Option (Int32 × fw_H)) : Nat → Int32 → Int32 → Option (Int32 × fw_H)
  | 0, _, _ => none
  | nn + 1, a25_3, a25_4 =>
    (f_gI h v0 12 24).bind fun x28 =>
    if x28 ≤ a25_4 then (K56 a25_3) else
    (f_gR h v0 12 26).bind fun x36 =>
    (f_aI h x36 ((12 : Int32) + a25_4)).bind fun x44 =>
    l_Mod_stand_25 h v0 K56 nn (a25_3 ||| (x44 <<< (a25_4 &&& 31))) (a25_4 + (1 : Int32))
theorem cl_Mod_stand_25 {G : fw_G} {h : fw_H} {v0 : Option Nat} {v1 : Int32} {v2 : Int32} {K56 : Int32 → Option (Int32 × fw_H)} (hK56 : ∀ (e56_3 : Int32), fw_R G m_Mod_stand fw_wI 9 0 0 56 [(0, some (fw_r v0)), (1, some (fw_i v1)), (2, some (fw_i v2)), (3, some (fw_i e56_3))] [] h (K56 e56_3)) : ∀ (nn : Nat) (a25_3 : Int32) (a25_4 : Int32), fw_R G m_Mod_stand fw_wI 9 0 0 25 [(0, some (fw_r v0)), (1, some (fw_i v1)), (2, some (fw_i v2)), (3, some (fw_i a25_3)), (4, some (fw_i a25_4))] [] h (l_Mod_stand_25 h v0 K56 nn a25_3 a25_4) := by
  intro nn
  induction nn with
  | zero => intros; exact r_none
  | succ nn ih =>
    intro a25_3 a25_4
    rw [l_Mod_stand_25]
    refine r_iload (i := 15) rfl rfl rfl ?_
    refine r_aload_n (i := 16) rfl rfl rfl ?_
    refine r_gI (i := 17) (ci := 12) (kf := 24) rfl (Nat.le_of_ble_eq_true rfl) wF_Mod_250 rfl rfl fun x28 => ?_
    refine r_icmp_ge (i := 18) (tgt := 56) rfl rfl rfl ?_ ?_
    · exact r_lv (fw_sub1 rfl (fw_sub1 rfl (fw_sub1 rfl (fw_sub1 rfl fw_sub0)))) (hK56 a25_3)
    · refine r_iload_n (i := 19) rfl rfl rfl ?_
      refine r_aload_n (i := 20) rfl rfl rfl ?_
      refine r_gR (i := 21) (ci := 12) (kf := 26) rfl (Nat.le_of_ble_eq_true rfl) wF_Mod_55 rfl rfl fun x36 => ?_
      refine r_bipush (i := 22) (12 : Int32) kc_bipush_12 rfl rfl ?_
      refine r_iload (i := 23) rfl rfl rfl ?_
      refine r_iadd (i := 24) rfl rfl ?_
      refine r_aI (i := 25) rfl rfl fun x44 => ?_
      refine r_iload (i := 26) rfl rfl rfl ?_
      refine r_ishl (i := 27) rfl rfl ?_
      refine r_ior (i := 28) rfl rfl ?_
      refine r_istore_n (i := 29) rfl rfl (Nat.le_of_ble_eq_true rfl) rfl ?_
      refine r_iinc (i := 30) (1 : Int32) kc_iconst_1 rfl rfl rfl (Nat.le_of_ble_eq_true rfl) ?_
      refine r_goto (i := 31) (tgt := 25) rfl rfl rfl ?_
      exact r_lv (fw_sub1 rfl (fw_sub1 rfl (fw_sub1 rfl (fw_sub1 rfl (fw_sub1 rfl fw_sub0))))) (ih (a25_3 ||| (x44 <<< (a25_4 &&& 31))) (a25_4 + (1 : Int32)))
def l_Mod_stand_95 (v0 : Option Nat) (e56_3 : Int32) (a66_5 : Int32) (K129 : fw_H → Option (Int32 × fw_H)) : Nat → Int32 → fw_H → Option (Int32 × fw_H)
  | 0, _, _ => none
  | nn + 1, a95_6, g95 =>
    (f_gI g95 v0 12 24).bind fun x98 =>
    if x98 ≤ a95_6 then (K129 g95) else
    (f_gR g95 v0 12 26).bind fun x105 =>
    (f_sI g95 x105 ((12 : Int32) + a95_6) (((a66_5 ||| e56_3) >>> (a95_6 &&& 31)) &&& (1 : Int32))).bind fun h122 =>
    l_Mod_stand_95 v0 e56_3 a66_5 K129 nn (a95_6 + (1 : Int32)) h122
theorem cl_Mod_stand_95 {G : fw_G} {v0 : Option Nat} {v1 : Int32} {v2 : Int32} {e56_3 : Int32} {a66_4 : Int32} {a66_5 : Int32} {K129 : fw_H → Option (Int32 × fw_H)} (hK129 : ∀ (he129 : fw_H), fw_R G m_Mod_stand fw_wI 9 0 0 129 [(0, some (fw_r v0)), (1, some (fw_i v1)), (2, some (fw_i v2)), (3, some (fw_i e56_3)), (4, some (fw_i a66_4)), (5, some (fw_i a66_5))] [] he129 (K129 he129)) : ∀ (nn : Nat) (a95_6 : Int32) (g95 : fw_H), fw_R G m_Mod_stand fw_wI 9 0 0 95 [(0, some (fw_r v0)), (1, some (fw_i v1)), (2, some (fw_i v2)), (3, some (fw_i e56_3)), (4, some (fw_i a66_4)), (5, some (fw_i a66_5)), (6, some (fw_i a95_6))] [] g95 (l_Mod_stand_95 v0 e56_3 a66_5 K129 nn a95_6 g95) := by
  intro nn
  induction nn with
  | zero => intros; exact r_none
  | succ nn ih =>
    intro a95_6 g95
    rw [l_Mod_stand_95]
    refine r_iload (i := 52) rfl rfl rfl ?_
    refine r_aload_n (i := 53) rfl rfl rfl ?_
    refine r_gI (i := 54) (ci := 12) (kf := 24) rfl (Nat.le_of_ble_eq_true rfl) wF_Mod_250 rfl rfl fun x98 => ?_
    refine r_icmp_ge (i := 55) (tgt := 129) rfl rfl rfl ?_ ?_
    · exact r_lv (fw_sub1 rfl (fw_sub1 rfl (fw_sub1 rfl (fw_sub1 rfl (fw_sub1 rfl (fw_sub1 rfl fw_sub0)))))) (hK129 g95)
    · refine r_aload_n (i := 56) rfl rfl rfl ?_
      refine r_gR (i := 57) (ci := 12) (kf := 26) rfl (Nat.le_of_ble_eq_true rfl) wF_Mod_55 rfl rfl fun x105 => ?_
      refine r_bipush (i := 58) (12 : Int32) kc_bipush_12 rfl rfl ?_
      refine r_iload (i := 59) rfl rfl rfl ?_
      refine r_iadd (i := 60) rfl rfl ?_
      refine r_iload (i := 61) rfl rfl rfl ?_
      refine r_iload_n (i := 62) rfl rfl rfl ?_
      refine r_ior (i := 63) rfl rfl ?_
      refine r_iload (i := 64) rfl rfl rfl ?_
      refine r_ishr (i := 65) rfl rfl ?_
      refine r_iconst (i := 66) (1 : Int32) kc_iconst_1 rfl rfl ?_
      refine r_iand (i := 67) rfl rfl ?_
      refine r_sI (i := 68) rfl rfl fun h122 => ?_
      refine r_iinc (i := 69) (1 : Int32) kc_iconst_1 rfl rfl rfl (Nat.le_of_ble_eq_true rfl) ?_
      refine r_goto (i := 70) (tgt := 95) rfl rfl rfl ?_
      exact r_lv (fw_sub1 rfl (fw_sub1 rfl (fw_sub1 rfl (fw_sub1 rfl (fw_sub1 rfl (fw_sub1 rfl (fw_sub1 rfl fw_sub0))))))) (ih (a95_6 + (1 : Int32)) h122)
def l_Mod_stand_66 (F : Nat) (v0 : Option Nat) (v1 : Int32) (v2 : Int32) (e56_3 : Int32) (K153 : Int32 → fw_H → Option (Int32 × fw_H)) : Nat → Int32 → Int32 → fw_H → Option (Int32 × fw_H)
  | 0, _, _, _ => none
  | nn + 1, a66_4, a66_5, g66 =>
    (s_Mod_everyHouse g66 v0).bind fun x69 =>
    if x69 < a66_5 then (K153 a66_4 g66) else
    if ¬ (a66_5 &&& e56_3) = (0 : Int32) then (l_Mod_stand_66 F v0 v1 v2 e56_3 K153 nn a66_4 (a66_5 + (1 : Int32)) g66) else
    (s_Mod_isFewer a66_5 a66_4).bind fun x86 =>
    if x86 = true then (l_Mod_stand_95 v0 e56_3 a66_5 (fun he129 =>
    (s_Mod_whereBehind F he129 v0 v2).bind fun x131 =>
    if ¬ x131.1 = v1 then (l_Mod_stand_66 F v0 v1 v2 e56_3 K153 nn a66_4 (a66_5 + (1 : Int32)) x131.2) else
    l_Mod_stand_66 F v0 v1 v2 e56_3 K153 nn a66_5 (a66_5 + (1 : Int32)) x131.2) F (0 : Int32) g66) else
    l_Mod_stand_66 F v0 v1 v2 e56_3 K153 nn a66_4 (a66_5 + (1 : Int32)) g66
theorem cl_Mod_stand_66 {G : fw_G} {F : Nat} {v0 : Option Nat} {v1 : Int32} {v2 : Int32} {e56_3 : Int32} {K153 : Int32 → fw_H → Option (Int32 × fw_H)} (hK153 : ∀ (e153_4 : Int32) (he153 : fw_H), fw_R G m_Mod_stand fw_wI 9 0 0 153 [(0, some (fw_r v0)), (4, some (fw_i e153_4))] [] he153 (K153 e153_4 he153)) : ∀ (nn : Nat) (a66_4 : Int32) (a66_5 : Int32) (g66 : fw_H), fw_R G m_Mod_stand fw_wI 9 0 0 66 [(0, some (fw_r v0)), (1, some (fw_i v1)), (2, some (fw_i v2)), (3, some (fw_i e56_3)), (4, some (fw_i a66_4)), (5, some (fw_i a66_5))] [] g66 (l_Mod_stand_66 F v0 v1 v2 e56_3 K153 nn a66_4 a66_5 g66) := by
  intro nn
  induction nn with
  | zero => intros; exact r_none
  | succ nn ih =>
    intro a66_4 a66_5 g66
    rw [l_Mod_stand_66]
    refine r_iload (i := 38) rfl rfl rfl ?_
    refine r_aload_n (i := 39) rfl rfl rfl ?_
    refine r_VI0 (i := 40) (k2 := 0) (n2 := 0) ok_Mod_everyHouse wM_Mod_369 (c_Mod_everyHouse) (fun _ e => fw_ckb e) (Nat.le_of_ble_eq_true rfl) (Nat.le_of_ble_eq_true rfl) (Nat.le_of_ble_eq_true rfl) (Nat.le_of_ble_eq_true rfl) rfl rfl fun x69 => ?_
    refine r_icmp_gt (i := 41) (tgt := 153) rfl rfl rfl ?_ ?_
    · exact r_lv (fw_sub1 rfl (fw_sub1 rfl fw_sub0)) (hK153 a66_4 g66)
    · refine r_iload (i := 42) rfl rfl rfl ?_
      refine r_iload_n (i := 43) rfl rfl rfl ?_
      refine r_iand (i := 44) rfl rfl ?_
      refine r_if_ne (i := 45) (tgt := 147) rfl rfl rfl ?_ ?_
      · refine r_iinc (i := 80) (1 : Int32) kc_iconst_1 rfl rfl rfl (Nat.le_of_ble_eq_true rfl) ?_
        refine r_goto (i := 81) (tgt := 66) rfl rfl rfl ?_
        exact r_lv (fw_sub1 rfl (fw_sub1 rfl (fw_sub1 rfl (fw_sub1 rfl (fw_sub1 rfl (fw_sub1 rfl fw_sub0)))))) (ih a66_4 (a66_5 + (1 : Int32)) g66)
      · refine r_iload (i := 46) rfl rfl rfl ?_
        refine r_iload (i := 47) rfl rfl rfl ?_
        refine r_SB2 (i := 48) (k2 := 0) (n2 := 0) ok_Mod_isFewer wM_Mod_380 (c_Mod_isFewer) (Nat.le_of_ble_eq_true rfl) (Nat.le_of_ble_eq_true rfl) (Nat.le_of_ble_eq_true rfl) (Nat.le_of_ble_eq_true rfl) rfl rfl fun x86 => ?_
        refine r_ifeqB (i := 49) (tgt := 147) rfl rfl rfl ?_ ?_
        · refine r_iinc (i := 80) (1 : Int32) kc_iconst_1 rfl rfl rfl (Nat.le_of_ble_eq_true rfl) ?_
          refine r_goto (i := 81) (tgt := 66) rfl rfl rfl ?_
          exact r_lv (fw_sub1 rfl (fw_sub1 rfl (fw_sub1 rfl (fw_sub1 rfl (fw_sub1 rfl (fw_sub1 rfl fw_sub0)))))) (ih a66_4 (a66_5 + (1 : Int32)) g66)
        · refine r_iconst (i := 50) (0 : Int32) kc_iconst_0 rfl rfl ?_
          refine r_istore (i := 51) rfl rfl (Nat.le_of_ble_eq_true rfl) rfl ?_
          refine r_lv (fw_sub1 rfl (fw_sub1 rfl (fw_sub1 rfl (fw_sub1 rfl (fw_sub1 rfl (fw_sub1 rfl (fw_sub1 rfl fw_sub0))))))) (cl_Mod_stand_95 ?_ F _ _)
          · intro he129
            refine r_aload_n (i := 71) rfl rfl rfl ?_
            refine r_iload_n (i := 72) rfl rfl rfl ?_
            refine r_VwI1 (i := 73) (k2 := 0) (n2 := 0) ok_Mod_whereBehind wM_Mod_348 (c_Mod_whereBehind F) (fun _ e => fw_ckb e) (Nat.le_of_ble_eq_true rfl) (Nat.le_of_ble_eq_true rfl) (Nat.le_of_ble_eq_true rfl) (Nat.le_of_ble_eq_true rfl) rfl rfl fun x131 => ?_
            refine r_iload_n (i := 74) rfl rfl rfl ?_
            refine r_icmp_ne (i := 75) (tgt := 143) rfl rfl rfl ?_ ?_
            · refine r_iload (i := 78) rfl rfl rfl ?_
              refine r_istore (i := 79) rfl rfl (Nat.le_of_ble_eq_true rfl) rfl ?_
              refine r_iinc (i := 80) (1 : Int32) kc_iconst_1 rfl rfl rfl (Nat.le_of_ble_eq_true rfl) ?_
              refine r_goto (i := 81) (tgt := 66) rfl rfl rfl ?_
              exact r_lv (fw_sub1 rfl (fw_sub1 rfl (fw_sub1 rfl (fw_sub1 rfl (fw_sub1 rfl (fw_sub1 rfl fw_sub0)))))) (ih a66_4 (a66_5 + (1 : Int32)) x131.2)
            · refine r_iload (i := 76) rfl rfl rfl ?_
              refine r_goto (i := 77) (tgt := 145) rfl rfl rfl ?_
              refine r_istore (i := 79) rfl rfl (Nat.le_of_ble_eq_true rfl) rfl ?_
              refine r_iinc (i := 80) (1 : Int32) kc_iconst_1 rfl rfl rfl (Nat.le_of_ble_eq_true rfl) ?_
              refine r_goto (i := 81) (tgt := 66) rfl rfl rfl ?_
              exact r_lv (fw_sub1 rfl (fw_sub1 rfl (fw_sub1 rfl (fw_sub1 rfl (fw_sub1 rfl (fw_sub1 rfl fw_sub0)))))) (ih a66_5 (a66_5 + (1 : Int32)) x131.2)
def s_Mod_stand (F : Nat) (h : fw_H) (v0 : Option Nat) (v1 : Int32) (v2 : Int32) : Option (Int32 × fw_H) :=
(f_ck h v0 12).bind fun _ =>
(s_Mod_isHouse h v0 v1).bind fun x2 =>
if x2 = true then ((s_Mod_in v2 (1 : Int32) (30 : Int32)).bind fun x12 =>
if x12 = true then (l_Mod_stand_25 h v0 (fun e56_3 =>
(s_Mod_putAside F h v0).bind fun h60 =>
l_Mod_stand_66 F v0 v1 v2 e56_3 (fun e153_4 he153 =>
(s_Mod_takeBack F he153 v0).bind fun h154 =>
some (e153_4, h154)) F (-1 : Int32) (0 : Int32) h60) F (0 : Int32) (0 : Int32)) else
some ((-1 : Int32), h)) else
some ((-1 : Int32), h)
theorem c_Mod_stand {G : fw_G} (F : Nat) {h : fw_H} {v0 : Option Nat} {v1 : Int32} {v2 : Int32} : fw_Call G m_Mod_stand fw_wI 9 0 0 [fw_r v0, fw_i v1, fw_i v2] h (s_Mod_stand F h v0 v1 v2) := by
  refine fw_Call.of ok_Mod_stand.1 (Nat.le_of_ble_eq_true rfl) [(0, some (fw_r v0)), (1, some (fw_i v1)), (2, some (fw_i v2))] rfl ?_
  refine r_ck ?_
  refine r_aload_n (i := 0) rfl rfl rfl ?_
  refine r_iload_n (i := 1) rfl rfl rfl ?_
  refine r_VB1 (i := 2) (k2 := 0) (n2 := 0) ok_Mod_isHouse wM_Mod_279 (c_Mod_isHouse) (fun _ e => fw_ckb e) (Nat.le_of_ble_eq_true rfl) (Nat.le_of_ble_eq_true rfl) (Nat.le_of_ble_eq_true rfl) (Nat.le_of_ble_eq_true rfl) rfl rfl fun x2 => ?_
  refine r_ifeqB (i := 3) (tgt := 18) rfl rfl rfl ?_ ?_
  · refine r_iconst (i := 9) (-1 : Int32) kc_iconst_m1 rfl rfl ?_
    exact r_retI (i := 10) rfl rfl rfl rfl
  · refine r_iload_n (i := 4) rfl rfl rfl ?_
    refine r_iconst (i := 5) (1 : Int32) kc_iconst_1 rfl rfl ?_
    refine r_bipush (i := 6) (30 : Int32) kc_bipush_30 rfl rfl ?_
    refine r_SB3 (i := 7) (k2 := 0) (n2 := 0) ok_Mod_in wM_Mod_275 (c_Mod_in) (Nat.le_of_ble_eq_true rfl) (Nat.le_of_ble_eq_true rfl) (Nat.le_of_ble_eq_true rfl) (Nat.le_of_ble_eq_true rfl) rfl rfl fun x12 => ?_
    refine r_ifneB (i := 8) (tgt := 20) rfl rfl rfl ?_ ?_
    · refine r_iconst (i := 11) (0 : Int32) kc_iconst_0 rfl rfl ?_
      refine r_istore_n (i := 12) rfl rfl (Nat.le_of_ble_eq_true rfl) rfl ?_
      refine r_iconst (i := 13) (0 : Int32) kc_iconst_0 rfl rfl ?_
      refine r_istore (i := 14) rfl rfl (Nat.le_of_ble_eq_true rfl) rfl ?_
      refine r_lv (fw_sub1 rfl (fw_sub1 rfl (fw_sub1 rfl (fw_sub1 rfl (fw_sub1 rfl fw_sub0))))) (cl_Mod_stand_25 ?_ F _ _)
      · intro e56_3
        refine r_iconst (i := 32) (-1 : Int32) kc_iconst_m1 rfl rfl ?_
        refine r_istore (i := 33) rfl rfl (Nat.le_of_ble_eq_true rfl) rfl ?_
        refine r_aload_n (i := 34) rfl rfl rfl ?_
        refine r_VV0 (i := 35) (k2 := 0) (n2 := 0) ok_Mod_putAside wM_Mod_377 (c_Mod_putAside F) (fun _ e => fw_ckb e) (Nat.le_of_ble_eq_true rfl) (Nat.le_of_ble_eq_true rfl) (Nat.le_of_ble_eq_true rfl) (Nat.le_of_ble_eq_true rfl) rfl rfl fun h60 => ?_
        refine r_iconst (i := 36) (0 : Int32) kc_iconst_0 rfl rfl ?_
        refine r_istore (i := 37) rfl rfl (Nat.le_of_ble_eq_true rfl) rfl ?_
        refine r_lv (fw_sub1 rfl (fw_sub1 rfl (fw_sub1 rfl (fw_sub1 rfl (fw_sub1 rfl (fw_sub1 rfl fw_sub0)))))) (cl_Mod_stand_66 ?_ F _ _ _)
        · intro e153_4 he153
          refine r_aload_n (i := 82) rfl rfl rfl ?_
          refine r_VV0 (i := 83) (k2 := 0) (n2 := 0) ok_Mod_takeBack wM_Mod_383 (c_Mod_takeBack F) (fun _ e => fw_ckb e) (Nat.le_of_ble_eq_true rfl) (Nat.le_of_ble_eq_true rfl) (Nat.le_of_ble_eq_true rfl) (Nat.le_of_ble_eq_true rfl) rfl rfl fun h154 => ?_
          refine r_iload (i := 84) rfl rfl rfl ?_
          exact r_retI (i := 85) rfl rfl rfl rfl
    · refine r_iconst (i := 9) (-1 : Int32) kc_iconst_m1 rfl rfl ?_
      exact r_retI (i := 10) rfl rfl rfl rfl
-- Mod_tellLie
def s_Mod_tellLie (F : Nat) (h : fw_H) (v0 : Option Nat) (v1 : Int32) (v2 : Int32) (v3 : Int32) (v4 : Int32) : Option fw_H :=
(f_ck h v0 12).bind fun _ =>
(s_Mod_nextOf F h v0 v1 v2 v3).bind fun x4 =>
fw_jn (fun (t29_0 : Int32) =>
(f_gR x4.2 v0 12 42).bind fun x32 =>
(f_gR x4.2 v0 12 42).bind fun x38 =>
(f_aI x4.2 x38 t29_0).bind fun x43 =>
if ¬ x43 = (-1 : Int32) then ((f_gR x4.2 v0 12 42).bind fun x54 =>
(f_aI x4.2 x54 t29_0).bind fun x59 =>
(f_sI x4.2 x32 t29_0 (fw_min x59 v4)).bind fun h65 =>
some h65) else
(f_sI x4.2 x32 t29_0 v4).bind fun h65 =>
some h65) fun J29 =>
if ¬ x4.1 = v1 then ((s_Mod_stateOf x4.1 v1).bind fun x26 =>
J29 x26) else
(s_Mod_stateOf v1 v2).bind fun x17 =>
J29 x17
theorem c_Mod_tellLie {G : fw_G} (F : Nat) {h : fw_H} {v0 : Option Nat} {v1 : Int32} {v2 : Int32} {v3 : Int32} {v4 : Int32} : fw_Call G m_Mod_tellLie fw_eV 7 0 0 [fw_r v0, fw_i v1, fw_i v2, fw_i v3, fw_i v4] h (s_Mod_tellLie F h v0 v1 v2 v3 v4) := by
  refine fw_Call.of ok_Mod_tellLie.1 (Nat.le_of_ble_eq_true rfl) [(0, some (fw_r v0)), (1, some (fw_i v1)), (2, some (fw_i v2)), (3, some (fw_i v3)), (4, some (fw_i v4))] rfl ?_
  refine r_ck ?_
  refine r_aload_n (i := 0) rfl rfl rfl ?_
  refine r_iload_n (i := 1) rfl rfl rfl ?_
  refine r_iload_n (i := 2) rfl rfl rfl ?_
  refine r_iload_n (i := 3) rfl rfl rfl ?_
  refine r_VwI3 (i := 4) (k2 := 0) (n2 := 0) ok_Mod_nextOf wM_Mod_308 (c_Mod_nextOf F) (fun _ e => fw_ckb e) (Nat.le_of_ble_eq_true rfl) (Nat.le_of_ble_eq_true rfl) (Nat.le_of_ble_eq_true rfl) (Nat.le_of_ble_eq_true rfl) rfl rfl fun x4 => ?_
  refine r_istore (i := 5) rfl rfl (Nat.le_of_ble_eq_true rfl) rfl ?_
  refine r_iload (i := 6) rfl rfl rfl ?_
  refine r_iload_n (i := 7) rfl rfl rfl ?_
  refine r_join (P := fun J29 => ∀ (t29_0 : Int32), fw_R G m_Mod_tellLie fw_eV 7 (0) (0) 29 [(0, some (fw_r v0)), (4, some (fw_i v4))] [fw_i t29_0] x4.2 (J29 t29_0)) ?_ (fun J29 hJ29 => ?_)
  · intro t29_0
    refine r_istore (i := 16) rfl rfl (Nat.le_of_ble_eq_true rfl) rfl ?_
    refine r_aload_n (i := 17) rfl rfl rfl ?_
    refine r_gR (i := 18) (ci := 12) (kf := 42) rfl (Nat.le_of_ble_eq_true rfl) wF_Mod_77 rfl rfl fun x32 => ?_
    refine r_iload (i := 19) rfl rfl rfl ?_
    refine r_aload_n (i := 20) rfl rfl rfl ?_
    refine r_gR (i := 21) (ci := 12) (kf := 42) rfl (Nat.le_of_ble_eq_true rfl) wF_Mod_77 rfl rfl fun x38 => ?_
    refine r_iload (i := 22) rfl rfl rfl ?_
    refine r_aI (i := 23) rfl rfl fun x43 => ?_
    refine r_iconst (i := 24) (-1 : Int32) kc_iconst_m1 rfl rfl ?_
    refine r_icmp_ne (i := 25) (tgt := 53) rfl rfl rfl ?_ ?_
    · refine r_aload_n (i := 28) rfl rfl rfl ?_
      refine r_gR (i := 29) (ci := 12) (kf := 42) rfl (Nat.le_of_ble_eq_true rfl) wF_Mod_77 rfl rfl fun x54 => ?_
      refine r_iload (i := 30) rfl rfl rfl ?_
      refine r_aI (i := 31) rfl rfl fun x59 => ?_
      refine r_iload (i := 32) rfl rfl rfl ?_
      refine r_min (i := 33) (Nat.le_of_ble_eq_true rfl) (Nat.le_of_ble_eq_true rfl) wM_Mod_386 rfl rfl ?_
      refine r_sI (i := 34) rfl rfl fun h65 => ?_
      exact r_retV (i := 35) rfl rfl rfl rfl
    · refine r_iload (i := 26) rfl rfl rfl ?_
      refine r_goto (i := 27) (tgt := 65) rfl rfl rfl ?_
      refine r_sI (i := 34) rfl rfl fun h65 => ?_
      exact r_retV (i := 35) rfl rfl rfl rfl
  · refine r_icmp_ne (i := 8) (tgt := 23) rfl rfl rfl ?_ ?_
    · refine r_iload (i := 13) rfl rfl rfl ?_
      refine r_iload_n (i := 14) rfl rfl rfl ?_
      refine r_SI2 (i := 15) (k2 := 0) (n2 := 0) ok_Mod_stateOf wM_Mod_354 (c_Mod_stateOf) (Nat.le_of_ble_eq_true rfl) (Nat.le_of_ble_eq_true rfl) (Nat.le_of_ble_eq_true rfl) (Nat.le_of_ble_eq_true rfl) rfl rfl fun x26 => ?_
      exact r_lv (fw_sub1 rfl (fw_sub1 rfl fw_sub0)) (hJ29 x26)
    · refine r_iload_n (i := 9) rfl rfl rfl ?_
      refine r_iload_n (i := 10) rfl rfl rfl ?_
      refine r_SI2 (i := 11) (k2 := 0) (n2 := 0) ok_Mod_stateOf wM_Mod_354 (c_Mod_stateOf) (Nat.le_of_ble_eq_true rfl) (Nat.le_of_ble_eq_true rfl) (Nat.le_of_ble_eq_true rfl) (Nat.le_of_ble_eq_true rfl) rfl rfl fun x17 => ?_
      refine r_goto (i := 12) (tgt := 29) rfl rfl rfl ?_
      exact r_lv (fw_sub1 rfl (fw_sub1 rfl fw_sub0)) (hJ29 x17)
-- Mod_lieOn
def l_Mod_lieOn_2 (v0 : Option Nat) (K22 : fw_H → Option fw_H) : Nat → Int32 → fw_H → Option fw_H
  | 0, _, _ => none
  | nn + 1, a2_2, g2 =>
    if (156 : Int32) ≤ a2_2 then (K22 g2) else
    (f_gR g2 v0 12 42).bind fun x10 =>
    (f_sI g2 x10 a2_2 (-1 : Int32)).bind fun h15 =>
    l_Mod_lieOn_2 v0 K22 nn (a2_2 + (1 : Int32)) h15
theorem cl_Mod_lieOn_2 {G : fw_G} {v0 : Option Nat} {v1 : Int32} {K22 : fw_H → Option fw_H} (hK22 : ∀ (he22 : fw_H), fw_R G m_Mod_lieOn fw_eV 8 0 0 22 [(0, some (fw_r v0)), (1, some (fw_i v1))] [] he22 (K22 he22)) : ∀ (nn : Nat) (a2_2 : Int32) (g2 : fw_H), fw_R G m_Mod_lieOn fw_eV 8 0 0 2 [(0, some (fw_r v0)), (1, some (fw_i v1)), (2, some (fw_i a2_2))] [] g2 (l_Mod_lieOn_2 v0 K22 nn a2_2 g2) := by
  intro nn
  induction nn with
  | zero => intros; exact r_none
  | succ nn ih =>
    intro a2_2 g2
    rw [l_Mod_lieOn_2]
    refine r_iload_n (i := 2) rfl rfl rfl ?_
    refine r_sipush (i := 3) (156 : Int32) kc_sipush_156 rfl rfl ?_
    refine r_icmp_ge (i := 4) (tgt := 22) rfl rfl rfl ?_ ?_
    · exact r_lv (fw_sub1 rfl (fw_sub1 rfl fw_sub0)) (hK22 g2)
    · refine r_aload_n (i := 5) rfl rfl rfl ?_
      refine r_gR (i := 6) (ci := 12) (kf := 42) rfl (Nat.le_of_ble_eq_true rfl) wF_Mod_77 rfl rfl fun x10 => ?_
      refine r_iload_n (i := 7) rfl rfl rfl ?_
      refine r_iconst (i := 8) (-1 : Int32) kc_iconst_m1 rfl rfl ?_
      refine r_sI (i := 9) rfl rfl fun h15 => ?_
      refine r_iinc (i := 10) (1 : Int32) kc_iconst_1 rfl rfl rfl (Nat.le_of_ble_eq_true rfl) ?_
      refine r_goto (i := 11) (tgt := 2) rfl rfl rfl ?_
      exact r_lv (fw_sub1 rfl (fw_sub1 rfl (fw_sub1 rfl fw_sub0))) (ih (a2_2 + (1 : Int32)) h15)
def l_Mod_lieOn_24 (F : Nat) (v0 : Option Nat) (v1 : Int32) (K113 : fw_H → Option fw_H) : Nat → Int32 → fw_H → Option fw_H
  | 0, _, _ => none
  | nn + 1, a24_2, g24 =>
    if (156 : Int32) ≤ a24_2 then (K113 g24) else
    (f_gR g24 v0 12 41).bind fun x32 =>
    (f_aI g24 x32 a24_2).bind fun x36 =>
    if x36 = (-1 : Int32) then (l_Mod_lieOn_24 F v0 v1 K113 nn (a24_2 + (1 : Int32)) g24) else
    (f_idiv a24_2 (13 : Int32)).bind fun x44 =>
    (f_irem a24_2 (13 : Int32)).bind fun x49 =>
    fw_jn (fun (t63_0 : Int32) =>
    (f_gR g24 v0 12 41).bind fun x71 =>
    (f_aI g24 x71 a24_2).bind fun x75 =>
    (s_Mod_tellLie F g24 v0 x44 t63_0 v1 x75).bind fun h76 =>
    (s_Mod_doorsOn h76 v0 x44).bind fun x81 =>
    if x81 = x44 then (l_Mod_lieOn_24 F v0 v1 K113 nn (a24_2 + (1 : Int32)) h76) else
    (s_Mod_doorsOn h76 v0 x44).bind fun x91 =>
    (f_gR h76 v0 12 41).bind fun x97 =>
    (f_aI h76 x97 a24_2).bind fun x101 =>
    (s_Mod_tellLie F h76 v0 x91 x44 v1 (x101 + (1 : Int32))).bind fun h104 =>
    l_Mod_lieOn_24 F v0 v1 K113 nn (a24_2 + (1 : Int32)) h104) fun J63 =>
    if ¬ x49 = (12 : Int32) then ((f_irem a24_2 (13 : Int32)).bind fun x62 =>
    J63 x62) else
    J63 (-1 : Int32)
theorem cl_Mod_lieOn_24 {G : fw_G} {F : Nat} {v0 : Option Nat} {v1 : Int32} {K113 : fw_H → Option fw_H} (hK113 : ∀ (he113 : fw_H), fw_R G m_Mod_lieOn fw_eV 8 0 0 113 [(0, some (fw_r v0))] [] he113 (K113 he113)) : ∀ (nn : Nat) (a24_2 : Int32) (g24 : fw_H), fw_R G m_Mod_lieOn fw_eV 8 0 0 24 [(0, some (fw_r v0)), (1, some (fw_i v1)), (2, some (fw_i a24_2))] [] g24 (l_Mod_lieOn_24 F v0 v1 K113 nn a24_2 g24) := by
  intro nn
  induction nn with
  | zero => intros; exact r_none
  | succ nn ih =>
    intro a24_2 g24
    rw [l_Mod_lieOn_24]
    refine r_iload_n (i := 14) rfl rfl rfl ?_
    refine r_sipush (i := 15) (156 : Int32) kc_sipush_156 rfl rfl ?_
    refine r_icmp_ge (i := 16) (tgt := 113) rfl rfl rfl ?_ ?_
    · exact r_lv (fw_sub1 rfl fw_sub0) (hK113 g24)
    · refine r_aload_n (i := 17) rfl rfl rfl ?_
      refine r_gR (i := 18) (ci := 12) (kf := 41) rfl (Nat.le_of_ble_eq_true rfl) wF_Mod_74 rfl rfl fun x32 => ?_
      refine r_iload_n (i := 19) rfl rfl rfl ?_
      refine r_aI (i := 20) rfl rfl fun x36 => ?_
      refine r_iconst (i := 21) (-1 : Int32) kc_iconst_m1 rfl rfl ?_
      refine r_icmp_eq (i := 22) (tgt := 107) rfl rfl rfl ?_ ?_
      · refine r_iinc (i := 65) (1 : Int32) kc_iconst_1 rfl rfl rfl (Nat.le_of_ble_eq_true rfl) ?_
        refine r_goto (i := 66) (tgt := 24) rfl rfl rfl ?_
        exact r_lv (fw_sub1 rfl (fw_sub1 rfl (fw_sub1 rfl fw_sub0))) (ih (a24_2 + (1 : Int32)) g24)
      · refine r_iload_n (i := 23) rfl rfl rfl ?_
        refine r_bipush (i := 24) (13 : Int32) kc_bipush_13 rfl rfl ?_
        refine r_idivN (i := 25) rfl rfl fun x44 => ?_
        refine r_istore_n (i := 26) rfl rfl (Nat.le_of_ble_eq_true rfl) rfl ?_
        refine r_iload_n (i := 27) rfl rfl rfl ?_
        refine r_bipush (i := 28) (13 : Int32) kc_bipush_13 rfl rfl ?_
        refine r_iremN (i := 29) rfl rfl fun x49 => ?_
        refine r_bipush (i := 30) (12 : Int32) kc_bipush_12 rfl rfl ?_
        refine r_join (P := fun J63 => ∀ (t63_0 : Int32), fw_R G m_Mod_lieOn fw_eV 8 (0) (0) 63 [(0, some (fw_r v0)), (1, some (fw_i v1)), (2, some (fw_i a24_2)), (3, some (fw_i x44))] [fw_i t63_0] g24 (J63 t63_0)) ?_ (fun J63 hJ63 => ?_)
        · intro t63_0
          refine r_istore (i := 37) rfl rfl (Nat.le_of_ble_eq_true rfl) rfl ?_
          refine r_aload_n (i := 38) rfl rfl rfl ?_
          refine r_iload_n (i := 39) rfl rfl rfl ?_
          refine r_iload (i := 40) rfl rfl rfl ?_
          refine r_iload_n (i := 41) rfl rfl rfl ?_
          refine r_aload_n (i := 42) rfl rfl rfl ?_
          refine r_gR (i := 43) (ci := 12) (kf := 41) rfl (Nat.le_of_ble_eq_true rfl) wF_Mod_74 rfl rfl fun x71 => ?_
          refine r_iload_n (i := 44) rfl rfl rfl ?_
          refine r_aI (i := 45) rfl rfl fun x75 => ?_
          refine r_VV4 (i := 46) (k2 := 0) (n2 := 0) ok_Mod_tellLie wM_Mod_388 (c_Mod_tellLie F) (fun _ e => fw_ckb e) (Nat.le_of_ble_eq_true rfl) (Nat.le_of_ble_eq_true rfl) (Nat.le_of_ble_eq_true rfl) (Nat.le_of_ble_eq_true rfl) rfl rfl fun h76 => ?_
          refine r_aload_n (i := 47) rfl rfl rfl ?_
          refine r_iload_n (i := 48) rfl rfl rfl ?_
          refine r_VI1 (i := 49) (k2 := 0) (n2 := 0) ok_Mod_doorsOn wM_Mod_305 (c_Mod_doorsOn) (fun _ e => fw_ckb e) (Nat.le_of_ble_eq_true rfl) (Nat.le_of_ble_eq_true rfl) (Nat.le_of_ble_eq_true rfl) (Nat.le_of_ble_eq_true rfl) rfl rfl fun x81 => ?_
          refine r_iload_n (i := 50) rfl rfl rfl ?_
          refine r_icmp_eq (i := 51) (tgt := 107) rfl rfl rfl ?_ ?_
          · refine r_iinc (i := 65) (1 : Int32) kc_iconst_1 rfl rfl rfl (Nat.le_of_ble_eq_true rfl) ?_
            refine r_goto (i := 66) (tgt := 24) rfl rfl rfl ?_
            exact r_lv (fw_sub1 rfl (fw_sub1 rfl (fw_sub1 rfl fw_sub0))) (ih (a24_2 + (1 : Int32)) h76)
          · refine r_aload_n (i := 52) rfl rfl rfl ?_
            refine r_aload_n (i := 53) rfl rfl rfl ?_
            refine r_iload_n (i := 54) rfl rfl rfl ?_
            refine r_VI1 (i := 55) (k2 := 0) (n2 := 0) ok_Mod_doorsOn wM_Mod_305 (c_Mod_doorsOn) (fun _ e => fw_ckb e) (Nat.le_of_ble_eq_true rfl) (Nat.le_of_ble_eq_true rfl) (Nat.le_of_ble_eq_true rfl) (Nat.le_of_ble_eq_true rfl) rfl rfl fun x91 => ?_
            refine r_iload_n (i := 56) rfl rfl rfl ?_
            refine r_iload_n (i := 57) rfl rfl rfl ?_
            refine r_aload_n (i := 58) rfl rfl rfl ?_
            refine r_gR (i := 59) (ci := 12) (kf := 41) rfl (Nat.le_of_ble_eq_true rfl) wF_Mod_74 rfl rfl fun x97 => ?_
            refine r_iload_n (i := 60) rfl rfl rfl ?_
            refine r_aI (i := 61) rfl rfl fun x101 => ?_
            refine r_iconst (i := 62) (1 : Int32) kc_iconst_1 rfl rfl ?_
            refine r_iadd (i := 63) rfl rfl ?_
            refine r_VV4 (i := 64) (k2 := 0) (n2 := 0) ok_Mod_tellLie wM_Mod_388 (c_Mod_tellLie F) (fun _ e => fw_ckb e) (Nat.le_of_ble_eq_true rfl) (Nat.le_of_ble_eq_true rfl) (Nat.le_of_ble_eq_true rfl) (Nat.le_of_ble_eq_true rfl) rfl rfl fun h104 => ?_
            refine r_iinc (i := 65) (1 : Int32) kc_iconst_1 rfl rfl rfl (Nat.le_of_ble_eq_true rfl) ?_
            refine r_goto (i := 66) (tgt := 24) rfl rfl rfl ?_
            exact r_lv (fw_sub1 rfl (fw_sub1 rfl (fw_sub1 rfl fw_sub0))) (ih (a24_2 + (1 : Int32)) h104)
        · refine r_icmp_ne (i := 31) (tgt := 59) rfl rfl rfl ?_ ?_
          · refine r_iload_n (i := 34) rfl rfl rfl ?_
            refine r_bipush (i := 35) (13 : Int32) kc_bipush_13 rfl rfl ?_
            refine r_iremN (i := 36) rfl rfl fun x62 => ?_
            exact r_lv (fw_sub1 rfl (fw_sub1 rfl (fw_sub1 rfl (fw_sub1 rfl fw_sub0)))) (hJ63 x62)
          · refine r_iconst (i := 32) (-1 : Int32) kc_iconst_m1 rfl rfl ?_
            refine r_goto (i := 33) (tgt := 63) rfl rfl rfl ?_
            exact r_lv (fw_sub1 rfl (fw_sub1 rfl (fw_sub1 rfl (fw_sub1 rfl fw_sub0)))) (hJ63 (-1 : Int32))
def l_Mod_lieOn_115 (v0 : Option Nat) : Nat → Int32 → fw_H → Option fw_H
  | 0, _, _ => none
  | nn + 1, a115_2, g115 =>
    if (156 : Int32) ≤ a115_2 then (some g115) else
    (f_gR g115 v0 12 41).bind fun x123 =>
    (f_gR g115 v0 12 42).bind fun x128 =>
    (f_aI g115 x128 a115_2).bind fun x132 =>
    (f_sI g115 x123 a115_2 x132).bind fun h133 =>
    l_Mod_lieOn_115 v0 nn (a115_2 + (1 : Int32)) h133
theorem cl_Mod_lieOn_115 {G : fw_G} {v0 : Option Nat} : ∀ (nn : Nat) (a115_2 : Int32) (g115 : fw_H), fw_R G m_Mod_lieOn fw_eV 8 0 0 115 [(0, some (fw_r v0)), (2, some (fw_i a115_2))] [] g115 (l_Mod_lieOn_115 v0 nn a115_2 g115) := by
  intro nn
  induction nn with
  | zero => intros; exact r_none
  | succ nn ih =>
    intro a115_2 g115
    rw [l_Mod_lieOn_115]
    refine r_iload_n (i := 69) rfl rfl rfl ?_
    refine r_sipush (i := 70) (156 : Int32) kc_sipush_156 rfl rfl ?_
    refine r_icmp_ge (i := 71) (tgt := 140) rfl rfl rfl ?_ ?_
    · exact r_retV (i := 82) rfl rfl rfl rfl
    · refine r_aload_n (i := 72) rfl rfl rfl ?_
      refine r_gR (i := 73) (ci := 12) (kf := 41) rfl (Nat.le_of_ble_eq_true rfl) wF_Mod_74 rfl rfl fun x123 => ?_
      refine r_iload_n (i := 74) rfl rfl rfl ?_
      refine r_aload_n (i := 75) rfl rfl rfl ?_
      refine r_gR (i := 76) (ci := 12) (kf := 42) rfl (Nat.le_of_ble_eq_true rfl) wF_Mod_77 rfl rfl fun x128 => ?_
      refine r_iload_n (i := 77) rfl rfl rfl ?_
      refine r_aI (i := 78) rfl rfl fun x132 => ?_
      refine r_sI (i := 79) rfl rfl fun h133 => ?_
      refine r_iinc (i := 80) (1 : Int32) kc_iconst_1 rfl rfl rfl (Nat.le_of_ble_eq_true rfl) ?_
      refine r_goto (i := 81) (tgt := 115) rfl rfl rfl ?_
      exact r_lv (fw_sub1 rfl (fw_sub1 rfl fw_sub0)) (ih (a115_2 + (1 : Int32)) h133)
def s_Mod_lieOn (F : Nat) (h : fw_H) (v0 : Option Nat) (v1 : Int32) : Option fw_H :=
(f_ck h v0 12).bind fun _ =>
l_Mod_lieOn_2 v0 (fun he22 =>
l_Mod_lieOn_24 F v0 v1 (fun he113 =>
l_Mod_lieOn_115 v0 F (0 : Int32) he113) F (0 : Int32) he22) F (0 : Int32) h
theorem c_Mod_lieOn {G : fw_G} (F : Nat) {h : fw_H} {v0 : Option Nat} {v1 : Int32} : fw_Call G m_Mod_lieOn fw_eV 8 0 0 [fw_r v0, fw_i v1] h (s_Mod_lieOn F h v0 v1) := by
  refine fw_Call.of ok_Mod_lieOn.1 (Nat.le_of_ble_eq_true rfl) [(0, some (fw_r v0)), (1, some (fw_i v1))] rfl ?_
  refine r_ck ?_
  refine r_iconst (i := 0) (0 : Int32) kc_iconst_0 rfl rfl ?_
  refine r_istore_n (i := 1) rfl rfl (Nat.le_of_ble_eq_true rfl) rfl ?_
  refine r_lv (fw_sub1 rfl (fw_sub1 rfl (fw_sub1 rfl fw_sub0))) (cl_Mod_lieOn_2 ?_ F _ _)
  · intro he22
    refine r_iconst (i := 12) (0 : Int32) kc_iconst_0 rfl rfl ?_
    refine r_istore_n (i := 13) rfl rfl (Nat.le_of_ble_eq_true rfl) rfl ?_
    refine r_lv (fw_sub1 rfl (fw_sub1 rfl (fw_sub1 rfl fw_sub0))) (cl_Mod_lieOn_24 ?_ F _ _)
    · intro he113
      refine r_iconst (i := 67) (0 : Int32) kc_iconst_0 rfl rfl ?_
      refine r_istore_n (i := 68) rfl rfl (Nat.le_of_ble_eq_true rfl) rfl ?_
      refine r_lv (fw_sub1 rfl (fw_sub1 rfl fw_sub0)) (cl_Mod_lieOn_115 F _ _)
-- Mod_lies
def l_Mod_lies_22 (v0 : Option Nat) (K42 : fw_H → Option (Int32 × fw_H)) : Nat → Int32 → fw_H → Option (Int32 × fw_H)
  | 0, _, _ => none
  | nn + 1, a22_3, g22 =>
    if (156 : Int32) ≤ a22_3 then (K42 g22) else
    (f_gR g22 v0 12 41).bind fun x30 =>
    (f_sI g22 x30 a22_3 (-1 : Int32)).bind fun h35 =>
    l_Mod_lies_22 v0 K42 nn (a22_3 + (1 : Int32)) h35
theorem cl_Mod_lies_22 {G : fw_G} {v0 : Option Nat} {v1 : Int32} {v2 : Int32} {K42 : fw_H → Option (Int32 × fw_H)} (hK42 : ∀ (he42 : fw_H), fw_R G m_Mod_lies fw_wI 9 0 0 42 [(0, some (fw_r v0)), (1, some (fw_i v1)), (2, some (fw_i v2))] [] he42 (K42 he42)) : ∀ (nn : Nat) (a22_3 : Int32) (g22 : fw_H), fw_R G m_Mod_lies fw_wI 9 0 0 22 [(0, some (fw_r v0)), (1, some (fw_i v1)), (2, some (fw_i v2)), (3, some (fw_i a22_3))] [] g22 (l_Mod_lies_22 v0 K42 nn a22_3 g22) := by
  intro nn
  induction nn with
  | zero => intros; exact r_none
  | succ nn ih =>
    intro a22_3 g22
    rw [l_Mod_lies_22]
    refine r_iload_n (i := 13) rfl rfl rfl ?_
    refine r_sipush (i := 14) (156 : Int32) kc_sipush_156 rfl rfl ?_
    refine r_icmp_ge (i := 15) (tgt := 42) rfl rfl rfl ?_ ?_
    · exact r_lv (fw_sub1 rfl (fw_sub1 rfl (fw_sub1 rfl fw_sub0))) (hK42 g22)
    · refine r_aload_n (i := 16) rfl rfl rfl ?_
      refine r_gR (i := 17) (ci := 12) (kf := 41) rfl (Nat.le_of_ble_eq_true rfl) wF_Mod_74 rfl rfl fun x30 => ?_
      refine r_iload_n (i := 18) rfl rfl rfl ?_
      refine r_iconst (i := 19) (-1 : Int32) kc_iconst_m1 rfl rfl ?_
      refine r_sI (i := 20) rfl rfl fun h35 => ?_
      refine r_iinc (i := 21) (1 : Int32) kc_iconst_1 rfl rfl rfl (Nat.le_of_ble_eq_true rfl) ?_
      refine r_goto (i := 22) (tgt := 22) rfl rfl rfl ?_
      exact r_lv (fw_sub1 rfl (fw_sub1 rfl (fw_sub1 rfl (fw_sub1 rfl fw_sub0)))) (ih (a22_3 + (1 : Int32)) h35)
def l_Mod_lies_67 (F : Nat) (v0 : Option Nat) (v2 : Int32) (K94 : fw_H → Option (Int32 × fw_H)) : Nat → Int32 → fw_H → Option (Int32 × fw_H)
  | 0, _, _ => none
  | nn + 1, a67_3, g67 =>
    if v2 ≤ a67_3 then (K94 g67) else
    (f_gR g67 v0 12 26).bind fun x74 =>
    (f_aI g67 x74 (56 : Int32)).bind fun x79 =>
    (f_irem (x79 + a67_3) (24 : Int32)).bind fun x84 =>
    (s_Mod_lieOn F g67 v0 x84).bind fun h85 =>
    l_Mod_lies_67 F v0 v2 K94 nn (a67_3 + (1 : Int32)) h85
theorem cl_Mod_lies_67 {G : fw_G} {F : Nat} {v0 : Option Nat} {v1 : Int32} {v2 : Int32} {K94 : fw_H → Option (Int32 × fw_H)} (hK94 : ∀ (he94 : fw_H), fw_R G m_Mod_lies fw_wI 9 0 0 94 [(0, some (fw_r v0)), (1, some (fw_i v1))] [] he94 (K94 he94)) : ∀ (nn : Nat) (a67_3 : Int32) (g67 : fw_H), fw_R G m_Mod_lies fw_wI 9 0 0 67 [(0, some (fw_r v0)), (1, some (fw_i v1)), (2, some (fw_i v2)), (3, some (fw_i a67_3))] [] g67 (l_Mod_lies_67 F v0 v2 K94 nn a67_3 g67) := by
  intro nn
  induction nn with
  | zero => intros; exact r_none
  | succ nn ih =>
    intro a67_3 g67
    rw [l_Mod_lies_67]
    refine r_iload_n (i := 38) rfl rfl rfl ?_
    refine r_iload_n (i := 39) rfl rfl rfl ?_
    refine r_icmp_ge (i := 40) (tgt := 94) rfl rfl rfl ?_ ?_
    · exact r_lv (fw_sub1 rfl (fw_sub1 rfl fw_sub0)) (hK94 g67)
    · refine r_aload_n (i := 41) rfl rfl rfl ?_
      refine r_aload_n (i := 42) rfl rfl rfl ?_
      refine r_gR (i := 43) (ci := 12) (kf := 26) rfl (Nat.le_of_ble_eq_true rfl) wF_Mod_55 rfl rfl fun x74 => ?_
      refine r_bipush (i := 44) (56 : Int32) kc_bipush_56 rfl rfl ?_
      refine r_aI (i := 45) rfl rfl fun x79 => ?_
      refine r_iload_n (i := 46) rfl rfl rfl ?_
      refine r_iadd (i := 47) rfl rfl ?_
      refine r_bipush (i := 48) (24 : Int32) kc_bipush_24 rfl rfl ?_
      refine r_iremN (i := 49) rfl rfl fun x84 => ?_
      refine r_VV1 (i := 50) (k2 := 0) (n2 := 0) ok_Mod_lieOn wM_Mod_392 (c_Mod_lieOn F) (fun _ e => fw_ckb e) (Nat.le_of_ble_eq_true rfl) (Nat.le_of_ble_eq_true rfl) (Nat.le_of_ble_eq_true rfl) (Nat.le_of_ble_eq_true rfl) rfl rfl fun h85 => ?_
      refine r_iinc (i := 51) (1 : Int32) kc_iconst_1 rfl rfl rfl (Nat.le_of_ble_eq_true rfl) ?_
      refine r_goto (i := 52) (tgt := 67) rfl rfl rfl ?_
      exact r_lv (fw_sub1 rfl (fw_sub1 rfl (fw_sub1 rfl (fw_sub1 rfl fw_sub0)))) (ih (a67_3 + (1 : Int32)) h85)
def l_Mod_lies_102 (v0 : Option Nat) (v1 : Int32) (he94 : fw_H) : Nat → Int32 → Int32 → Option (Int32 × fw_H)
  | 0, _, _ => none
  | nn + 1, a102_3, a102_4 =>
    if (((13 : Int32) * v1) + (12 : Int32)) < a102_4 then (some (a102_3, he94)) else
    (f_gR he94 v0 12 41).bind fun x115 =>
    (f_aI he94 x115 a102_4).bind fun x120 =>
    if x120 = (-1 : Int32) then (l_Mod_lies_102 v0 v1 he94 nn a102_3 (a102_4 + (1 : Int32))) else
    if a102_3 = (-1 : Int32) then ((f_gR he94 v0 12 41).bind fun x142 =>
    (f_aI he94 x142 a102_4).bind fun x147 =>
    l_Mod_lies_102 v0 v1 he94 nn x147 (a102_4 + (1 : Int32))) else
    (f_gR he94 v0 12 41).bind fun x131 =>
    (f_aI he94 x131 a102_4).bind fun x136 =>
    if a102_3 ≤ x136 then (l_Mod_lies_102 v0 v1 he94 nn a102_3 (a102_4 + (1 : Int32))) else
    (f_gR he94 v0 12 41).bind fun x142 =>
    (f_aI he94 x142 a102_4).bind fun x147 =>
    l_Mod_lies_102 v0 v1 he94 nn x147 (a102_4 + (1 : Int32))
theorem cl_Mod_lies_102 {G : fw_G} {v0 : Option Nat} {v1 : Int32} {he94 : fw_H} : ∀ (nn : Nat) (a102_3 : Int32) (a102_4 : Int32), fw_R G m_Mod_lies fw_wI 9 0 0 102 [(0, some (fw_r v0)), (1, some (fw_i v1)), (3, some (fw_i a102_3)), (4, some (fw_i a102_4))] [] he94 (l_Mod_lies_102 v0 v1 he94 nn a102_3 a102_4) := by
  intro nn
  induction nn with
  | zero => intros; exact r_none
  | succ nn ih =>
    intro a102_3 a102_4
    rw [l_Mod_lies_102]
    refine r_iload (i := 59) rfl rfl rfl ?_
    refine r_bipush (i := 60) (13 : Int32) kc_bipush_13 rfl rfl ?_
    refine r_iload_n (i := 61) rfl rfl rfl ?_
    refine r_imul (i := 62) rfl rfl ?_
    refine r_bipush (i := 63) (12 : Int32) kc_bipush_12 rfl rfl ?_
    refine r_iadd (i := 64) rfl rfl ?_
    refine r_icmp_gt (i := 65) (tgt := 159) rfl rfl rfl ?_ ?_
    · refine r_iload_n (i := 90) rfl rfl rfl ?_
      exact r_retI (i := 91) rfl rfl rfl rfl
    · refine r_aload_n (i := 66) rfl rfl rfl ?_
      refine r_gR (i := 67) (ci := 12) (kf := 41) rfl (Nat.le_of_ble_eq_true rfl) wF_Mod_74 rfl rfl fun x115 => ?_
      refine r_iload (i := 68) rfl rfl rfl ?_
      refine r_aI (i := 69) rfl rfl fun x120 => ?_
      refine r_iconst (i := 70) (-1 : Int32) kc_iconst_m1 rfl rfl ?_
      refine r_icmp_eq (i := 71) (tgt := 151) rfl rfl rfl ?_ ?_
      · refine r_iload_n (i := 86) rfl rfl rfl ?_
        refine r_istore_n (i := 87) rfl rfl (Nat.le_of_ble_eq_true rfl) rfl ?_
        refine r_iinc (i := 88) (1 : Int32) kc_iconst_1 rfl rfl rfl (Nat.le_of_ble_eq_true rfl) ?_
        refine r_goto (i := 89) (tgt := 102) rfl rfl rfl ?_
        exact r_lv (fw_sub1 rfl (fw_sub1 rfl (fw_sub1 rfl (fw_sub1 rfl fw_sub0)))) (ih a102_3 (a102_4 + (1 : Int32)))
      · refine r_iload_n (i := 72) rfl rfl rfl ?_
        refine r_iconst (i := 73) (-1 : Int32) kc_iconst_m1 rfl rfl ?_
        refine r_icmp_eq (i := 74) (tgt := 141) rfl rfl rfl ?_ ?_
        · refine r_aload_n (i := 81) rfl rfl rfl ?_
          refine r_gR (i := 82) (ci := 12) (kf := 41) rfl (Nat.le_of_ble_eq_true rfl) wF_Mod_74 rfl rfl fun x142 => ?_
          refine r_iload (i := 83) rfl rfl rfl ?_
          refine r_aI (i := 84) rfl rfl fun x147 => ?_
          refine r_goto (i := 85) (tgt := 152) rfl rfl rfl ?_
          refine r_istore_n (i := 87) rfl rfl (Nat.le_of_ble_eq_true rfl) rfl ?_
          refine r_iinc (i := 88) (1 : Int32) kc_iconst_1 rfl rfl rfl (Nat.le_of_ble_eq_true rfl) ?_
          refine r_goto (i := 89) (tgt := 102) rfl rfl rfl ?_
          exact r_lv (fw_sub1 rfl (fw_sub1 rfl (fw_sub1 rfl (fw_sub1 rfl fw_sub0)))) (ih x147 (a102_4 + (1 : Int32)))
        · refine r_aload_n (i := 75) rfl rfl rfl ?_
          refine r_gR (i := 76) (ci := 12) (kf := 41) rfl (Nat.le_of_ble_eq_true rfl) wF_Mod_74 rfl rfl fun x131 => ?_
          refine r_iload (i := 77) rfl rfl rfl ?_
          refine r_aI (i := 78) rfl rfl fun x136 => ?_
          refine r_iload_n (i := 79) rfl rfl rfl ?_
          refine r_icmp_ge (i := 80) (tgt := 151) rfl rfl rfl ?_ ?_
          · refine r_iload_n (i := 86) rfl rfl rfl ?_
            refine r_istore_n (i := 87) rfl rfl (Nat.le_of_ble_eq_true rfl) rfl ?_
            refine r_iinc (i := 88) (1 : Int32) kc_iconst_1 rfl rfl rfl (Nat.le_of_ble_eq_true rfl) ?_
            refine r_goto (i := 89) (tgt := 102) rfl rfl rfl ?_
            exact r_lv (fw_sub1 rfl (fw_sub1 rfl (fw_sub1 rfl (fw_sub1 rfl fw_sub0)))) (ih a102_3 (a102_4 + (1 : Int32)))
          · refine r_aload_n (i := 81) rfl rfl rfl ?_
            refine r_gR (i := 82) (ci := 12) (kf := 41) rfl (Nat.le_of_ble_eq_true rfl) wF_Mod_74 rfl rfl fun x142 => ?_
            refine r_iload (i := 83) rfl rfl rfl ?_
            refine r_aI (i := 84) rfl rfl fun x147 => ?_
            refine r_goto (i := 85) (tgt := 152) rfl rfl rfl ?_
            refine r_istore_n (i := 87) rfl rfl (Nat.le_of_ble_eq_true rfl) rfl ?_
            refine r_iinc (i := 88) (1 : Int32) kc_iconst_1 rfl rfl rfl (Nat.le_of_ble_eq_true rfl) ?_
            refine r_goto (i := 89) (tgt := 102) rfl rfl rfl ?_
            exact r_lv (fw_sub1 rfl (fw_sub1 rfl (fw_sub1 rfl (fw_sub1 rfl fw_sub0)))) (ih x147 (a102_4 + (1 : Int32)))
def s_Mod_lies (F : Nat) (h : fw_H) (v0 : Option Nat) (v1 : Int32) (v2 : Int32) : Option (Int32 × fw_H) :=
(f_ck h v0 12).bind fun _ =>
(s_Mod_isHouse h v0 v1).bind fun x2 =>
if x2 = true then ((s_Mod_in v2 (0 : Int32) (30 : Int32)).bind fun x12 =>
if x12 = true then (l_Mod_lies_22 v0 (fun he42 =>
(f_gR he42 v0 12 41).bind fun x43 =>
(f_gR he42 v0 12 26).bind fun x47 =>
(f_aI he42 x47 (54 : Int32)).bind fun x52 =>
(f_gR he42 v0 12 26).bind fun x54 =>
(f_aI he42 x54 (55 : Int32)).bind fun x59 =>
(s_Mod_stateOf x52 x59).bind fun x60 =>
(f_sI he42 x43 x60 (0 : Int32)).bind fun h64 =>
l_Mod_lies_67 F v0 v2 (fun he94 =>
l_Mod_lies_102 v0 v1 he94 F (-1 : Int32) ((13 : Int32) * v1)) F (0 : Int32) h64) F (0 : Int32) h) else
some ((-1 : Int32), h)) else
some ((-1 : Int32), h)
theorem c_Mod_lies {G : fw_G} (F : Nat) {h : fw_H} {v0 : Option Nat} {v1 : Int32} {v2 : Int32} : fw_Call G m_Mod_lies fw_wI 9 0 0 [fw_r v0, fw_i v1, fw_i v2] h (s_Mod_lies F h v0 v1 v2) := by
  refine fw_Call.of ok_Mod_lies.1 (Nat.le_of_ble_eq_true rfl) [(0, some (fw_r v0)), (1, some (fw_i v1)), (2, some (fw_i v2))] rfl ?_
  refine r_ck ?_
  refine r_aload_n (i := 0) rfl rfl rfl ?_
  refine r_iload_n (i := 1) rfl rfl rfl ?_
  refine r_VB1 (i := 2) (k2 := 0) (n2 := 0) ok_Mod_isHouse wM_Mod_279 (c_Mod_isHouse) (fun _ e => fw_ckb e) (Nat.le_of_ble_eq_true rfl) (Nat.le_of_ble_eq_true rfl) (Nat.le_of_ble_eq_true rfl) (Nat.le_of_ble_eq_true rfl) rfl rfl fun x2 => ?_
  refine r_ifeqB (i := 3) (tgt := 18) rfl rfl rfl ?_ ?_
  · refine r_iconst (i := 9) (-1 : Int32) kc_iconst_m1 rfl rfl ?_
    exact r_retI (i := 10) rfl rfl rfl rfl
  · refine r_iload_n (i := 4) rfl rfl rfl ?_
    refine r_iconst (i := 5) (0 : Int32) kc_iconst_0 rfl rfl ?_
    refine r_bipush (i := 6) (30 : Int32) kc_bipush_30 rfl rfl ?_
    refine r_SB3 (i := 7) (k2 := 0) (n2 := 0) ok_Mod_in wM_Mod_275 (c_Mod_in) (Nat.le_of_ble_eq_true rfl) (Nat.le_of_ble_eq_true rfl) (Nat.le_of_ble_eq_true rfl) (Nat.le_of_ble_eq_true rfl) rfl rfl fun x12 => ?_
    refine r_ifneB (i := 8) (tgt := 20) rfl rfl rfl ?_ ?_
    · refine r_iconst (i := 11) (0 : Int32) kc_iconst_0 rfl rfl ?_
      refine r_istore_n (i := 12) rfl rfl (Nat.le_of_ble_eq_true rfl) rfl ?_
      refine r_lv (fw_sub1 rfl (fw_sub1 rfl (fw_sub1 rfl (fw_sub1 rfl fw_sub0)))) (cl_Mod_lies_22 ?_ F _ _)
      · intro he42
        refine r_aload_n (i := 23) rfl rfl rfl ?_
        refine r_gR (i := 24) (ci := 12) (kf := 41) rfl (Nat.le_of_ble_eq_true rfl) wF_Mod_74 rfl rfl fun x43 => ?_
        refine r_aload_n (i := 25) rfl rfl rfl ?_
        refine r_gR (i := 26) (ci := 12) (kf := 26) rfl (Nat.le_of_ble_eq_true rfl) wF_Mod_55 rfl rfl fun x47 => ?_
        refine r_bipush (i := 27) (54 : Int32) kc_bipush_54 rfl rfl ?_
        refine r_aI (i := 28) rfl rfl fun x52 => ?_
        refine r_aload_n (i := 29) rfl rfl rfl ?_
        refine r_gR (i := 30) (ci := 12) (kf := 26) rfl (Nat.le_of_ble_eq_true rfl) wF_Mod_55 rfl rfl fun x54 => ?_
        refine r_bipush (i := 31) (55 : Int32) kc_bipush_55 rfl rfl ?_
        refine r_aI (i := 32) rfl rfl fun x59 => ?_
        refine r_SI2 (i := 33) (k2 := 0) (n2 := 0) ok_Mod_stateOf wM_Mod_354 (c_Mod_stateOf) (Nat.le_of_ble_eq_true rfl) (Nat.le_of_ble_eq_true rfl) (Nat.le_of_ble_eq_true rfl) (Nat.le_of_ble_eq_true rfl) rfl rfl fun x60 => ?_
        refine r_iconst (i := 34) (0 : Int32) kc_iconst_0 rfl rfl ?_
        refine r_sI (i := 35) rfl rfl fun h64 => ?_
        refine r_iconst (i := 36) (0 : Int32) kc_iconst_0 rfl rfl ?_
        refine r_istore_n (i := 37) rfl rfl (Nat.le_of_ble_eq_true rfl) rfl ?_
        refine r_lv (fw_sub1 rfl (fw_sub1 rfl (fw_sub1 rfl (fw_sub1 rfl fw_sub0)))) (cl_Mod_lies_67 ?_ F _ _)
        · intro he94
          refine r_iconst (i := 53) (-1 : Int32) kc_iconst_m1 rfl rfl ?_
          refine r_istore_n (i := 54) rfl rfl (Nat.le_of_ble_eq_true rfl) rfl ?_
          refine r_bipush (i := 55) (13 : Int32) kc_bipush_13 rfl rfl ?_
          refine r_iload_n (i := 56) rfl rfl rfl ?_
          refine r_imul (i := 57) rfl rfl ?_
          refine r_istore (i := 58) rfl rfl (Nat.le_of_ble_eq_true rfl) rfl ?_
          refine r_lv (fw_sub1 rfl (fw_sub1 rfl (fw_sub1 rfl (fw_sub1 rfl fw_sub0)))) (cl_Mod_lies_102 F _ _)
    · refine r_iconst (i := 9) (-1 : Int32) kc_iconst_m1 rfl rfl ?_
      exact r_retI (i := 10) rfl rfl rfl rfl
-- Mod_shutters
def l_Mod_shutters_50 (v0 : Option Nat) (a18_3 : Int32) (K132 : Int32 → fw_H → Option (Int32 × fw_H)) : Nat → Int32 → Int32 → fw_H → Option (Int32 × fw_H)
  | 0, _, _, _ => none
  | nn + 1, a50_4, a50_5, g50 =>
    (f_gI g50 v0 12 25).bind fun x53 =>
    if x53 ≤ a50_5 then (K132 a50_4 g50) else
    fw_jn (fun (t91_0 : Int32) =>
    (f_gR g50 v0 12 26).bind fun x94 =>
    (s_Mod_has a18_3 a50_5).bind fun x105 =>
    if x105 = true then ((f_sI g50 x94 ((36 : Int32) + a50_5) (1 : Int32)).bind fun h125 =>
    l_Mod_shutters_50 v0 a18_3 K132 nn t91_0 (a50_5 + (1 : Int32)) h125) else
    (f_gR g50 v0 12 40).bind fun x116 =>
    (f_aI g50 x116 ((36 : Int32) + a50_5)).bind fun x124 =>
    (f_sI g50 x94 ((36 : Int32) + a50_5) x124).bind fun h125 =>
    l_Mod_shutters_50 v0 a18_3 K132 nn t91_0 (a50_5 + (1 : Int32)) h125) fun J91 =>
    if a50_4 = (0 : Int32) then (J91 (0 : Int32)) else
    (s_Mod_has a18_3 a50_5).bind fun x67 =>
    if x67 = true then ((f_gR g50 v0 12 40).bind fun x74 =>
    (f_aI g50 x74 ((36 : Int32) + a50_5)).bind fun x82 =>
    if ¬ x82 = (0 : Int32) then (J91 (0 : Int32)) else
    J91 (1 : Int32)) else
    J91 (1 : Int32)
theorem cl_Mod_shutters_50 {G : fw_G} {v0 : Option Nat} {v1 : Int32} {a18_2 : Int32} {a18_3 : Int32} {K132 : Int32 → fw_H → Option (Int32 × fw_H)} (hK132 : ∀ (e132_4 : Int32) (he132 : fw_H), fw_R G m_Mod_shutters fw_wI 9 0 0 132 [(0, some (fw_r v0)), (1, some (fw_i v1)), (2, some (fw_i a18_2)), (3, some (fw_i a18_3)), (4, some (fw_i e132_4))] [] he132 (K132 e132_4 he132)) : ∀ (nn : Nat) (a50_4 : Int32) (a50_5 : Int32) (g50 : fw_H), fw_R G m_Mod_shutters fw_wI 9 0 0 50 [(0, some (fw_r v0)), (1, some (fw_i v1)), (2, some (fw_i a18_2)), (3, some (fw_i a18_3)), (4, some (fw_i a50_4)), (5, some (fw_i a50_5))] [] g50 (l_Mod_shutters_50 v0 a18_3 K132 nn a50_4 a50_5 g50) := by
  intro nn
  induction nn with
  | zero => intros; exact r_none
  | succ nn ih =>
    intro a50_4 a50_5 g50
    rw [l_Mod_shutters_50]
    refine r_iload (i := 30) rfl rfl rfl ?_
    refine r_aload_n (i := 31) rfl rfl rfl ?_
    refine r_gI (i := 32) (ci := 12) (kf := 25) rfl (Nat.le_of_ble_eq_true rfl) wF_Mod_253 rfl rfl fun x53 => ?_
    refine r_icmp_ge (i := 33) (tgt := 132) rfl rfl rfl ?_ ?_
    · exact r_lv (fw_sub1 rfl (fw_sub1 rfl (fw_sub1 rfl (fw_sub1 rfl (fw_sub1 rfl fw_sub0))))) (hK132 a50_4 g50)
    · refine r_iload (i := 34) rfl rfl rfl ?_
      refine r_join (P := fun J91 => ∀ (t91_0 : Int32), fw_R G m_Mod_shutters fw_wI 9 (0) (0) 91 [(0, some (fw_r v0)), (1, some (fw_i v1)), (2, some (fw_i a18_2)), (3, some (fw_i a18_3)), (5, some (fw_i a50_5))] [fw_i t91_0] g50 (J91 t91_0)) ?_ (fun J91 hJ91 => ?_)
      · intro t91_0
        refine r_istore (i := 50) rfl rfl (Nat.le_of_ble_eq_true rfl) rfl ?_
        refine r_aload_n (i := 51) rfl rfl rfl ?_
        refine r_gR (i := 52) (ci := 12) (kf := 26) rfl (Nat.le_of_ble_eq_true rfl) wF_Mod_55 rfl rfl fun x94 => ?_
        refine r_bipush (i := 53) (36 : Int32) kc_bipush_36 rfl rfl ?_
        refine r_iload (i := 54) rfl rfl rfl ?_
        refine r_iadd (i := 55) rfl rfl ?_
        refine r_iload_n (i := 56) rfl rfl rfl ?_
        refine r_iload (i := 57) rfl rfl rfl ?_
        refine r_SB2 (i := 58) (k2 := 0) (n2 := 0) ok_Mod_has wM_Mod_218 (c_Mod_has) (Nat.le_of_ble_eq_true rfl) (Nat.le_of_ble_eq_true rfl) (Nat.le_of_ble_eq_true rfl) (Nat.le_of_ble_eq_true rfl) rfl rfl fun x105 => ?_
        refine r_ifeqB (i := 59) (tgt := 115) rfl rfl rfl ?_ ?_
        · refine r_aload_n (i := 62) rfl rfl rfl ?_
          refine r_gR (i := 63) (ci := 12) (kf := 40) rfl (Nat.le_of_ble_eq_true rfl) wF_Mod_71 rfl rfl fun x116 => ?_
          refine r_bipush (i := 64) (36 : Int32) kc_bipush_36 rfl rfl ?_
          refine r_iload (i := 65) rfl rfl rfl ?_
          refine r_iadd (i := 66) rfl rfl ?_
          refine r_aI (i := 67) rfl rfl fun x124 => ?_
          refine r_sI (i := 68) rfl rfl fun h125 => ?_
          refine r_iinc (i := 69) (1 : Int32) kc_iconst_1 rfl rfl rfl (Nat.le_of_ble_eq_true rfl) ?_
          refine r_goto (i := 70) (tgt := 50) rfl rfl rfl ?_
          exact r_lv (fw_sub1 rfl (fw_sub1 rfl (fw_sub1 rfl (fw_sub1 rfl (fw_sub1 rfl (fw_sub1 rfl fw_sub0)))))) (ih t91_0 (a50_5 + (1 : Int32)) h125)
        · refine r_iconst (i := 60) (1 : Int32) kc_iconst_1 rfl rfl ?_
          refine r_goto (i := 61) (tgt := 125) rfl rfl rfl ?_
          refine r_sI (i := 68) rfl rfl fun h125 => ?_
          refine r_iinc (i := 69) (1 : Int32) kc_iconst_1 rfl rfl rfl (Nat.le_of_ble_eq_true rfl) ?_
          refine r_goto (i := 70) (tgt := 50) rfl rfl rfl ?_
          exact r_lv (fw_sub1 rfl (fw_sub1 rfl (fw_sub1 rfl (fw_sub1 rfl (fw_sub1 rfl (fw_sub1 rfl fw_sub0)))))) (ih t91_0 (a50_5 + (1 : Int32)) h125)
      · refine r_if_eq (i := 35) (tgt := 90) rfl rfl rfl ?_ ?_
        · refine r_iconst (i := 49) (0 : Int32) kc_iconst_0 rfl rfl ?_
          exact r_lv (fw_sub1 rfl (fw_sub1 rfl (fw_sub1 rfl (fw_sub1 rfl (fw_sub1 rfl fw_sub0))))) (hJ91 (0 : Int32))
        · refine r_iload_n (i := 36) rfl rfl rfl ?_
          refine r_iload (i := 37) rfl rfl rfl ?_
          refine r_SB2 (i := 38) (k2 := 0) (n2 := 0) ok_Mod_has wM_Mod_218 (c_Mod_has) (Nat.le_of_ble_eq_true rfl) (Nat.le_of_ble_eq_true rfl) (Nat.le_of_ble_eq_true rfl) (Nat.le_of_ble_eq_true rfl) rfl rfl fun x67 => ?_
          refine r_ifeqB (i := 39) (tgt := 86) rfl rfl rfl ?_ ?_
          · refine r_iconst (i := 47) (1 : Int32) kc_iconst_1 rfl rfl ?_
            refine r_goto (i := 48) (tgt := 91) rfl rfl rfl ?_
            exact r_lv (fw_sub1 rfl (fw_sub1 rfl (fw_sub1 rfl (fw_sub1 rfl (fw_sub1 rfl fw_sub0))))) (hJ91 (1 : Int32))
          · refine r_aload_n (i := 40) rfl rfl rfl ?_
            refine r_gR (i := 41) (ci := 12) (kf := 40) rfl (Nat.le_of_ble_eq_true rfl) wF_Mod_71 rfl rfl fun x74 => ?_
            refine r_bipush (i := 42) (36 : Int32) kc_bipush_36 rfl rfl ?_
            refine r_iload (i := 43) rfl rfl rfl ?_
            refine r_iadd (i := 44) rfl rfl ?_
            refine r_aI (i := 45) rfl rfl fun x82 => ?_
            refine r_if_ne (i := 46) (tgt := 90) rfl rfl rfl ?_ ?_
            · refine r_iconst (i := 49) (0 : Int32) kc_iconst_0 rfl rfl ?_
              exact r_lv (fw_sub1 rfl (fw_sub1 rfl (fw_sub1 rfl (fw_sub1 rfl (fw_sub1 rfl fw_sub0))))) (hJ91 (0 : Int32))
            · refine r_iconst (i := 47) (1 : Int32) kc_iconst_1 rfl rfl ?_
              refine r_goto (i := 48) (tgt := 91) rfl rfl rfl ?_
              exact r_lv (fw_sub1 rfl (fw_sub1 rfl (fw_sub1 rfl (fw_sub1 rfl (fw_sub1 rfl fw_sub0))))) (hJ91 (1 : Int32))
def l_Mod_shutters_18 (F : Nat) (v0 : Option Nat) (v1 : Int32) (K164 : Int32 → fw_H → Option (Int32 × fw_H)) : Nat → Int32 → Int32 → fw_H → Option (Int32 × fw_H)
  | 0, _, _, _ => none
  | nn + 1, a18_2, a18_3, g18 =>
    (f_gI g18 v0 12 25).bind fun x21 =>
    if ((1 : Int32) <<< (x21 &&& 31)) ≤ a18_3 then (K164 a18_2 g18) else
    (s_Jdk_bitCount a18_3).bind fun x29 =>
    if (3 : Int32) < x29 then (l_Mod_shutters_18 F v0 v1 K164 nn a18_2 (a18_3 + (1 : Int32)) g18) else
    (s_Mod_isFewer a18_3 a18_2).bind fun x38 =>
    if x38 = true then (l_Mod_shutters_50 v0 a18_3 (fun e132_4 he132 =>
    if e132_4 = (0 : Int32) then (l_Mod_shutters_18 F v0 v1 K164 nn a18_2 (a18_3 + (1 : Int32)) he132) else
    (s_Mod_layRing F he132 v0).bind fun h138 =>
    (f_gI h138 v0 12 38).bind fun x142 =>
    (s_Mod_has x142 v1).bind fun x146 =>
    if x146 = true then (l_Mod_shutters_18 F v0 v1 K164 nn a18_2 (a18_3 + (1 : Int32)) h138) else
    l_Mod_shutters_18 F v0 v1 K164 nn a18_3 (a18_3 + (1 : Int32)) h138) F (1 : Int32) (0 : Int32) g18) else
    l_Mod_shutters_18 F v0 v1 K164 nn a18_2 (a18_3 + (1 : Int32)) g18
theorem cl_Mod_shutters_18 {G : fw_G} {F : Nat} {v0 : Option Nat} {v1 : Int32} {K164 : Int32 → fw_H → Option (Int32 × fw_H)} (hK164 : ∀ (e164_2 : Int32) (he164 : fw_H), fw_R G m_Mod_shutters fw_wI 9 0 0 164 [(0, some (fw_r v0)), (2, some (fw_i e164_2))] [] he164 (K164 e164_2 he164)) : ∀ (nn : Nat) (a18_2 : Int32) (a18_3 : Int32) (g18 : fw_H), fw_R G m_Mod_shutters fw_wI 9 0 0 18 [(0, some (fw_r v0)), (1, some (fw_i v1)), (2, some (fw_i a18_2)), (3, some (fw_i a18_3))] [] g18 (l_Mod_shutters_18 F v0 v1 K164 nn a18_2 a18_3 g18) := by
  intro nn
  induction nn with
  | zero => intros; exact r_none
  | succ nn ih =>
    intro a18_2 a18_3 g18
    rw [l_Mod_shutters_18]
    refine r_iload_n (i := 12) rfl rfl rfl ?_
    refine r_iconst (i := 13) (1 : Int32) kc_iconst_1 rfl rfl ?_
    refine r_aload_n (i := 14) rfl rfl rfl ?_
    refine r_gI (i := 15) (ci := 12) (kf := 25) rfl (Nat.le_of_ble_eq_true rfl) wF_Mod_253 rfl rfl fun x21 => ?_
    refine r_ishl (i := 16) rfl rfl ?_
    refine r_icmp_ge (i := 17) (tgt := 164) rfl rfl rfl ?_ ?_
    · exact r_lv (fw_sub1 rfl (fw_sub1 rfl fw_sub0)) (hK164 a18_2 g18)
    · refine r_iload_n (i := 18) rfl rfl rfl ?_
      refine r_SI1 (i := 19) (k2 := 0) (n2 := 0) ok_Jdk_bitCount wM_Mod_372 (c_Jdk_bitCount) (Nat.le_of_ble_eq_true rfl) (Nat.le_of_ble_eq_true rfl) (Nat.le_of_ble_eq_true rfl) (Nat.le_of_ble_eq_true rfl) rfl rfl fun x29 => ?_
      refine r_iconst (i := 20) (3 : Int32) kc_iconst_3 rfl rfl ?_
      refine r_icmp_gt (i := 21) (tgt := 158) rfl rfl rfl ?_ ?_
      · refine r_iinc (i := 84) (1 : Int32) kc_iconst_1 rfl rfl rfl (Nat.le_of_ble_eq_true rfl) ?_
        refine r_goto (i := 85) (tgt := 18) rfl rfl rfl ?_
        exact r_lv (fw_sub1 rfl (fw_sub1 rfl (fw_sub1 rfl (fw_sub1 rfl fw_sub0)))) (ih a18_2 (a18_3 + (1 : Int32)) g18)
      · refine r_iload_n (i := 22) rfl rfl rfl ?_
        refine r_iload_n (i := 23) rfl rfl rfl ?_
        refine r_SB2 (i := 24) (k2 := 0) (n2 := 0) ok_Mod_isFewer wM_Mod_380 (c_Mod_isFewer) (Nat.le_of_ble_eq_true rfl) (Nat.le_of_ble_eq_true rfl) (Nat.le_of_ble_eq_true rfl) (Nat.le_of_ble_eq_true rfl) rfl rfl fun x38 => ?_
        refine r_ifeqB (i := 25) (tgt := 158) rfl rfl rfl ?_ ?_
        · refine r_iinc (i := 84) (1 : Int32) kc_iconst_1 rfl rfl rfl (Nat.le_of_ble_eq_true rfl) ?_
          refine r_goto (i := 85) (tgt := 18) rfl rfl rfl ?_
          exact r_lv (fw_sub1 rfl (fw_sub1 rfl (fw_sub1 rfl (fw_sub1 rfl fw_sub0)))) (ih a18_2 (a18_3 + (1 : Int32)) g18)
        · refine r_iconst (i := 26) (1 : Int32) kc_iconst_1 rfl rfl ?_
          refine r_istore (i := 27) rfl rfl (Nat.le_of_ble_eq_true rfl) rfl ?_
          refine r_iconst (i := 28) (0 : Int32) kc_iconst_0 rfl rfl ?_
          refine r_istore (i := 29) rfl rfl (Nat.le_of_ble_eq_true rfl) rfl ?_
          refine r_lv (fw_sub1 rfl (fw_sub1 rfl (fw_sub1 rfl (fw_sub1 rfl (fw_sub1 rfl (fw_sub1 rfl fw_sub0)))))) (cl_Mod_shutters_50 ?_ F _ _ _)
          · intro e132_4 he132
            refine r_iload (i := 71) rfl rfl rfl ?_
            refine r_if_eq (i := 72) (tgt := 158) rfl rfl rfl ?_ ?_
            · refine r_iinc (i := 84) (1 : Int32) kc_iconst_1 rfl rfl rfl (Nat.le_of_ble_eq_true rfl) ?_
              refine r_goto (i := 85) (tgt := 18) rfl rfl rfl ?_
              exact r_lv (fw_sub1 rfl (fw_sub1 rfl (fw_sub1 rfl (fw_sub1 rfl fw_sub0)))) (ih a18_2 (a18_3 + (1 : Int32)) he132)
            · refine r_aload_n (i := 73) rfl rfl rfl ?_
              refine r_VV0 (i := 74) (k2 := 0) (n2 := 0) ok_Mod_layRing wM_Mod_366 (c_Mod_layRing F) (fun _ e => fw_ckb e) (Nat.le_of_ble_eq_true rfl) (Nat.le_of_ble_eq_true rfl) (Nat.le_of_ble_eq_true rfl) (Nat.le_of_ble_eq_true rfl) rfl rfl fun h138 => ?_
              refine r_aload_n (i := 75) rfl rfl rfl ?_
              refine r_gI (i := 76) (ci := 12) (kf := 38) rfl (Nat.le_of_ble_eq_true rfl) wF_Mod_351 rfl rfl fun x142 => ?_
              refine r_iload_n (i := 77) rfl rfl rfl ?_
              refine r_SB2 (i := 78) (k2 := 0) (n2 := 0) ok_Mod_has wM_Mod_218 (c_Mod_has) (Nat.le_of_ble_eq_true rfl) (Nat.le_of_ble_eq_true rfl) (Nat.le_of_ble_eq_true rfl) (Nat.le_of_ble_eq_true rfl) rfl rfl fun x146 => ?_
              refine r_ifeqB (i := 79) (tgt := 156) rfl rfl rfl ?_ ?_
              · refine r_iload_n (i := 82) rfl rfl rfl ?_
                refine r_istore_n (i := 83) rfl rfl (Nat.le_of_ble_eq_true rfl) rfl ?_
                refine r_iinc (i := 84) (1 : Int32) kc_iconst_1 rfl rfl rfl (Nat.le_of_ble_eq_true rfl) ?_
                refine r_goto (i := 85) (tgt := 18) rfl rfl rfl ?_
                exact r_lv (fw_sub1 rfl (fw_sub1 rfl (fw_sub1 rfl (fw_sub1 rfl fw_sub0)))) (ih a18_3 (a18_3 + (1 : Int32)) h138)
              · refine r_iload_n (i := 80) rfl rfl rfl ?_
                refine r_goto (i := 81) (tgt := 157) rfl rfl rfl ?_
                refine r_istore_n (i := 83) rfl rfl (Nat.le_of_ble_eq_true rfl) rfl ?_
                refine r_iinc (i := 84) (1 : Int32) kc_iconst_1 rfl rfl rfl (Nat.le_of_ble_eq_true rfl) ?_
                refine r_goto (i := 85) (tgt := 18) rfl rfl rfl ?_
                exact r_lv (fw_sub1 rfl (fw_sub1 rfl (fw_sub1 rfl (fw_sub1 rfl fw_sub0)))) (ih a18_2 (a18_3 + (1 : Int32)) h138)
def s_Mod_shutters (F : Nat) (h : fw_H) (v0 : Option Nat) (v1 : Int32) : Option (Int32 × fw_H) :=
(f_ck h v0 12).bind fun _ =>
(s_Mod_isHouse h v0 v1).bind fun x2 =>
if x2 = true then ((s_Mod_putAside F h v0).bind fun h13 =>
l_Mod_shutters_18 F v0 v1 (fun e164_2 he164 =>
(s_Mod_takeBack F he164 v0).bind fun h165 =>
some (e164_2, h165)) F (-1 : Int32) (0 : Int32) h13) else
some ((-1 : Int32), h)
theorem c_Mod_shutters {G : fw_G} (F : Nat) {h : fw_H} {v0 : Option Nat} {v1 : Int32} : fw_Call G m_Mod_shutters fw_wI 9 0 0 [fw_r v0, fw_i v1] h (s_Mod_shutters F h v0 v1) := by
  refine fw_Call.of ok_Mod_shutters.1 (Nat.le_of_ble_eq_true rfl) [(0, some (fw_r v0)), (1, some (fw_i v1))] rfl ?_
  refine r_ck ?_
  refine r_aload_n (i := 0) rfl rfl rfl ?_
  refine r_iload_n (i := 1) rfl rfl rfl ?_
  refine r_VB1 (i := 2) (k2 := 0) (n2 := 0) ok_Mod_isHouse wM_Mod_279 (c_Mod_isHouse) (fun _ e => fw_ckb e) (Nat.le_of_ble_eq_true rfl) (Nat.le_of_ble_eq_true rfl) (Nat.le_of_ble_eq_true rfl) (Nat.le_of_ble_eq_true rfl) rfl rfl fun x2 => ?_
  refine r_ifneB (i := 3) (tgt := 10) rfl rfl rfl ?_ ?_
  · refine r_iconst (i := 6) (-1 : Int32) kc_iconst_m1 rfl rfl ?_
    refine r_istore_n (i := 7) rfl rfl (Nat.le_of_ble_eq_true rfl) rfl ?_
    refine r_aload_n (i := 8) rfl rfl rfl ?_
    refine r_VV0 (i := 9) (k2 := 0) (n2 := 0) ok_Mod_putAside wM_Mod_377 (c_Mod_putAside F) (fun _ e => fw_ckb e) (Nat.le_of_ble_eq_true rfl) (Nat.le_of_ble_eq_true rfl) (Nat.le_of_ble_eq_true rfl) (Nat.le_of_ble_eq_true rfl) rfl rfl fun h13 => ?_
    refine r_iconst (i := 10) (0 : Int32) kc_iconst_0 rfl rfl ?_
    refine r_istore_n (i := 11) rfl rfl (Nat.le_of_ble_eq_true rfl) rfl ?_
    refine r_lv (fw_sub1 rfl (fw_sub1 rfl (fw_sub1 rfl (fw_sub1 rfl fw_sub0)))) (cl_Mod_shutters_18 ?_ F _ _ _)
    · intro e164_2 he164
      refine r_aload_n (i := 86) rfl rfl rfl ?_
      refine r_VV0 (i := 87) (k2 := 0) (n2 := 0) ok_Mod_takeBack wM_Mod_383 (c_Mod_takeBack F) (fun _ e => fw_ckb e) (Nat.le_of_ble_eq_true rfl) (Nat.le_of_ble_eq_true rfl) (Nat.le_of_ble_eq_true rfl) (Nat.le_of_ble_eq_true rfl) rfl rfl fun h165 => ?_
      refine r_iload_n (i := 88) rfl rfl rfl ?_
      exact r_retI (i := 89) rfl rfl rfl rfl
  · refine r_iconst (i := 4) (-1 : Int32) kc_iconst_m1 rfl rfl ?_
    exact r_retI (i := 5) rfl rfl rfl rfl
-- Mod_feast
def l_Mod_feast_61 (F : Nat) (v0 : Option Nat) (v1 : Int32) (v2 : Int32) (a51_4 : Int32) (K154 : fw_H → Option (Int32 × fw_H)) (K136 : Int32 → fw_H → Option (Int32 × fw_H)) : Nat → Int32 → fw_H → Option (Int32 × fw_H)
  | 0, _, _ => none
  | nn + 1, a61_5, g61 =>
    (f_gI g61 v0 12 24).bind fun x64 =>
    if x64 ≤ a61_5 then (K154 g61) else
    (f_gR g61 v0 12 26).bind fun x71 =>
    (f_aI g61 x71 ((0 : Int32) + a61_5)).bind fun x78 =>
    if (9 : Int32) < (x78 + a51_4) then (l_Mod_feast_61 F v0 v1 v2 a51_4 K154 K136 nn (a61_5 + (1 : Int32)) g61) else
    (f_gR g61 v0 12 26).bind fun x88 =>
    (f_aI g61 x88 ((0 : Int32) + a61_5)).bind fun x96 =>
    (f_sI g61 x88 ((0 : Int32) + a61_5) (x96 + a51_4)).bind fun h100 =>
    (s_Mod_whereBehind F h100 v0 v2).bind fun x103 =>
    fw_jn (fun (t115_0 : Int32) =>
    (f_gR x103.2 v0 12 26).bind fun x118 =>
    (f_aI x103.2 x118 ((0 : Int32) + a61_5)).bind fun x126 =>
    (f_sI x103.2 x118 ((0 : Int32) + a61_5) (x126 - a51_4)).bind fun h130 =>
    if t115_0 = (0 : Int32) then (l_Mod_feast_61 F v0 v1 v2 a51_4 K154 K136 nn (a61_5 + (1 : Int32)) h130) else
    K136 a61_5 h130) fun J115 =>
    if ¬ x103.1 = v1 then (J115 (0 : Int32)) else
    J115 (1 : Int32)
theorem cl_Mod_feast_61 {G : fw_G} {F : Nat} {v0 : Option Nat} {v1 : Int32} {v2 : Int32} {v3 : Int32} {a51_4 : Int32} {K154 : fw_H → Option (Int32 × fw_H)} {K136 : Int32 → fw_H → Option (Int32 × fw_H)} (hK154 : ∀ (he154 : fw_H), fw_R G m_Mod_feast fw_wI 9 0 0 154 [(0, some (fw_r v0)), (1, some (fw_i v1)), (2, some (fw_i v2)), (3, some (fw_i v3)), (4, some (fw_i a51_4))] [] he154 (K154 he154)) (hK136 : ∀ (e136_5 : Int32) (he136 : fw_H), fw_R G m_Mod_feast fw_wI 9 0 0 136 [(3, some (fw_i v3)), (4, some (fw_i a51_4)), (5, some (fw_i e136_5))] [] he136 (K136 e136_5 he136)) : ∀ (nn : Nat) (a61_5 : Int32) (g61 : fw_H), fw_R G m_Mod_feast fw_wI 9 0 0 61 [(0, some (fw_r v0)), (1, some (fw_i v1)), (2, some (fw_i v2)), (3, some (fw_i v3)), (4, some (fw_i a51_4)), (5, some (fw_i a61_5))] [] g61 (l_Mod_feast_61 F v0 v1 v2 a51_4 K154 K136 nn a61_5 g61) := by
  intro nn
  induction nn with
  | zero => intros; exact r_none
  | succ nn ih =>
    intro a61_5 g61
    rw [l_Mod_feast_61]
    refine r_iload (i := 34) rfl rfl rfl ?_
    refine r_aload_n (i := 35) rfl rfl rfl ?_
    refine r_gI (i := 36) (ci := 12) (kf := 24) rfl (Nat.le_of_ble_eq_true rfl) wF_Mod_250 rfl rfl fun x64 => ?_
    refine r_icmp_ge (i := 37) (tgt := 154) rfl rfl rfl ?_ ?_
    · exact r_lv (fw_sub1 rfl (fw_sub1 rfl (fw_sub1 rfl (fw_sub1 rfl (fw_sub1 rfl fw_sub0))))) (hK154 g61)
    · refine r_aload_n (i := 38) rfl rfl rfl ?_
      refine r_gR (i := 39) (ci := 12) (kf := 26) rfl (Nat.le_of_ble_eq_true rfl) wF_Mod_55 rfl rfl fun x71 => ?_
      refine r_iconst (i := 40) (0 : Int32) kc_iconst_0 rfl rfl ?_
      refine r_iload (i := 41) rfl rfl rfl ?_
      refine r_iadd (i := 42) rfl rfl ?_
      refine r_aI (i := 43) rfl rfl fun x78 => ?_
      refine r_iload (i := 44) rfl rfl rfl ?_
      refine r_iadd (i := 45) rfl rfl ?_
      refine r_bipush (i := 46) (9 : Int32) kc_bipush_9 rfl rfl ?_
      refine r_icmp_gt (i := 47) (tgt := 148) rfl rfl rfl ?_ ?_
      · refine r_iinc (i := 85) (1 : Int32) kc_iconst_1 rfl rfl rfl (Nat.le_of_ble_eq_true rfl) ?_
        refine r_goto (i := 86) (tgt := 61) rfl rfl rfl ?_
        exact r_lv (fw_sub1 rfl (fw_sub1 rfl (fw_sub1 rfl (fw_sub1 rfl (fw_sub1 rfl (fw_sub1 rfl fw_sub0)))))) (ih (a61_5 + (1 : Int32)) g61)
      · refine r_aload_n (i := 48) rfl rfl rfl ?_
        refine r_gR (i := 49) (ci := 12) (kf := 26) rfl (Nat.le_of_ble_eq_true rfl) wF_Mod_55 rfl rfl fun x88 => ?_
        refine r_iconst (i := 50) (0 : Int32) kc_iconst_0 rfl rfl ?_
        refine r_iload (i := 51) rfl rfl rfl ?_
        refine r_iadd (i := 52) rfl rfl ?_
        refine r_dup2 (i := 53) rfl rfl ?_
        refine r_aI (i := 54) rfl rfl fun x96 => ?_
        refine r_iload (i := 55) rfl rfl rfl ?_
        refine r_iadd (i := 56) rfl rfl ?_
        refine r_sI (i := 57) rfl rfl fun h100 => ?_
        refine r_aload_n (i := 58) rfl rfl rfl ?_
        refine r_iload_n (i := 59) rfl rfl rfl ?_
        refine r_VwI1 (i := 60) (k2 := 0) (n2 := 0) ok_Mod_whereBehind wM_Mod_348 (c_Mod_whereBehind F) (fun _ e => fw_ckb e) (Nat.le_of_ble_eq_true rfl) (Nat.le_of_ble_eq_true rfl) (Nat.le_of_ble_eq_true rfl) (Nat.le_of_ble_eq_true rfl) rfl rfl fun x103 => ?_
        refine r_iload_n (i := 61) rfl rfl rfl ?_
        refine r_join (P := fun J115 => ∀ (t115_0 : Int32), fw_R G m_Mod_feast fw_wI 9 (0) (0) 115 [(0, some (fw_r v0)), (1, some (fw_i v1)), (2, some (fw_i v2)), (3, some (fw_i v3)), (4, some (fw_i a51_4)), (5, some (fw_i a61_5))] [fw_i t115_0] x103.2 (J115 t115_0)) ?_ (fun J115 hJ115 => ?_)
        · intro t115_0
          refine r_istore (i := 66) rfl rfl (Nat.le_of_ble_eq_true rfl) rfl ?_
          refine r_aload_n (i := 67) rfl rfl rfl ?_
          refine r_gR (i := 68) (ci := 12) (kf := 26) rfl (Nat.le_of_ble_eq_true rfl) wF_Mod_55 rfl rfl fun x118 => ?_
          refine r_iconst (i := 69) (0 : Int32) kc_iconst_0 rfl rfl ?_
          refine r_iload (i := 70) rfl rfl rfl ?_
          refine r_iadd (i := 71) rfl rfl ?_
          refine r_dup2 (i := 72) rfl rfl ?_
          refine r_aI (i := 73) rfl rfl fun x126 => ?_
          refine r_iload (i := 74) rfl rfl rfl ?_
          refine r_isub (i := 75) rfl rfl ?_
          refine r_sI (i := 76) rfl rfl fun h130 => ?_
          refine r_iload (i := 77) rfl rfl rfl ?_
          refine r_if_eq (i := 78) (tgt := 148) rfl rfl rfl ?_ ?_
          · refine r_iinc (i := 85) (1 : Int32) kc_iconst_1 rfl rfl rfl (Nat.le_of_ble_eq_true rfl) ?_
            refine r_goto (i := 86) (tgt := 61) rfl rfl rfl ?_
            exact r_lv (fw_sub1 rfl (fw_sub1 rfl (fw_sub1 rfl (fw_sub1 rfl (fw_sub1 rfl (fw_sub1 rfl fw_sub0)))))) (ih (a61_5 + (1 : Int32)) h130)
          · exact r_lv (fw_sub1 rfl (fw_sub1 rfl (fw_sub1 rfl fw_sub0))) (hK136 a61_5 h130)
        · refine r_icmp_ne (i := 62) (tgt := 114) rfl rfl rfl ?_ ?_
          · refine r_iconst (i := 65) (0 : Int32) kc_iconst_0 rfl rfl ?_
            exact r_lv (fw_sub1 rfl (fw_sub1 rfl (fw_sub1 rfl (fw_sub1 rfl (fw_sub1 rfl (fw_sub1 rfl fw_sub0)))))) (hJ115 (0 : Int32))
          · refine r_iconst (i := 63) (1 : Int32) kc_iconst_1 rfl rfl ?_
            refine r_goto (i := 64) (tgt := 115) rfl rfl rfl ?_
            exact r_lv (fw_sub1 rfl (fw_sub1 rfl (fw_sub1 rfl (fw_sub1 rfl (fw_sub1 rfl (fw_sub1 rfl fw_sub0)))))) (hJ115 (1 : Int32))
def l_Mod_feast_51 (F : Nat) (v0 : Option Nat) (v1 : Int32) (v2 : Int32) (K136 : Int32 → Int32 → fw_H → Option (Int32 × fw_H)) : Nat → Int32 → fw_H → Option (Int32 × fw_H)
  | 0, _, _ => none
  | nn + 1, a51_4, g51 =>
    if (9 : Int32) < a51_4 then (some ((-1 : Int32), g51)) else
    l_Mod_feast_61 F v0 v1 v2 a51_4 (fun he154 =>
    l_Mod_feast_51 F v0 v1 v2 K136 nn (a51_4 + (1 : Int32)) he154) (fun e136_5 he136 =>
    K136 a51_4 e136_5 he136) F (0 : Int32) g51
theorem cl_Mod_feast_51 {G : fw_G} {F : Nat} {v0 : Option Nat} {v1 : Int32} {v2 : Int32} {v3 : Int32} {K136 : Int32 → Int32 → fw_H → Option (Int32 × fw_H)} (hK136 : ∀ (e136_4 : Int32) (e136_5 : Int32) (he136 : fw_H), fw_R G m_Mod_feast fw_wI 9 0 0 136 [(3, some (fw_i v3)), (4, some (fw_i e136_4)), (5, some (fw_i e136_5))] [] he136 (K136 e136_4 e136_5 he136)) : ∀ (nn : Nat) (a51_4 : Int32) (g51 : fw_H), fw_R G m_Mod_feast fw_wI 9 0 0 51 [(0, some (fw_r v0)), (1, some (fw_i v1)), (2, some (fw_i v2)), (3, some (fw_i v3)), (4, some (fw_i a51_4))] [] g51 (l_Mod_feast_51 F v0 v1 v2 K136 nn a51_4 g51) := by
  intro nn
  induction nn with
  | zero => intros; exact r_none
  | succ nn ih =>
    intro a51_4 g51
    rw [l_Mod_feast_51]
    refine r_iload (i := 29) rfl rfl rfl ?_
    refine r_bipush (i := 30) (9 : Int32) kc_bipush_9 rfl rfl ?_
    refine r_icmp_gt (i := 31) (tgt := 160) rfl rfl rfl ?_ ?_
    · refine r_iconst (i := 89) (-1 : Int32) kc_iconst_m1 rfl rfl ?_
      exact r_retI (i := 90) rfl rfl rfl rfl
    · refine r_iconst (i := 32) (0 : Int32) kc_iconst_0 rfl rfl ?_
      refine r_istore (i := 33) rfl rfl (Nat.le_of_ble_eq_true rfl) rfl ?_
      refine r_lv (fw_sub1 rfl (fw_sub1 rfl (fw_sub1 rfl (fw_sub1 rfl (fw_sub1 rfl (fw_sub1 rfl fw_sub0)))))) (cl_Mod_feast_61 ?_ ?_ F _ _)
      · intro he154
        refine r_iinc (i := 87) (1 : Int32) kc_iconst_1 rfl rfl rfl (Nat.le_of_ble_eq_true rfl) ?_
        refine r_goto (i := 88) (tgt := 51) rfl rfl rfl ?_
        exact r_lv (fw_sub1 rfl (fw_sub1 rfl (fw_sub1 rfl (fw_sub1 rfl (fw_sub1 rfl fw_sub0))))) (ih (a51_4 + (1 : Int32)) he154)
      · intro e136_5 he136
        exact r_lv (fw_sub1 rfl (fw_sub1 rfl (fw_sub1 rfl fw_sub0))) (hK136 a51_4 e136_5 he136)
def s_Mod_feast (F : Nat) (h : fw_H) (v0 : Option Nat) (v1 : Int32) (v2 : Int32) (v3 : Int32) : Option (Int32 × fw_H) :=
(f_ck h v0 12).bind fun _ =>
(s_Mod_isHouse h v0 v1).bind fun x2 =>
if x2 = true then ((s_Mod_in v2 (1 : Int32) (30 : Int32)).bind fun x12 =>
if x12 = true then ((s_Mod_in v3 (0 : Int32) (1 : Int32)).bind fun x21 =>
if x21 = true then ((s_Mod_whereBehind F h v0 v2).bind fun x31 =>
if ¬ x31.1 = v1 then (l_Mod_feast_51 F v0 v1 v2 (fun e136_4 e136_5 he136 =>
if ¬ v3 = (0 : Int32) then (some (e136_5, he136)) else
some (e136_4, he136)) F (1 : Int32) x31.2) else
if ¬ v3 = (0 : Int32) then (some ((-1 : Int32), x31.2)) else
some ((0 : Int32), x31.2)) else
some ((-1 : Int32), h)) else
some ((-1 : Int32), h)) else
some ((-1 : Int32), h)
theorem c_Mod_feast {G : fw_G} (F : Nat) {h : fw_H} {v0 : Option Nat} {v1 : Int32} {v2 : Int32} {v3 : Int32} : fw_Call G m_Mod_feast fw_wI 9 0 0 [fw_r v0, fw_i v1, fw_i v2, fw_i v3] h (s_Mod_feast F h v0 v1 v2 v3) := by
  refine fw_Call.of ok_Mod_feast.1 (Nat.le_of_ble_eq_true rfl) [(0, some (fw_r v0)), (1, some (fw_i v1)), (2, some (fw_i v2)), (3, some (fw_i v3))] rfl ?_
  refine r_ck ?_
  refine r_aload_n (i := 0) rfl rfl rfl ?_
  refine r_iload_n (i := 1) rfl rfl rfl ?_
  refine r_VB1 (i := 2) (k2 := 0) (n2 := 0) ok_Mod_isHouse wM_Mod_279 (c_Mod_isHouse) (fun _ e => fw_ckb e) (Nat.le_of_ble_eq_true rfl) (Nat.le_of_ble_eq_true rfl) (Nat.le_of_ble_eq_true rfl) (Nat.le_of_ble_eq_true rfl) rfl rfl fun x2 => ?_
  refine r_ifeqB (i := 3) (tgt := 27) rfl rfl rfl ?_ ?_
  · refine r_iconst (i := 14) (-1 : Int32) kc_iconst_m1 rfl rfl ?_
    exact r_retI (i := 15) rfl rfl rfl rfl
  · refine r_iload_n (i := 4) rfl rfl rfl ?_
    refine r_iconst (i := 5) (1 : Int32) kc_iconst_1 rfl rfl ?_
    refine r_bipush (i := 6) (30 : Int32) kc_bipush_30 rfl rfl ?_
    refine r_SB3 (i := 7) (k2 := 0) (n2 := 0) ok_Mod_in wM_Mod_275 (c_Mod_in) (Nat.le_of_ble_eq_true rfl) (Nat.le_of_ble_eq_true rfl) (Nat.le_of_ble_eq_true rfl) (Nat.le_of_ble_eq_true rfl) rfl rfl fun x12 => ?_
    refine r_ifeqB (i := 8) (tgt := 27) rfl rfl rfl ?_ ?_
    · refine r_iconst (i := 14) (-1 : Int32) kc_iconst_m1 rfl rfl ?_
      exact r_retI (i := 15) rfl rfl rfl rfl
    · refine r_iload_n (i := 9) rfl rfl rfl ?_
      refine r_iconst (i := 10) (0 : Int32) kc_iconst_0 rfl rfl ?_
      refine r_iconst (i := 11) (1 : Int32) kc_iconst_1 rfl rfl ?_
      refine r_SB3 (i := 12) (k2 := 0) (n2 := 0) ok_Mod_in wM_Mod_275 (c_Mod_in) (Nat.le_of_ble_eq_true rfl) (Nat.le_of_ble_eq_true rfl) (Nat.le_of_ble_eq_true rfl) (Nat.le_of_ble_eq_true rfl) rfl rfl fun x21 => ?_
      refine r_ifneB (i := 13) (tgt := 29) rfl rfl rfl ?_ ?_
      · refine r_aload_n (i := 16) rfl rfl rfl ?_
        refine r_iload_n (i := 17) rfl rfl rfl ?_
        refine r_VwI1 (i := 18) (k2 := 0) (n2 := 0) ok_Mod_whereBehind wM_Mod_348 (c_Mod_whereBehind F) (fun _ e => fw_ckb e) (Nat.le_of_ble_eq_true rfl) (Nat.le_of_ble_eq_true rfl) (Nat.le_of_ble_eq_true rfl) (Nat.le_of_ble_eq_true rfl) rfl rfl fun x31 => ?_
        refine r_iload_n (i := 19) rfl rfl rfl ?_
        refine r_icmp_ne (i := 20) (tgt := 48) rfl rfl rfl ?_ ?_
        · refine r_iconst (i := 27) (1 : Int32) kc_iconst_1 rfl rfl ?_
          refine r_istore (i := 28) rfl rfl (Nat.le_of_ble_eq_true rfl) rfl ?_
          refine r_lv (fw_sub1 rfl (fw_sub1 rfl (fw_sub1 rfl (fw_sub1 rfl (fw_sub1 rfl fw_sub0))))) (cl_Mod_feast_51 ?_ F _ _)
          · intro e136_4 e136_5 he136
            refine r_iload_n (i := 79) rfl rfl rfl ?_
            refine r_if_ne (i := 80) (tgt := 145) rfl rfl rfl ?_ ?_
            · refine r_iload (i := 83) rfl rfl rfl ?_
              exact r_retI (i := 84) rfl rfl rfl rfl
            · refine r_iload (i := 81) rfl rfl rfl ?_
              refine r_goto (i := 82) (tgt := 147) rfl rfl rfl ?_
              exact r_retI (i := 84) rfl rfl rfl rfl
        · refine r_iload_n (i := 21) rfl rfl rfl ?_
          refine r_if_ne (i := 22) (tgt := 46) rfl rfl rfl ?_ ?_
          · refine r_iconst (i := 25) (-1 : Int32) kc_iconst_m1 rfl rfl ?_
            exact r_retI (i := 26) rfl rfl rfl rfl
          · refine r_iconst (i := 23) (0 : Int32) kc_iconst_0 rfl rfl ?_
            refine r_goto (i := 24) (tgt := 47) rfl rfl rfl ?_
            exact r_retI (i := 26) rfl rfl rfl rfl
      · refine r_iconst (i := 14) (-1 : Int32) kc_iconst_m1 rfl rfl ?_
        exact r_retI (i := 15) rfl rfl rfl rfl
-- Mod_beginParts
def l_Mod_beginParts_2 (v0 : Option Nat) (K22 : fw_H → Option fw_H) : Nat → Int32 → fw_H → Option fw_H
  | 0, _, _ => none
  | nn + 1, a2_1, g2 =>
    if (156 : Int32) ≤ a2_1 then (K22 g2) else
    (f_gR g2 v0 12 43).bind fun x10 =>
    (f_sJ g2 x10 a2_1 (0 : Int64)).bind fun h15 =>
    l_Mod_beginParts_2 v0 K22 nn (a2_1 + (1 : Int32)) h15
theorem cl_Mod_beginParts_2 {G : fw_G} {v0 : Option Nat} {K22 : fw_H → Option fw_H} (hK22 : ∀ (he22 : fw_H), fw_R G m_Mod_beginParts fw_eV 1 0 0 22 [(0, some (fw_r v0))] [] he22 (K22 he22)) : ∀ (nn : Nat) (a2_1 : Int32) (g2 : fw_H), fw_R G m_Mod_beginParts fw_eV 1 0 0 2 [(0, some (fw_r v0)), (1, some (fw_i a2_1))] [] g2 (l_Mod_beginParts_2 v0 K22 nn a2_1 g2) := by
  intro nn
  induction nn with
  | zero => intros; exact r_none
  | succ nn ih =>
    intro a2_1 g2
    rw [l_Mod_beginParts_2]
    refine r_iload_n (i := 2) rfl rfl rfl ?_
    refine r_sipush (i := 3) (156 : Int32) kc_sipush_156 rfl rfl ?_
    refine r_icmp_ge (i := 4) (tgt := 22) rfl rfl rfl ?_ ?_
    · exact r_lv (fw_sub1 rfl fw_sub0) (hK22 g2)
    · refine r_aload_n (i := 5) rfl rfl rfl ?_
      refine r_gR (i := 6) (ci := 12) (kf := 43) rfl (Nat.le_of_ble_eq_true rfl) wF_Mod_80 rfl rfl fun x10 => ?_
      refine r_iload_n (i := 7) rfl rfl rfl ?_
      refine r_lconst (i := 8) (0 : Int64) rfl rfl rfl ?_
      refine r_sJ (i := 9) rfl rfl fun h15 => ?_
      refine r_iinc (i := 10) (1 : Int32) kc_iconst_1 rfl rfl rfl (Nat.le_of_ble_eq_true rfl) ?_
      refine r_goto (i := 11) (tgt := 2) rfl rfl rfl ?_
      exact r_lv (fw_sub1 rfl (fw_sub1 rfl fw_sub0)) (ih (a2_1 + (1 : Int32)) h15)
def s_Mod_beginParts (F : Nat) (h : fw_H) (v0 : Option Nat) : Option fw_H :=
(f_ck h v0 12).bind fun _ =>
l_Mod_beginParts_2 v0 (fun he22 =>
(f_gR he22 v0 12 43).bind fun x23 =>
(f_gR he22 v0 12 26).bind fun x27 =>
(f_aI he22 x27 (54 : Int32)).bind fun x32 =>
(f_gR he22 v0 12 26).bind fun x34 =>
(f_aI he22 x34 (55 : Int32)).bind fun x39 =>
(s_Mod_stateOf x32 x39).bind fun x40 =>
(f_sJ he22 x23 x40 (1000000000 : Int64)).bind fun h46 =>
some h46) F (0 : Int32) h
theorem c_Mod_beginParts {G : fw_G} (F : Nat) {h : fw_H} {v0 : Option Nat} : fw_Call G m_Mod_beginParts fw_eV 1 0 0 [fw_r v0] h (s_Mod_beginParts F h v0) := by
  refine fw_Call.of ok_Mod_beginParts.1 (Nat.le_of_ble_eq_true rfl) [(0, some (fw_r v0))] rfl ?_
  refine r_ck ?_
  refine r_iconst (i := 0) (0 : Int32) kc_iconst_0 rfl rfl ?_
  refine r_istore_n (i := 1) rfl rfl (Nat.le_of_ble_eq_true rfl) rfl ?_
  refine r_lv (fw_sub1 rfl (fw_sub1 rfl fw_sub0)) (cl_Mod_beginParts_2 ?_ F _ _)
  · intro he22
    refine r_aload_n (i := 12) rfl rfl rfl ?_
    refine r_gR (i := 13) (ci := 12) (kf := 43) rfl (Nat.le_of_ble_eq_true rfl) wF_Mod_80 rfl rfl fun x23 => ?_
    refine r_aload_n (i := 14) rfl rfl rfl ?_
    refine r_gR (i := 15) (ci := 12) (kf := 26) rfl (Nat.le_of_ble_eq_true rfl) wF_Mod_55 rfl rfl fun x27 => ?_
    refine r_bipush (i := 16) (54 : Int32) kc_bipush_54 rfl rfl ?_
    refine r_aI (i := 17) rfl rfl fun x32 => ?_
    refine r_aload_n (i := 18) rfl rfl rfl ?_
    refine r_gR (i := 19) (ci := 12) (kf := 26) rfl (Nat.le_of_ble_eq_true rfl) wF_Mod_55 rfl rfl fun x34 => ?_
    refine r_bipush (i := 20) (55 : Int32) kc_bipush_55 rfl rfl ?_
    refine r_aI (i := 21) rfl rfl fun x39 => ?_
    refine r_SI2 (i := 22) (k2 := 0) (n2 := 0) ok_Mod_stateOf wM_Mod_354 (c_Mod_stateOf) (Nat.le_of_ble_eq_true rfl) (Nat.le_of_ble_eq_true rfl) (Nat.le_of_ble_eq_true rfl) (Nat.le_of_ble_eq_true rfl) rfl rfl fun x40 => ?_
    refine r_ldc2 (i := 23) wL_Mod_395 rfl rfl ?_
    refine r_sJ (i := 24) rfl rfl fun h46 => ?_
    exact r_retV (i := 25) rfl rfl rfl rfl
-- Mod_fogOn
def l_Mod_fogOn_2 (v0 : Option Nat) (K22 : fw_H → Option fw_H) : Nat → Int32 → fw_H → Option fw_H
  | 0, _, _ => none
  | nn + 1, a2_3, g2 =>
    if (156 : Int32) ≤ a2_3 then (K22 g2) else
    (f_gR g2 v0 12 44).bind fun x10 =>
    (f_sJ g2 x10 a2_3 (0 : Int64)).bind fun h15 =>
    l_Mod_fogOn_2 v0 K22 nn (a2_3 + (1 : Int32)) h15
theorem cl_Mod_fogOn_2 {G : fw_G} {v0 : Option Nat} {v1 : Int32} {v2 : Int32} {K22 : fw_H → Option fw_H} (hK22 : ∀ (he22 : fw_H), fw_R G m_Mod_fogOn fw_eV 7 0 0 22 [(0, some (fw_r v0)), (1, some (fw_i v1)), (2, some (fw_i v2))] [] he22 (K22 he22)) : ∀ (nn : Nat) (a2_3 : Int32) (g2 : fw_H), fw_R G m_Mod_fogOn fw_eV 7 0 0 2 [(0, some (fw_r v0)), (1, some (fw_i v1)), (2, some (fw_i v2)), (3, some (fw_i a2_3))] [] g2 (l_Mod_fogOn_2 v0 K22 nn a2_3 g2) := by
  intro nn
  induction nn with
  | zero => intros; exact r_none
  | succ nn ih =>
    intro a2_3 g2
    rw [l_Mod_fogOn_2]
    refine r_iload_n (i := 2) rfl rfl rfl ?_
    refine r_sipush (i := 3) (156 : Int32) kc_sipush_156 rfl rfl ?_
    refine r_icmp_ge (i := 4) (tgt := 22) rfl rfl rfl ?_ ?_
    · exact r_lv (fw_sub1 rfl (fw_sub1 rfl (fw_sub1 rfl fw_sub0))) (hK22 g2)
    · refine r_aload_n (i := 5) rfl rfl rfl ?_
      refine r_gR (i := 6) (ci := 12) (kf := 44) rfl (Nat.le_of_ble_eq_true rfl) wF_Mod_84 rfl rfl fun x10 => ?_
      refine r_iload_n (i := 7) rfl rfl rfl ?_
      refine r_lconst (i := 8) (0 : Int64) rfl rfl rfl ?_
      refine r_sJ (i := 9) rfl rfl fun h15 => ?_
      refine r_iinc (i := 10) (1 : Int32) kc_iconst_1 rfl rfl rfl (Nat.le_of_ble_eq_true rfl) ?_
      refine r_goto (i := 11) (tgt := 2) rfl rfl rfl ?_
      exact r_lv (fw_sub1 rfl (fw_sub1 rfl (fw_sub1 rfl (fw_sub1 rfl fw_sub0)))) (ih (a2_3 + (1 : Int32)) h15)
def l_Mod_fogOn_24 (F : Nat) (v0 : Option Nat) (v1 : Int32) (v2 : Int32) (K145 : fw_H → Option fw_H) : Nat → Int32 → fw_H → Option fw_H
  | 0, _, _ => none
  | nn + 1, a24_3, g24 =>
    if (156 : Int32) ≤ a24_3 then (K145 g24) else
    (f_gR g24 v0 12 43).bind fun x32 =>
    (f_aJ g24 x32 a24_3).bind fun x36 =>
    if (lg_cmp x36 (0 : Int64)) ≤ (0 : Int32) then (l_Mod_fogOn_24 F v0 v1 v2 K145 nn (a24_3 + (1 : Int32)) g24) else
    (f_idiv a24_3 (13 : Int32)).bind fun x45 =>
    (f_irem a24_3 (13 : Int32)).bind fun x51 =>
    fw_jn (fun (t65_0 : Int32) =>
    (f_gR g24 v0 12 43).bind fun x68 =>
    (f_aJ g24 x68 a24_3).bind fun x72 =>
    (f_ldiv (x72 * (Int32.toInt64 v2)) (100 : Int64)).bind fun x79 =>
    (s_Mod_nextOf F g24 v0 x45 t65_0 v1).bind fun x88 =>
    (f_gR x88.2 v0 12 44).bind fun x94 =>
    (f_aJ x88.2 x94 a24_3).bind fun x99 =>
    (f_sJ x88.2 x94 a24_3 (x99 + x79)).bind fun h103 =>
    (f_gR h103 v0 12 44).bind fun x105 =>
    if ¬ x88.1 = x45 then ((s_Mod_stateOf x88.1 x45).bind fun x123 =>
    (f_aJ h103 x105 x123).bind fun x127 =>
    (f_gR h103 v0 12 43).bind fun x129 =>
    (f_aJ h103 x129 a24_3).bind fun x133 =>
    (f_sJ h103 x105 x123 (x127 + (x133 - x79))).bind fun h138 =>
    l_Mod_fogOn_24 F v0 v1 v2 K145 nn (a24_3 + (1 : Int32)) h138) else
    (f_aJ h103 x105 a24_3).bind fun x127 =>
    (f_gR h103 v0 12 43).bind fun x129 =>
    (f_aJ h103 x129 a24_3).bind fun x133 =>
    (f_sJ h103 x105 a24_3 (x127 + (x133 - x79))).bind fun h138 =>
    l_Mod_fogOn_24 F v0 v1 v2 K145 nn (a24_3 + (1 : Int32)) h138) fun J65 =>
    if ¬ x51 = (12 : Int32) then ((f_irem a24_3 (13 : Int32)).bind fun x64 =>
    J65 x64) else
    J65 (-1 : Int32)
theorem cl_Mod_fogOn_24 {G : fw_G} {F : Nat} {v0 : Option Nat} {v1 : Int32} {v2 : Int32} {K145 : fw_H → Option fw_H} (hK145 : ∀ (he145 : fw_H), fw_R G m_Mod_fogOn fw_eV 7 0 0 145 [(0, some (fw_r v0))] [] he145 (K145 he145)) : ∀ (nn : Nat) (a24_3 : Int32) (g24 : fw_H), fw_R G m_Mod_fogOn fw_eV 7 0 0 24 [(0, some (fw_r v0)), (1, some (fw_i v1)), (2, some (fw_i v2)), (3, some (fw_i a24_3))] [] g24 (l_Mod_fogOn_24 F v0 v1 v2 K145 nn a24_3 g24) := by
  intro nn
  induction nn with
  | zero => intros; exact r_none
  | succ nn ih =>
    intro a24_3 g24
    rw [l_Mod_fogOn_24]
    refine r_iload_n (i := 14) rfl rfl rfl ?_
    refine r_sipush (i := 15) (156 : Int32) kc_sipush_156 rfl rfl ?_
    refine r_icmp_ge (i := 16) (tgt := 145) rfl rfl rfl ?_ ?_
    · exact r_lv (fw_sub1 rfl fw_sub0) (hK145 g24)
    · refine r_aload_n (i := 17) rfl rfl rfl ?_
      refine r_gR (i := 18) (ci := 12) (kf := 43) rfl (Nat.le_of_ble_eq_true rfl) wF_Mod_80 rfl rfl fun x32 => ?_
      refine r_iload_n (i := 19) rfl rfl rfl ?_
      refine r_aJ (i := 20) rfl rfl fun x36 => ?_
      refine r_lconst (i := 21) (0 : Int64) rfl rfl rfl ?_
      refine r_lcmp (i := 22) rfl rfl ?_
      refine r_if_le (i := 23) (tgt := 139) rfl rfl rfl ?_ ?_
      · refine r_iinc (i := 83) (1 : Int32) kc_iconst_1 rfl rfl rfl (Nat.le_of_ble_eq_true rfl) ?_
        refine r_goto (i := 84) (tgt := 24) rfl rfl rfl ?_
        exact r_lv (fw_sub1 rfl (fw_sub1 rfl (fw_sub1 rfl (fw_sub1 rfl fw_sub0)))) (ih (a24_3 + (1 : Int32)) g24)
      · refine r_iload_n (i := 24) rfl rfl rfl ?_
        refine r_bipush (i := 25) (13 : Int32) kc_bipush_13 rfl rfl ?_
        refine r_idivN (i := 26) rfl rfl fun x45 => ?_
        refine r_istore (i := 27) rfl rfl (Nat.le_of_ble_eq_true rfl) rfl ?_
        refine r_iload_n (i := 28) rfl rfl rfl ?_
        refine r_bipush (i := 29) (13 : Int32) kc_bipush_13 rfl rfl ?_
        refine r_iremN (i := 30) rfl rfl fun x51 => ?_
        refine r_bipush (i := 31) (12 : Int32) kc_bipush_12 rfl rfl ?_
        refine r_join (P := fun J65 => ∀ (t65_0 : Int32), fw_R G m_Mod_fogOn fw_eV 7 (0) (0) 65 [(0, some (fw_r v0)), (1, some (fw_i v1)), (2, some (fw_i v2)), (3, some (fw_i a24_3)), (4, some (fw_i x45))] [fw_i t65_0] g24 (J65 t65_0)) ?_ (fun J65 hJ65 => ?_)
        · intro t65_0
          refine r_istore (i := 38) rfl rfl (Nat.le_of_ble_eq_true rfl) rfl ?_
          refine r_aload_n (i := 39) rfl rfl rfl ?_
          refine r_gR (i := 40) (ci := 12) (kf := 43) rfl (Nat.le_of_ble_eq_true rfl) wF_Mod_80 rfl rfl fun x68 => ?_
          refine r_iload_n (i := 41) rfl rfl rfl ?_
          refine r_aJ (i := 42) rfl rfl fun x72 => ?_
          refine r_iload_n (i := 43) rfl rfl rfl ?_
          refine r_i2l (i := 44) rfl rfl ?_
          refine r_lmul (i := 45) rfl rfl ?_
          refine r_ldc2 (i := 46) wL_Mod_328 rfl rfl ?_
          refine r_ldivN (i := 47) rfl rfl fun x79 => ?_
          refine r_lstore (i := 48) rfl rfl (Nat.le_of_ble_eq_true rfl) rfl ?_
          refine r_aload_n (i := 49) rfl rfl rfl ?_
          refine r_iload (i := 50) rfl rfl rfl ?_
          refine r_iload (i := 51) rfl rfl rfl ?_
          refine r_iload_n (i := 52) rfl rfl rfl ?_
          refine r_VwI3 (i := 53) (k2 := 0) (n2 := 0) ok_Mod_nextOf wM_Mod_308 (c_Mod_nextOf F) (fun _ e => fw_ckb e) (Nat.le_of_ble_eq_true rfl) (Nat.le_of_ble_eq_true rfl) (Nat.le_of_ble_eq_true rfl) (Nat.le_of_ble_eq_true rfl) rfl rfl fun x88 => ?_
          refine r_istore (i := 54) rfl rfl (Nat.le_of_ble_eq_true rfl) rfl ?_
          refine r_aload_n (i := 55) rfl rfl rfl ?_
          refine r_gR (i := 56) (ci := 12) (kf := 44) rfl (Nat.le_of_ble_eq_true rfl) wF_Mod_84 rfl rfl fun x94 => ?_
          refine r_iload_n (i := 57) rfl rfl rfl ?_
          refine r_dup2 (i := 58) rfl rfl ?_
          refine r_aJ (i := 59) rfl rfl fun x99 => ?_
          refine r_lload (i := 60) rfl rfl rfl ?_
          refine r_ladd (i := 61) rfl rfl ?_
          refine r_sJ (i := 62) rfl rfl fun h103 => ?_
          refine r_aload_n (i := 63) rfl rfl rfl ?_
          refine r_gR (i := 64) (ci := 12) (kf := 44) rfl (Nat.le_of_ble_eq_true rfl) wF_Mod_84 rfl rfl fun x105 => ?_
          refine r_iload (i := 65) rfl rfl rfl ?_
          refine r_iload (i := 66) rfl rfl rfl ?_
          refine r_icmp_ne (i := 67) (tgt := 119) rfl rfl rfl ?_ ?_
          · refine r_iload (i := 70) rfl rfl rfl ?_
            refine r_iload (i := 71) rfl rfl rfl ?_
            refine r_SI2 (i := 72) (k2 := 0) (n2 := 0) ok_Mod_stateOf wM_Mod_354 (c_Mod_stateOf) (Nat.le_of_ble_eq_true rfl) (Nat.le_of_ble_eq_true rfl) (Nat.le_of_ble_eq_true rfl) (Nat.le_of_ble_eq_true rfl) rfl rfl fun x123 => ?_
            refine r_dup2 (i := 73) rfl rfl ?_
            refine r_aJ (i := 74) rfl rfl fun x127 => ?_
            refine r_aload_n (i := 75) rfl rfl rfl ?_
            refine r_gR (i := 76) (ci := 12) (kf := 43) rfl (Nat.le_of_ble_eq_true rfl) wF_Mod_80 rfl rfl fun x129 => ?_
            refine r_iload_n (i := 77) rfl rfl rfl ?_
            refine r_aJ (i := 78) rfl rfl fun x133 => ?_
            refine r_lload (i := 79) rfl rfl rfl ?_
            refine r_lsub (i := 80) rfl rfl ?_
            refine r_ladd (i := 81) rfl rfl ?_
            refine r_sJ (i := 82) rfl rfl fun h138 => ?_
            refine r_iinc (i := 83) (1 : Int32) kc_iconst_1 rfl rfl rfl (Nat.le_of_ble_eq_true rfl) ?_
            refine r_goto (i := 84) (tgt := 24) rfl rfl rfl ?_
            exact r_lv (fw_sub1 rfl (fw_sub1 rfl (fw_sub1 rfl (fw_sub1 rfl fw_sub0)))) (ih (a24_3 + (1 : Int32)) h138)
          · refine r_iload_n (i := 68) rfl rfl rfl ?_
            refine r_goto (i := 69) (tgt := 126) rfl rfl rfl ?_
            refine r_dup2 (i := 73) rfl rfl ?_
            refine r_aJ (i := 74) rfl rfl fun x127 => ?_
            refine r_aload_n (i := 75) rfl rfl rfl ?_
            refine r_gR (i := 76) (ci := 12) (kf := 43) rfl (Nat.le_of_ble_eq_true rfl) wF_Mod_80 rfl rfl fun x129 => ?_
            refine r_iload_n (i := 77) rfl rfl rfl ?_
            refine r_aJ (i := 78) rfl rfl fun x133 => ?_
            refine r_lload (i := 79) rfl rfl rfl ?_
            refine r_lsub (i := 80) rfl rfl ?_
            refine r_ladd (i := 81) rfl rfl ?_
            refine r_sJ (i := 82) rfl rfl fun h138 => ?_
            refine r_iinc (i := 83) (1 : Int32) kc_iconst_1 rfl rfl rfl (Nat.le_of_ble_eq_true rfl) ?_
            refine r_goto (i := 84) (tgt := 24) rfl rfl rfl ?_
            exact r_lv (fw_sub1 rfl (fw_sub1 rfl (fw_sub1 rfl (fw_sub1 rfl fw_sub0)))) (ih (a24_3 + (1 : Int32)) h138)
        · refine r_icmp_ne (i := 32) (tgt := 61) rfl rfl rfl ?_ ?_
          · refine r_iload_n (i := 35) rfl rfl rfl ?_
            refine r_bipush (i := 36) (13 : Int32) kc_bipush_13 rfl rfl ?_
            refine r_iremN (i := 37) rfl rfl fun x64 => ?_
            exact r_lv (fw_sub1 rfl (fw_sub1 rfl (fw_sub1 rfl (fw_sub1 rfl (fw_sub1 rfl fw_sub0))))) (hJ65 x64)
          · refine r_iconst (i := 33) (-1 : Int32) kc_iconst_m1 rfl rfl ?_
            refine r_goto (i := 34) (tgt := 65) rfl rfl rfl ?_
            exact r_lv (fw_sub1 rfl (fw_sub1 rfl (fw_sub1 rfl (fw_sub1 rfl (fw_sub1 rfl fw_sub0))))) (hJ65 (-1 : Int32))
def l_Mod_fogOn_147 (v0 : Option Nat) : Nat → Int32 → fw_H → Option fw_H
  | 0, _, _ => none
  | nn + 1, a147_3, g147 =>
    if (156 : Int32) ≤ a147_3 then (some g147) else
    (f_gR g147 v0 12 43).bind fun x155 =>
    (f_gR g147 v0 12 44).bind fun x160 =>
    (f_aJ g147 x160 a147_3).bind fun x164 =>
    (f_sJ g147 x155 a147_3 x164).bind fun h165 =>
    l_Mod_fogOn_147 v0 nn (a147_3 + (1 : Int32)) h165
theorem cl_Mod_fogOn_147 {G : fw_G} {v0 : Option Nat} : ∀ (nn : Nat) (a147_3 : Int32) (g147 : fw_H), fw_R G m_Mod_fogOn fw_eV 7 0 0 147 [(0, some (fw_r v0)), (3, some (fw_i a147_3))] [] g147 (l_Mod_fogOn_147 v0 nn a147_3 g147) := by
  intro nn
  induction nn with
  | zero => intros; exact r_none
  | succ nn ih =>
    intro a147_3 g147
    rw [l_Mod_fogOn_147]
    refine r_iload_n (i := 87) rfl rfl rfl ?_
    refine r_sipush (i := 88) (156 : Int32) kc_sipush_156 rfl rfl ?_
    refine r_icmp_ge (i := 89) (tgt := 172) rfl rfl rfl ?_ ?_
    · exact r_retV (i := 100) rfl rfl rfl rfl
    · refine r_aload_n (i := 90) rfl rfl rfl ?_
      refine r_gR (i := 91) (ci := 12) (kf := 43) rfl (Nat.le_of_ble_eq_true rfl) wF_Mod_80 rfl rfl fun x155 => ?_
      refine r_iload_n (i := 92) rfl rfl rfl ?_
      refine r_aload_n (i := 93) rfl rfl rfl ?_
      refine r_gR (i := 94) (ci := 12) (kf := 44) rfl (Nat.le_of_ble_eq_true rfl) wF_Mod_84 rfl rfl fun x160 => ?_
      refine r_iload_n (i := 95) rfl rfl rfl ?_
      refine r_aJ (i := 96) rfl rfl fun x164 => ?_
      refine r_sJ (i := 97) rfl rfl fun h165 => ?_
      refine r_iinc (i := 98) (1 : Int32) kc_iconst_1 rfl rfl rfl (Nat.le_of_ble_eq_true rfl) ?_
      refine r_goto (i := 99) (tgt := 147) rfl rfl rfl ?_
      exact r_lv (fw_sub1 rfl (fw_sub1 rfl fw_sub0)) (ih (a147_3 + (1 : Int32)) h165)
def s_Mod_fogOn (F : Nat) (h : fw_H) (v0 : Option Nat) (v1 : Int32) (v2 : Int32) : Option fw_H :=
(f_ck h v0 12).bind fun _ =>
l_Mod_fogOn_2 v0 (fun he22 =>
l_Mod_fogOn_24 F v0 v1 v2 (fun he145 =>
l_Mod_fogOn_147 v0 F (0 : Int32) he145) F (0 : Int32) he22) F (0 : Int32) h
theorem c_Mod_fogOn {G : fw_G} (F : Nat) {h : fw_H} {v0 : Option Nat} {v1 : Int32} {v2 : Int32} : fw_Call G m_Mod_fogOn fw_eV 7 0 0 [fw_r v0, fw_i v1, fw_i v2] h (s_Mod_fogOn F h v0 v1 v2) := by
  refine fw_Call.of ok_Mod_fogOn.1 (Nat.le_of_ble_eq_true rfl) [(0, some (fw_r v0)), (1, some (fw_i v1)), (2, some (fw_i v2))] rfl ?_
  refine r_ck ?_
  refine r_iconst (i := 0) (0 : Int32) kc_iconst_0 rfl rfl ?_
  refine r_istore_n (i := 1) rfl rfl (Nat.le_of_ble_eq_true rfl) rfl ?_
  refine r_lv (fw_sub1 rfl (fw_sub1 rfl (fw_sub1 rfl (fw_sub1 rfl fw_sub0)))) (cl_Mod_fogOn_2 ?_ F _ _)
  · intro he22
    refine r_iconst (i := 12) (0 : Int32) kc_iconst_0 rfl rfl ?_
    refine r_istore_n (i := 13) rfl rfl (Nat.le_of_ble_eq_true rfl) rfl ?_
    refine r_lv (fw_sub1 rfl (fw_sub1 rfl (fw_sub1 rfl (fw_sub1 rfl fw_sub0)))) (cl_Mod_fogOn_24 ?_ F _ _)
    · intro he145
      refine r_iconst (i := 85) (0 : Int32) kc_iconst_0 rfl rfl ?_
      refine r_istore_n (i := 86) rfl rfl (Nat.le_of_ble_eq_true rfl) rfl ?_
      refine r_lv (fw_sub1 rfl (fw_sub1 rfl fw_sub0)) (cl_Mod_fogOn_147 F _ _)
-- Mod_partsAt
def l_Mod_partsAt_5 (h : fw_H) (v0 : Option Nat) (v1 : Int32) : Nat → Int64 → Int32 → Option Int64
  | 0, _, _ => none
  | nn + 1, a5_2, a5_4 =>
    if (12 : Int32) < a5_4 then (some a5_2) else
    (f_gR h v0 12 43).bind fun x14 =>
    (f_aJ h x14 (((13 : Int32) * v1) + a5_4)).bind fun x24 =>
    l_Mod_partsAt_5 h v0 v1 nn (a5_2 + x24) (a5_4 + (1 : Int32))
theorem cl_Mod_partsAt_5 {G : fw_G} {h : fw_H} {v0 : Option Nat} {v1 : Int32} : ∀ (nn : Nat) (a5_2 : Int64) (a5_4 : Int32), fw_R G m_Mod_partsAt (fw_eJ h) 0 0 0 5 [(0, some (fw_r v0)), (1, some (fw_i v1)), (2, some (fw_j a5_2)), (4, some (fw_i a5_4))] [] h (l_Mod_partsAt_5 h v0 v1 nn a5_2 a5_4) := by
  intro nn
  induction nn with
  | zero => intros; exact r_none
  | succ nn ih =>
    intro a5_2 a5_4
    rw [l_Mod_partsAt_5]
    refine r_iload (i := 4) rfl rfl rfl ?_
    refine r_bipush (i := 5) (12 : Int32) kc_bipush_12 rfl rfl ?_
    refine r_icmp_gt (i := 6) (tgt := 33) rfl rfl rfl ?_ ?_
    · refine r_lload_n (i := 20) rfl rfl rfl ?_
      exact r_retJ (i := 21) rfl rfl rfl rfl
    · refine r_lload_n (i := 7) rfl rfl rfl ?_
      refine r_aload_n (i := 8) rfl rfl rfl ?_
      refine r_gR (i := 9) (ci := 12) (kf := 43) rfl (Nat.le_of_ble_eq_true rfl) wF_Mod_80 rfl rfl fun x14 => ?_
      refine r_bipush (i := 10) (13 : Int32) kc_bipush_13 rfl rfl ?_
      refine r_iload_n (i := 11) rfl rfl rfl ?_
      refine r_imul (i := 12) rfl rfl ?_
      refine r_iload (i := 13) rfl rfl rfl ?_
      refine r_iadd (i := 14) rfl rfl ?_
      refine r_aJ (i := 15) rfl rfl fun x24 => ?_
      refine r_ladd (i := 16) rfl rfl ?_
      refine r_lstore_n (i := 17) rfl rfl (Nat.le_of_ble_eq_true rfl) rfl ?_
      refine r_iinc (i := 18) (1 : Int32) kc_iconst_1 rfl rfl rfl (Nat.le_of_ble_eq_true rfl) ?_
      refine r_goto (i := 19) (tgt := 5) rfl rfl rfl ?_
      exact r_lv (fw_sub1 rfl (fw_sub1 rfl (fw_sub1 rfl (fw_sub1 rfl fw_sub0)))) (ih (a5_2 + x24) (a5_4 + (1 : Int32)))
def s_Mod_partsAt (F : Nat) (h : fw_H) (v0 : Option Nat) (v1 : Int32) : Option Int64 :=
(f_ck h v0 12).bind fun _ =>
l_Mod_partsAt_5 h v0 v1 F (0 : Int64) (0 : Int32)
theorem c_Mod_partsAt {G : fw_G} (F : Nat) {h : fw_H} {v0 : Option Nat} {v1 : Int32} : fw_Call G m_Mod_partsAt (fw_eJ h) 0 0 0 [fw_r v0, fw_i v1] h (s_Mod_partsAt F h v0 v1) := by
  refine fw_Call.of ok_Mod_partsAt.1 (Nat.le_of_ble_eq_true rfl) [(0, some (fw_r v0)), (1, some (fw_i v1))] rfl ?_
  refine r_ck ?_
  refine r_lconst (i := 0) (0 : Int64) rfl rfl rfl ?_
  refine r_lstore_n (i := 1) rfl rfl (Nat.le_of_ble_eq_true rfl) rfl ?_
  refine r_iconst (i := 2) (0 : Int32) kc_iconst_0 rfl rfl ?_
  refine r_istore (i := 3) rfl rfl (Nat.le_of_ble_eq_true rfl) rfl ?_
  refine r_lv (fw_sub1 rfl (fw_sub1 rfl (fw_sub1 rfl (fw_sub1 rfl fw_sub0)))) (cl_Mod_partsAt_5 F _ _)
-- Mod_odds
def l_Mod_odds_37 (F : Nat) (v0 : Option Nat) (v2 : Int32) (v3 : Int32) (K67 : fw_H → Option (Int32 × fw_H)) : Nat → Int32 → fw_H → Option (Int32 × fw_H)
  | 0, _, _ => none
  | nn + 1, a37_4, g37 =>
    if v2 ≤ a37_4 then (K67 g37) else
    (f_gR g37 v0 12 26).bind fun x45 =>
    (f_aI g37 x45 (56 : Int32)).bind fun x50 =>
    (f_irem (x50 + a37_4) (24 : Int32)).bind fun x56 =>
    (s_Mod_fogOn F g37 v0 x56 v3).bind fun h58 =>
    l_Mod_odds_37 F v0 v2 v3 K67 nn (a37_4 + (1 : Int32)) h58
theorem cl_Mod_odds_37 {G : fw_G} {F : Nat} {v0 : Option Nat} {v1 : Int32} {v2 : Int32} {v3 : Int32} {K67 : fw_H → Option (Int32 × fw_H)} (hK67 : ∀ (he67 : fw_H), fw_R G m_Mod_odds fw_wI 8 0 0 67 [(0, some (fw_r v0)), (1, some (fw_i v1))] [] he67 (K67 he67)) : ∀ (nn : Nat) (a37_4 : Int32) (g37 : fw_H), fw_R G m_Mod_odds fw_wI 8 0 0 37 [(0, some (fw_r v0)), (1, some (fw_i v1)), (2, some (fw_i v2)), (3, some (fw_i v3)), (4, some (fw_i a37_4))] [] g37 (l_Mod_odds_37 F v0 v2 v3 K67 nn a37_4 g37) := by
  intro nn
  induction nn with
  | zero => intros; exact r_none
  | succ nn ih =>
    intro a37_4 g37
    rw [l_Mod_odds_37]
    refine r_iload (i := 20) rfl rfl rfl ?_
    refine r_iload_n (i := 21) rfl rfl rfl ?_
    refine r_icmp_ge (i := 22) (tgt := 67) rfl rfl rfl ?_ ?_
    · exact r_lv (fw_sub1 rfl (fw_sub1 rfl fw_sub0)) (hK67 g37)
    · refine r_aload_n (i := 23) rfl rfl rfl ?_
      refine r_aload_n (i := 24) rfl rfl rfl ?_
      refine r_gR (i := 25) (ci := 12) (kf := 26) rfl (Nat.le_of_ble_eq_true rfl) wF_Mod_55 rfl rfl fun x45 => ?_
      refine r_bipush (i := 26) (56 : Int32) kc_bipush_56 rfl rfl ?_
      refine r_aI (i := 27) rfl rfl fun x50 => ?_
      refine r_iload (i := 28) rfl rfl rfl ?_
      refine r_iadd (i := 29) rfl rfl ?_
      refine r_bipush (i := 30) (24 : Int32) kc_bipush_24 rfl rfl ?_
      refine r_iremN (i := 31) rfl rfl fun x56 => ?_
      refine r_iload_n (i := 32) rfl rfl rfl ?_
      refine r_VV2 (i := 33) (k2 := 0) (n2 := 0) ok_Mod_fogOn wM_Mod_400 (c_Mod_fogOn F) (fun _ e => fw_ckb e) (Nat.le_of_ble_eq_true rfl) (Nat.le_of_ble_eq_true rfl) (Nat.le_of_ble_eq_true rfl) (Nat.le_of_ble_eq_true rfl) rfl rfl fun h58 => ?_
      refine r_iinc (i := 34) (1 : Int32) kc_iconst_1 rfl rfl rfl (Nat.le_of_ble_eq_true rfl) ?_
      refine r_goto (i := 35) (tgt := 37) rfl rfl rfl ?_
      exact r_lv (fw_sub1 rfl (fw_sub1 rfl (fw_sub1 rfl (fw_sub1 rfl (fw_sub1 rfl fw_sub0))))) (ih (a37_4 + (1 : Int32)) h58)
def s_Mod_odds (F : Nat) (h : fw_H) (v0 : Option Nat) (v1 : Int32) (v2 : Int32) (v3 : Int32) : Option (Int32 × fw_H) :=
(f_ck h v0 12).bind fun _ =>
(s_Mod_isHouse h v0 v1).bind fun x2 =>
if x2 = true then ((s_Mod_in v2 (0 : Int32) (30 : Int32)).bind fun x12 =>
if x12 = true then ((s_Mod_in v3 (0 : Int32) (100 : Int32)).bind fun x22 =>
if x22 = true then ((s_Mod_beginParts F h v0).bind fun h31 =>
l_Mod_odds_37 F v0 v2 v3 (fun he67 =>
(s_Mod_partsAt F he67 v0 v1).bind fun x69 =>
some ((Int64.toInt32 x69), he67)) F (0 : Int32) h31) else
some ((-1 : Int32), h)) else
some ((-1 : Int32), h)) else
some ((-1 : Int32), h)
theorem c_Mod_odds {G : fw_G} (F : Nat) {h : fw_H} {v0 : Option Nat} {v1 : Int32} {v2 : Int32} {v3 : Int32} : fw_Call G m_Mod_odds fw_wI 8 0 0 [fw_r v0, fw_i v1, fw_i v2, fw_i v3] h (s_Mod_odds F h v0 v1 v2 v3) := by
  refine fw_Call.of ok_Mod_odds.1 (Nat.le_of_ble_eq_true rfl) [(0, some (fw_r v0)), (1, some (fw_i v1)), (2, some (fw_i v2)), (3, some (fw_i v3))] rfl ?_
  refine r_ck ?_
  refine r_aload_n (i := 0) rfl rfl rfl ?_
  refine r_iload_n (i := 1) rfl rfl rfl ?_
  refine r_VB1 (i := 2) (k2 := 0) (n2 := 0) ok_Mod_isHouse wM_Mod_279 (c_Mod_isHouse) (fun _ e => fw_ckb e) (Nat.le_of_ble_eq_true rfl) (Nat.le_of_ble_eq_true rfl) (Nat.le_of_ble_eq_true rfl) (Nat.le_of_ble_eq_true rfl) rfl rfl fun x2 => ?_
  refine r_ifeqB (i := 3) (tgt := 28) rfl rfl rfl ?_ ?_
  · refine r_iconst (i := 14) (-1 : Int32) kc_iconst_m1 rfl rfl ?_
    exact r_retI (i := 15) rfl rfl rfl rfl
  · refine r_iload_n (i := 4) rfl rfl rfl ?_
    refine r_iconst (i := 5) (0 : Int32) kc_iconst_0 rfl rfl ?_
    refine r_bipush (i := 6) (30 : Int32) kc_bipush_30 rfl rfl ?_
    refine r_SB3 (i := 7) (k2 := 0) (n2 := 0) ok_Mod_in wM_Mod_275 (c_Mod_in) (Nat.le_of_ble_eq_true rfl) (Nat.le_of_ble_eq_true rfl) (Nat.le_of_ble_eq_true rfl) (Nat.le_of_ble_eq_true rfl) rfl rfl fun x12 => ?_
    refine r_ifeqB (i := 8) (tgt := 28) rfl rfl rfl ?_ ?_
    · refine r_iconst (i := 14) (-1 : Int32) kc_iconst_m1 rfl rfl ?_
      exact r_retI (i := 15) rfl rfl rfl rfl
    · refine r_iload_n (i := 9) rfl rfl rfl ?_
      refine r_iconst (i := 10) (0 : Int32) kc_iconst_0 rfl rfl ?_
      refine r_bipush (i := 11) (100 : Int32) kc_bipush_100 rfl rfl ?_
      refine r_SB3 (i := 12) (k2 := 0) (n2 := 0) ok_Mod_in wM_Mod_275 (c_Mod_in) (Nat.le_of_ble_eq_true rfl) (Nat.le_of_ble_eq_true rfl) (Nat.le_of_ble_eq_true rfl) (Nat.le_of_ble_eq_true rfl) rfl rfl fun x22 => ?_
      refine r_ifneB (i := 13) (tgt := 30) rfl rfl rfl ?_ ?_
      · refine r_aload_n (i := 16) rfl rfl rfl ?_
        refine r_VV0 (i := 17) (k2 := 0) (n2 := 0) ok_Mod_beginParts wM_Mod_397 (c_Mod_beginParts F) (fun _ e => fw_ckb e) (Nat.le_of_ble_eq_true rfl) (Nat.le_of_ble_eq_true rfl) (Nat.le_of_ble_eq_true rfl) (Nat.le_of_ble_eq_true rfl) rfl rfl fun h31 => ?_
        refine r_iconst (i := 18) (0 : Int32) kc_iconst_0 rfl rfl ?_
        refine r_istore (i := 19) rfl rfl (Nat.le_of_ble_eq_true rfl) rfl ?_
        refine r_lv (fw_sub1 rfl (fw_sub1 rfl (fw_sub1 rfl (fw_sub1 rfl (fw_sub1 rfl fw_sub0))))) (cl_Mod_odds_37 ?_ F _ _)
        · intro he67
          refine r_aload_n (i := 36) rfl rfl rfl ?_
          refine r_iload_n (i := 37) rfl rfl rfl ?_
          refine r_VJ1 (i := 38) (k2 := 0) (n2 := 0) ok_Mod_partsAt wM_Mod_403 (c_Mod_partsAt F) (fun _ e => fw_ckb e) (Nat.le_of_ble_eq_true rfl) (Nat.le_of_ble_eq_true rfl) (Nat.le_of_ble_eq_true rfl) (Nat.le_of_ble_eq_true rfl) rfl rfl fun x69 => ?_
          refine r_l2i (i := 39) rfl rfl ?_
          exact r_retI (i := 40) rfl rfl rfl rfl
      · refine r_iconst (i := 14) (-1 : Int32) kc_iconst_m1 rfl rfl ?_
        exact r_retI (i := 15) rfl rfl rfl rfl
-- Mod_mean
def l_Mod_mean_40 (F : Nat) (v0 : Option Nat) (v1 : Int32) (v2 : Int32) (v3 : Int32) : Nat → Int64 → Int32 → fw_H → Option (Int32 × fw_H)
  | 0, _, _, _ => none
  | nn + 1, a40_4, a40_6, g40 =>
    if v2 ≤ a40_6 then ((f_ldiv a40_4 (1000 : Int64)).bind fun x85 =>
    some ((Int64.toInt32 x85), g40)) else
    (f_gR g40 v0 12 26).bind fun x48 =>
    (f_aI g40 x48 (56 : Int32)).bind fun x53 =>
    (f_irem (x53 + a40_6) (24 : Int32)).bind fun x59 =>
    (s_Mod_fogOn F g40 v0 x59 v3).bind fun h61 =>
    (s_Mod_partsAt F h61 v0 v1).bind fun x68 =>
    l_Mod_mean_40 F v0 v1 v2 v3 nn (a40_4 + x68) (a40_6 + (1 : Int32)) h61
theorem cl_Mod_mean_40 {G : fw_G} {F : Nat} {v0 : Option Nat} {v1 : Int32} {v2 : Int32} {v3 : Int32} : ∀ (nn : Nat) (a40_4 : Int64) (a40_6 : Int32) (g40 : fw_H), fw_R G m_Mod_mean fw_wI 8 0 0 40 [(0, some (fw_r v0)), (1, some (fw_i v1)), (2, some (fw_i v2)), (3, some (fw_i v3)), (4, some (fw_j a40_4)), (6, some (fw_i a40_6))] [] g40 (l_Mod_mean_40 F v0 v1 v2 v3 nn a40_4 a40_6 g40) := by
  intro nn
  induction nn with
  | zero => intros; exact r_none
  | succ nn ih =>
    intro a40_4 a40_6 g40
    rw [l_Mod_mean_40]
    refine r_iload (i := 22) rfl rfl rfl ?_
    refine r_iload_n (i := 23) rfl rfl rfl ?_
    refine r_icmp_ge (i := 24) (tgt := 80) rfl rfl rfl ?_ ?_
    · refine r_lload (i := 44) rfl rfl rfl ?_
      refine r_ldc2 (i := 45) wL_Mod_407 rfl rfl ?_
      refine r_ldivN (i := 46) rfl rfl fun x85 => ?_
      refine r_l2i (i := 47) rfl rfl ?_
      exact r_retI (i := 48) rfl rfl rfl rfl
    · refine r_aload_n (i := 25) rfl rfl rfl ?_
      refine r_aload_n (i := 26) rfl rfl rfl ?_
      refine r_gR (i := 27) (ci := 12) (kf := 26) rfl (Nat.le_of_ble_eq_true rfl) wF_Mod_55 rfl rfl fun x48 => ?_
      refine r_bipush (i := 28) (56 : Int32) kc_bipush_56 rfl rfl ?_
      refine r_aI (i := 29) rfl rfl fun x53 => ?_
      refine r_iload (i := 30) rfl rfl rfl ?_
      refine r_iadd (i := 31) rfl rfl ?_
      refine r_bipush (i := 32) (24 : Int32) kc_bipush_24 rfl rfl ?_
      refine r_iremN (i := 33) rfl rfl fun x59 => ?_
      refine r_iload_n (i := 34) rfl rfl rfl ?_
      refine r_VV2 (i := 35) (k2 := 0) (n2 := 0) ok_Mod_fogOn wM_Mod_400 (c_Mod_fogOn F) (fun _ e => fw_ckb e) (Nat.le_of_ble_eq_true rfl) (Nat.le_of_ble_eq_true rfl) (Nat.le_of_ble_eq_true rfl) (Nat.le_of_ble_eq_true rfl) rfl rfl fun h61 => ?_
      refine r_lload (i := 36) rfl rfl rfl ?_
      refine r_aload_n (i := 37) rfl rfl rfl ?_
      refine r_iload_n (i := 38) rfl rfl rfl ?_
      refine r_VJ1 (i := 39) (k2 := 0) (n2 := 0) ok_Mod_partsAt wM_Mod_403 (c_Mod_partsAt F) (fun _ e => fw_ckb e) (Nat.le_of_ble_eq_true rfl) (Nat.le_of_ble_eq_true rfl) (Nat.le_of_ble_eq_true rfl) (Nat.le_of_ble_eq_true rfl) rfl rfl fun x68 => ?_
      refine r_ladd (i := 40) rfl rfl ?_
      refine r_lstore (i := 41) rfl rfl (Nat.le_of_ble_eq_true rfl) rfl ?_
      refine r_iinc (i := 42) (1 : Int32) kc_iconst_1 rfl rfl rfl (Nat.le_of_ble_eq_true rfl) ?_
      refine r_goto (i := 43) (tgt := 40) rfl rfl rfl ?_
      exact r_lv (fw_sub1 rfl (fw_sub1 rfl (fw_sub1 rfl (fw_sub1 rfl (fw_sub1 rfl (fw_sub1 rfl fw_sub0)))))) (ih (a40_4 + x68) (a40_6 + (1 : Int32)) h61)
def s_Mod_mean (F : Nat) (h : fw_H) (v0 : Option Nat) (v1 : Int32) (v2 : Int32) (v3 : Int32) : Option (Int32 × fw_H) :=
(f_ck h v0 12).bind fun _ =>
(s_Mod_isHouse h v0 v1).bind fun x2 =>
if x2 = true then ((s_Mod_in v2 (1 : Int32) (30 : Int32)).bind fun x12 =>
if x12 = true then ((s_Mod_in v3 (0 : Int32) (100 : Int32)).bind fun x22 =>
if x22 = true then ((s_Mod_beginParts F h v0).bind fun h31 =>
l_Mod_mean_40 F v0 v1 v2 v3 F (0 : Int64) (0 : Int32) h31) else
some ((-1 : Int32), h)) else
some ((-1 : Int32), h)) else
some ((-1 : Int32), h)
theorem c_Mod_mean {G : fw_G} (F : Nat) {h : fw_H} {v0 : Option Nat} {v1 : Int32} {v2 : Int32} {v3 : Int32} : fw_Call G m_Mod_mean fw_wI 8 0 0 [fw_r v0, fw_i v1, fw_i v2, fw_i v3] h (s_Mod_mean F h v0 v1 v2 v3) := by
  refine fw_Call.of ok_Mod_mean.1 (Nat.le_of_ble_eq_true rfl) [(0, some (fw_r v0)), (1, some (fw_i v1)), (2, some (fw_i v2)), (3, some (fw_i v3))] rfl ?_
  refine r_ck ?_
  refine r_aload_n (i := 0) rfl rfl rfl ?_
  refine r_iload_n (i := 1) rfl rfl rfl ?_
  refine r_VB1 (i := 2) (k2 := 0) (n2 := 0) ok_Mod_isHouse wM_Mod_279 (c_Mod_isHouse) (fun _ e => fw_ckb e) (Nat.le_of_ble_eq_true rfl) (Nat.le_of_ble_eq_true rfl) (Nat.le_of_ble_eq_true rfl) (Nat.le_of_ble_eq_true rfl) rfl rfl fun x2 => ?_
  refine r_ifeqB (i := 3) (tgt := 28) rfl rfl rfl ?_ ?_
  · refine r_iconst (i := 14) (-1 : Int32) kc_iconst_m1 rfl rfl ?_
    exact r_retI (i := 15) rfl rfl rfl rfl
  · refine r_iload_n (i := 4) rfl rfl rfl ?_
    refine r_iconst (i := 5) (1 : Int32) kc_iconst_1 rfl rfl ?_
    refine r_bipush (i := 6) (30 : Int32) kc_bipush_30 rfl rfl ?_
    refine r_SB3 (i := 7) (k2 := 0) (n2 := 0) ok_Mod_in wM_Mod_275 (c_Mod_in) (Nat.le_of_ble_eq_true rfl) (Nat.le_of_ble_eq_true rfl) (Nat.le_of_ble_eq_true rfl) (Nat.le_of_ble_eq_true rfl) rfl rfl fun x12 => ?_
    refine r_ifeqB (i := 8) (tgt := 28) rfl rfl rfl ?_ ?_
    · refine r_iconst (i := 14) (-1 : Int32) kc_iconst_m1 rfl rfl ?_
      exact r_retI (i := 15) rfl rfl rfl rfl
    · refine r_iload_n (i := 9) rfl rfl rfl ?_
      refine r_iconst (i := 10) (0 : Int32) kc_iconst_0 rfl rfl ?_
      refine r_bipush (i := 11) (100 : Int32) kc_bipush_100 rfl rfl ?_
      refine r_SB3 (i := 12) (k2 := 0) (n2 := 0) ok_Mod_in wM_Mod_275 (c_Mod_in) (Nat.le_of_ble_eq_true rfl) (Nat.le_of_ble_eq_true rfl) (Nat.le_of_ble_eq_true rfl) (Nat.le_of_ble_eq_true rfl) rfl rfl fun x22 => ?_
      refine r_ifneB (i := 13) (tgt := 30) rfl rfl rfl ?_ ?_
      · refine r_aload_n (i := 16) rfl rfl rfl ?_
        refine r_VV0 (i := 17) (k2 := 0) (n2 := 0) ok_Mod_beginParts wM_Mod_397 (c_Mod_beginParts F) (fun _ e => fw_ckb e) (Nat.le_of_ble_eq_true rfl) (Nat.le_of_ble_eq_true rfl) (Nat.le_of_ble_eq_true rfl) (Nat.le_of_ble_eq_true rfl) rfl rfl fun h31 => ?_
        refine r_lconst (i := 18) (0 : Int64) rfl rfl rfl ?_
        refine r_lstore (i := 19) rfl rfl (Nat.le_of_ble_eq_true rfl) rfl ?_
        refine r_iconst (i := 20) (0 : Int32) kc_iconst_0 rfl rfl ?_
        refine r_istore (i := 21) rfl rfl (Nat.le_of_ble_eq_true rfl) rfl ?_
        refine r_lv (fw_sub1 rfl (fw_sub1 rfl (fw_sub1 rfl (fw_sub1 rfl (fw_sub1 rfl (fw_sub1 rfl fw_sub0)))))) (cl_Mod_mean_40 F _ _ _)
      · refine r_iconst (i := 14) (-1 : Int32) kc_iconst_m1 rfl rfl ?_
        exact r_retI (i := 15) rfl rfl rfl rfl
-- Mod_pretendOf
def l_Mod_pretendOf_53 (F : Nat) (v0 : Option Nat) (v1 : Int32) (v2 : Int32) (K100 : Int32 → fw_H → Option (Int32 × fw_H)) : Nat → Int32 → Int32 → fw_H → Option (Int32 × fw_H)
  | 0, _, _, _ => none
  | nn + 1, a53_7, a53_8, g53 =>
    if (24 : Int32) ≤ a53_8 then (K100 a53_7 g53) else
    (s_Mod_walk F g53 v0).bind fun h61 =>
    (f_gI h61 v0 12 32).bind fun x67 =>
    if ¬ x67 = v1 then ((f_gI h61 v0 12 32).bind fun x79 =>
    if ¬ x79 = v2 then (l_Mod_pretendOf_53 F v0 v1 v2 K100 nn (a53_7 + (0 : Int32)) (a53_8 + (1 : Int32)) h61) else
    l_Mod_pretendOf_53 F v0 v1 v2 K100 nn (a53_7 + (-1 : Int32)) (a53_8 + (1 : Int32)) h61) else
    l_Mod_pretendOf_53 F v0 v1 v2 K100 nn (a53_7 + (1 : Int32)) (a53_8 + (1 : Int32)) h61
theorem cl_Mod_pretendOf_53 {G : fw_G} {F : Nat} {v0 : Option Nat} {v1 : Int32} {v2 : Int32} {x8 : Int32} {x19 : Int32} {K100 : Int32 → fw_H → Option (Int32 × fw_H)} (hK100 : ∀ (e100_7 : Int32) (he100 : fw_H), fw_R G m_Mod_pretendOf fw_wI 8 0 0 100 [(0, some (fw_r v0)), (1, some (fw_i v1)), (2, some (fw_i v2)), (5, some (fw_i x8)), (6, some (fw_i x19)), (7, some (fw_i e100_7))] [] he100 (K100 e100_7 he100)) : ∀ (nn : Nat) (a53_7 : Int32) (a53_8 : Int32) (g53 : fw_H), fw_R G m_Mod_pretendOf fw_wI 8 0 0 53 [(0, some (fw_r v0)), (1, some (fw_i v1)), (2, some (fw_i v2)), (5, some (fw_i x8)), (6, some (fw_i x19)), (7, some (fw_i a53_7)), (8, some (fw_i a53_8))] [] g53 (l_Mod_pretendOf_53 F v0 v1 v2 K100 nn a53_7 a53_8 g53) := by
  intro nn
  induction nn with
  | zero => intros; exact r_none
  | succ nn ih =>
    intro a53_7 a53_8 g53
    rw [l_Mod_pretendOf_53]
    refine r_iload (i := 34) rfl rfl rfl ?_
    refine r_bipush (i := 35) (24 : Int32) kc_bipush_24 rfl rfl ?_
    refine r_icmp_ge (i := 36) (tgt := 100) rfl rfl rfl ?_ ?_
    · exact r_lv (fw_sub1 rfl (fw_sub1 rfl (fw_sub1 rfl (fw_sub1 rfl (fw_sub1 rfl (fw_sub1 rfl fw_sub0)))))) (hK100 a53_7 g53)
    · refine r_aload_n (i := 37) rfl rfl rfl ?_
      refine r_VV0 (i := 38) (k2 := 0) (n2 := 0) ok_Mod_walk wM_Mod_345 (c_Mod_walk F) (fun _ e => fw_ckb e) (Nat.le_of_ble_eq_true rfl) (Nat.le_of_ble_eq_true rfl) (Nat.le_of_ble_eq_true rfl) (Nat.le_of_ble_eq_true rfl) rfl rfl fun h61 => ?_
      refine r_iload (i := 39) rfl rfl rfl ?_
      refine r_aload_n (i := 40) rfl rfl rfl ?_
      refine r_gI (i := 41) (ci := 12) (kf := 32) rfl (Nat.le_of_ble_eq_true rfl) wF_Mod_330 rfl rfl fun x67 => ?_
      refine r_iload_n (i := 42) rfl rfl rfl ?_
      refine r_icmp_ne (i := 43) (tgt := 78) rfl rfl rfl ?_ ?_
      · refine r_aload_n (i := 46) rfl rfl rfl ?_
        refine r_gI (i := 47) (ci := 12) (kf := 32) rfl (Nat.le_of_ble_eq_true rfl) wF_Mod_330 rfl rfl fun x79 => ?_
        refine r_iload_n (i := 48) rfl rfl rfl ?_
        refine r_icmp_ne (i := 49) (tgt := 90) rfl rfl rfl ?_ ?_
        · refine r_iconst (i := 52) (0 : Int32) kc_iconst_0 rfl rfl ?_
          refine r_iadd (i := 53) rfl rfl ?_
          refine r_istore (i := 54) rfl rfl (Nat.le_of_ble_eq_true rfl) rfl ?_
          refine r_iinc (i := 55) (1 : Int32) kc_iconst_1 rfl rfl rfl (Nat.le_of_ble_eq_true rfl) ?_
          refine r_goto (i := 56) (tgt := 53) rfl rfl rfl ?_
          exact r_lv (fw_sub1 rfl (fw_sub1 rfl (fw_sub1 rfl (fw_sub1 rfl (fw_sub1 rfl (fw_sub1 rfl (fw_sub1 rfl fw_sub0))))))) (ih (a53_7 + (0 : Int32)) (a53_8 + (1 : Int32)) h61)
        · refine r_iconst (i := 50) (-1 : Int32) kc_iconst_m1 rfl rfl ?_
          refine r_goto (i := 51) (tgt := 91) rfl rfl rfl ?_
          refine r_iadd (i := 53) rfl rfl ?_
          refine r_istore (i := 54) rfl rfl (Nat.le_of_ble_eq_true rfl) rfl ?_
          refine r_iinc (i := 55) (1 : Int32) kc_iconst_1 rfl rfl rfl (Nat.le_of_ble_eq_true rfl) ?_
          refine r_goto (i := 56) (tgt := 53) rfl rfl rfl ?_
          exact r_lv (fw_sub1 rfl (fw_sub1 rfl (fw_sub1 rfl (fw_sub1 rfl (fw_sub1 rfl (fw_sub1 rfl (fw_sub1 rfl fw_sub0))))))) (ih (a53_7 + (-1 : Int32)) (a53_8 + (1 : Int32)) h61)
      · refine r_iconst (i := 44) (1 : Int32) kc_iconst_1 rfl rfl ?_
        refine r_goto (i := 45) (tgt := 91) rfl rfl rfl ?_
        refine r_iadd (i := 53) rfl rfl ?_
        refine r_istore (i := 54) rfl rfl (Nat.le_of_ble_eq_true rfl) rfl ?_
        refine r_iinc (i := 55) (1 : Int32) kc_iconst_1 rfl rfl rfl (Nat.le_of_ble_eq_true rfl) ?_
        refine r_goto (i := 56) (tgt := 53) rfl rfl rfl ?_
        exact r_lv (fw_sub1 rfl (fw_sub1 rfl (fw_sub1 rfl (fw_sub1 rfl (fw_sub1 rfl (fw_sub1 rfl (fw_sub1 rfl fw_sub0))))))) (ih (a53_7 + (1 : Int32)) (a53_8 + (1 : Int32)) h61)
def s_Mod_pretendOf (F : Nat) (h : fw_H) (v0 : Option Nat) (v1 : Int32) (v2 : Int32) (v3 : Int32) (v4 : Int32) : Option (Int32 × fw_H) :=
(f_ck h v0 12).bind fun _ =>
(f_gR h v0 12 26).bind fun x1 =>
(f_aI h x1 ((12 : Int32) + v1)).bind fun x8 =>
(f_gR h v0 12 26).bind fun x12 =>
(f_aI h x12 ((12 : Int32) + v2)).bind fun x19 =>
(f_gR h v0 12 26).bind fun x23 =>
(f_sI h x23 ((12 : Int32) + v1) v3).bind fun h31 =>
(f_gR h31 v0 12 26).bind fun x33 =>
(f_sI h31 x33 ((12 : Int32) + v2) v4).bind fun h42 =>
(s_Mod_startWalk h42 v0).bind fun h44 =>
l_Mod_pretendOf_53 F v0 v1 v2 (fun e100_7 he100 =>
(f_gR he100 v0 12 26).bind fun x101 =>
(f_sI he100 x101 ((12 : Int32) + v1) x8).bind fun h110 =>
(f_gR h110 v0 12 26).bind fun x112 =>
(f_sI h110 x112 ((12 : Int32) + v2) x19).bind fun h121 =>
some (e100_7, h121)) F (0 : Int32) (0 : Int32) h44
theorem c_Mod_pretendOf {G : fw_G} (F : Nat) {h : fw_H} {v0 : Option Nat} {v1 : Int32} {v2 : Int32} {v3 : Int32} {v4 : Int32} : fw_Call G m_Mod_pretendOf fw_wI 8 0 0 [fw_r v0, fw_i v1, fw_i v2, fw_i v3, fw_i v4] h (s_Mod_pretendOf F h v0 v1 v2 v3 v4) := by
  refine fw_Call.of ok_Mod_pretendOf.1 (Nat.le_of_ble_eq_true rfl) [(0, some (fw_r v0)), (1, some (fw_i v1)), (2, some (fw_i v2)), (3, some (fw_i v3)), (4, some (fw_i v4))] rfl ?_
  refine r_ck ?_
  refine r_aload_n (i := 0) rfl rfl rfl ?_
  refine r_gR (i := 1) (ci := 12) (kf := 26) rfl (Nat.le_of_ble_eq_true rfl) wF_Mod_55 rfl rfl fun x1 => ?_
  refine r_bipush (i := 2) (12 : Int32) kc_bipush_12 rfl rfl ?_
  refine r_iload_n (i := 3) rfl rfl rfl ?_
  refine r_iadd (i := 4) rfl rfl ?_
  refine r_aI (i := 5) rfl rfl fun x8 => ?_
  refine r_istore (i := 6) rfl rfl (Nat.le_of_ble_eq_true rfl) rfl ?_
  refine r_aload_n (i := 7) rfl rfl rfl ?_
  refine r_gR (i := 8) (ci := 12) (kf := 26) rfl (Nat.le_of_ble_eq_true rfl) wF_Mod_55 rfl rfl fun x12 => ?_
  refine r_bipush (i := 9) (12 : Int32) kc_bipush_12 rfl rfl ?_
  refine r_iload_n (i := 10) rfl rfl rfl ?_
  refine r_iadd (i := 11) rfl rfl ?_
  refine r_aI (i := 12) rfl rfl fun x19 => ?_
  refine r_istore (i := 13) rfl rfl (Nat.le_of_ble_eq_true rfl) rfl ?_
  refine r_aload_n (i := 14) rfl rfl rfl ?_
  refine r_gR (i := 15) (ci := 12) (kf := 26) rfl (Nat.le_of_ble_eq_true rfl) wF_Mod_55 rfl rfl fun x23 => ?_
  refine r_bipush (i := 16) (12 : Int32) kc_bipush_12 rfl rfl ?_
  refine r_iload_n (i := 17) rfl rfl rfl ?_
  refine r_iadd (i := 18) rfl rfl ?_
  refine r_iload_n (i := 19) rfl rfl rfl ?_
  refine r_sI (i := 20) rfl rfl fun h31 => ?_
  refine r_aload_n (i := 21) rfl rfl rfl ?_
  refine r_gR (i := 22) (ci := 12) (kf := 26) rfl (Nat.le_of_ble_eq_true rfl) wF_Mod_55 rfl rfl fun x33 => ?_
  refine r_bipush (i := 23) (12 : Int32) kc_bipush_12 rfl rfl ?_
  refine r_iload_n (i := 24) rfl rfl rfl ?_
  refine r_iadd (i := 25) rfl rfl ?_
  refine r_iload (i := 26) rfl rfl rfl ?_
  refine r_sI (i := 27) rfl rfl fun h42 => ?_
  refine r_aload_n (i := 28) rfl rfl rfl ?_
  refine r_VV0 (i := 29) (k2 := 0) (n2 := 0) ok_Mod_startWalk wM_Mod_342 (c_Mod_startWalk) (fun _ e => fw_ckb e) (Nat.le_of_ble_eq_true rfl) (Nat.le_of_ble_eq_true rfl) (Nat.le_of_ble_eq_true rfl) (Nat.le_of_ble_eq_true rfl) rfl rfl fun h44 => ?_
  refine r_iconst (i := 30) (0 : Int32) kc_iconst_0 rfl rfl ?_
  refine r_istore (i := 31) rfl rfl (Nat.le_of_ble_eq_true rfl) rfl ?_
  refine r_iconst (i := 32) (0 : Int32) kc_iconst_0 rfl rfl ?_
  refine r_istore (i := 33) rfl rfl (Nat.le_of_ble_eq_true rfl) rfl ?_
  refine r_lv (fw_sub1 rfl (fw_sub1 rfl (fw_sub1 rfl (fw_sub1 rfl (fw_sub1 rfl (fw_sub1 rfl (fw_sub1 rfl fw_sub0))))))) (cl_Mod_pretendOf_53 ?_ F _ _ _)
  · intro e100_7 he100
    refine r_aload_n (i := 57) rfl rfl rfl ?_
    refine r_gR (i := 58) (ci := 12) (kf := 26) rfl (Nat.le_of_ble_eq_true rfl) wF_Mod_55 rfl rfl fun x101 => ?_
    refine r_bipush (i := 59) (12 : Int32) kc_bipush_12 rfl rfl ?_
    refine r_iload_n (i := 60) rfl rfl rfl ?_
    refine r_iadd (i := 61) rfl rfl ?_
    refine r_iload (i := 62) rfl rfl rfl ?_
    refine r_sI (i := 63) rfl rfl fun h110 => ?_
    refine r_aload_n (i := 64) rfl rfl rfl ?_
    refine r_gR (i := 65) (ci := 12) (kf := 26) rfl (Nat.le_of_ble_eq_true rfl) wF_Mod_55 rfl rfl fun x112 => ?_
    refine r_bipush (i := 66) (12 : Int32) kc_bipush_12 rfl rfl ?_
    refine r_iload_n (i := 67) rfl rfl rfl ?_
    refine r_iadd (i := 68) rfl rfl ?_
    refine r_iload (i := 69) rfl rfl rfl ?_
    refine r_sI (i := 70) rfl rfl fun h121 => ?_
    refine r_iload (i := 71) rfl rfl rfl ?_
    exact r_retI (i := 72) rfl rfl rfl rfl
-- Mod_areTwo
def s_Mod_areTwo (h : fw_H) (v0 : Option Nat) (v1 : Int32) (v2 : Int32) : Option Bool :=
(f_ck h v0 12).bind fun _ =>
(s_Mod_isHouse h v0 v1).bind fun x2 =>
if x2 = true then ((s_Mod_isHouse h v0 v2).bind fun x10 =>
if x10 = true then (if v1 = v2 then (some false) else
some true) else
some false) else
some false
theorem c_Mod_areTwo {G : fw_G} {h : fw_H} {v0 : Option Nat} {v1 : Int32} {v2 : Int32} : fw_Call G m_Mod_areTwo (fw_eB h) 2 0 0 [fw_r v0, fw_i v1, fw_i v2] h (s_Mod_areTwo h v0 v1 v2) := by
  refine fw_Call.of ok_Mod_areTwo.1 (Nat.le_of_ble_eq_true rfl) [(0, some (fw_r v0)), (1, some (fw_i v1)), (2, some (fw_i v2))] rfl ?_
  refine r_ck ?_
  refine r_aload_n (i := 0) rfl rfl rfl ?_
  refine r_iload_n (i := 1) rfl rfl rfl ?_
  refine r_VB1 (i := 2) (k2 := 0) (n2 := 0) ok_Mod_isHouse wM_Mod_279 (c_Mod_isHouse) (fun _ e => fw_ckb e) (Nat.le_of_ble_eq_true rfl) (Nat.le_of_ble_eq_true rfl) (Nat.le_of_ble_eq_true rfl) (Nat.le_of_ble_eq_true rfl) rfl rfl fun x2 => ?_
  refine r_ifeqB (i := 3) (tgt := 25) rfl rfl rfl ?_ ?_
  · refine r_iconst (i := 13) (0 : Int32) kc_iconst_0 rfl rfl ?_
    exact r_retB (x := false) (i := 14) rfl rfl rfl rfl
  · refine r_aload_n (i := 4) rfl rfl rfl ?_
    refine r_iload_n (i := 5) rfl rfl rfl ?_
    refine r_VB1 (i := 6) (k2 := 0) (n2 := 0) ok_Mod_isHouse wM_Mod_279 (c_Mod_isHouse) (fun _ e => fw_ckb e) (Nat.le_of_ble_eq_true rfl) (Nat.le_of_ble_eq_true rfl) (Nat.le_of_ble_eq_true rfl) (Nat.le_of_ble_eq_true rfl) rfl rfl fun x10 => ?_
    refine r_ifeqB (i := 7) (tgt := 25) rfl rfl rfl ?_ ?_
    · refine r_iconst (i := 13) (0 : Int32) kc_iconst_0 rfl rfl ?_
      exact r_retB (x := false) (i := 14) rfl rfl rfl rfl
    · refine r_iload_n (i := 8) rfl rfl rfl ?_
      refine r_iload_n (i := 9) rfl rfl rfl ?_
      refine r_icmp_eq (i := 10) (tgt := 25) rfl rfl rfl ?_ ?_
      · refine r_iconst (i := 13) (0 : Int32) kc_iconst_0 rfl rfl ?_
        exact r_retB (x := false) (i := 14) rfl rfl rfl rfl
      · refine r_iconst (i := 11) (1 : Int32) kc_iconst_1 rfl rfl ?_
        refine r_goto (i := 12) (tgt := 26) rfl rfl rfl ?_
        exact r_retB (x := true) (i := 14) rfl rfl rfl rfl
-- Mod_pretend
def s_Mod_pretend (F : Nat) (h : fw_H) (v0 : Option Nat) (v1 : Int32) (v2 : Int32) (v3 : Int32) (v4 : Int32) : Option (Int32 × fw_H) :=
(f_ck h v0 12).bind fun _ =>
(s_Mod_areTwo h v0 v1 v2).bind fun x3 =>
if x3 = true then ((s_Mod_in v3 (0 : Int32) (1 : Int32)).bind fun x12 =>
if x12 = true then ((s_Mod_in v4 (0 : Int32) (1 : Int32)).bind fun x22 =>
if x22 = true then ((s_Mod_pretendOf F h v0 v1 v2 v3 v4).bind fun x34 =>
some (x34.1, x34.2)) else
some ((-1000000 : Int32), h)) else
some ((-1000000 : Int32), h)) else
some ((-1000000 : Int32), h)
theorem c_Mod_pretend {G : fw_G} (F : Nat) {h : fw_H} {v0 : Option Nat} {v1 : Int32} {v2 : Int32} {v3 : Int32} {v4 : Int32} : fw_Call G m_Mod_pretend fw_wI 9 0 0 [fw_r v0, fw_i v1, fw_i v2, fw_i v3, fw_i v4] h (s_Mod_pretend F h v0 v1 v2 v3 v4) := by
  refine fw_Call.of ok_Mod_pretend.1 (Nat.le_of_ble_eq_true rfl) [(0, some (fw_r v0)), (1, some (fw_i v1)), (2, some (fw_i v2)), (3, some (fw_i v3)), (4, some (fw_i v4))] rfl ?_
  refine r_ck ?_
  refine r_aload_n (i := 0) rfl rfl rfl ?_
  refine r_iload_n (i := 1) rfl rfl rfl ?_
  refine r_iload_n (i := 2) rfl rfl rfl ?_
  refine r_VB2 (i := 3) (k2 := 0) (n2 := 0) ok_Mod_areTwo wM_Mod_409 (c_Mod_areTwo) (fun _ e => fw_ckb e) (Nat.le_of_ble_eq_true rfl) (Nat.le_of_ble_eq_true rfl) (Nat.le_of_ble_eq_true rfl) (Nat.le_of_ble_eq_true rfl) rfl rfl fun x3 => ?_
  refine r_ifeqB (i := 4) (tgt := 40) rfl rfl rfl ?_ ?_
  · refine r_ldcw (i := 22) wK_Mod_291 rfl rfl ?_
    exact r_retI (i := 23) rfl rfl rfl rfl
  · refine r_iload_n (i := 5) rfl rfl rfl ?_
    refine r_iconst (i := 6) (0 : Int32) kc_iconst_0 rfl rfl ?_
    refine r_iconst (i := 7) (1 : Int32) kc_iconst_1 rfl rfl ?_
    refine r_SB3 (i := 8) (k2 := 0) (n2 := 0) ok_Mod_in wM_Mod_275 (c_Mod_in) (Nat.le_of_ble_eq_true rfl) (Nat.le_of_ble_eq_true rfl) (Nat.le_of_ble_eq_true rfl) (Nat.le_of_ble_eq_true rfl) rfl rfl fun x12 => ?_
    refine r_ifeqB (i := 9) (tgt := 40) rfl rfl rfl ?_ ?_
    · refine r_ldcw (i := 22) wK_Mod_291 rfl rfl ?_
      exact r_retI (i := 23) rfl rfl rfl rfl
    · refine r_iload (i := 10) rfl rfl rfl ?_
      refine r_iconst (i := 11) (0 : Int32) kc_iconst_0 rfl rfl ?_
      refine r_iconst (i := 12) (1 : Int32) kc_iconst_1 rfl rfl ?_
      refine r_SB3 (i := 13) (k2 := 0) (n2 := 0) ok_Mod_in wM_Mod_275 (c_Mod_in) (Nat.le_of_ble_eq_true rfl) (Nat.le_of_ble_eq_true rfl) (Nat.le_of_ble_eq_true rfl) (Nat.le_of_ble_eq_true rfl) rfl rfl fun x22 => ?_
      refine r_ifeqB (i := 14) (tgt := 40) rfl rfl rfl ?_ ?_
      · refine r_ldcw (i := 22) wK_Mod_291 rfl rfl ?_
        exact r_retI (i := 23) rfl rfl rfl rfl
      · refine r_aload_n (i := 15) rfl rfl rfl ?_
        refine r_iload_n (i := 16) rfl rfl rfl ?_
        refine r_iload_n (i := 17) rfl rfl rfl ?_
        refine r_iload_n (i := 18) rfl rfl rfl ?_
        refine r_iload (i := 19) rfl rfl rfl ?_
        refine r_VwI4 (i := 20) (k2 := 0) (n2 := 0) ok_Mod_pretendOf wM_Mod_412 (c_Mod_pretendOf F) (fun _ e => fw_ckb e) (Nat.le_of_ble_eq_true rfl) (Nat.le_of_ble_eq_true rfl) (Nat.le_of_ble_eq_true rfl) (Nat.le_of_ble_eq_true rfl) rfl rfl fun x34 => ?_
        refine r_goto (i := 21) (tgt := 43) rfl rfl rfl ?_
        exact r_retI (i := 23) rfl rfl rfl rfl
-- Mod_rests
def l_Mod_rests_31 (F : Nat) (v0 : Option Nat) (v1 : Int32) (v2 : Int32) (v3 : Int32) (a22_5 : Int32) (K107 : Int32 → fw_H → Option (Int32 × fw_H)) : Nat → Int32 → Int32 → fw_H → Option (Int32 × fw_H)
  | 0, _, _, _ => none
  | nn + 1, a31_4, a31_6, g31 =>
    if (2 : Int32) ≤ a31_6 then (K107 a31_4 g31) else
    (s_Mod_pretendOf F g31 v0 v1 v2 a22_5 a31_6).bind fun x44 =>
    (s_Mod_pretendOf F x44.2 v0 v1 v2 ((1 : Int32) - a22_5) a31_6).bind fun x58 =>
    if x44.1 < x58.1 then (l_Mod_rests_31 F v0 v1 v2 v3 a22_5 K107 nn a31_4 (a31_6 + (1 : Int32)) x58.2) else
    (s_Mod_pretendOf F x58.2 v0 v1 v2 a22_5 ((1 : Int32) - a31_6)).bind fun x75 =>
    if x75.1 < x44.1 then (l_Mod_rests_31 F v0 v1 v2 v3 a22_5 K107 nn a31_4 (a31_6 + (1 : Int32)) x75.2) else
    if ¬ a31_4 = v3 then (l_Mod_rests_31 F v0 v1 v2 v3 a22_5 K107 nn (a31_4 + (1 : Int32)) (a31_6 + (1 : Int32)) x75.2) else
    some ((((10 : Int32) * a22_5) + a31_6), x75.2)
theorem cl_Mod_rests_31 {G : fw_G} {F : Nat} {v0 : Option Nat} {v1 : Int32} {v2 : Int32} {v3 : Int32} {a22_5 : Int32} {K107 : Int32 → fw_H → Option (Int32 × fw_H)} (hK107 : ∀ (e107_4 : Int32) (he107 : fw_H), fw_R G m_Mod_rests fw_wI 9 0 0 107 [(0, some (fw_r v0)), (1, some (fw_i v1)), (2, some (fw_i v2)), (3, some (fw_i v3)), (4, some (fw_i e107_4)), (5, some (fw_i a22_5))] [] he107 (K107 e107_4 he107)) : ∀ (nn : Nat) (a31_4 : Int32) (a31_6 : Int32) (g31 : fw_H), fw_R G m_Mod_rests fw_wI 9 0 0 31 [(0, some (fw_r v0)), (1, some (fw_i v1)), (2, some (fw_i v2)), (3, some (fw_i v3)), (4, some (fw_i a31_4)), (5, some (fw_i a22_5)), (6, some (fw_i a31_6))] [] g31 (l_Mod_rests_31 F v0 v1 v2 v3 a22_5 K107 nn a31_4 a31_6 g31) := by
  intro nn
  induction nn with
  | zero => intros; exact r_none
  | succ nn ih =>
    intro a31_4 a31_6 g31
    rw [l_Mod_rests_31]
    refine r_iload (i := 19) rfl rfl rfl ?_
    refine r_iconst (i := 20) (2 : Int32) kc_iconst_2 rfl rfl ?_
    refine r_icmp_ge (i := 21) (tgt := 107) rfl rfl rfl ?_ ?_
    · exact r_lv (fw_sub1 rfl (fw_sub1 rfl (fw_sub1 rfl (fw_sub1 rfl (fw_sub1 rfl (fw_sub1 rfl fw_sub0)))))) (hK107 a31_4 g31)
    · refine r_aload_n (i := 22) rfl rfl rfl ?_
      refine r_iload_n (i := 23) rfl rfl rfl ?_
      refine r_iload_n (i := 24) rfl rfl rfl ?_
      refine r_iload (i := 25) rfl rfl rfl ?_
      refine r_iload (i := 26) rfl rfl rfl ?_
      refine r_VwI4 (i := 27) (k2 := 0) (n2 := 0) ok_Mod_pretendOf wM_Mod_412 (c_Mod_pretendOf F) (fun _ e => fw_ckb e) (Nat.le_of_ble_eq_true rfl) (Nat.le_of_ble_eq_true rfl) (Nat.le_of_ble_eq_true rfl) (Nat.le_of_ble_eq_true rfl) rfl rfl fun x44 => ?_
      refine r_istore (i := 28) rfl rfl (Nat.le_of_ble_eq_true rfl) rfl ?_
      refine r_aload_n (i := 29) rfl rfl rfl ?_
      refine r_iload_n (i := 30) rfl rfl rfl ?_
      refine r_iload_n (i := 31) rfl rfl rfl ?_
      refine r_iconst (i := 32) (1 : Int32) kc_iconst_1 rfl rfl ?_
      refine r_iload (i := 33) rfl rfl rfl ?_
      refine r_isub (i := 34) rfl rfl ?_
      refine r_iload (i := 35) rfl rfl rfl ?_
      refine r_VwI4 (i := 36) (k2 := 0) (n2 := 0) ok_Mod_pretendOf wM_Mod_412 (c_Mod_pretendOf F) (fun _ e => fw_ckb e) (Nat.le_of_ble_eq_true rfl) (Nat.le_of_ble_eq_true rfl) (Nat.le_of_ble_eq_true rfl) (Nat.le_of_ble_eq_true rfl) rfl rfl fun x58 => ?_
      refine r_iload (i := 37) rfl rfl rfl ?_
      refine r_icmp_gt (i := 38) (tgt := 101) rfl rfl rfl ?_ ?_
      · refine r_iinc (i := 59) (1 : Int32) kc_iconst_1 rfl rfl rfl (Nat.le_of_ble_eq_true rfl) ?_
        refine r_goto (i := 60) (tgt := 31) rfl rfl rfl ?_
        exact r_lv (fw_sub1 rfl (fw_sub1 rfl (fw_sub1 rfl (fw_sub1 rfl (fw_sub1 rfl (fw_sub1 rfl (fw_sub1 rfl fw_sub0))))))) (ih a31_4 (a31_6 + (1 : Int32)) x58.2)
      · refine r_aload_n (i := 39) rfl rfl rfl ?_
        refine r_iload_n (i := 40) rfl rfl rfl ?_
        refine r_iload_n (i := 41) rfl rfl rfl ?_
        refine r_iload (i := 42) rfl rfl rfl ?_
        refine r_iconst (i := 43) (1 : Int32) kc_iconst_1 rfl rfl ?_
        refine r_iload (i := 44) rfl rfl rfl ?_
        refine r_isub (i := 45) rfl rfl ?_
        refine r_VwI4 (i := 46) (k2 := 0) (n2 := 0) ok_Mod_pretendOf wM_Mod_412 (c_Mod_pretendOf F) (fun _ e => fw_ckb e) (Nat.le_of_ble_eq_true rfl) (Nat.le_of_ble_eq_true rfl) (Nat.le_of_ble_eq_true rfl) (Nat.le_of_ble_eq_true rfl) rfl rfl fun x75 => ?_
        refine r_iload (i := 47) rfl rfl rfl ?_
        refine r_icmp_lt (i := 48) (tgt := 101) rfl rfl rfl ?_ ?_
        · refine r_iinc (i := 59) (1 : Int32) kc_iconst_1 rfl rfl rfl (Nat.le_of_ble_eq_true rfl) ?_
          refine r_goto (i := 60) (tgt := 31) rfl rfl rfl ?_
          exact r_lv (fw_sub1 rfl (fw_sub1 rfl (fw_sub1 rfl (fw_sub1 rfl (fw_sub1 rfl (fw_sub1 rfl (fw_sub1 rfl fw_sub0))))))) (ih a31_4 (a31_6 + (1 : Int32)) x75.2)
        · refine r_iload (i := 49) rfl rfl rfl ?_
          refine r_iload_n (i := 50) rfl rfl rfl ?_
          refine r_icmp_ne (i := 51) (tgt := 98) rfl rfl rfl ?_ ?_
          · refine r_iinc (i := 58) (1 : Int32) kc_iconst_1 rfl rfl rfl (Nat.le_of_ble_eq_true rfl) ?_
            refine r_iinc (i := 59) (1 : Int32) kc_iconst_1 rfl rfl rfl (Nat.le_of_ble_eq_true rfl) ?_
            refine r_goto (i := 60) (tgt := 31) rfl rfl rfl ?_
            exact r_lv (fw_sub1 rfl (fw_sub1 rfl (fw_sub1 rfl (fw_sub1 rfl (fw_sub1 rfl (fw_sub1 rfl (fw_sub1 rfl fw_sub0))))))) (ih (a31_4 + (1 : Int32)) (a31_6 + (1 : Int32)) x75.2)
          · refine r_bipush (i := 52) (10 : Int32) kc_bipush_10 rfl rfl ?_
            refine r_iload (i := 53) rfl rfl rfl ?_
            refine r_imul (i := 54) rfl rfl ?_
            refine r_iload (i := 55) rfl rfl rfl ?_
            refine r_iadd (i := 56) rfl rfl ?_
            exact r_retI (i := 57) rfl rfl rfl rfl
def l_Mod_rests_22 (F : Nat) (v0 : Option Nat) (v1 : Int32) (v2 : Int32) (v3 : Int32) (K113 : Int32 → fw_H → Option (Int32 × fw_H)) : Nat → Int32 → Int32 → fw_H → Option (Int32 × fw_H)
  | 0, _, _, _ => none
  | nn + 1, a22_4, a22_5, g22 =>
    if (2 : Int32) ≤ a22_5 then (K113 a22_4 g22) else
    l_Mod_rests_31 F v0 v1 v2 v3 a22_5 (fun e107_4 he107 =>
    l_Mod_rests_22 F v0 v1 v2 v3 K113 nn e107_4 (a22_5 + (1 : Int32)) he107) F a22_4 (0 : Int32) g22
theorem cl_Mod_rests_22 {G : fw_G} {F : Nat} {v0 : Option Nat} {v1 : Int32} {v2 : Int32} {v3 : Int32} {K113 : Int32 → fw_H → Option (Int32 × fw_H)} (hK113 : ∀ (e113_4 : Int32) (he113 : fw_H), fw_R G m_Mod_rests fw_wI 9 0 0 113 [(3, some (fw_i v3)), (4, some (fw_i e113_4))] [] he113 (K113 e113_4 he113)) : ∀ (nn : Nat) (a22_4 : Int32) (a22_5 : Int32) (g22 : fw_H), fw_R G m_Mod_rests fw_wI 9 0 0 22 [(0, some (fw_r v0)), (1, some (fw_i v1)), (2, some (fw_i v2)), (3, some (fw_i v3)), (4, some (fw_i a22_4)), (5, some (fw_i a22_5))] [] g22 (l_Mod_rests_22 F v0 v1 v2 v3 K113 nn a22_4 a22_5 g22) := by
  intro nn
  induction nn with
  | zero => intros; exact r_none
  | succ nn ih =>
    intro a22_4 a22_5 g22
    rw [l_Mod_rests_22]
    refine r_iload (i := 14) rfl rfl rfl ?_
    refine r_iconst (i := 15) (2 : Int32) kc_iconst_2 rfl rfl ?_
    refine r_icmp_ge (i := 16) (tgt := 113) rfl rfl rfl ?_ ?_
    · exact r_lv (fw_sub1 rfl (fw_sub1 rfl fw_sub0)) (hK113 a22_4 g22)
    · refine r_iconst (i := 17) (0 : Int32) kc_iconst_0 rfl rfl ?_
      refine r_istore (i := 18) rfl rfl (Nat.le_of_ble_eq_true rfl) rfl ?_
      refine r_lv (fw_sub1 rfl (fw_sub1 rfl (fw_sub1 rfl (fw_sub1 rfl (fw_sub1 rfl (fw_sub1 rfl (fw_sub1 rfl fw_sub0))))))) (cl_Mod_rests_31 ?_ F _ _ _)
      · intro e107_4 he107
        refine r_iinc (i := 61) (1 : Int32) kc_iconst_1 rfl rfl rfl (Nat.le_of_ble_eq_true rfl) ?_
        refine r_goto (i := 62) (tgt := 22) rfl rfl rfl ?_
        exact r_lv (fw_sub1 rfl (fw_sub1 rfl (fw_sub1 rfl (fw_sub1 rfl (fw_sub1 rfl (fw_sub1 rfl fw_sub0)))))) (ih e107_4 (a22_5 + (1 : Int32)) he107)
def s_Mod_rests (F : Nat) (h : fw_H) (v0 : Option Nat) (v1 : Int32) (v2 : Int32) (v3 : Int32) : Option (Int32 × fw_H) :=
(f_ck h v0 12).bind fun _ =>
(s_Mod_areTwo h v0 v1 v2).bind fun x3 =>
if x3 = true then (if (-1 : Int32) ≤ v3 then (l_Mod_rests_22 F v0 v1 v2 v3 (fun e113_4 he113 =>
if ¬ v3 = (-1 : Int32) then (some ((-1 : Int32), he113)) else
some (e113_4, he113)) F (0 : Int32) (0 : Int32) h) else
some ((-1 : Int32), h)) else
some ((-1 : Int32), h)
theorem c_Mod_rests {G : fw_G} (F : Nat) {h : fw_H} {v0 : Option Nat} {v1 : Int32} {v2 : Int32} {v3 : Int32} : fw_Call G m_Mod_rests fw_wI 9 0 0 [fw_r v0, fw_i v1, fw_i v2, fw_i v3] h (s_Mod_rests F h v0 v1 v2 v3) := by
  refine fw_Call.of ok_Mod_rests.1 (Nat.le_of_ble_eq_true rfl) [(0, some (fw_r v0)), (1, some (fw_i v1)), (2, some (fw_i v2)), (3, some (fw_i v3))] rfl ?_
  refine r_ck ?_
  refine r_aload_n (i := 0) rfl rfl rfl ?_
  refine r_iload_n (i := 1) rfl rfl rfl ?_
  refine r_iload_n (i := 2) rfl rfl rfl ?_
  refine r_VB2 (i := 3) (k2 := 0) (n2 := 0) ok_Mod_areTwo wM_Mod_409 (c_Mod_areTwo) (fun _ e => fw_ckb e) (Nat.le_of_ble_eq_true rfl) (Nat.le_of_ble_eq_true rfl) (Nat.le_of_ble_eq_true rfl) (Nat.le_of_ble_eq_true rfl) rfl rfl fun x3 => ?_
  refine r_ifeqB (i := 4) (tgt := 14) rfl rfl rfl ?_ ?_
  · refine r_iconst (i := 8) (-1 : Int32) kc_iconst_m1 rfl rfl ?_
    exact r_retI (i := 9) rfl rfl rfl rfl
  · refine r_iload_n (i := 5) rfl rfl rfl ?_
    refine r_iconst (i := 6) (-1 : Int32) kc_iconst_m1 rfl rfl ?_
    refine r_icmp_ge (i := 7) (tgt := 16) rfl rfl rfl ?_ ?_
    · refine r_iconst (i := 10) (0 : Int32) kc_iconst_0 rfl rfl ?_
      refine r_istore (i := 11) rfl rfl (Nat.le_of_ble_eq_true rfl) rfl ?_
      refine r_iconst (i := 12) (0 : Int32) kc_iconst_0 rfl rfl ?_
      refine r_istore (i := 13) rfl rfl (Nat.le_of_ble_eq_true rfl) rfl ?_
      refine r_lv (fw_sub1 rfl (fw_sub1 rfl (fw_sub1 rfl (fw_sub1 rfl (fw_sub1 rfl (fw_sub1 rfl fw_sub0)))))) (cl_Mod_rests_22 ?_ F _ _ _)
      · intro e113_4 he113
        refine r_iload_n (i := 63) rfl rfl rfl ?_
        refine r_iconst (i := 64) (-1 : Int32) kc_iconst_m1 rfl rfl ?_
        refine r_icmp_ne (i := 65) (tgt := 123) rfl rfl rfl ?_ ?_
        · refine r_iconst (i := 68) (-1 : Int32) kc_iconst_m1 rfl rfl ?_
          exact r_retI (i := 69) rfl rfl rfl rfl
        · refine r_iload (i := 66) rfl rfl rfl ?_
          refine r_goto (i := 67) (tgt := 124) rfl rfl rfl ?_
          exact r_retI (i := 69) rfl rfl rfl rfl
    · refine r_iconst (i := 8) (-1 : Int32) kc_iconst_m1 rfl rfl ?_
      exact r_retI (i := 9) rfl rfl rfl rfl
