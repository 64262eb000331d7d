-- Mod_seenFrom
def l_Mod_seenFrom_4 (h : fw_H) (v0 : Option Nat) (v1 : Int32) : Nat → Int32 → Int32 → Option Int32
  | 0, _, _ => none
  | nn + 1, a4_2, a4_3 =>
    (f_gI h v0 12 25).bind fun x6 =>
    if x6 ≤ a4_3 then (some a4_2) else
    (f_gR h v0 12 23).bind fun x13 =>
    (f_aI h x13 ((3 : Int32) * a4_3)).bind fun x19 =>
    fw_jn (fun (t45_0 : Int32) =>
    (s_Mod_goes h v0 a4_3 v1 t45_0).bind fun x53 =>
    if x53 = true then (l_Mod_seenFrom_4 h v0 v1 nn (a4_2 ||| ((1 : Int32) <<< (t45_0 &&& 31))) (a4_3 + (1 : Int32))) else
    l_Mod_seenFrom_4 h v0 v1 nn (a4_2 ||| (0 : Int32)) (a4_3 + (1 : Int32))) fun J45 =>
    if ¬ x19 = v1 then ((f_gR h v0 12 23).bind fun x38 =>
    (f_aI h x38 ((3 : Int32) * a4_3)).bind fun x44 =>
    J45 x44) else
    (f_gR h v0 12 23).bind fun x25 =>
    (f_aI h x25 (((3 : Int32) * a4_3) + (1 : Int32))).bind fun x33 =>
    J45 x33
theorem cl_Mod_seenFrom_4 {G : fw_G} {h : fw_H} {v0 : Option Nat} {v1 : Int32} : ∀ (nn : Nat) (a4_2 : Int32) (a4_3 : Int32), fw_R G m_Mod_seenFrom (fw_eI h) 1 0 0 4 [(0, some (fw_r v0)), (1, some (fw_i v1)), (2, some (fw_i a4_2)), (3, some (fw_i a4_3))] [] h (l_Mod_seenFrom_4 h v0 v1 nn a4_2 a4_3) := by
  intro nn
  induction nn with
  | zero => intros; exact r_none
  | succ nn ih =>
    intro a4_2 a4_3
    rw [l_Mod_seenFrom_4]
    refine r_iload_n (i := 4) rfl rfl rfl ?_
    refine r_aload_n (i := 5) rfl rfl rfl ?_
    refine r_gI (i := 6) (ci := 12) (kf := 25) rfl (Nat.le_of_ble_eq_true rfl) wF_Mod_253 rfl rfl fun x6 => ?_
    refine r_icmp_ge (i := 7) (tgt := 75) rfl rfl rfl ?_ ?_
    · refine r_iload_n (i := 48) rfl rfl rfl ?_
      exact r_retI (i := 49) rfl rfl rfl rfl
    · refine r_aload_n (i := 8) rfl rfl rfl ?_
      refine r_gR (i := 9) (ci := 12) (kf := 23) rfl (Nat.le_of_ble_eq_true rfl) wF_Mod_52 rfl rfl fun x13 => ?_
      refine r_iconst (i := 10) (3 : Int32) kc_iconst_3 rfl rfl ?_
      refine r_iload_n (i := 11) rfl rfl rfl ?_
      refine r_imul (i := 12) rfl rfl ?_
      refine r_aI (i := 13) rfl rfl fun x19 => ?_
      refine r_iload_n (i := 14) rfl rfl rfl ?_
      refine r_join (P := fun J45 => ∀ (t45_0 : Int32), fw_R G m_Mod_seenFrom (fw_eI h) 1 (0) (0) 45 [(0, some (fw_r v0)), (1, some (fw_i v1)), (2, some (fw_i a4_2)), (3, some (fw_i a4_3))] [fw_i t45_0] h (J45 t45_0)) ?_ (fun J45 hJ45 => ?_)
      · intro t45_0
        refine r_istore (i := 31) rfl rfl (Nat.le_of_ble_eq_true rfl) rfl ?_
        refine r_iload_n (i := 32) rfl rfl rfl ?_
        refine r_aload_n (i := 33) rfl rfl rfl ?_
        refine r_iload_n (i := 34) rfl rfl rfl ?_
        refine r_iload_n (i := 35) rfl rfl rfl ?_
        refine r_iload (i := 36) rfl rfl rfl ?_
        refine r_VB3 (i := 37) (k2 := 0) (n2 := 0) ok_Mod_goes wM_Mod_292 (c_Mod_goes) (fun _ e => fw_ckb e) (Nat.le_of_ble_eq_true rfl) (Nat.le_of_ble_eq_true rfl) (Nat.le_of_ble_eq_true rfl) (Nat.le_of_ble_eq_true rfl) rfl rfl fun x53 => ?_
        refine r_ifeqB (i := 38) (tgt := 66) rfl rfl rfl ?_ ?_
        · refine r_iconst (i := 43) (0 : Int32) kc_iconst_0 rfl rfl ?_
          refine r_ior (i := 44) rfl rfl ?_
          refine r_istore_n (i := 45) rfl rfl (Nat.le_of_ble_eq_true rfl) rfl ?_
          refine r_iinc (i := 46) (1 : Int32) kc_iconst_1 rfl rfl rfl (Nat.le_of_ble_eq_true rfl) ?_
          refine r_goto (i := 47) (tgt := 4) rfl rfl rfl ?_
          exact r_lv (fw_sub1 rfl (fw_sub1 rfl (fw_sub1 rfl (fw_sub1 rfl fw_sub0)))) (ih (a4_2 ||| (0 : Int32)) (a4_3 + (1 : Int32)))
        · refine r_iconst (i := 39) (1 : Int32) kc_iconst_1 rfl rfl ?_
          refine r_iload (i := 40) rfl rfl rfl ?_
          refine r_ishl (i := 41) rfl rfl ?_
          refine r_goto (i := 42) (tgt := 67) rfl rfl rfl ?_
          refine r_ior (i := 44) rfl rfl ?_
          refine r_istore_n (i := 45) rfl rfl (Nat.le_of_ble_eq_true rfl) rfl ?_
          refine r_iinc (i := 46) (1 : Int32) kc_iconst_1 rfl rfl rfl (Nat.le_of_ble_eq_true rfl) ?_
          refine r_goto (i := 47) (tgt := 4) rfl rfl rfl ?_
          exact r_lv (fw_sub1 rfl (fw_sub1 rfl (fw_sub1 rfl (fw_sub1 rfl fw_sub0)))) (ih (a4_2 ||| ((1 : Int32) <<< (t45_0 &&& 31))) (a4_3 + (1 : Int32)))
      · refine r_icmp_ne (i := 15) (tgt := 37) rfl rfl rfl ?_ ?_
        · refine r_aload_n (i := 25) rfl rfl rfl ?_
          refine r_gR (i := 26) (ci := 12) (kf := 23) rfl (Nat.le_of_ble_eq_true rfl) wF_Mod_52 rfl rfl fun x38 => ?_
          refine r_iconst (i := 27) (3 : Int32) kc_iconst_3 rfl rfl ?_
          refine r_iload_n (i := 28) rfl rfl rfl ?_
          refine r_imul (i := 29) rfl rfl ?_
          refine r_aI (i := 30) rfl rfl fun x44 => ?_
          exact r_lv (fw_sub1 rfl (fw_sub1 rfl (fw_sub1 rfl (fw_sub1 rfl fw_sub0)))) (hJ45 x44)
        · refine r_aload_n (i := 16) rfl rfl rfl ?_
          refine r_gR (i := 17) (ci := 12) (kf := 23) rfl (Nat.le_of_ble_eq_true rfl) wF_Mod_52 rfl rfl fun x25 => ?_
          refine r_iconst (i := 18) (3 : Int32) kc_iconst_3 rfl rfl ?_
          refine r_iload_n (i := 19) rfl rfl rfl ?_
          refine r_imul (i := 20) rfl rfl ?_
          refine r_iconst (i := 21) (1 : Int32) kc_iconst_1 rfl rfl ?_
          refine r_iadd (i := 22) rfl rfl ?_
          refine r_aI (i := 23) rfl rfl fun x33 => ?_
          refine r_goto (i := 24) (tgt := 45) rfl rfl rfl ?_
          exact r_lv (fw_sub1 rfl (fw_sub1 rfl (fw_sub1 rfl (fw_sub1 rfl fw_sub0)))) (hJ45 x33)
def s_Mod_seenFrom (F : Nat) (h : fw_H) (v0 : Option Nat) (v1 : Int32) : Option Int32 :=
(f_ck h v0 12).bind fun _ =>
l_Mod_seenFrom_4 h v0 v1 F (0 : Int32) (0 : Int32)
theorem c_Mod_seenFrom {G : fw_G} (F : Nat) {h : fw_H} {v0 : Option Nat} {v1 : Int32} : fw_Call G m_Mod_seenFrom (fw_eI h) 1 0 0 [fw_r v0, fw_i v1] h (s_Mod_seenFrom F h v0 v1) := by
  refine fw_Call.of ok_Mod_seenFrom.1 (Nat.le_of_ble_eq_true rfl) [(0, some (fw_r v0)), (1, some (fw_i v1))] rfl ?_
  refine r_ck ?_
  refine r_iconst (i := 0) (0 : Int32) kc_iconst_0 rfl rfl ?_
  refine r_istore_n (i := 1) rfl rfl (Nat.le_of_ble_eq_true rfl) rfl ?_
  refine r_iconst (i := 2) (0 : Int32) kc_iconst_0 rfl rfl ?_
  refine r_istore_n (i := 3) rfl rfl (Nat.le_of_ble_eq_true rfl) rfl ?_
  refine r_lv (fw_sub1 rfl (fw_sub1 rfl (fw_sub1 rfl (fw_sub1 rfl fw_sub0)))) (cl_Mod_seenFrom_4 F _ _)
-- Mod_nextOf
def l_Mod_nextOf_19 (F : Nat) (v0 : Option Nat) (v2 : Int32) (v3 : Int32) (x2 : Int32) (K102 : Int32 → Int32 → fw_H → Option (Int32 × fw_H)) : Nat → Int32 → Int32 → Int32 → Int32 → fw_H → Option (Int32 × fw_H)
  | 0, _, _, _, _, _ => none
  | nn + 1, a19_5, a19_6, a19_7, a19_8, g19 =>
    (f_gI g19 v0 12 24).bind fun x22 =>
    if x22 ≤ a19_8 then (K102 a19_5 a19_6 g19) else
    (s_Mod_has x2 a19_8).bind fun x32 =>
    if x32 = true then ((f_gR g19 v0 12 27).bind fun x41 =>
    (f_aI g19 x41 a19_8).bind fun x46 =>
    fw_jn (fun (t67_0 : Int32) (hj67 : fw_H) =>
    if a19_8 = v2 then (l_Mod_nextOf_19 F v0 v2 v3 x2 K102 nn (a19_5 + x46) a19_6 a19_7 (a19_8 + (1 : Int32)) hj67) else
    if a19_6 = (-1 : Int32) then (l_Mod_nextOf_19 F v0 v2 v3 x2 K102 nn (a19_5 + x46) a19_8 t67_0 (a19_8 + (1 : Int32)) hj67) else
    if a19_7 ≤ t67_0 then (l_Mod_nextOf_19 F v0 v2 v3 x2 K102 nn (a19_5 + x46) a19_6 a19_7 (a19_8 + (1 : Int32)) hj67) else
    l_Mod_nextOf_19 F v0 v2 v3 x2 K102 nn (a19_5 + x46) a19_8 t67_0 (a19_8 + (1 : Int32)) hj67) fun J67 =>
    if ¬ a19_8 = v2 then ((s_Mod_wishAt F g19 v0 a19_8 v3).bind fun x64 =>
    J67 x64.1 x64.2) else
    J67 (0 : Int32) g19) else
    l_Mod_nextOf_19 F v0 v2 v3 x2 K102 nn a19_5 a19_6 a19_7 (a19_8 + (1 : Int32)) g19
theorem cl_Mod_nextOf_19 {G : fw_G} {F : Nat} {v0 : Option Nat} {v1 : Int32} {v2 : Int32} {v3 : Int32} {x2 : Int32} {K102 : Int32 → Int32 → fw_H → Option (Int32 × fw_H)} (hK102 : ∀ (e102_5 : Int32) (e102_6 : Int32) (he102 : fw_H), fw_R G m_Mod_nextOf fw_wI 6 0 0 102 [(0, some (fw_r v0)), (1, some (fw_i v1)), (5, some (fw_i e102_5)), (6, some (fw_i e102_6))] [] he102 (K102 e102_5 e102_6 he102)) : ∀ (nn : Nat) (a19_5 : Int32) (a19_6 : Int32) (a19_7 : Int32) (a19_8 : Int32) (g19 : fw_H), fw_R G m_Mod_nextOf fw_wI 6 0 0 19 [(0, some (fw_r v0)), (1, some (fw_i v1)), (2, some (fw_i v2)), (3, some (fw_i v3)), (4, some (fw_i x2)), (5, some (fw_i a19_5)), (6, some (fw_i a19_6)), (7, some (fw_i a19_7)), (8, some (fw_i a19_8))] [] g19 (l_Mod_nextOf_19 F v0 v2 v3 x2 K102 nn a19_5 a19_6 a19_7 a19_8 g19) := by
  intro nn
  induction nn with
  | zero => intros; exact r_none
  | succ nn ih =>
    intro a19_5 a19_6 a19_7 a19_8 g19
    rw [l_Mod_nextOf_19]
    refine r_iload (i := 12) rfl rfl rfl ?_
    refine r_aload_n (i := 13) rfl rfl rfl ?_
    refine r_gI (i := 14) (ci := 12) (kf := 24) rfl (Nat.le_of_ble_eq_true rfl) wF_Mod_250 rfl rfl fun x22 => ?_
    refine r_icmp_ge (i := 15) (tgt := 102) rfl rfl rfl ?_ ?_
    · exact r_lv (fw_sub1 rfl (fw_sub1 rfl (fw_sub1 rfl (fw_sub1 rfl fw_sub0)))) (hK102 a19_5 a19_6 g19)
    · refine r_iload (i := 16) rfl rfl rfl ?_
      refine r_iload (i := 17) rfl rfl rfl ?_
      refine r_SB2 (i := 18) (k2 := 0) (n2 := 0) ok_Mod_has wM_Mod_218 (c_Mod_has) (Nat.le_of_ble_eq_true rfl) (Nat.le_of_ble_eq_true rfl) (Nat.le_of_ble_eq_true rfl) (Nat.le_of_ble_eq_true rfl) rfl rfl fun x32 => ?_
      refine r_ifeqB (i := 19) (tgt := 96) rfl rfl rfl ?_ ?_
      · refine r_iinc (i := 50) (1 : Int32) kc_iconst_1 rfl rfl rfl (Nat.le_of_ble_eq_true rfl) ?_
        refine r_goto (i := 51) (tgt := 19) rfl rfl rfl ?_
        exact r_lv (fw_sub1 rfl (fw_sub1 rfl (fw_sub1 rfl (fw_sub1 rfl (fw_sub1 rfl (fw_sub1 rfl (fw_sub1 rfl (fw_sub1 rfl (fw_sub1 rfl fw_sub0))))))))) (ih a19_5 a19_6 a19_7 (a19_8 + (1 : Int32)) g19)
      · refine r_iload (i := 20) rfl rfl rfl ?_
        refine r_aload_n (i := 21) rfl rfl rfl ?_
        refine r_gR (i := 22) (ci := 12) (kf := 27) rfl (Nat.le_of_ble_eq_true rfl) wF_Mod_58 rfl rfl fun x41 => ?_
        refine r_iload (i := 23) rfl rfl rfl ?_
        refine r_aI (i := 24) rfl rfl fun x46 => ?_
        refine r_iadd (i := 25) rfl rfl ?_
        refine r_istore (i := 26) rfl rfl (Nat.le_of_ble_eq_true rfl) rfl ?_
        refine r_iload (i := 27) rfl rfl rfl ?_
        refine r_iload_n (i := 28) rfl rfl rfl ?_
        refine r_join (P := fun J67 => ∀ (t67_0 : Int32) (hj67 : fw_H), fw_R G m_Mod_nextOf fw_wI 6 (0) (0) 67 [(0, some (fw_r v0)), (1, some (fw_i v1)), (2, some (fw_i v2)), (3, some (fw_i v3)), (4, some (fw_i x2)), (5, some (fw_i (a19_5 + x46))), (6, some (fw_i a19_6)), (7, some (fw_i a19_7)), (8, some (fw_i a19_8))] [fw_i t67_0] hj67 (J67 t67_0 hj67)) ?_ (fun J67 hJ67 => ?_)
        · intro t67_0 hj67
          refine r_istore (i := 36) rfl rfl (Nat.le_of_ble_eq_true rfl) rfl ?_
          refine r_iload (i := 37) rfl rfl rfl ?_
          refine r_iload_n (i := 38) rfl rfl rfl ?_
          refine r_icmp_eq (i := 39) (tgt := 96) rfl rfl rfl ?_ ?_
          · refine r_iinc (i := 50) (1 : Int32) kc_iconst_1 rfl rfl rfl (Nat.le_of_ble_eq_true rfl) ?_
            refine r_goto (i := 51) (tgt := 19) rfl rfl rfl ?_
            exact r_lv (fw_sub1 rfl (fw_sub1 rfl (fw_sub1 rfl (fw_sub1 rfl (fw_sub1 rfl (fw_sub1 rfl (fw_sub1 rfl (fw_sub1 rfl (fw_sub1 rfl fw_sub0))))))))) (ih (a19_5 + x46) a19_6 a19_7 (a19_8 + (1 : Int32)) hj67)
          · refine r_iload (i := 40) rfl rfl rfl ?_
            refine r_iconst (i := 41) (-1 : Int32) kc_iconst_m1 rfl rfl ?_
            refine r_icmp_eq (i := 42) (tgt := 88) rfl rfl rfl ?_ ?_
            · refine r_iload (i := 46) rfl rfl rfl ?_
              refine r_istore (i := 47) rfl rfl (Nat.le_of_ble_eq_true rfl) rfl ?_
              refine r_iload (i := 48) rfl rfl rfl ?_
              refine r_istore (i := 49) rfl rfl (Nat.le_of_ble_eq_true rfl) rfl ?_
              refine r_iinc (i := 50) (1 : Int32) kc_iconst_1 rfl rfl rfl (Nat.le_of_ble_eq_true rfl) ?_
              refine r_goto (i := 51) (tgt := 19) rfl rfl rfl ?_
              exact r_lv (fw_sub1 rfl (fw_sub1 rfl (fw_sub1 rfl (fw_sub1 rfl (fw_sub1 rfl (fw_sub1 rfl (fw_sub1 rfl (fw_sub1 rfl (fw_sub1 rfl fw_sub0))))))))) (ih (a19_5 + x46) a19_8 t67_0 (a19_8 + (1 : Int32)) hj67)
            · refine r_iload (i := 43) rfl rfl rfl ?_
              refine r_iload (i := 44) rfl rfl rfl ?_
              refine r_icmp_ge (i := 45) (tgt := 96) rfl rfl rfl ?_ ?_
              · refine r_iinc (i := 50) (1 : Int32) kc_iconst_1 rfl rfl rfl (Nat.le_of_ble_eq_true rfl) ?_
                refine r_goto (i := 51) (tgt := 19) rfl rfl rfl ?_
                exact r_lv (fw_sub1 rfl (fw_sub1 rfl (fw_sub1 rfl (fw_sub1 rfl (fw_sub1 rfl (fw_sub1 rfl (fw_sub1 rfl (fw_sub1 rfl (fw_sub1 rfl fw_sub0))))))))) (ih (a19_5 + x46) a19_6 a19_7 (a19_8 + (1 : Int32)) hj67)
              · refine r_iload (i := 46) rfl rfl rfl ?_
                refine r_istore (i := 47) rfl rfl (Nat.le_of_ble_eq_true rfl) rfl ?_
                refine r_iload (i := 48) rfl rfl rfl ?_
                refine r_istore (i := 49) rfl rfl (Nat.le_of_ble_eq_true rfl) rfl ?_
                refine r_iinc (i := 50) (1 : Int32) kc_iconst_1 rfl rfl rfl (Nat.le_of_ble_eq_true rfl) ?_
                refine r_goto (i := 51) (tgt := 19) rfl rfl rfl ?_
                exact r_lv (fw_sub1 rfl (fw_sub1 rfl (fw_sub1 rfl (fw_sub1 rfl (fw_sub1 rfl (fw_sub1 rfl (fw_sub1 rfl (fw_sub1 rfl (fw_sub1 rfl fw_sub0))))))))) (ih (a19_5 + x46) a19_8 t67_0 (a19_8 + (1 : Int32)) hj67)
        · refine r_icmp_ne (i := 29) (tgt := 60) rfl rfl rfl ?_ ?_
          · refine r_aload_n (i := 32) rfl rfl rfl ?_
            refine r_iload (i := 33) rfl rfl rfl ?_
            refine r_iload_n (i := 34) rfl rfl rfl ?_
            refine r_VwI2 (i := 35) (k2 := 0) (n2 := 0) ok_Mod_wishAt wM_Mod_288 (c_Mod_wishAt F) (fun _ e => fw_ckb e) (Nat.le_of_ble_eq_true rfl) (Nat.le_of_ble_eq_true rfl) (Nat.le_of_ble_eq_true rfl) (Nat.le_of_ble_eq_true rfl) rfl rfl fun x64 => ?_
            exact r_lv (fw_sub1 rfl (fw_sub1 rfl (fw_sub1 rfl (fw_sub1 rfl (fw_sub1 rfl (fw_sub1 rfl (fw_sub1 rfl (fw_sub1 rfl (fw_sub1 rfl fw_sub0))))))))) (hJ67 x64.1 x64.2)
          · refine r_iconst (i := 30) (0 : Int32) kc_iconst_0 rfl rfl ?_
            refine r_goto (i := 31) (tgt := 67) rfl rfl rfl ?_
            exact r_lv (fw_sub1 rfl (fw_sub1 rfl (fw_sub1 rfl (fw_sub1 rfl (fw_sub1 rfl (fw_sub1 rfl (fw_sub1 rfl (fw_sub1 rfl (fw_sub1 rfl fw_sub0))))))))) (hJ67 (0 : Int32) g19)
def s_Mod_nextOf (F : Nat) (h : fw_H) (v0 : Option Nat) (v1 : Int32) (v2 : Int32) (v3 : Int32) : Option (Int32 × fw_H) :=
(f_ck h v0 12).bind fun _ =>
(s_Mod_seenFrom F h v0 v1).bind fun x2 =>
l_Mod_nextOf_19 F v0 v2 v3 x2 (fun e102_5 e102_6 he102 =>
(f_gR he102 v0 12 22).bind fun x105 =>
(f_aI he102 x105 (((6 : Int32) * v1) + (2 : Int32))).bind fun x114 =>
if e102_5 < x114 then (some (v1, he102)) else
if e102_6 = (-1 : Int32) then (some (v1, he102)) else
some (e102_6, he102)) F (0 : Int32) (-1 : Int32) (0 : Int32) (0 : Int32) h
theorem c_Mod_nextOf {G : fw_G} (F : Nat) {h : fw_H} {v0 : Option Nat} {v1 : Int32} {v2 : Int32} {v3 : Int32} : fw_Call G m_Mod_nextOf fw_wI 6 0 0 [fw_r v0, fw_i v1, fw_i v2, fw_i v3] h (s_Mod_nextOf F h v0 v1 v2 v3) := by
  refine fw_Call.of ok_Mod_nextOf.1 (Nat.le_of_ble_eq_true rfl) [(0, some (fw_r v0)), (1, some (fw_i v1)), (2, some (fw_i v2)), (3, some (fw_i v3))] rfl ?_
  refine r_ck ?_
  refine r_aload_n (i := 0) rfl rfl rfl ?_
  refine r_iload_n (i := 1) rfl rfl rfl ?_
  refine r_VI1 (i := 2) (k2 := 0) (n2 := 0) ok_Mod_seenFrom wM_Mod_295 (c_Mod_seenFrom F) (fun _ e => fw_ckb e) (Nat.le_of_ble_eq_true rfl) (Nat.le_of_ble_eq_true rfl) (Nat.le_of_ble_eq_true rfl) (Nat.le_of_ble_eq_true rfl) rfl rfl fun x2 => ?_
  refine r_istore (i := 3) rfl rfl (Nat.le_of_ble_eq_true rfl) rfl ?_
  refine r_iconst (i := 4) (0 : Int32) kc_iconst_0 rfl rfl ?_
  refine r_istore (i := 5) rfl rfl (Nat.le_of_ble_eq_true rfl) rfl ?_
  refine r_iconst (i := 6) (-1 : Int32) kc_iconst_m1 rfl rfl ?_
  refine r_istore (i := 7) rfl rfl (Nat.le_of_ble_eq_true rfl) rfl ?_
  refine r_iconst (i := 8) (0 : Int32) kc_iconst_0 rfl rfl ?_
  refine r_istore (i := 9) rfl rfl (Nat.le_of_ble_eq_true rfl) rfl ?_
  refine r_iconst (i := 10) (0 : Int32) kc_iconst_0 rfl rfl ?_
  refine r_istore (i := 11) rfl rfl (Nat.le_of_ble_eq_true rfl) rfl ?_
  refine r_lv (fw_sub1 rfl (fw_sub1 rfl (fw_sub1 rfl (fw_sub1 rfl (fw_sub1 rfl (fw_sub1 rfl (fw_sub1 rfl (fw_sub1 rfl (fw_sub1 rfl fw_sub0))))))))) (cl_Mod_nextOf_19 ?_ F _ _ _ _ _)
  · intro e102_5 e102_6 he102
    refine r_iload (i := 52) rfl rfl rfl ?_
    refine r_aload_n (i := 53) rfl rfl rfl ?_
    refine r_gR (i := 54) (ci := 12) (kf := 22) rfl (Nat.le_of_ble_eq_true rfl) wF_Mod_49 rfl rfl fun x105 => ?_
    refine r_bipush (i := 55) (6 : Int32) kc_bipush_6 rfl rfl ?_
    refine r_iload_n (i := 56) rfl rfl rfl ?_
    refine r_imul (i := 57) rfl rfl ?_
    refine r_iconst (i := 58) (2 : Int32) kc_iconst_2 rfl rfl ?_
    refine r_iadd (i := 59) rfl rfl ?_
    refine r_aI (i := 60) rfl rfl fun x114 => ?_
    refine r_icmp_lt (i := 61) (tgt := 129) rfl rfl rfl ?_ ?_
    · refine r_iload_n (i := 67) rfl rfl rfl ?_
      exact r_retI (i := 68) rfl rfl rfl rfl
    · refine r_iload (i := 62) rfl rfl rfl ?_
      refine r_iconst (i := 63) (-1 : Int32) kc_iconst_m1 rfl rfl ?_
      refine r_icmp_eq (i := 64) (tgt := 129) rfl rfl rfl ?_ ?_
      · refine r_iload_n (i := 67) rfl rfl rfl ?_
        exact r_retI (i := 68) rfl rfl rfl rfl
      · refine r_iload (i := 65) rfl rfl rfl ?_
        refine r_goto (i := 66) (tgt := 130) rfl rfl rfl ?_
        exact r_retI (i := 68) rfl rfl rfl rfl
-- Mod_keep
def l_Mod_keep_12 (v0 : Option Nat) (K40 : fw_H → Option fw_H) : Nat → Int32 → fw_H → Option fw_H
  | 0, _, _ => none
  | nn + 1, a12_1, g12 =>
    if (4720 : Int32) ≤ a12_1 then (K40 g12) else
    (f_gR g12 v0 12 30).bind fun x20 =>
    (f_gR g12 v0 12 30).bind fun x28 =>
    (f_aI g12 x28 a12_1).bind fun x32 =>
    (f_sI g12 x20 (a12_1 - (118 : Int32)) x32).bind fun h33 =>
    l_Mod_keep_12 v0 K40 nn (a12_1 + (1 : Int32)) h33
theorem cl_Mod_keep_12 {G : fw_G} {v0 : Option Nat} {K40 : fw_H → Option fw_H} (hK40 : ∀ (he40 : fw_H), fw_R G m_Mod_keep fw_eV 0 0 0 40 [(0, some (fw_r v0))] [] he40 (K40 he40)) : ∀ (nn : Nat) (a12_1 : Int32) (g12 : fw_H), fw_R G m_Mod_keep fw_eV 0 0 0 12 [(0, some (fw_r v0)), (1, some (fw_i a12_1))] [] g12 (l_Mod_keep_12 v0 K40 nn a12_1 g12) := by
  intro nn
  induction nn with
  | zero => intros; exact r_none
  | succ nn ih =>
    intro a12_1 g12
    rw [l_Mod_keep_12]
    refine r_iload_n (i := 6) rfl rfl rfl ?_
    refine r_sipush (i := 7) (4720 : Int32) kc_sipush_4720 rfl rfl ?_
    refine r_icmp_ge (i := 8) (tgt := 40) rfl rfl rfl ?_ ?_
    · exact r_lv (fw_sub1 rfl fw_sub0) (hK40 g12)
    · refine r_aload_n (i := 9) rfl rfl rfl ?_
      refine r_gR (i := 10) (ci := 12) (kf := 30) rfl (Nat.le_of_ble_eq_true rfl) wF_Mod_65 rfl rfl fun x20 => ?_
      refine r_iload_n (i := 11) rfl rfl rfl ?_
      refine r_bipush (i := 12) (118 : Int32) kc_bipush_118 rfl rfl ?_
      refine r_isub (i := 13) rfl rfl ?_
      refine r_aload_n (i := 14) rfl rfl rfl ?_
      refine r_gR (i := 15) (ci := 12) (kf := 30) rfl (Nat.le_of_ble_eq_true rfl) wF_Mod_65 rfl rfl fun x28 => ?_
      refine r_iload_n (i := 16) rfl rfl rfl ?_
      refine r_aI (i := 17) rfl rfl fun x32 => ?_
      refine r_sI (i := 18) rfl rfl fun h33 => ?_
      refine r_iinc (i := 19) (1 : Int32) kc_iconst_1 rfl rfl rfl (Nat.le_of_ble_eq_true rfl) ?_
      refine r_goto (i := 20) (tgt := 12) rfl rfl rfl ?_
      exact r_lv (fw_sub1 rfl (fw_sub1 rfl fw_sub0)) (ih (a12_1 + (1 : Int32)) h33)
def l_Mod_keep_52 (v0 : Option Nat) : Nat → Int32 → fw_H → Option fw_H
  | 0, _, _ => none
  | nn + 1, a52_1, g52 =>
    if (118 : Int32) ≤ a52_1 then ((f_gI g52 v0 12 31).bind fun x86 =>
    (f_pI g52 v0 12 31 (x86 + (1 : Int32))).bind fun h91 =>
    some h91) else
    (f_gR g52 v0 12 30).bind fun x59 =>
    (f_gI g52 v0 12 31).bind fun x65 =>
    (f_gR g52 v0 12 26).bind fun x72 =>
    (f_aI g52 x72 a52_1).bind fun x76 =>
    (f_sI g52 x59 (((118 : Int32) * x65) + a52_1) x76).bind fun h77 =>
    l_Mod_keep_52 v0 nn (a52_1 + (1 : Int32)) h77
theorem cl_Mod_keep_52 {G : fw_G} {v0 : Option Nat} : ∀ (nn : Nat) (a52_1 : Int32) (g52 : fw_H), fw_R G m_Mod_keep fw_eV 0 0 0 52 [(0, some (fw_r v0)), (1, some (fw_i a52_1))] [] g52 (l_Mod_keep_52 v0 nn a52_1 g52) := by
  intro nn
  induction nn with
  | zero => intros; exact r_none
  | succ nn ih =>
    intro a52_1 g52
    rw [l_Mod_keep_52]
    refine r_iload_n (i := 29) rfl rfl rfl ?_
    refine r_bipush (i := 30) (118 : Int32) kc_bipush_118 rfl rfl ?_
    refine r_icmp_ge (i := 31) (tgt := 84) rfl rfl rfl ?_ ?_
    · refine r_aload_n (i := 47) rfl rfl rfl ?_
      refine r_dup_r (i := 48) rfl rfl ?_
      refine r_gI (i := 49) (ci := 12) (kf := 31) rfl (Nat.le_of_ble_eq_true rfl) wF_Mod_262 rfl rfl fun x86 => ?_
      refine r_iconst (i := 50) (1 : Int32) kc_iconst_1 rfl rfl ?_
      refine r_iadd (i := 51) rfl rfl ?_
      refine r_pI (i := 52) (ci := 12) (kf := 31) rfl (Nat.le_of_ble_eq_true rfl) wF_Mod_262 rfl (tyX12_ok 31 (Nat.le_of_ble_eq_true rfl)) rfl rfl fun h91 => ?_
      exact r_retV (i := 53) rfl rfl rfl rfl
    · refine r_aload_n (i := 32) rfl rfl rfl ?_
      refine r_gR (i := 33) (ci := 12) (kf := 30) rfl (Nat.le_of_ble_eq_true rfl) wF_Mod_65 rfl rfl fun x59 => ?_
      refine r_bipush (i := 34) (118 : Int32) kc_bipush_118 rfl rfl ?_
      refine r_aload_n (i := 35) rfl rfl rfl ?_
      refine r_gI (i := 36) (ci := 12) (kf := 31) rfl (Nat.le_of_ble_eq_true rfl) wF_Mod_262 rfl rfl fun x65 => ?_
      refine r_imul (i := 37) rfl rfl ?_
      refine r_iload_n (i := 38) rfl rfl rfl ?_
      refine r_iadd (i := 39) rfl rfl ?_
      refine r_aload_n (i := 40) rfl rfl rfl ?_
      refine r_gR (i := 41) (ci := 12) (kf := 26) rfl (Nat.le_of_ble_eq_true rfl) wF_Mod_55 rfl rfl fun x72 => ?_
      refine r_iload_n (i := 42) rfl rfl rfl ?_
      refine r_aI (i := 43) rfl rfl fun x76 => ?_
      refine r_sI (i := 44) rfl rfl fun h77 => ?_
      refine r_iinc (i := 45) (1 : Int32) kc_iconst_1 rfl rfl rfl (Nat.le_of_ble_eq_true rfl) ?_
      refine r_goto (i := 46) (tgt := 52) rfl rfl rfl ?_
      exact r_lv (fw_sub1 rfl (fw_sub1 rfl fw_sub0)) (ih (a52_1 + (1 : Int32)) h77)
def s_Mod_keep (F : Nat) (h : fw_H) (v0 : Option Nat) : Option fw_H :=
(f_ck h v0 12).bind fun _ =>
(f_gI h v0 12 31).bind fun x1 =>
fw_jn (fun (hj50 : fw_H) =>
l_Mod_keep_52 v0 F (0 : Int32) hj50) fun J50 =>
if ¬ x1 = (40 : Int32) then (J50 h) else
l_Mod_keep_12 v0 (fun he40 =>
(f_gI he40 v0 12 31).bind fun x42 =>
(f_pI he40 v0 12 31 (x42 - (1 : Int32))).bind fun h47 =>
J50 h47) F (118 : Int32) h
theorem c_Mod_keep {G : fw_G} (F : Nat) {h : fw_H} {v0 : Option Nat} : fw_Call G m_Mod_keep fw_eV 0 0 0 [fw_r v0] h (s_Mod_keep F h v0) := by
  refine fw_Call.of ok_Mod_keep.1 (Nat.le_of_ble_eq_true rfl) [(0, some (fw_r v0))] rfl ?_
  refine r_ck ?_
  refine r_aload_n (i := 0) rfl rfl rfl ?_
  refine r_gI (i := 1) (ci := 12) (kf := 31) rfl (Nat.le_of_ble_eq_true rfl) wF_Mod_262 rfl rfl fun x1 => ?_
  refine r_bipush (i := 2) (40 : Int32) kc_bipush_40 rfl rfl ?_
  refine r_join (P := fun J50 => ∀ (hj50 : fw_H), fw_R G m_Mod_keep fw_eV 0 (0) (0) 50 [(0, some (fw_r v0))] [] hj50 (J50 hj50)) ?_ (fun J50 hJ50 => ?_)
  · intro hj50
    refine r_iconst (i := 27) (0 : Int32) kc_iconst_0 rfl rfl ?_
    refine r_istore_n (i := 28) rfl rfl (Nat.le_of_ble_eq_true rfl) rfl ?_
    refine r_lv (fw_sub1 rfl (fw_sub1 rfl fw_sub0)) (cl_Mod_keep_52 F _ _)
  · refine r_icmp_ne (i := 3) (tgt := 50) rfl rfl rfl ?_ ?_
    · exact r_lv (fw_sub1 rfl fw_sub0) (hJ50 h)
    · refine r_bipush (i := 4) (118 : Int32) kc_bipush_118 rfl rfl ?_
      refine r_istore_n (i := 5) rfl rfl (Nat.le_of_ble_eq_true rfl) rfl ?_
      refine r_lv (fw_sub1 rfl (fw_sub1 rfl fw_sub0)) (cl_Mod_keep_12 ?_ F _ _)
      · intro he40
        refine r_aload_n (i := 21) rfl rfl rfl ?_
        refine r_dup_r (i := 22) rfl rfl ?_
        refine r_gI (i := 23) (ci := 12) (kf := 31) rfl (Nat.le_of_ble_eq_true rfl) wF_Mod_262 rfl rfl fun x42 => ?_
        refine r_iconst (i := 24) (1 : Int32) kc_iconst_1 rfl rfl ?_
        refine r_isub (i := 25) rfl rfl ?_
        refine r_pI (i := 26) (ci := 12) (kf := 31) rfl (Nat.le_of_ble_eq_true rfl) wF_Mod_262 rfl (tyX12_ok 31 (Nat.le_of_ble_eq_true rfl)) rfl rfl fun h47 => ?_
        exact r_lv (fw_sub1 rfl fw_sub0) (hJ50 h47)
-- Mod_tells
def s_Mod_tells (F : Nat) (h : fw_H) (v0 : Option Nat) (v1 : Int32) (v2 : Bool) : Option (Bool × fw_H) :=
(f_ck h v0 12).bind fun _ =>
(f_gR h v0 12 26).bind fun x1 =>
(f_aI h x1 v1).bind fun x5 =>
fw_jn (fun (t15_1 : Int32) =>
if ¬ x5 = t15_1 then ((s_Mod_keep F h v0).bind fun h21 =>
(f_gR h21 v0 12 26).bind fun x25 =>
if v2 = true then ((f_sI h21 x25 v1 (1 : Int32)).bind fun h38 =>
some (true, h38)) else
(f_sI h21 x25 v1 (0 : Int32)).bind fun h38 =>
some (true, h38)) else
some (false, h)) fun J15 =>
if v2 = true then (J15 (1 : Int32)) else
J15 (0 : Int32)
theorem c_Mod_tells {G : fw_G} (F : Nat) {h : fw_H} {v0 : Option Nat} {v1 : Int32} {v2 : Bool} : fw_Call G m_Mod_tells fw_wB 1 0 0 [fw_r v0, fw_i v1, fw_i (fw_b v2)] h (s_Mod_tells F h v0 v1 v2) := by
  refine fw_Call.of ok_Mod_tells.1 (Nat.le_of_ble_eq_true rfl) [(0, some (fw_r v0)), (1, some (fw_i v1)), (2, some (fw_i (fw_b v2)))] rfl ?_
  refine r_ck ?_
  refine r_aload_n (i := 0) rfl rfl rfl ?_
  refine r_gR (i := 1) (ci := 12) (kf := 26) rfl (Nat.le_of_ble_eq_true rfl) wF_Mod_55 rfl rfl fun x1 => ?_
  refine r_iload_n (i := 2) rfl rfl rfl ?_
  refine r_aI (i := 3) rfl rfl fun x5 => ?_
  refine r_iload_n (i := 4) rfl rfl rfl ?_
  refine r_join (P := fun J15 => ∀ (t15_1 : Int32), fw_R G m_Mod_tells fw_wB 1 (0) (0) 15 [(0, some (fw_r v0)), (1, some (fw_i v1)), (2, some (fw_i (fw_b v2)))] [fw_i t15_1, fw_i x5] h (J15 t15_1)) ?_ (fun J15 hJ15 => ?_)
  · intro t15_1
    refine r_icmp_ne (i := 9) (tgt := 20) rfl rfl rfl ?_ ?_
    · refine r_aload_n (i := 12) rfl rfl rfl ?_
      refine r_VV0 (i := 13) (k2 := 0) (n2 := 0) ok_Mod_keep wM_Mod_298 (c_Mod_keep F) (fun _ e => fw_ckb e) (Nat.le_of_ble_eq_true rfl) (Nat.le_of_ble_eq_true rfl) (Nat.le_of_ble_eq_true rfl) (Nat.le_of_ble_eq_true rfl) rfl rfl fun h21 => ?_
      refine r_aload_n (i := 14) rfl rfl rfl ?_
      refine r_gR (i := 15) (ci := 12) (kf := 26) rfl (Nat.le_of_ble_eq_true rfl) wF_Mod_55 rfl rfl fun x25 => ?_
      refine r_iload_n (i := 16) rfl rfl rfl ?_
      refine r_iload_n (i := 17) rfl rfl rfl ?_
      refine r_ifeqB (i := 18) (tgt := 37) rfl rfl rfl ?_ ?_
      · refine r_iconst (i := 21) (0 : Int32) kc_iconst_0 rfl rfl ?_
        refine r_sI (i := 22) rfl rfl fun h38 => ?_
        refine r_iconst (i := 23) (1 : Int32) kc_iconst_1 rfl rfl ?_
        exact r_retB (x := true) (i := 24) rfl rfl rfl rfl
      · refine r_iconst (i := 19) (1 : Int32) kc_iconst_1 rfl rfl ?_
        refine r_goto (i := 20) (tgt := 38) rfl rfl rfl ?_
        refine r_sI (i := 22) rfl rfl fun h38 => ?_
        refine r_iconst (i := 23) (1 : Int32) kc_iconst_1 rfl rfl ?_
        exact r_retB (x := true) (i := 24) rfl rfl rfl rfl
    · refine r_iconst (i := 10) (0 : Int32) kc_iconst_0 rfl rfl ?_
      exact r_retB (x := false) (i := 11) rfl rfl rfl rfl
  · refine r_ifeqB (i := 5) (tgt := 14) rfl rfl rfl ?_ ?_
    · refine r_iconst (i := 8) (0 : Int32) kc_iconst_0 rfl rfl ?_
      exact r_lv (fw_sub1 rfl (fw_sub1 rfl (fw_sub1 rfl fw_sub0))) (hJ15 (0 : Int32))
    · refine r_iconst (i := 6) (1 : Int32) kc_iconst_1 rfl rfl ?_
      refine r_goto (i := 7) (tgt := 15) rfl rfl rfl ?_
      exact r_lv (fw_sub1 rfl (fw_sub1 rfl (fw_sub1 rfl fw_sub0))) (hJ15 (1 : Int32))
-- Mod_turn
def s_Mod_turn (F : Nat) (h : fw_H) (v0 : Option Nat) (v1 : Int32) (v2 : Bool) : Option (Bool × fw_H) :=
(f_ck h v0 12).bind fun _ =>
(s_Mod_isHouse h v0 v1).bind fun x2 =>
if x2 = true then ((s_Mod_tells F h v0 ((12 : Int32) + v1) v2).bind fun x14 =>
if x14.1 = true then (some (true, x14.2)) else
some (false, x14.2)) else
some (false, h)
theorem c_Mod_turn {G : fw_G} (F : Nat) {h : fw_H} {v0 : Option Nat} {v1 : Int32} {v2 : Bool} : fw_Call G m_Mod_turn fw_wB 2 0 0 [fw_r v0, fw_i v1, fw_i (fw_b v2)] h (s_Mod_turn F h v0 v1 v2) := by
  refine fw_Call.of ok_Mod_turn.1 (Nat.le_of_ble_eq_true rfl) [(0, some (fw_r v0)), (1, some (fw_i v1)), (2, some (fw_i (fw_b v2)))] rfl ?_
  refine r_ck ?_
  refine r_aload_n (i := 0) rfl rfl rfl ?_
  refine r_iload_n (i := 1) rfl rfl rfl ?_
  refine r_VB1 (i := 2) (k2 := 0) (n2 := 0) ok_Mod_isHouse wM_Mod_279 (c_Mod_isHouse) (fun _ e => fw_ckb e) (Nat.le_of_ble_eq_true rfl) (Nat.le_of_ble_eq_true rfl) (Nat.le_of_ble_eq_true rfl) (Nat.le_of_ble_eq_true rfl) rfl rfl fun x2 => ?_
  refine r_ifeqB (i := 3) (tgt := 24) rfl rfl rfl ?_ ?_
  · refine r_iconst (i := 13) (0 : Int32) kc_iconst_0 rfl rfl ?_
    exact r_retB (x := false) (i := 14) rfl rfl rfl rfl
  · refine r_aload_n (i := 4) rfl rfl rfl ?_
    refine r_bipush (i := 5) (12 : Int32) kc_bipush_12 rfl rfl ?_
    refine r_iload_n (i := 6) rfl rfl rfl ?_
    refine r_iadd (i := 7) rfl rfl ?_
    refine r_iload_n (i := 8) rfl rfl rfl ?_
    refine r_VwB2 (i := 9) (k2 := 0) (n2 := 0) ok_Mod_tells wM_Mod_301 (c_Mod_tells F) (fun _ e => fw_ckb e) (Nat.le_of_ble_eq_true rfl) (Nat.le_of_ble_eq_true rfl) (Nat.le_of_ble_eq_true rfl) (Nat.le_of_ble_eq_true rfl) rfl rfl fun x14 => ?_
    refine r_ifeqB (i := 10) (tgt := 24) rfl rfl rfl ?_ ?_
    · refine r_iconst (i := 13) (0 : Int32) kc_iconst_0 rfl rfl ?_
      exact r_retB (x := false) (i := 14) rfl rfl rfl rfl
    · refine r_iconst (i := 11) (1 : Int32) kc_iconst_1 rfl rfl ?_
      refine r_goto (i := 12) (tgt := 25) rfl rfl rfl ?_
      exact r_retB (x := true) (i := 14) rfl rfl rfl rfl
-- Mod_shut
def s_Mod_shut (F : Nat) (h : fw_H) (v0 : Option Nat) (v1 : Int32) (v2 : Bool) : Option (Bool × fw_H) :=
(f_ck h v0 12).bind fun _ =>
(s_Mod_isWindow h v0 v1).bind fun x2 =>
if x2 = true then ((s_Mod_tells F h v0 ((36 : Int32) + v1) v2).bind fun x14 =>
if x14.1 = true then (some (true, x14.2)) else
some (false, x14.2)) else
some (false, h)
theorem c_Mod_shut {G : fw_G} (F : Nat) {h : fw_H} {v0 : Option Nat} {v1 : Int32} {v2 : Bool} : fw_Call G m_Mod_shut fw_wB 2 0 0 [fw_r v0, fw_i v1, fw_i (fw_b v2)] h (s_Mod_shut F h v0 v1 v2) := by
  refine fw_Call.of ok_Mod_shut.1 (Nat.le_of_ble_eq_true rfl) [(0, some (fw_r v0)), (1, some (fw_i v1)), (2, some (fw_i (fw_b v2)))] rfl ?_
  refine r_ck ?_
  refine r_aload_n (i := 0) rfl rfl rfl ?_
  refine r_iload_n (i := 1) rfl rfl rfl ?_
  refine r_VB1 (i := 2) (k2 := 0) (n2 := 0) ok_Mod_isWindow wM_Mod_282 (c_Mod_isWindow) (fun _ e => fw_ckb e) (Nat.le_of_ble_eq_true rfl) (Nat.le_of_ble_eq_true rfl) (Nat.le_of_ble_eq_true rfl) (Nat.le_of_ble_eq_true rfl) rfl rfl fun x2 => ?_
  refine r_ifeqB (i := 3) (tgt := 24) rfl rfl rfl ?_ ?_
  · refine r_iconst (i := 13) (0 : Int32) kc_iconst_0 rfl rfl ?_
    exact r_retB (x := false) (i := 14) rfl rfl rfl rfl
  · refine r_aload_n (i := 4) rfl rfl rfl ?_
    refine r_bipush (i := 5) (36 : Int32) kc_bipush_36 rfl rfl ?_
    refine r_iload_n (i := 6) rfl rfl rfl ?_
    refine r_iadd (i := 7) rfl rfl ?_
    refine r_iload_n (i := 8) rfl rfl rfl ?_
    refine r_VwB2 (i := 9) (k2 := 0) (n2 := 0) ok_Mod_tells wM_Mod_301 (c_Mod_tells F) (fun _ e => fw_ckb e) (Nat.le_of_ble_eq_true rfl) (Nat.le_of_ble_eq_true rfl) (Nat.le_of_ble_eq_true rfl) (Nat.le_of_ble_eq_true rfl) rfl rfl fun x14 => ?_
    refine r_ifeqB (i := 10) (tgt := 24) rfl rfl rfl ?_ ?_
    · refine r_iconst (i := 13) (0 : Int32) kc_iconst_0 rfl rfl ?_
      exact r_retB (x := false) (i := 14) rfl rfl rfl rfl
    · refine r_iconst (i := 11) (1 : Int32) kc_iconst_1 rfl rfl ?_
      refine r_goto (i := 12) (tgt := 25) rfl rfl rfl ?_
      exact r_retB (x := true) (i := 14) rfl rfl rfl rfl
-- Mod_music
def s_Mod_music (F : Nat) (h : fw_H) (v0 : Option Nat) (v1 : Bool) : Option (Bool × fw_H) :=
(f_ck h v0 12).bind fun _ =>
(f_gI h v0 12 24).bind fun x1 =>
if x1 ≤ (0 : Int32) then (some (false, h)) else
(s_Mod_tells F h v0 (52 : Int32) v1).bind fun x11 =>
if x11.1 = true then (some (true, x11.2)) else
some (false, x11.2)
theorem c_Mod_music {G : fw_G} (F : Nat) {h : fw_H} {v0 : Option Nat} {v1 : Bool} : fw_Call G m_Mod_music fw_wB 2 0 0 [fw_r v0, fw_i (fw_b v1)] h (s_Mod_music F h v0 v1) := by
  refine fw_Call.of ok_Mod_music.1 (Nat.le_of_ble_eq_true rfl) [(0, some (fw_r v0)), (1, some (fw_i (fw_b v1)))] rfl ?_
  refine r_ck ?_
  refine r_aload_n (i := 0) rfl rfl rfl ?_
  refine r_gI (i := 1) (ci := 12) (kf := 24) rfl (Nat.le_of_ble_eq_true rfl) wF_Mod_250 rfl rfl fun x1 => ?_
  refine r_if_le (i := 2) (tgt := 21) rfl rfl rfl ?_ ?_
  · refine r_iconst (i := 10) (0 : Int32) kc_iconst_0 rfl rfl ?_
    exact r_retB (x := false) (i := 11) rfl rfl rfl rfl
  · refine r_aload_n (i := 3) rfl rfl rfl ?_
    refine r_bipush (i := 4) (52 : Int32) kc_bipush_52 rfl rfl ?_
    refine r_iload_n (i := 5) rfl rfl rfl ?_
    refine r_VwB2 (i := 6) (k2 := 0) (n2 := 0) ok_Mod_tells wM_Mod_301 (c_Mod_tells F) (fun _ e => fw_ckb e) (Nat.le_of_ble_eq_true rfl) (Nat.le_of_ble_eq_true rfl) (Nat.le_of_ble_eq_true rfl) (Nat.le_of_ble_eq_true rfl) rfl rfl fun x11 => ?_
    refine r_ifeqB (i := 7) (tgt := 21) rfl rfl rfl ?_ ?_
    · refine r_iconst (i := 10) (0 : Int32) kc_iconst_0 rfl rfl ?_
      exact r_retB (x := false) (i := 11) rfl rfl rfl rfl
    · refine r_iconst (i := 8) (1 : Int32) kc_iconst_1 rfl rfl ?_
      refine r_goto (i := 9) (tgt := 22) rfl rfl rfl ?_
      exact r_retB (x := true) (i := 11) rfl rfl rfl rfl
-- Mod_fog
def s_Mod_fog (F : Nat) (h : fw_H) (v0 : Option Nat) (v1 : Bool) : Option (Bool × fw_H) :=
(f_ck h v0 12).bind fun _ =>
(f_gI h v0 12 24).bind fun x1 =>
if x1 ≤ (0 : Int32) then (some (false, h)) else
(s_Mod_tells F h v0 (53 : Int32) v1).bind fun x11 =>
if x11.1 = true then (some (true, x11.2)) else
some (false, x11.2)
theorem c_Mod_fog {G : fw_G} (F : Nat) {h : fw_H} {v0 : Option Nat} {v1 : Bool} : fw_Call G m_Mod_fog fw_wB 2 0 0 [fw_r v0, fw_i (fw_b v1)] h (s_Mod_fog F h v0 v1) := by
  refine fw_Call.of ok_Mod_fog.1 (Nat.le_of_ble_eq_true rfl) [(0, some (fw_r v0)), (1, some (fw_i (fw_b v1)))] rfl ?_
  refine r_ck ?_
  refine r_aload_n (i := 0) rfl rfl rfl ?_
  refine r_gI (i := 1) (ci := 12) (kf := 24) rfl (Nat.le_of_ble_eq_true rfl) wF_Mod_250 rfl rfl fun x1 => ?_
  refine r_if_le (i := 2) (tgt := 21) rfl rfl rfl ?_ ?_
  · refine r_iconst (i := 10) (0 : Int32) kc_iconst_0 rfl rfl ?_
    exact r_retB (x := false) (i := 11) rfl rfl rfl rfl
  · refine r_aload_n (i := 3) rfl rfl rfl ?_
    refine r_bipush (i := 4) (53 : Int32) kc_bipush_53 rfl rfl ?_
    refine r_iload_n (i := 5) rfl rfl rfl ?_
    refine r_VwB2 (i := 6) (k2 := 0) (n2 := 0) ok_Mod_tells wM_Mod_301 (c_Mod_tells F) (fun _ e => fw_ckb e) (Nat.le_of_ble_eq_true rfl) (Nat.le_of_ble_eq_true rfl) (Nat.le_of_ble_eq_true rfl) (Nat.le_of_ble_eq_true rfl) rfl rfl fun x11 => ?_
    refine r_ifeqB (i := 7) (tgt := 21) rfl rfl rfl ?_ ?_
    · refine r_iconst (i := 10) (0 : Int32) kc_iconst_0 rfl rfl ?_
      exact r_retB (x := false) (i := 11) rfl rfl rfl rfl
    · refine r_iconst (i := 8) (1 : Int32) kc_iconst_1 rfl rfl ?_
      refine r_goto (i := 9) (tgt := 22) rfl rfl rfl ?_
      exact r_retB (x := true) (i := 11) rfl rfl rfl rfl
-- Mod_prescribe
def s_Mod_prescribe (F : Nat) (h : fw_H) (v0 : Option Nat) (v1 : Int32) : Option (Int32 × fw_H) :=
(f_ck h v0 12).bind fun _ =>
(s_Mod_isHouse h v0 v1).bind fun x2 =>
if x2 = true then ((f_gR h v0 12 26).bind fun x9 =>
(f_aI h x9 ((0 : Int32) + v1)).bind fun x15 =>
if ¬ x15 = (9 : Int32) then ((s_Mod_keep F h v0).bind fun h24 =>
(f_gR h24 v0 12 26).bind fun x28 =>
(f_aI h24 x28 ((0 : Int32) + v1)).bind fun x35 =>
(f_sI h24 x28 ((0 : Int32) + v1) (x35 + (1 : Int32))).bind fun h38 =>
(f_gR h38 v0 12 26).bind fun x40 =>
(f_aI h38 x40 ((0 : Int32) + v1)).bind fun x46 =>
some (x46, h38)) else
some ((-1 : Int32), h)) else
some ((-1 : Int32), h)
theorem c_Mod_prescribe {G : fw_G} (F : Nat) {h : fw_H} {v0 : Option Nat} {v1 : Int32} : fw_Call G m_Mod_prescribe fw_wI 2 0 0 [fw_r v0, fw_i v1] h (s_Mod_prescribe F h v0 v1) := by
  refine fw_Call.of ok_Mod_prescribe.1 (Nat.le_of_ble_eq_true rfl) [(0, some (fw_r v0)), (1, some (fw_i v1))] rfl ?_
  refine r_ck ?_
  refine r_aload_n (i := 0) rfl rfl rfl ?_
  refine r_iload_n (i := 1) rfl rfl rfl ?_
  refine r_VB1 (i := 2) (k2 := 0) (n2 := 0) ok_Mod_isHouse wM_Mod_279 (c_Mod_isHouse) (fun _ e => fw_ckb e) (Nat.le_of_ble_eq_true rfl) (Nat.le_of_ble_eq_true rfl) (Nat.le_of_ble_eq_true rfl) (Nat.le_of_ble_eq_true rfl) rfl rfl fun x2 => ?_
  refine r_ifeqB (i := 3) (tgt := 21) rfl rfl rfl ?_ ?_
  · refine r_iconst (i := 12) (-1 : Int32) kc_iconst_m1 rfl rfl ?_
    exact r_retI (i := 13) rfl rfl rfl rfl
  · refine r_aload_n (i := 4) rfl rfl rfl ?_
    refine r_gR (i := 5) (ci := 12) (kf := 26) rfl (Nat.le_of_ble_eq_true rfl) wF_Mod_55 rfl rfl fun x9 => ?_
    refine r_iconst (i := 6) (0 : Int32) kc_iconst_0 rfl rfl ?_
    refine r_iload_n (i := 7) rfl rfl rfl ?_
    refine r_iadd (i := 8) rfl rfl ?_
    refine r_aI (i := 9) rfl rfl fun x15 => ?_
    refine r_bipush (i := 10) (9 : Int32) kc_bipush_9 rfl rfl ?_
    refine r_icmp_ne (i := 11) (tgt := 23) rfl rfl rfl ?_ ?_
    · refine r_aload_n (i := 14) rfl rfl rfl ?_
      refine r_VV0 (i := 15) (k2 := 0) (n2 := 0) ok_Mod_keep wM_Mod_298 (c_Mod_keep F) (fun _ e => fw_ckb e) (Nat.le_of_ble_eq_true rfl) (Nat.le_of_ble_eq_true rfl) (Nat.le_of_ble_eq_true rfl) (Nat.le_of_ble_eq_true rfl) rfl rfl fun h24 => ?_
      refine r_aload_n (i := 16) rfl rfl rfl ?_
      refine r_gR (i := 17) (ci := 12) (kf := 26) rfl (Nat.le_of_ble_eq_true rfl) wF_Mod_55 rfl rfl fun x28 => ?_
      refine r_iconst (i := 18) (0 : Int32) kc_iconst_0 rfl rfl ?_
      refine r_iload_n (i := 19) rfl rfl rfl ?_
      refine r_iadd (i := 20) rfl rfl ?_
      refine r_dup2 (i := 21) rfl rfl ?_
      refine r_aI (i := 22) rfl rfl fun x35 => ?_
      refine r_iconst (i := 23) (1 : Int32) kc_iconst_1 rfl rfl ?_
      refine r_iadd (i := 24) rfl rfl ?_
      refine r_sI (i := 25) rfl rfl fun h38 => ?_
      refine r_aload_n (i := 26) rfl rfl rfl ?_
      refine r_gR (i := 27) (ci := 12) (kf := 26) rfl (Nat.le_of_ble_eq_true rfl) wF_Mod_55 rfl rfl fun x40 => ?_
      refine r_iconst (i := 28) (0 : Int32) kc_iconst_0 rfl rfl ?_
      refine r_iload_n (i := 29) rfl rfl rfl ?_
      refine r_iadd (i := 30) rfl rfl ?_
      refine r_aI (i := 31) rfl rfl fun x46 => ?_
      exact r_retI (i := 32) rfl rfl rfl rfl
    · refine r_iconst (i := 12) (-1 : Int32) kc_iconst_m1 rfl rfl ?_
      exact r_retI (i := 13) rfl rfl rfl rfl
-- Mod_doorsOn
def s_Mod_doorsOn (h : fw_H) (v0 : Option Nat) (v1 : Int32) : Option Int32 :=
(f_ck h v0 12).bind fun _ =>
(f_gI h v0 12 24).bind fun x4 =>
(f_irem (v1 + (3 : Int32)) x4).bind fun x7 =>
some x7
theorem c_Mod_doorsOn {G : fw_G} {h : fw_H} {v0 : Option Nat} {v1 : Int32} : fw_Call G m_Mod_doorsOn (fw_eI h) 0 0 0 [fw_r v0, fw_i v1] h (s_Mod_doorsOn h v0 v1) := by
  refine fw_Call.of ok_Mod_doorsOn.1 (Nat.le_of_ble_eq_true rfl) [(0, some (fw_r v0)), (1, some (fw_i v1))] rfl ?_
  refine r_ck ?_
  refine r_iload_n (i := 0) rfl rfl rfl ?_
  refine r_iconst (i := 1) (3 : Int32) kc_iconst_3 rfl rfl ?_
  refine r_iadd (i := 2) rfl rfl ?_
  refine r_aload_n (i := 3) rfl rfl rfl ?_
  refine r_gI (i := 4) (ci := 12) (kf := 24) rfl (Nat.le_of_ble_eq_true rfl) wF_Mod_250 rfl rfl fun x4 => ?_
  refine r_iremN (i := 5) rfl rfl fun x7 => ?_
  exact r_retI (i := 6) rfl rfl rfl rfl
-- Mod_lie
def s_Mod_lie (F : Nat) (h : fw_H) (v0 : Option Nat) : Option (Int32 × fw_H) :=
(f_ck h v0 12).bind fun _ =>
(f_gI h v0 12 24).bind fun x1 =>
if x1 = (0 : Int32) then (some ((-1 : Int32), h)) else
(f_gR h v0 12 26).bind fun x9 =>
(f_aI h x9 (54 : Int32)).bind fun x14 =>
(s_Mod_doorsOn h v0 x14).bind fun x15 =>
(f_gR h v0 12 26).bind fun x19 =>
(f_aI h x19 (54 : Int32)).bind fun x24 =>
if ¬ x15 = x24 then ((s_Mod_keep F h v0).bind fun h31 =>
(f_gR h31 v0 12 26).bind fun x35 =>
(f_gR h31 v0 12 26).bind fun x41 =>
(f_aI h31 x41 (54 : Int32)).bind fun x46 =>
(f_sI h31 x35 (55 : Int32) x46).bind fun h47 =>
(f_gR h47 v0 12 26).bind fun x49 =>
(f_gR h47 v0 12 26).bind fun x56 =>
(f_aI h47 x56 (54 : Int32)).bind fun x61 =>
(s_Mod_doorsOn h47 v0 x61).bind fun x62 =>
(f_sI h47 x49 (54 : Int32) x62).bind fun h65 =>
(f_gR h65 v0 12 26).bind fun x67 =>
(f_aI h65 x67 (54 : Int32)).bind fun x72 =>
some (x72, h65)) else
some ((-1 : Int32), h)
theorem c_Mod_lie {G : fw_G} (F : Nat) {h : fw_H} {v0 : Option Nat} : fw_Call G m_Mod_lie fw_wI 1 0 0 [fw_r v0] h (s_Mod_lie F h v0) := by
  refine fw_Call.of ok_Mod_lie.1 (Nat.le_of_ble_eq_true rfl) [(0, some (fw_r v0))] rfl ?_
  refine r_ck ?_
  refine r_aload_n (i := 0) rfl rfl rfl ?_
  refine r_gI (i := 1) (ci := 12) (kf := 24) rfl (Nat.le_of_ble_eq_true rfl) wF_Mod_250 rfl rfl fun x1 => ?_
  refine r_if_eq (i := 2) (tgt := 28) rfl rfl rfl ?_ ?_
  · refine r_iconst (i := 14) (-1 : Int32) kc_iconst_m1 rfl rfl ?_
    exact r_retI (i := 15) rfl rfl rfl rfl
  · refine r_aload_n (i := 3) rfl rfl rfl ?_
    refine r_aload_n (i := 4) rfl rfl rfl ?_
    refine r_gR (i := 5) (ci := 12) (kf := 26) rfl (Nat.le_of_ble_eq_true rfl) wF_Mod_55 rfl rfl fun x9 => ?_
    refine r_bipush (i := 6) (54 : Int32) kc_bipush_54 rfl rfl ?_
    refine r_aI (i := 7) rfl rfl fun x14 => ?_
    refine r_VI1 (i := 8) (k2 := 0) (n2 := 0) ok_Mod_doorsOn wM_Mod_305 (c_Mod_doorsOn) (fun _ e => fw_ckb e) (Nat.le_of_ble_eq_true rfl) (Nat.le_of_ble_eq_true rfl) (Nat.le_of_ble_eq_true rfl) (Nat.le_of_ble_eq_true rfl) rfl rfl fun x15 => ?_
    refine r_aload_n (i := 9) rfl rfl rfl ?_
    refine r_gR (i := 10) (ci := 12) (kf := 26) rfl (Nat.le_of_ble_eq_true rfl) wF_Mod_55 rfl rfl fun x19 => ?_
    refine r_bipush (i := 11) (54 : Int32) kc_bipush_54 rfl rfl ?_
    refine r_aI (i := 12) rfl rfl fun x24 => ?_
    refine r_icmp_ne (i := 13) (tgt := 30) rfl rfl rfl ?_ ?_
    · refine r_aload_n (i := 16) rfl rfl rfl ?_
      refine r_VV0 (i := 17) (k2 := 0) (n2 := 0) ok_Mod_keep wM_Mod_298 (c_Mod_keep F) (fun _ e => fw_ckb e) (Nat.le_of_ble_eq_true rfl) (Nat.le_of_ble_eq_true rfl) (Nat.le_of_ble_eq_true rfl) (Nat.le_of_ble_eq_true rfl) rfl rfl fun h31 => ?_
      refine r_aload_n (i := 18) rfl rfl rfl ?_
      refine r_gR (i := 19) (ci := 12) (kf := 26) rfl (Nat.le_of_ble_eq_true rfl) wF_Mod_55 rfl rfl fun x35 => ?_
      refine r_bipush (i := 20) (55 : Int32) kc_bipush_55 rfl rfl ?_
      refine r_aload_n (i := 21) rfl rfl rfl ?_
      refine r_gR (i := 22) (ci := 12) (kf := 26) rfl (Nat.le_of_ble_eq_true rfl) wF_Mod_55 rfl rfl fun x41 => ?_
      refine r_bipush (i := 23) (54 : Int32) kc_bipush_54 rfl rfl ?_
      refine r_aI (i := 24) rfl rfl fun x46 => ?_
      refine r_sI (i := 25) rfl rfl fun h47 => ?_
      refine r_aload_n (i := 26) rfl rfl rfl ?_
      refine r_gR (i := 27) (ci := 12) (kf := 26) rfl (Nat.le_of_ble_eq_true rfl) wF_Mod_55 rfl rfl fun x49 => ?_
      refine r_bipush (i := 28) (54 : Int32) kc_bipush_54 rfl rfl ?_
      refine r_aload_n (i := 29) rfl rfl rfl ?_
      refine r_aload_n (i := 30) rfl rfl rfl ?_
      refine r_gR (i := 31) (ci := 12) (kf := 26) rfl (Nat.le_of_ble_eq_true rfl) wF_Mod_55 rfl rfl fun x56 => ?_
      refine r_bipush (i := 32) (54 : Int32) kc_bipush_54 rfl rfl ?_
      refine r_aI (i := 33) rfl rfl fun x61 => ?_
      refine r_VI1 (i := 34) (k2 := 0) (n2 := 0) ok_Mod_doorsOn wM_Mod_305 (c_Mod_doorsOn) (fun _ e => fw_ckb e) (Nat.le_of_ble_eq_true rfl) (Nat.le_of_ble_eq_true rfl) (Nat.le_of_ble_eq_true rfl) (Nat.le_of_ble_eq_true rfl) rfl rfl fun x62 => ?_
      refine r_sI (i := 35) rfl rfl fun h65 => ?_
      refine r_aload_n (i := 36) rfl rfl rfl ?_
      refine r_gR (i := 37) (ci := 12) (kf := 26) rfl (Nat.le_of_ble_eq_true rfl) wF_Mod_55 rfl rfl fun x67 => ?_
      refine r_bipush (i := 38) (54 : Int32) kc_bipush_54 rfl rfl ?_
      refine r_aI (i := 39) rfl rfl fun x72 => ?_
      exact r_retI (i := 40) rfl rfl rfl rfl
    · refine r_iconst (i := 14) (-1 : Int32) kc_iconst_m1 rfl rfl ?_
      exact r_retI (i := 15) rfl rfl rfl rfl
-- Mod_note
def l_Mod_note_14 (v0 : Option Nat) (K46 : fw_H → Option fw_H) : Nat → Int32 → fw_H → Option fw_H
  | 0, _, _ => none
  | nn + 1, a14_1, g14 =>
    if (60 : Int32) ≤ a14_1 then (K46 g14) else
    (f_gR g14 v0 12 26).bind fun x21 =>
    (f_gR g14 v0 12 26).bind fun x31 =>
    (f_aI g14 x31 ((58 : Int32) + a14_1)).bind fun x38 =>
    (f_sI g14 x21 (((58 : Int32) + a14_1) - (1 : Int32)) x38).bind fun h39 =>
    l_Mod_note_14 v0 K46 nn (a14_1 + (1 : Int32)) h39
theorem cl_Mod_note_14 {G : fw_G} {v0 : Option Nat} {K46 : fw_H → Option fw_H} (hK46 : ∀ (he46 : fw_H), fw_R G m_Mod_note fw_eV 0 0 0 46 [(0, some (fw_r v0))] [] he46 (K46 he46)) : ∀ (nn : Nat) (a14_1 : Int32) (g14 : fw_H), fw_R G m_Mod_note fw_eV 0 0 0 14 [(0, some (fw_r v0)), (1, some (fw_i a14_1))] [] g14 (l_Mod_note_14 v0 K46 nn a14_1 g14) := by
  intro nn
  induction nn with
  | zero => intros; exact r_none
  | succ nn ih =>
    intro a14_1 g14
    rw [l_Mod_note_14]
    refine r_iload_n (i := 8) rfl rfl rfl ?_
    refine r_bipush (i := 9) (60 : Int32) kc_bipush_60 rfl rfl ?_
    refine r_icmp_ge (i := 10) (tgt := 46) rfl rfl rfl ?_ ?_
    · exact r_lv (fw_sub1 rfl fw_sub0) (hK46 g14)
    · refine r_aload_n (i := 11) rfl rfl rfl ?_
      refine r_gR (i := 12) (ci := 12) (kf := 26) rfl (Nat.le_of_ble_eq_true rfl) wF_Mod_55 rfl rfl fun x21 => ?_
      refine r_bipush (i := 13) (58 : Int32) kc_bipush_58 rfl rfl ?_
      refine r_iload_n (i := 14) rfl rfl rfl ?_
      refine r_iadd (i := 15) rfl rfl ?_
      refine r_iconst (i := 16) (1 : Int32) kc_iconst_1 rfl rfl ?_
      refine r_isub (i := 17) rfl rfl ?_
      refine r_aload_n (i := 18) rfl rfl rfl ?_
      refine r_gR (i := 19) (ci := 12) (kf := 26) rfl (Nat.le_of_ble_eq_true rfl) wF_Mod_55 rfl rfl fun x31 => ?_
      refine r_bipush (i := 20) (58 : Int32) kc_bipush_58 rfl rfl ?_
      refine r_iload_n (i := 21) rfl rfl rfl ?_
      refine r_iadd (i := 22) rfl rfl ?_
      refine r_aI (i := 23) rfl rfl fun x38 => ?_
      refine r_sI (i := 24) rfl rfl fun h39 => ?_
      refine r_iinc (i := 25) (1 : Int32) kc_iconst_1 rfl rfl rfl (Nat.le_of_ble_eq_true rfl) ?_
      refine r_goto (i := 26) (tgt := 14) rfl rfl rfl ?_
      exact r_lv (fw_sub1 rfl (fw_sub1 rfl fw_sub0)) (ih (a14_1 + (1 : Int32)) h39)
def s_Mod_note (F : Nat) (h : fw_H) (v0 : Option Nat) : Option fw_H :=
(f_ck h v0 12).bind fun _ =>
(f_gR h v0 12 26).bind fun x1 =>
(f_aI h x1 (57 : Int32)).bind fun x6 =>
fw_jn (fun (hj57 : fw_H) =>
(f_gR hj57 v0 12 26).bind fun x58 =>
(f_gR hj57 v0 12 26).bind fun x64 =>
(f_aI hj57 x64 (57 : Int32)).bind fun x69 =>
(f_gR hj57 v0 12 26).bind fun x72 =>
(f_aI hj57 x72 (54 : Int32)).bind fun x77 =>
(f_sI hj57 x58 ((58 : Int32) + x69) x77).bind fun h78 =>
(f_gR h78 v0 12 26).bind fun x80 =>
(f_aI h78 x80 (57 : Int32)).bind fun x86 =>
(f_sI h78 x80 (57 : Int32) (x86 + (1 : Int32))).bind fun h89 =>
some h89) fun J57 =>
if ¬ x6 = (60 : Int32) then (J57 h) else
l_Mod_note_14 v0 (fun he46 =>
(f_gR he46 v0 12 26).bind fun x47 =>
(f_aI he46 x47 (57 : Int32)).bind fun x53 =>
(f_sI he46 x47 (57 : Int32) (x53 - (1 : Int32))).bind fun h56 =>
J57 h56) F (1 : Int32) h
theorem c_Mod_note {G : fw_G} (F : Nat) {h : fw_H} {v0 : Option Nat} : fw_Call G m_Mod_note fw_eV 0 0 0 [fw_r v0] h (s_Mod_note F h v0) := by
  refine fw_Call.of ok_Mod_note.1 (Nat.le_of_ble_eq_true rfl) [(0, some (fw_r v0))] rfl ?_
  refine r_ck ?_
  refine r_aload_n (i := 0) rfl rfl rfl ?_
  refine r_gR (i := 1) (ci := 12) (kf := 26) rfl (Nat.le_of_ble_eq_true rfl) wF_Mod_55 rfl rfl fun x1 => ?_
  refine r_bipush (i := 2) (57 : Int32) kc_bipush_57 rfl rfl ?_
  refine r_aI (i := 3) rfl rfl fun x6 => ?_
  refine r_bipush (i := 4) (60 : Int32) kc_bipush_60 rfl rfl ?_
  refine r_join (P := fun J57 => ∀ (hj57 : fw_H), fw_R G m_Mod_note fw_eV 0 (0) (0) 57 [(0, some (fw_r v0))] [] hj57 (J57 hj57)) ?_ (fun J57 hJ57 => ?_)
  · intro hj57
    refine r_aload_n (i := 35) rfl rfl rfl ?_
    refine r_gR (i := 36) (ci := 12) (kf := 26) rfl (Nat.le_of_ble_eq_true rfl) wF_Mod_55 rfl rfl fun x58 => ?_
    refine r_bipush (i := 37) (58 : Int32) kc_bipush_58 rfl rfl ?_
    refine r_aload_n (i := 38) rfl rfl rfl ?_
    refine r_gR (i := 39) (ci := 12) (kf := 26) rfl (Nat.le_of_ble_eq_true rfl) wF_Mod_55 rfl rfl fun x64 => ?_
    refine r_bipush (i := 40) (57 : Int32) kc_bipush_57 rfl rfl ?_
    refine r_aI (i := 41) rfl rfl fun x69 => ?_
    refine r_iadd (i := 42) rfl rfl ?_
    refine r_aload_n (i := 43) rfl rfl rfl ?_
    refine r_gR (i := 44) (ci := 12) (kf := 26) rfl (Nat.le_of_ble_eq_true rfl) wF_Mod_55 rfl rfl fun x72 => ?_
    refine r_bipush (i := 45) (54 : Int32) kc_bipush_54 rfl rfl ?_
    refine r_aI (i := 46) rfl rfl fun x77 => ?_
    refine r_sI (i := 47) rfl rfl fun h78 => ?_
    refine r_aload_n (i := 48) rfl rfl rfl ?_
    refine r_gR (i := 49) (ci := 12) (kf := 26) rfl (Nat.le_of_ble_eq_true rfl) wF_Mod_55 rfl rfl fun x80 => ?_
    refine r_bipush (i := 50) (57 : Int32) kc_bipush_57 rfl rfl ?_
    refine r_dup2 (i := 51) rfl rfl ?_
    refine r_aI (i := 52) rfl rfl fun x86 => ?_
    refine r_iconst (i := 53) (1 : Int32) kc_iconst_1 rfl rfl ?_
    refine r_iadd (i := 54) rfl rfl ?_
    refine r_sI (i := 55) rfl rfl fun h89 => ?_
    exact r_retV (i := 56) rfl rfl rfl rfl
  · refine r_icmp_ne (i := 5) (tgt := 57) rfl rfl rfl ?_ ?_
    · exact r_lv (fw_sub1 rfl fw_sub0) (hJ57 h)
    · refine r_iconst (i := 6) (1 : Int32) kc_iconst_1 rfl rfl ?_
      refine r_istore_n (i := 7) rfl rfl (Nat.le_of_ble_eq_true rfl) rfl ?_
      refine r_lv (fw_sub1 rfl (fw_sub1 rfl fw_sub0)) (cl_Mod_note_14 ?_ F _ _)
      · intro he46
        refine r_aload_n (i := 27) rfl rfl rfl ?_
        refine r_gR (i := 28) (ci := 12) (kf := 26) rfl (Nat.le_of_ble_eq_true rfl) wF_Mod_55 rfl rfl fun x47 => ?_
        refine r_bipush (i := 29) (57 : Int32) kc_bipush_57 rfl rfl ?_
        refine r_dup2 (i := 30) rfl rfl ?_
        refine r_aI (i := 31) rfl rfl fun x53 => ?_
        refine r_iconst (i := 32) (1 : Int32) kc_iconst_1 rfl rfl ?_
        refine r_isub (i := 33) rfl rfl ?_
        refine r_sI (i := 34) rfl rfl fun h56 => ?_
        exact r_lv (fw_sub1 rfl fw_sub0) (hJ57 h56)
-- Mod_pass
def l_Mod_pass_94 (v0 : Option Nat) (x9 : Int32) (K140 : fw_H → Option fw_H) : Nat → Int32 → fw_H → Option fw_H
  | 0, _, _ => none
  | nn + 1, a94_4, g94 =>
    if ¬ x9 = (6 : Int32) then (K140 g94) else
    (f_gI g94 v0 12 24).bind fun x103 =>
    if x103 ≤ a94_4 then (K140 g94) else
    (f_gR g94 v0 12 26).bind fun x110 =>
    (f_aI g94 x110 ((24 : Int32) + a94_4)).bind fun x119 =>
    (f_gR g94 v0 12 22).bind fun x121 =>
    (f_aI g94 x121 (((6 : Int32) * a94_4) + (3 : Int32))).bind fun x131 =>
    (f_sI g94 x110 ((24 : Int32) + a94_4) (x119 + x131)).bind fun h133 =>
    l_Mod_pass_94 v0 x9 K140 nn (a94_4 + (1 : Int32)) h133
theorem cl_Mod_pass_94 {G : fw_G} {v0 : Option Nat} {x9 : Int32} {K140 : fw_H → Option fw_H} (hK140 : ∀ (he140 : fw_H), fw_R G m_Mod_pass fw_eV 7 0 0 140 [(0, some (fw_r v0))] [] he140 (K140 he140)) : ∀ (nn : Nat) (a94_4 : Int32) (g94 : fw_H), fw_R G m_Mod_pass fw_eV 7 0 0 94 [(0, some (fw_r v0)), (2, some (fw_i x9)), (4, some (fw_i a94_4))] [] g94 (l_Mod_pass_94 v0 x9 K140 nn a94_4 g94) := by
  intro nn
  induction nn with
  | zero => intros; exact r_none
  | succ nn ih =>
    intro a94_4 g94
    rw [l_Mod_pass_94]
    refine r_iload_n (i := 57) rfl rfl rfl ?_
    refine r_bipush (i := 58) (6 : Int32) kc_bipush_6 rfl rfl ?_
    refine r_icmp_ne (i := 59) (tgt := 140) rfl rfl rfl ?_ ?_
    · exact r_lv (fw_sub1 rfl fw_sub0) (hK140 g94)
    · refine r_iload (i := 60) rfl rfl rfl ?_
      refine r_aload_n (i := 61) rfl rfl rfl ?_
      refine r_gI (i := 62) (ci := 12) (kf := 24) rfl (Nat.le_of_ble_eq_true rfl) wF_Mod_250 rfl rfl fun x103 => ?_
      refine r_icmp_ge (i := 63) (tgt := 140) rfl rfl rfl ?_ ?_
      · exact r_lv (fw_sub1 rfl fw_sub0) (hK140 g94)
      · refine r_aload_n (i := 64) rfl rfl rfl ?_
        refine r_gR (i := 65) (ci := 12) (kf := 26) rfl (Nat.le_of_ble_eq_true rfl) wF_Mod_55 rfl rfl fun x110 => ?_
        refine r_bipush (i := 66) (24 : Int32) kc_bipush_24 rfl rfl ?_
        refine r_iload (i := 67) rfl rfl rfl ?_
        refine r_iadd (i := 68) rfl rfl ?_
        refine r_dup2 (i := 69) rfl rfl ?_
        refine r_aI (i := 70) rfl rfl fun x119 => ?_
        refine r_aload_n (i := 71) rfl rfl rfl ?_
        refine r_gR (i := 72) (ci := 12) (kf := 22) rfl (Nat.le_of_ble_eq_true rfl) wF_Mod_49 rfl rfl fun x121 => ?_
        refine r_bipush (i := 73) (6 : Int32) kc_bipush_6 rfl rfl ?_
        refine r_iload (i := 74) rfl rfl rfl ?_
        refine r_imul (i := 75) rfl rfl ?_
        refine r_iconst (i := 76) (3 : Int32) kc_iconst_3 rfl rfl ?_
        refine r_iadd (i := 77) rfl rfl ?_
        refine r_aI (i := 78) rfl rfl fun x131 => ?_
        refine r_iadd (i := 79) rfl rfl ?_
        refine r_sI (i := 80) rfl rfl fun h133 => ?_
        refine r_iinc (i := 81) (1 : Int32) kc_iconst_1 rfl rfl rfl (Nat.le_of_ble_eq_true rfl) ?_
        refine r_goto (i := 82) (tgt := 94) rfl rfl rfl ?_
        exact r_lv (fw_sub1 rfl (fw_sub1 rfl (fw_sub1 rfl fw_sub0))) (ih (a94_4 + (1 : Int32)) h133)
def s_Mod_pass (F : Nat) (h : fw_H) (v0 : Option Nat) (v1 : Bool) : Option fw_H :=
(f_ck h v0 12).bind fun _ =>
(f_gR h v0 12 26).bind fun x1 =>
(f_aI h x1 (56 : Int32)).bind fun x6 =>
(f_irem x6 (24 : Int32)).bind fun x9 =>
fw_jn (fun (t44_0 : Int32) (hj44 : fw_H) =>
(f_gR hj44 v0 12 26).bind fun x47 =>
(f_aI hj44 x47 (54 : Int32)).bind fun x52 =>
fw_jn (fun (hj78 : fw_H) =>
(f_gR hj78 v0 12 26).bind fun x79 =>
(f_aI hj78 x79 ((24 : Int32) + t44_0)).bind fun x87 =>
(f_sI hj78 x79 ((24 : Int32) + t44_0) (x87 + (1 : Int32))).bind fun h90 =>
l_Mod_pass_94 v0 x9 (fun he140 =>
(f_gR he140 v0 12 26).bind fun x141 =>
(f_aI he140 x141 (56 : Int32)).bind fun x147 =>
(f_sI he140 x141 (56 : Int32) (x147 + (1 : Int32))).bind fun h150 =>
(s_Mod_note F h150 v0).bind fun h152 =>
some h152) F (0 : Int32) h90) fun J78 =>
if t44_0 = x52 then (J78 hj44) else
(f_gR hj44 v0 12 26).bind fun x57 =>
(f_gR hj44 v0 12 26).bind fun x63 =>
(f_aI hj44 x63 (54 : Int32)).bind fun x68 =>
(f_sI hj44 x57 (55 : Int32) x68).bind fun h69 =>
(f_gR h69 v0 12 26).bind fun x71 =>
(f_sI h69 x71 (54 : Int32) t44_0).bind fun h77 =>
J78 h77) fun J44 =>
if v1 = true then ((f_gR h v0 12 26).bind fun x16 =>
(f_aI h x16 (54 : Int32)).bind fun x21 =>
J44 x21 h) else
(f_gR h v0 12 26).bind fun x27 =>
(f_aI h x27 (54 : Int32)).bind fun x32 =>
(f_gR h v0 12 26).bind fun x34 =>
(f_aI h x34 (55 : Int32)).bind fun x39 =>
(s_Mod_nextOf F h v0 x32 x39 x9).bind fun x41 =>
J44 x41.1 x41.2
theorem c_Mod_pass {G : fw_G} (F : Nat) {h : fw_H} {v0 : Option Nat} {v1 : Bool} : fw_Call G m_Mod_pass fw_eV 7 0 0 [fw_r v0, fw_i (fw_b v1)] h (s_Mod_pass F h v0 v1) := by
  refine fw_Call.of ok_Mod_pass.1 (Nat.le_of_ble_eq_true rfl) [(0, some (fw_r v0)), (1, some (fw_i (fw_b v1)))] rfl ?_
  refine r_ck ?_
  refine r_aload_n (i := 0) rfl rfl rfl ?_
  refine r_gR (i := 1) (ci := 12) (kf := 26) rfl (Nat.le_of_ble_eq_true rfl) wF_Mod_55 rfl rfl fun x1 => ?_
  refine r_bipush (i := 2) (56 : Int32) kc_bipush_56 rfl rfl ?_
  refine r_aI (i := 3) rfl rfl fun x6 => ?_
  refine r_bipush (i := 4) (24 : Int32) kc_bipush_24 rfl rfl ?_
  refine r_iremN (i := 5) rfl rfl fun x9 => ?_
  refine r_istore_n (i := 6) rfl rfl (Nat.le_of_ble_eq_true rfl) rfl ?_
  refine r_iload_n (i := 7) rfl rfl rfl ?_
  refine r_join (P := fun J44 => ∀ (t44_0 : Int32) (hj44 : fw_H), fw_R G m_Mod_pass fw_eV 7 (0) (0) 44 [(0, some (fw_r v0)), (2, some (fw_i x9))] [fw_i t44_0] hj44 (J44 t44_0 hj44)) ?_ (fun J44 hJ44 => ?_)
  · intro t44_0 hj44
    refine r_istore_n (i := 25) rfl rfl (Nat.le_of_ble_eq_true rfl) rfl ?_
    refine r_iload_n (i := 26) rfl rfl rfl ?_
    refine r_aload_n (i := 27) rfl rfl rfl ?_
    refine r_gR (i := 28) (ci := 12) (kf := 26) rfl (Nat.le_of_ble_eq_true rfl) wF_Mod_55 rfl rfl fun x47 => ?_
    refine r_bipush (i := 29) (54 : Int32) kc_bipush_54 rfl rfl ?_
    refine r_aI (i := 30) rfl rfl fun x52 => ?_
    refine r_join (P := fun J78 => ∀ (hj78 : fw_H), fw_R G m_Mod_pass fw_eV 7 (0) (0) 78 [(0, some (fw_r v0)), (2, some (fw_i x9)), (3, some (fw_i t44_0))] [] hj78 (J78 hj78)) ?_ (fun J78 hJ78 => ?_)
    · intro hj78
      refine r_aload_n (i := 45) rfl rfl rfl ?_
      refine r_gR (i := 46) (ci := 12) (kf := 26) rfl (Nat.le_of_ble_eq_true rfl) wF_Mod_55 rfl rfl fun x79 => ?_
      refine r_bipush (i := 47) (24 : Int32) kc_bipush_24 rfl rfl ?_
      refine r_iload_n (i := 48) rfl rfl rfl ?_
      refine r_iadd (i := 49) rfl rfl ?_
      refine r_dup2 (i := 50) rfl rfl ?_
      refine r_aI (i := 51) rfl rfl fun x87 => ?_
      refine r_iconst (i := 52) (1 : Int32) kc_iconst_1 rfl rfl ?_
      refine r_iadd (i := 53) rfl rfl ?_
      refine r_sI (i := 54) rfl rfl fun h90 => ?_
      refine r_iconst (i := 55) (0 : Int32) kc_iconst_0 rfl rfl ?_
      refine r_istore (i := 56) rfl rfl (Nat.le_of_ble_eq_true rfl) rfl ?_
      refine r_lv (fw_sub1 rfl (fw_sub1 rfl (fw_sub1 rfl fw_sub0))) (cl_Mod_pass_94 ?_ F _ _)
      · intro he140
        refine r_aload_n (i := 83) rfl rfl rfl ?_
        refine r_gR (i := 84) (ci := 12) (kf := 26) rfl (Nat.le_of_ble_eq_true rfl) wF_Mod_55 rfl rfl fun x141 => ?_
        refine r_bipush (i := 85) (56 : Int32) kc_bipush_56 rfl rfl ?_
        refine r_dup2 (i := 86) rfl rfl ?_
        refine r_aI (i := 87) rfl rfl fun x147 => ?_
        refine r_iconst (i := 88) (1 : Int32) kc_iconst_1 rfl rfl ?_
        refine r_iadd (i := 89) rfl rfl ?_
        refine r_sI (i := 90) rfl rfl fun h150 => ?_
        refine r_aload_n (i := 91) rfl rfl rfl ?_
        refine r_VV0 (i := 92) (k2 := 0) (n2 := 0) ok_Mod_note wM_Mod_311 (c_Mod_note F) (fun _ e => fw_ckb e) (Nat.le_of_ble_eq_true rfl) (Nat.le_of_ble_eq_true rfl) (Nat.le_of_ble_eq_true rfl) (Nat.le_of_ble_eq_true rfl) rfl rfl fun h152 => ?_
        exact r_retV (i := 93) rfl rfl rfl rfl
    · refine r_icmp_eq (i := 31) (tgt := 78) rfl rfl rfl ?_ ?_
      · exact r_lv (fw_sub1 rfl (fw_sub1 rfl (fw_sub1 rfl fw_sub0))) (hJ78 hj44)
      · refine r_aload_n (i := 32) rfl rfl rfl ?_
        refine r_gR (i := 33) (ci := 12) (kf := 26) rfl (Nat.le_of_ble_eq_true rfl) wF_Mod_55 rfl rfl fun x57 => ?_
        refine r_bipush (i := 34) (55 : Int32) kc_bipush_55 rfl rfl ?_
        refine r_aload_n (i := 35) rfl rfl rfl ?_
        refine r_gR (i := 36) (ci := 12) (kf := 26) rfl (Nat.le_of_ble_eq_true rfl) wF_Mod_55 rfl rfl fun x63 => ?_
        refine r_bipush (i := 37) (54 : Int32) kc_bipush_54 rfl rfl ?_
        refine r_aI (i := 38) rfl rfl fun x68 => ?_
        refine r_sI (i := 39) rfl rfl fun h69 => ?_
        refine r_aload_n (i := 40) rfl rfl rfl ?_
        refine r_gR (i := 41) (ci := 12) (kf := 26) rfl (Nat.le_of_ble_eq_true rfl) wF_Mod_55 rfl rfl fun x71 => ?_
        refine r_bipush (i := 42) (54 : Int32) kc_bipush_54 rfl rfl ?_
        refine r_iload_n (i := 43) rfl rfl rfl ?_
        refine r_sI (i := 44) rfl rfl fun h77 => ?_
        exact r_lv (fw_sub1 rfl (fw_sub1 rfl (fw_sub1 rfl fw_sub0))) (hJ78 h77)
  · refine r_ifeqB (i := 8) (tgt := 25) rfl rfl rfl ?_ ?_
    · refine r_aload_n (i := 14) rfl rfl rfl ?_
      refine r_aload_n (i := 15) rfl rfl rfl ?_
      refine r_gR (i := 16) (ci := 12) (kf := 26) rfl (Nat.le_of_ble_eq_true rfl) wF_Mod_55 rfl rfl fun x27 => ?_
      refine r_bipush (i := 17) (54 : Int32) kc_bipush_54 rfl rfl ?_
      refine r_aI (i := 18) rfl rfl fun x32 => ?_
      refine r_aload_n (i := 19) rfl rfl rfl ?_
      refine r_gR (i := 20) (ci := 12) (kf := 26) rfl (Nat.le_of_ble_eq_true rfl) wF_Mod_55 rfl rfl fun x34 => ?_
      refine r_bipush (i := 21) (55 : Int32) kc_bipush_55 rfl rfl ?_
      refine r_aI (i := 22) rfl rfl fun x39 => ?_
      refine r_iload_n (i := 23) rfl rfl rfl ?_
      refine r_VwI3 (i := 24) (k2 := 0) (n2 := 0) ok_Mod_nextOf wM_Mod_308 (c_Mod_nextOf F) (fun _ e => fw_ckb e) (Nat.le_of_ble_eq_true rfl) (Nat.le_of_ble_eq_true rfl) (Nat.le_of_ble_eq_true rfl) (Nat.le_of_ble_eq_true rfl) rfl rfl fun x41 => ?_
      exact r_lv (fw_sub1 rfl (fw_sub1 rfl fw_sub0)) (hJ44 x41.1 x41.2)
    · refine r_aload_n (i := 9) rfl rfl rfl ?_
      refine r_gR (i := 10) (ci := 12) (kf := 26) rfl (Nat.le_of_ble_eq_true rfl) wF_Mod_55 rfl rfl fun x16 => ?_
      refine r_bipush (i := 11) (54 : Int32) kc_bipush_54 rfl rfl ?_
      refine r_aI (i := 12) rfl rfl fun x21 => ?_
      refine r_goto (i := 13) (tgt := 44) rfl rfl rfl ?_
      exact r_lv (fw_sub1 rfl (fw_sub1 rfl fw_sub0)) (hJ44 x21 h)
-- Mod_areHours
def s_Mod_areHours (h : fw_H) (v0 : Option Nat) (v1 : Int32) : Option Bool :=
(f_ck h v0 12).bind fun _ =>
(f_gI h v0 12 24).bind fun x1 =>
if x1 ≤ (0 : Int32) then (some false) else
(s_Mod_in v1 (1 : Int32) (240 : Int32)).bind fun x12 =>
if x12 = true then ((f_gR h v0 12 26).bind fun x19 =>
(f_aI h x19 (56 : Int32)).bind fun x24 =>
if (9999 : Int32) < (x24 + v1) then (some false) else
some true) else
some false
theorem c_Mod_areHours {G : fw_G} {h : fw_H} {v0 : Option Nat} {v1 : Int32} : fw_Call G m_Mod_areHours (fw_eB h) 1 0 0 [fw_r v0, fw_i v1] h (s_Mod_areHours h v0 v1) := by
  refine fw_Call.of ok_Mod_areHours.1 (Nat.le_of_ble_eq_true rfl) [(0, some (fw_r v0)), (1, some (fw_i v1))] rfl ?_
  refine r_ck ?_
  refine r_aload_n (i := 0) rfl rfl rfl ?_
  refine r_gI (i := 1) (ci := 12) (kf := 24) rfl (Nat.le_of_ble_eq_true rfl) wF_Mod_250 rfl rfl fun x1 => ?_
  refine r_if_le (i := 2) (tgt := 37) rfl rfl rfl ?_ ?_
  · refine r_iconst (i := 18) (0 : Int32) kc_iconst_0 rfl rfl ?_
    exact r_retB (x := false) (i := 19) rfl rfl rfl rfl
  · refine r_iload_n (i := 3) rfl rfl rfl ?_
    refine r_iconst (i := 4) (1 : Int32) kc_iconst_1 rfl rfl ?_
    refine r_sipush (i := 5) (240 : Int32) kc_sipush_240 rfl rfl ?_
    refine r_SB3 (i := 6) (k2 := 0) (n2 := 0) ok_Mod_in wM_Mod_275 (c_Mod_in) (Nat.le_of_ble_eq_true rfl) (Nat.le_of_ble_eq_true rfl) (Nat.le_of_ble_eq_true rfl) (Nat.le_of_ble_eq_true rfl) rfl rfl fun x12 => ?_
    refine r_ifeqB (i := 7) (tgt := 37) rfl rfl rfl ?_ ?_
    · refine r_iconst (i := 18) (0 : Int32) kc_iconst_0 rfl rfl ?_
      exact r_retB (x := false) (i := 19) rfl rfl rfl rfl
    · refine r_aload_n (i := 8) rfl rfl rfl ?_
      refine r_gR (i := 9) (ci := 12) (kf := 26) rfl (Nat.le_of_ble_eq_true rfl) wF_Mod_55 rfl rfl fun x19 => ?_
      refine r_bipush (i := 10) (56 : Int32) kc_bipush_56 rfl rfl ?_
      refine r_aI (i := 11) rfl rfl fun x24 => ?_
      refine r_iload_n (i := 12) rfl rfl rfl ?_
      refine r_iadd (i := 13) rfl rfl ?_
      refine r_sipush (i := 14) (9999 : Int32) kc_sipush_9999 rfl rfl ?_
      refine r_icmp_gt (i := 15) (tgt := 37) rfl rfl rfl ?_ ?_
      · refine r_iconst (i := 18) (0 : Int32) kc_iconst_0 rfl rfl ?_
        exact r_retB (x := false) (i := 19) rfl rfl rfl rfl
      · refine r_iconst (i := 16) (1 : Int32) kc_iconst_1 rfl rfl ?_
        refine r_goto (i := 17) (tgt := 38) rfl rfl rfl ?_
        exact r_retB (x := true) (i := 19) rfl rfl rfl rfl
-- Mod_go
def l_Mod_go_12 (F : Nat) (v0 : Option Nat) (v1 : Int32) : Nat → Int32 → fw_H → Option (Int32 × fw_H)
  | 0, _, _ => none
  | nn + 1, a12_2, g12 =>
    if v1 ≤ a12_2 then ((f_gR g12 v0 12 26).bind fun x48 =>
    (f_aI g12 x48 (56 : Int32)).bind fun x53 =>
    some (x53, g12)) else
    (s_Mod_keep F g12 v0).bind fun h18 =>
    (f_gR h18 v0 12 26).bind fun x23 =>
    (f_aI h18 x23 (53 : Int32)).bind fun x28 =>
    if ¬ x28 = (1 : Int32) then ((s_Mod_pass F h18 v0 false).bind fun h38 =>
    l_Mod_go_12 F v0 v1 nn (a12_2 + (1 : Int32)) h38) else
    (s_Mod_pass F h18 v0 true).bind fun h38 =>
    l_Mod_go_12 F v0 v1 nn (a12_2 + (1 : Int32)) h38
theorem cl_Mod_go_12 {G : fw_G} {F : Nat} {v0 : Option Nat} {v1 : Int32} : ∀ (nn : Nat) (a12_2 : Int32) (g12 : fw_H), fw_R G m_Mod_go fw_wI 8 0 0 12 [(0, some (fw_r v0)), (1, some (fw_i v1)), (2, some (fw_i a12_2))] [] g12 (l_Mod_go_12 F v0 v1 nn a12_2 g12) := by
  intro nn
  induction nn with
  | zero => intros; exact r_none
  | succ nn ih =>
    intro a12_2 g12
    rw [l_Mod_go_12]
    refine r_iload_n (i := 8) rfl rfl rfl ?_
    refine r_iload_n (i := 9) rfl rfl rfl ?_
    refine r_icmp_ge (i := 10) (tgt := 47) rfl rfl rfl ?_ ?_
    · refine r_aload_n (i := 26) rfl rfl rfl ?_
      refine r_gR (i := 27) (ci := 12) (kf := 26) rfl (Nat.le_of_ble_eq_true rfl) wF_Mod_55 rfl rfl fun x48 => ?_
      refine r_bipush (i := 28) (56 : Int32) kc_bipush_56 rfl rfl ?_
      refine r_aI (i := 29) rfl rfl fun x53 => ?_
      exact r_retI (i := 30) rfl rfl rfl rfl
    · refine r_aload_n (i := 11) rfl rfl rfl ?_
      refine r_VV0 (i := 12) (k2 := 0) (n2 := 0) ok_Mod_keep wM_Mod_298 (c_Mod_keep F) (fun _ e => fw_ckb e) (Nat.le_of_ble_eq_true rfl) (Nat.le_of_ble_eq_true rfl) (Nat.le_of_ble_eq_true rfl) (Nat.le_of_ble_eq_true rfl) rfl rfl fun h18 => ?_
      refine r_aload_n (i := 13) rfl rfl rfl ?_
      refine r_aload_n (i := 14) rfl rfl rfl ?_
      refine r_gR (i := 15) (ci := 12) (kf := 26) rfl (Nat.le_of_ble_eq_true rfl) wF_Mod_55 rfl rfl fun x23 => ?_
      refine r_bipush (i := 16) (53 : Int32) kc_bipush_53 rfl rfl ?_
      refine r_aI (i := 17) rfl rfl fun x28 => ?_
      refine r_iconst (i := 18) (1 : Int32) kc_iconst_1 rfl rfl ?_
      refine r_icmp_ne (i := 19) (tgt := 37) rfl rfl rfl ?_ ?_
      · refine r_iconst (i := 22) (0 : Int32) kc_iconst_0 rfl rfl ?_
        refine r_VV1 (i := 23) (k2 := 0) (n2 := 0) ok_Mod_pass wM_Mod_317 (c_Mod_pass F (v1 := false)) (fun _ e => fw_ckb e) (Nat.le_of_ble_eq_true rfl) (Nat.le_of_ble_eq_true rfl) (Nat.le_of_ble_eq_true rfl) (Nat.le_of_ble_eq_true rfl) rfl rfl fun h38 => ?_
        refine r_iinc (i := 24) (1 : Int32) kc_iconst_1 rfl rfl rfl (Nat.le_of_ble_eq_true rfl) ?_
        refine r_goto (i := 25) (tgt := 12) rfl rfl rfl ?_
        exact r_lv (fw_sub1 rfl (fw_sub1 rfl (fw_sub1 rfl fw_sub0))) (ih (a12_2 + (1 : Int32)) h38)
      · refine r_iconst (i := 20) (1 : Int32) kc_iconst_1 rfl rfl ?_
        refine r_goto (i := 21) (tgt := 38) rfl rfl rfl ?_
        refine r_VV1 (i := 23) (k2 := 0) (n2 := 0) ok_Mod_pass wM_Mod_317 (c_Mod_pass F (v1 := true)) (fun _ e => fw_ckb e) (Nat.le_of_ble_eq_true rfl) (Nat.le_of_ble_eq_true rfl) (Nat.le_of_ble_eq_true rfl) (Nat.le_of_ble_eq_true rfl) rfl rfl fun h38 => ?_
        refine r_iinc (i := 24) (1 : Int32) kc_iconst_1 rfl rfl rfl (Nat.le_of_ble_eq_true rfl) ?_
        refine r_goto (i := 25) (tgt := 12) rfl rfl rfl ?_
        exact r_lv (fw_sub1 rfl (fw_sub1 rfl (fw_sub1 rfl fw_sub0))) (ih (a12_2 + (1 : Int32)) h38)
def s_Mod_go (F : Nat) (h : fw_H) (v0 : Option Nat) (v1 : Int32) : Option (Int32 × fw_H) :=
(f_ck h v0 12).bind fun _ =>
(s_Mod_areHours h v0 v1).bind fun x2 =>
if x2 = true then (l_Mod_go_12 F v0 v1 F (0 : Int32) h) else
some ((-1 : Int32), h)
theorem c_Mod_go {G : fw_G} (F : Nat) {h : fw_H} {v0 : Option Nat} {v1 : Int32} : fw_Call G m_Mod_go fw_wI 8 0 0 [fw_r v0, fw_i v1] h (s_Mod_go F h v0 v1) := by
  refine fw_Call.of ok_Mod_go.1 (Nat.le_of_ble_eq_true rfl) [(0, some (fw_r v0)), (1, some (fw_i v1))] rfl ?_
  refine r_ck ?_
  refine r_aload_n (i := 0) rfl rfl rfl ?_
  refine r_iload_n (i := 1) rfl rfl rfl ?_
  refine r_VB1 (i := 2) (k2 := 0) (n2 := 0) ok_Mod_areHours wM_Mod_314 (c_Mod_areHours) (fun _ e => fw_ckb e) (Nat.le_of_ble_eq_true rfl) (Nat.le_of_ble_eq_true rfl) (Nat.le_of_ble_eq_true rfl) (Nat.le_of_ble_eq_true rfl) rfl rfl fun x2 => ?_
  refine r_ifneB (i := 3) (tgt := 10) rfl rfl rfl ?_ ?_
  · refine r_iconst (i := 6) (0 : Int32) kc_iconst_0 rfl rfl ?_
    refine r_istore_n (i := 7) rfl rfl (Nat.le_of_ble_eq_true rfl) rfl ?_
    refine r_lv (fw_sub1 rfl (fw_sub1 rfl (fw_sub1 rfl fw_sub0))) (cl_Mod_go_12 F _ _)
  · refine r_iconst (i := 4) (-1 : Int32) kc_iconst_m1 rfl rfl ?_
    exact r_retI (i := 5) rfl rfl rfl rfl
-- Mod_mist
def s_Mod_mist (h : fw_H) (v0 : Option Nat) (v1 : Int32) : Option (Bool × fw_H) :=
(f_ck h v0 12).bind fun _ =>
(s_Mod_in v1 (0 : Int32) (99 : Int32)).bind fun x4 =>
if x4 = true then ((f_gI h v0 12 29).bind fun x12 =>
if ¬ v1 = x12 then ((f_pI h v0 12 29 v1).bind fun h22 =>
some (true, h22)) else
some (false, h)) else
some (false, h)
theorem c_Mod_mist {G : fw_G} {h : fw_H} {v0 : Option Nat} {v1 : Int32} : fw_Call G m_Mod_mist fw_wB 1 0 0 [fw_r v0, fw_i v1] h (s_Mod_mist h v0 v1) := by
  refine fw_Call.of ok_Mod_mist.1 (Nat.le_of_ble_eq_true rfl) [(0, some (fw_r v0)), (1, some (fw_i v1))] rfl ?_
  refine r_ck ?_
  refine r_iload_n (i := 0) rfl rfl rfl ?_
  refine r_iconst (i := 1) (0 : Int32) kc_iconst_0 rfl rfl ?_
  refine r_bipush (i := 2) (99 : Int32) kc_bipush_99 rfl rfl ?_
  refine r_SB3 (i := 3) (k2 := 0) (n2 := 0) ok_Mod_in wM_Mod_275 (c_Mod_in) (Nat.le_of_ble_eq_true rfl) (Nat.le_of_ble_eq_true rfl) (Nat.le_of_ble_eq_true rfl) (Nat.le_of_ble_eq_true rfl) rfl rfl fun x4 => ?_
  refine r_ifeqB (i := 4) (tgt := 18) rfl rfl rfl ?_ ?_
  · refine r_iconst (i := 9) (0 : Int32) kc_iconst_0 rfl rfl ?_
    exact r_retB (x := false) (i := 10) rfl rfl rfl rfl
  · refine r_iload_n (i := 5) rfl rfl rfl ?_
    refine r_aload_n (i := 6) rfl rfl rfl ?_
    refine r_gI (i := 7) (ci := 12) (kf := 29) rfl (Nat.le_of_ble_eq_true rfl) wF_Mod_321 rfl rfl fun x12 => ?_
    refine r_icmp_ne (i := 8) (tgt := 20) rfl rfl rfl ?_ ?_
    · refine r_aload_n (i := 11) rfl rfl rfl ?_
      refine r_iload_n (i := 12) rfl rfl rfl ?_
      refine r_pI (i := 13) (ci := 12) (kf := 29) rfl (Nat.le_of_ble_eq_true rfl) wF_Mod_321 rfl (tyX12_ok 29 (Nat.le_of_ble_eq_true rfl)) rfl rfl fun h22 => ?_
      refine r_iconst (i := 14) (1 : Int32) kc_iconst_1 rfl rfl ?_
      exact r_retB (x := true) (i := 15) rfl rfl rfl rfl
    · refine r_iconst (i := 9) (0 : Int32) kc_iconst_0 rfl rfl ?_
      exact r_retB (x := false) (i := 10) rfl rfl rfl rfl
-- Mod_mists
def l_Mod_mists_16 (F : Nat) (v0 : Option Nat) (v1 : Int32) : Nat → Int64 → Int32 → fw_H → Option (Int32 × fw_H)
  | 0, _, _, _ => none
  | nn + 1, a16_4, a16_6, g16 =>
    if v1 ≤ a16_6 then ((f_gR g16 v0 12 26).bind fun x95 =>
    (f_aI g16 x95 (56 : Int32)).bind fun x100 =>
    some (x100, g16)) else
    (s_Mod_keep F g16 v0).bind fun h23 =>
    (f_lrem (fw_lushr ((a16_4 * (6364136223846793005 : Int64)) + (1442695040888963407 : Int64)) (33 : Int32)) (100 : Int64)).bind fun x46 =>
    (f_gI h23 v0 12 29).bind fun x48 =>
    fw_jn (fun (t61_0 : Int32) =>
    if ¬ t61_0 = (0 : Int32) then ((s_Mod_pass F h23 v0 true).bind fun h85 =>
    l_Mod_mists_16 F v0 v1 nn ((a16_4 * (6364136223846793005 : Int64)) + (1442695040888963407 : Int64)) (a16_6 + (1 : Int32)) h85) else
    (f_gR h23 v0 12 26).bind fun x70 =>
    (f_aI h23 x70 (53 : Int32)).bind fun x75 =>
    if ¬ x75 = (1 : Int32) then ((s_Mod_pass F h23 v0 false).bind fun h85 =>
    l_Mod_mists_16 F v0 v1 nn ((a16_4 * (6364136223846793005 : Int64)) + (1442695040888963407 : Int64)) (a16_6 + (1 : Int32)) h85) else
    (s_Mod_pass F h23 v0 true).bind fun h85 =>
    l_Mod_mists_16 F v0 v1 nn ((a16_4 * (6364136223846793005 : Int64)) + (1442695040888963407 : Int64)) (a16_6 + (1 : Int32)) h85) fun J61 =>
    if (0 : Int32) ≤ (lg_cmp x46 (Int32.toInt64 x48)) then (J61 (0 : Int32)) else
    J61 (1 : Int32)
theorem cl_Mod_mists_16 {G : fw_G} {F : Nat} {v0 : Option Nat} {v1 : Int32} : ∀ (nn : Nat) (a16_4 : Int64) (a16_6 : Int32) (g16 : fw_H), fw_R G m_Mod_mists fw_wI 8 0 0 16 [(0, some (fw_r v0)), (1, some (fw_i v1)), (4, some (fw_j a16_4)), (6, some (fw_i a16_6))] [] g16 (l_Mod_mists_16 F v0 v1 nn a16_4 a16_6 g16) := by
  intro nn
  induction nn with
  | zero => intros; exact r_none
  | succ nn ih =>
    intro a16_4 a16_6 g16
    rw [l_Mod_mists_16]
    refine r_iload (i := 10) rfl rfl rfl ?_
    refine r_iload_n (i := 11) rfl rfl rfl ?_
    refine r_icmp_ge (i := 12) (tgt := 94) rfl rfl rfl ?_ ?_
    · refine r_aload_n (i := 50) rfl rfl rfl ?_
      refine r_gR (i := 51) (ci := 12) (kf := 26) rfl (Nat.le_of_ble_eq_true rfl) wF_Mod_55 rfl rfl fun x95 => ?_
      refine r_bipush (i := 52) (56 : Int32) kc_bipush_56 rfl rfl ?_
      refine r_aI (i := 53) rfl rfl fun x100 => ?_
      exact r_retI (i := 54) rfl rfl rfl rfl
    · refine r_aload_n (i := 13) rfl rfl rfl ?_
      refine r_VV0 (i := 14) (k2 := 0) (n2 := 0) ok_Mod_keep wM_Mod_298 (c_Mod_keep F) (fun _ e => fw_ckb e) (Nat.le_of_ble_eq_true rfl) (Nat.le_of_ble_eq_true rfl) (Nat.le_of_ble_eq_true rfl) (Nat.le_of_ble_eq_true rfl) rfl rfl fun h23 => ?_
      refine r_lload (i := 15) rfl rfl rfl ?_
      refine r_ldc2 (i := 16) wL_Mod_324 rfl rfl ?_
      refine r_lmul (i := 17) rfl rfl ?_
      refine r_ldc2 (i := 18) wL_Mod_326 rfl rfl ?_
      refine r_ladd (i := 19) rfl rfl ?_
      refine r_lstore (i := 20) rfl rfl (Nat.le_of_ble_eq_true rfl) rfl ?_
      refine r_lload (i := 21) rfl rfl rfl ?_
      refine r_bipush (i := 22) (33 : Int32) kc_bipush_33 rfl rfl ?_
      refine r_lushr (i := 23) rfl rfl ?_
      refine r_ldc2 (i := 24) wL_Mod_328 rfl rfl ?_
      refine r_lremN (i := 25) rfl rfl fun x46 => ?_
      refine r_aload_n (i := 26) rfl rfl rfl ?_
      refine r_gI (i := 27) (ci := 12) (kf := 29) rfl (Nat.le_of_ble_eq_true rfl) wF_Mod_321 rfl rfl fun x48 => ?_
      refine r_i2l (i := 28) rfl rfl ?_
      refine r_lcmp (i := 29) rfl rfl ?_
      refine r_join (P := fun J61 => ∀ (t61_0 : Int32), fw_R G m_Mod_mists fw_wI 8 (0) (0) 61 [(0, some (fw_r v0)), (1, some (fw_i v1)), (4, some (fw_j ((a16_4 * (6364136223846793005 : Int64)) + (1442695040888963407 : Int64)))), (6, some (fw_i a16_6))] [fw_i t61_0] h23 (J61 t61_0)) ?_ (fun J61 hJ61 => ?_)
      · intro t61_0
        refine r_istore (i := 34) rfl rfl (Nat.le_of_ble_eq_true rfl) rfl ?_
        refine r_aload_n (i := 35) rfl rfl rfl ?_
        refine r_iload (i := 36) rfl rfl rfl ?_
        refine r_if_ne (i := 37) (tgt := 80) rfl rfl rfl ?_ ?_
        · refine r_iconst (i := 44) (1 : Int32) kc_iconst_1 rfl rfl ?_
          refine r_goto (i := 45) (tgt := 85) rfl rfl rfl ?_
          refine r_VV1 (i := 47) (k2 := 0) (n2 := 0) ok_Mod_pass wM_Mod_317 (c_Mod_pass F (v1 := true)) (fun _ e => fw_ckb e) (Nat.le_of_ble_eq_true rfl) (Nat.le_of_ble_eq_true rfl) (Nat.le_of_ble_eq_true rfl) (Nat.le_of_ble_eq_true rfl) rfl rfl fun h85 => ?_
          refine r_iinc (i := 48) (1 : Int32) kc_iconst_1 rfl rfl rfl (Nat.le_of_ble_eq_true rfl) ?_
          refine r_goto (i := 49) (tgt := 16) rfl rfl rfl ?_
          exact r_lv (fw_sub1 rfl (fw_sub1 rfl (fw_sub1 rfl (fw_sub1 rfl fw_sub0)))) (ih ((a16_4 * (6364136223846793005 : Int64)) + (1442695040888963407 : Int64)) (a16_6 + (1 : Int32)) h85)
        · refine r_aload_n (i := 38) rfl rfl rfl ?_
          refine r_gR (i := 39) (ci := 12) (kf := 26) rfl (Nat.le_of_ble_eq_true rfl) wF_Mod_55 rfl rfl fun x70 => ?_
          refine r_bipush (i := 40) (53 : Int32) kc_bipush_53 rfl rfl ?_
          refine r_aI (i := 41) rfl rfl fun x75 => ?_
          refine r_iconst (i := 42) (1 : Int32) kc_iconst_1 rfl rfl ?_
          refine r_icmp_ne (i := 43) (tgt := 84) rfl rfl rfl ?_ ?_
          · refine r_iconst (i := 46) (0 : Int32) kc_iconst_0 rfl rfl ?_
            refine r_VV1 (i := 47) (k2 := 0) (n2 := 0) ok_Mod_pass wM_Mod_317 (c_Mod_pass F (v1 := false)) (fun _ e => fw_ckb e) (Nat.le_of_ble_eq_true rfl) (Nat.le_of_ble_eq_true rfl) (Nat.le_of_ble_eq_true rfl) (Nat.le_of_ble_eq_true rfl) rfl rfl fun h85 => ?_
            refine r_iinc (i := 48) (1 : Int32) kc_iconst_1 rfl rfl rfl (Nat.le_of_ble_eq_true rfl) ?_
            refine r_goto (i := 49) (tgt := 16) rfl rfl rfl ?_
            exact r_lv (fw_sub1 rfl (fw_sub1 rfl (fw_sub1 rfl (fw_sub1 rfl fw_sub0)))) (ih ((a16_4 * (6364136223846793005 : Int64)) + (1442695040888963407 : Int64)) (a16_6 + (1 : Int32)) h85)
          · refine r_iconst (i := 44) (1 : Int32) kc_iconst_1 rfl rfl ?_
            refine r_goto (i := 45) (tgt := 85) rfl rfl rfl ?_
            refine r_VV1 (i := 47) (k2 := 0) (n2 := 0) ok_Mod_pass wM_Mod_317 (c_Mod_pass F (v1 := true)) (fun _ e => fw_ckb e) (Nat.le_of_ble_eq_true rfl) (Nat.le_of_ble_eq_true rfl) (Nat.le_of_ble_eq_true rfl) (Nat.le_of_ble_eq_true rfl) rfl rfl fun h85 => ?_
            refine r_iinc (i := 48) (1 : Int32) kc_iconst_1 rfl rfl rfl (Nat.le_of_ble_eq_true rfl) ?_
            refine r_goto (i := 49) (tgt := 16) rfl rfl rfl ?_
            exact r_lv (fw_sub1 rfl (fw_sub1 rfl (fw_sub1 rfl (fw_sub1 rfl fw_sub0)))) (ih ((a16_4 * (6364136223846793005 : Int64)) + (1442695040888963407 : Int64)) (a16_6 + (1 : Int32)) h85)
      · refine r_if_ge (i := 30) (tgt := 60) rfl rfl rfl ?_ ?_
        · refine r_iconst (i := 33) (0 : Int32) kc_iconst_0 rfl rfl ?_
          exact r_lv (fw_sub1 rfl (fw_sub1 rfl (fw_sub1 rfl (fw_sub1 rfl fw_sub0)))) (hJ61 (0 : Int32))
        · refine r_iconst (i := 31) (1 : Int32) kc_iconst_1 rfl rfl ?_
          refine r_goto (i := 32) (tgt := 61) rfl rfl rfl ?_
          exact r_lv (fw_sub1 rfl (fw_sub1 rfl (fw_sub1 rfl (fw_sub1 rfl fw_sub0)))) (hJ61 (1 : Int32))
def s_Mod_mists (F : Nat) (h : fw_H) (v0 : Option Nat) (v1 : Int32) (v2 : Int64) : Option (Int32 × fw_H) :=
(f_ck h v0 12).bind fun _ =>
(s_Mod_areHours h v0 v1).bind fun x2 =>
if x2 = true then (l_Mod_mists_16 F v0 v1 F v2 (0 : Int32) h) else
some ((-1 : Int32), h)
theorem c_Mod_mists {G : fw_G} (F : Nat) {h : fw_H} {v0 : Option Nat} {v1 : Int32} {v2 : Int64} : fw_Call G m_Mod_mists fw_wI 8 0 0 [fw_r v0, fw_i v1, fw_j v2] h (s_Mod_mists F h v0 v1 v2) := by
  refine fw_Call.of ok_Mod_mists.1 (Nat.le_of_ble_eq_true rfl) [(0, some (fw_r v0)), (1, some (fw_i v1)), (2, some (fw_j v2))] rfl ?_
  refine r_ck ?_
  refine r_aload_n (i := 0) rfl rfl rfl ?_
  refine r_iload_n (i := 1) rfl rfl rfl ?_
  refine r_VB1 (i := 2) (k2 := 0) (n2 := 0) ok_Mod_areHours wM_Mod_314 (c_Mod_areHours) (fun _ e => fw_ckb e) (Nat.le_of_ble_eq_true rfl) (Nat.le_of_ble_eq_true rfl) (Nat.le_of_ble_eq_true rfl) (Nat.le_of_ble_eq_true rfl) rfl rfl fun x2 => ?_
  refine r_ifneB (i := 3) (tgt := 10) rfl rfl rfl ?_ ?_
  · refine r_lload_n (i := 6) rfl rfl rfl ?_
    refine r_lstore (i := 7) rfl rfl (Nat.le_of_ble_eq_true rfl) rfl ?_
    refine r_iconst (i := 8) (0 : Int32) kc_iconst_0 rfl rfl ?_
    refine r_istore (i := 9) rfl rfl (Nat.le_of_ble_eq_true rfl) rfl ?_
    refine r_lv (fw_sub1 rfl (fw_sub1 rfl (fw_sub1 rfl (fw_sub1 rfl fw_sub0)))) (cl_Mod_mists_16 F _ _ _)
  · refine r_iconst (i := 4) (-1 : Int32) kc_iconst_m1 rfl rfl ?_
    exact r_retI (i := 5) rfl rfl rfl rfl
-- Mod_undo
def l_Mod_undo_21 (v0 : Option Nat) : Nat → Int32 → fw_H → Option (Int32 × fw_H)
  | 0, _, _ => none
  | nn + 1, a21_1, g21 =>
    if (118 : Int32) ≤ a21_1 then ((f_gI g21 v0 12 31).bind fun x54 =>
    some (x54, g21)) else
    (f_gR g21 v0 12 26).bind fun x28 =>
    (f_gR g21 v0 12 30).bind fun x33 =>
    (f_gI g21 v0 12 31).bind fun x39 =>
    (f_aI g21 x33 (((118 : Int32) * x39) + a21_1)).bind fun x45 =>
    (f_sI g21 x28 a21_1 x45).bind fun h46 =>
    l_Mod_undo_21 v0 nn (a21_1 + (1 : Int32)) h46
theorem cl_Mod_undo_21 {G : fw_G} {v0 : Option Nat} : ∀ (nn : Nat) (a21_1 : Int32) (g21 : fw_H), fw_R G m_Mod_undo fw_wI 0 0 0 21 [(0, some (fw_r v0)), (1, some (fw_i a21_1))] [] g21 (l_Mod_undo_21 v0 nn a21_1 g21) := by
  intro nn
  induction nn with
  | zero => intros; exact r_none
  | succ nn ih =>
    intro a21_1 g21
    rw [l_Mod_undo_21]
    refine r_iload_n (i := 13) rfl rfl rfl ?_
    refine r_bipush (i := 14) (118 : Int32) kc_bipush_118 rfl rfl ?_
    refine r_icmp_ge (i := 15) (tgt := 53) rfl rfl rfl ?_ ?_
    · refine r_aload_n (i := 31) rfl rfl rfl ?_
      refine r_gI (i := 32) (ci := 12) (kf := 31) rfl (Nat.le_of_ble_eq_true rfl) wF_Mod_262 rfl rfl fun x54 => ?_
      exact r_retI (i := 33) rfl rfl rfl rfl
    · refine r_aload_n (i := 16) rfl rfl rfl ?_
      refine r_gR (i := 17) (ci := 12) (kf := 26) rfl (Nat.le_of_ble_eq_true rfl) wF_Mod_55 rfl rfl fun x28 => ?_
      refine r_iload_n (i := 18) rfl rfl rfl ?_
      refine r_aload_n (i := 19) rfl rfl rfl ?_
      refine r_gR (i := 20) (ci := 12) (kf := 30) rfl (Nat.le_of_ble_eq_true rfl) wF_Mod_65 rfl rfl fun x33 => ?_
      refine r_bipush (i := 21) (118 : Int32) kc_bipush_118 rfl rfl ?_
      refine r_aload_n (i := 22) rfl rfl rfl ?_
      refine r_gI (i := 23) (ci := 12) (kf := 31) rfl (Nat.le_of_ble_eq_true rfl) wF_Mod_262 rfl rfl fun x39 => ?_
      refine r_imul (i := 24) rfl rfl ?_
      refine r_iload_n (i := 25) rfl rfl rfl ?_
      refine r_iadd (i := 26) rfl rfl ?_
      refine r_aI (i := 27) rfl rfl fun x45 => ?_
      refine r_sI (i := 28) rfl rfl fun h46 => ?_
      refine r_iinc (i := 29) (1 : Int32) kc_iconst_1 rfl rfl rfl (Nat.le_of_ble_eq_true rfl) ?_
      refine r_goto (i := 30) (tgt := 21) rfl rfl rfl ?_
      exact r_lv (fw_sub1 rfl (fw_sub1 rfl fw_sub0)) (ih (a21_1 + (1 : Int32)) h46)
def s_Mod_undo (F : Nat) (h : fw_H) (v0 : Option Nat) : Option (Int32 × fw_H) :=
(f_ck h v0 12).bind fun _ =>
(f_gI h v0 12 31).bind fun x1 =>
if ¬ x1 = (0 : Int32) then ((f_gI h v0 12 31).bind fun x11 =>
(f_pI h v0 12 31 (x11 - (1 : Int32))).bind fun h16 =>
l_Mod_undo_21 v0 F (0 : Int32) h16) else
some ((-1 : Int32), h)
theorem c_Mod_undo {G : fw_G} (F : Nat) {h : fw_H} {v0 : Option Nat} : fw_Call G m_Mod_undo fw_wI 0 0 0 [fw_r v0] h (s_Mod_undo F h v0) := by
  refine fw_Call.of ok_Mod_undo.1 (Nat.le_of_ble_eq_true rfl) [(0, some (fw_r v0))] rfl ?_
  refine r_ck ?_
  refine r_aload_n (i := 0) rfl rfl rfl ?_
  refine r_gI (i := 1) (ci := 12) (kf := 31) rfl (Nat.le_of_ble_eq_true rfl) wF_Mod_262 rfl rfl fun x1 => ?_
  refine r_if_ne (i := 2) (tgt := 9) rfl rfl rfl ?_ ?_
  · refine r_aload_n (i := 5) rfl rfl rfl ?_
    refine r_dup_r (i := 6) rfl rfl ?_
    refine r_gI (i := 7) (ci := 12) (kf := 31) rfl (Nat.le_of_ble_eq_true rfl) wF_Mod_262 rfl rfl fun x11 => ?_
    refine r_iconst (i := 8) (1 : Int32) kc_iconst_1 rfl rfl ?_
    refine r_isub (i := 9) rfl rfl ?_
    refine r_pI (i := 10) (ci := 12) (kf := 31) rfl (Nat.le_of_ble_eq_true rfl) wF_Mod_262 rfl (tyX12_ok 31 (Nat.le_of_ble_eq_true rfl)) rfl rfl fun h16 => ?_
    refine r_iconst (i := 11) (0 : Int32) kc_iconst_0 rfl rfl ?_
    refine r_istore_n (i := 12) rfl rfl (Nat.le_of_ble_eq_true rfl) rfl ?_
    refine r_lv (fw_sub1 rfl (fw_sub1 rfl fw_sub0)) (cl_Mod_undo_21 F _ _)
  · refine r_iconst (i := 3) (-1 : Int32) kc_iconst_m1 rfl rfl ?_
    exact r_retI (i := 4) rfl rfl rfl rfl
-- Mod_log
def s_Mod_log (h : fw_H) (v0 : Option Nat) (v1 : Int32) : Option Int32 :=
(f_ck h v0 12).bind fun _ =>
(f_gR h v0 12 26).bind fun x3 =>
(f_aI h x3 (57 : Int32)).bind fun x8 =>
(s_Mod_in v1 (0 : Int32) (x8 - (1 : Int32))).bind fun x11 =>
if x11 = true then ((f_gR h v0 12 26).bind fun x18 =>
(f_gR h v0 12 26).bind fun x24 =>
(f_aI h x24 (57 : Int32)).bind fun x29 =>
(f_aI h x18 ((((58 : Int32) + x29) - (1 : Int32)) - v1)).bind fun x35 =>
some x35) else
some (-1 : Int32)
theorem c_Mod_log {G : fw_G} {h : fw_H} {v0 : Option Nat} {v1 : Int32} : fw_Call G m_Mod_log (fw_eI h) 1 0 0 [fw_r v0, fw_i v1] h (s_Mod_log h v0 v1) := by
  refine fw_Call.of ok_Mod_log.1 (Nat.le_of_ble_eq_true rfl) [(0, some (fw_r v0)), (1, some (fw_i v1))] rfl ?_
  refine r_ck ?_
  refine r_iload_n (i := 0) rfl rfl rfl ?_
  refine r_iconst (i := 1) (0 : Int32) kc_iconst_0 rfl rfl ?_
  refine r_aload_n (i := 2) rfl rfl rfl ?_
  refine r_gR (i := 3) (ci := 12) (kf := 26) rfl (Nat.le_of_ble_eq_true rfl) wF_Mod_55 rfl rfl fun x3 => ?_
  refine r_bipush (i := 4) (57 : Int32) kc_bipush_57 rfl rfl ?_
  refine r_aI (i := 5) rfl rfl fun x8 => ?_
  refine r_iconst (i := 6) (1 : Int32) kc_iconst_1 rfl rfl ?_
  refine r_isub (i := 7) rfl rfl ?_
  refine r_SB3 (i := 8) (k2 := 0) (n2 := 0) ok_Mod_in wM_Mod_275 (c_Mod_in) (Nat.le_of_ble_eq_true rfl) (Nat.le_of_ble_eq_true rfl) (Nat.le_of_ble_eq_true rfl) (Nat.le_of_ble_eq_true rfl) rfl rfl fun x11 => ?_
  refine r_ifeqB (i := 9) (tgt := 39) rfl rfl rfl ?_ ?_
  · refine r_iconst (i := 24) (-1 : Int32) kc_iconst_m1 rfl rfl ?_
    exact r_retI (i := 25) rfl rfl rfl rfl
  · refine r_aload_n (i := 10) rfl rfl rfl ?_
    refine r_gR (i := 11) (ci := 12) (kf := 26) rfl (Nat.le_of_ble_eq_true rfl) wF_Mod_55 rfl rfl fun x18 => ?_
    refine r_bipush (i := 12) (58 : Int32) kc_bipush_58 rfl rfl ?_
    refine r_aload_n (i := 13) rfl rfl rfl ?_
    refine r_gR (i := 14) (ci := 12) (kf := 26) rfl (Nat.le_of_ble_eq_true rfl) wF_Mod_55 rfl rfl fun x24 => ?_
    refine r_bipush (i := 15) (57 : Int32) kc_bipush_57 rfl rfl ?_
    refine r_aI (i := 16) rfl rfl fun x29 => ?_
    refine r_iadd (i := 17) rfl rfl ?_
    refine r_iconst (i := 18) (1 : Int32) kc_iconst_1 rfl rfl ?_
    refine r_isub (i := 19) rfl rfl ?_
    refine r_iload_n (i := 20) rfl rfl rfl ?_
    refine r_isub (i := 21) rfl rfl ?_
    refine r_aI (i := 22) rfl rfl fun x35 => ?_
    refine r_goto (i := 23) (tgt := 40) rfl rfl rfl ?_
    exact r_retI (i := 25) rfl rfl rfl rfl
-- Mod_startWalk
def s_Mod_startWalk (h : fw_H) (v0 : Option Nat) : Option fw_H :=
(f_ck h v0 12).bind fun _ =>
(f_gR h v0 12 26).bind fun x2 =>
(f_aI h x2 (54 : Int32)).bind fun x7 =>
(f_pI h v0 12 32 x7).bind fun h8 =>
(f_gR h8 v0 12 26).bind fun x13 =>
(f_aI h8 x13 (55 : Int32)).bind fun x18 =>
(f_pI h8 v0 12 33 x18).bind fun h19 =>
(f_gR h19 v0 12 26).bind fun x24 =>
(f_aI h19 x24 (56 : Int32)).bind fun x29 =>
(f_irem x29 (24 : Int32)).bind fun x32 =>
(f_pI h19 v0 12 34 x32).bind fun h33 =>
some h33
theorem c_Mod_startWalk {G : fw_G} {h : fw_H} {v0 : Option Nat} : fw_Call G m_Mod_startWalk fw_eV 0 0 0 [fw_r v0] h (s_Mod_startWalk h v0) := by
  refine fw_Call.of ok_Mod_startWalk.1 (Nat.le_of_ble_eq_true rfl) [(0, some (fw_r v0))] rfl ?_
  refine r_ck ?_
  refine r_aload_n (i := 0) rfl rfl rfl ?_
  refine r_aload_n (i := 1) rfl rfl rfl ?_
  refine r_gR (i := 2) (ci := 12) (kf := 26) rfl (Nat.le_of_ble_eq_true rfl) wF_Mod_55 rfl rfl fun x2 => ?_
  refine r_bipush (i := 3) (54 : Int32) kc_bipush_54 rfl rfl ?_
  refine r_aI (i := 4) rfl rfl fun x7 => ?_
  refine r_pI (i := 5) (ci := 12) (kf := 32) rfl (Nat.le_of_ble_eq_true rfl) wF_Mod_330 rfl (tyX12_ok 32 (Nat.le_of_ble_eq_true rfl)) rfl rfl fun h8 => ?_
  refine r_aload_n (i := 6) rfl rfl rfl ?_
  refine r_aload_n (i := 7) rfl rfl rfl ?_
  refine r_gR (i := 8) (ci := 12) (kf := 26) rfl (Nat.le_of_ble_eq_true rfl) wF_Mod_55 rfl rfl fun x13 => ?_
  refine r_bipush (i := 9) (55 : Int32) kc_bipush_55 rfl rfl ?_
  refine r_aI (i := 10) rfl rfl fun x18 => ?_
  refine r_pI (i := 11) (ci := 12) (kf := 33) rfl (Nat.le_of_ble_eq_true rfl) wF_Mod_333 rfl (tyX12_ok 33 (Nat.le_of_ble_eq_true rfl)) rfl rfl fun h19 => ?_
  refine r_aload_n (i := 12) rfl rfl rfl ?_
  refine r_aload_n (i := 13) rfl rfl rfl ?_
  refine r_gR (i := 14) (ci := 12) (kf := 26) rfl (Nat.le_of_ble_eq_true rfl) wF_Mod_55 rfl rfl fun x24 => ?_
  refine r_bipush (i := 15) (56 : Int32) kc_bipush_56 rfl rfl ?_
  refine r_aI (i := 16) rfl rfl fun x29 => ?_
  refine r_bipush (i := 17) (24 : Int32) kc_bipush_24 rfl rfl ?_
  refine r_iremN (i := 18) rfl rfl fun x32 => ?_
  refine r_pI (i := 19) (ci := 12) (kf := 34) rfl (Nat.le_of_ble_eq_true rfl) wF_Mod_336 rfl (tyX12_ok 34 (Nat.le_of_ble_eq_true rfl)) rfl rfl fun h33 => ?_
  exact r_retV (i := 20) rfl rfl rfl rfl
-- Mod_goTo
def s_Mod_goTo (h : fw_H) (v0 : Option Nat) (v1 : Int32) : Option fw_H :=
(f_ck h v0 12).bind fun _ =>
(f_gI h v0 12 32).bind fun x2 =>
if v1 = x2 then (some h) else
(f_gI h v0 12 32).bind fun x10 =>
(f_pI h v0 12 33 x10).bind fun h13 =>
(f_pI h13 v0 12 32 v1).bind fun h18 =>
some h18
theorem c_Mod_goTo {G : fw_G} {h : fw_H} {v0 : Option Nat} {v1 : Int32} : fw_Call G m_Mod_goTo fw_eV 0 0 0 [fw_r v0, fw_i v1] h (s_Mod_goTo h v0 v1) := by
  refine fw_Call.of ok_Mod_goTo.1 (Nat.le_of_ble_eq_true rfl) [(0, some (fw_r v0)), (1, some (fw_i v1))] rfl ?_
  refine r_ck ?_
  refine r_iload_n (i := 0) rfl rfl rfl ?_
  refine r_aload_n (i := 1) rfl rfl rfl ?_
  refine r_gI (i := 2) (ci := 12) (kf := 32) rfl (Nat.le_of_ble_eq_true rfl) wF_Mod_330 rfl rfl fun x2 => ?_
  refine r_icmp_eq (i := 3) (tgt := 21) rfl rfl rfl ?_ ?_
  · exact r_retV (i := 11) rfl rfl rfl rfl
  · refine r_aload_n (i := 4) rfl rfl rfl ?_
    refine r_aload_n (i := 5) rfl rfl rfl ?_
    refine r_gI (i := 6) (ci := 12) (kf := 32) rfl (Nat.le_of_ble_eq_true rfl) wF_Mod_330 rfl rfl fun x10 => ?_
    refine r_pI (i := 7) (ci := 12) (kf := 33) rfl (Nat.le_of_ble_eq_true rfl) wF_Mod_333 rfl (tyX12_ok 33 (Nat.le_of_ble_eq_true rfl)) rfl rfl fun h13 => ?_
    refine r_aload_n (i := 8) rfl rfl rfl ?_
    refine r_iload_n (i := 9) rfl rfl rfl ?_
    refine r_pI (i := 10) (ci := 12) (kf := 32) rfl (Nat.le_of_ble_eq_true rfl) wF_Mod_330 rfl (tyX12_ok 32 (Nat.le_of_ble_eq_true rfl)) rfl rfl fun h18 => ?_
    exact r_retV (i := 11) rfl rfl rfl rfl
-- Mod_walk
def s_Mod_walk (F : Nat) (h : fw_H) (v0 : Option Nat) : Option fw_H :=
(f_ck h v0 12).bind fun _ =>
(f_gI h v0 12 32).bind fun x3 =>
(f_gI h v0 12 33).bind fun x7 =>
(f_gI h v0 12 34).bind fun x11 =>
(s_Mod_nextOf F h v0 x3 x7 x11).bind fun x14 =>
(s_Mod_goTo x14.2 v0 x14.1).bind fun h17 =>
(f_gI h17 v0 12 34).bind fun x22 =>
(f_irem (x22 + (1 : Int32)) (24 : Int32)).bind fun x29 =>
(f_pI h17 v0 12 34 x29).bind fun h30 =>
some h30
theorem c_Mod_walk {G : fw_G} (F : Nat) {h : fw_H} {v0 : Option Nat} : fw_Call G m_Mod_walk fw_eV 7 0 0 [fw_r v0] h (s_Mod_walk F h v0) := by
  refine fw_Call.of ok_Mod_walk.1 (Nat.le_of_ble_eq_true rfl) [(0, some (fw_r v0))] rfl ?_
  refine r_ck ?_
  refine r_aload_n (i := 0) rfl rfl rfl ?_
  refine r_aload_n (i := 1) rfl rfl rfl ?_
  refine r_aload_n (i := 2) rfl rfl rfl ?_
  refine r_gI (i := 3) (ci := 12) (kf := 32) rfl (Nat.le_of_ble_eq_true rfl) wF_Mod_330 rfl rfl fun x3 => ?_
  refine r_aload_n (i := 4) rfl rfl rfl ?_
  refine r_gI (i := 5) (ci := 12) (kf := 33) rfl (Nat.le_of_ble_eq_true rfl) wF_Mod_333 rfl rfl fun x7 => ?_
  refine r_aload_n (i := 6) rfl rfl rfl ?_
  refine r_gI (i := 7) (ci := 12) (kf := 34) rfl (Nat.le_of_ble_eq_true rfl) wF_Mod_336 rfl rfl fun x11 => ?_
  refine r_VwI3 (i := 8) (k2 := 0) (n2 := 0) ok_Mod_nextOf wM_Mod_308 (c_Mod_nextOf F) (fun _ e => fw_ckb e) (Nat.le_of_ble_eq_true rfl) (Nat.le_of_ble_eq_true rfl) (Nat.le_of_ble_eq_true rfl) (Nat.le_of_ble_eq_true rfl) rfl rfl fun x14 => ?_
  refine r_VV1 (i := 9) (k2 := 0) (n2 := 0) ok_Mod_goTo wM_Mod_339 (c_Mod_goTo) (fun _ e => fw_ckb e) (Nat.le_of_ble_eq_true rfl) (Nat.le_of_ble_eq_true rfl) (Nat.le_of_ble_eq_true rfl) (Nat.le_of_ble_eq_true rfl) rfl rfl fun h17 => ?_
  refine r_aload_n (i := 10) rfl rfl rfl ?_
  refine r_aload_n (i := 11) rfl rfl rfl ?_
  refine r_gI (i := 12) (ci := 12) (kf := 34) rfl (Nat.le_of_ble_eq_true rfl) wF_Mod_336 rfl rfl fun x22 => ?_
  refine r_iconst (i := 13) (1 : Int32) kc_iconst_1 rfl rfl ?_
  refine r_iadd (i := 14) rfl rfl ?_
  refine r_bipush (i := 15) (24 : Int32) kc_bipush_24 rfl rfl ?_
  refine r_iremN (i := 16) rfl rfl fun x29 => ?_
  refine r_pI (i := 17) (ci := 12) (kf := 34) rfl (Nat.le_of_ble_eq_true rfl) wF_Mod_336 rfl (tyX12_ok 34 (Nat.le_of_ble_eq_true rfl)) rfl rfl fun h30 => ?_
  exact r_retV (i := 18) rfl rfl rfl rfl
-- Mod_whereBehind
def l_Mod_whereBehind_6 (F : Nat) (v0 : Option Nat) (v1 : Int32) : Nat → Int32 → fw_H → Option (Int32 × fw_H)
  | 0, _, _ => none
  | nn + 1, a6_2, g6 =>
    if v1 ≤ a6_2 then ((f_gI g6 v0 12 32).bind fun x22 =>
    some (x22, g6)) else
    (s_Mod_walk F g6 v0).bind fun h12 =>
    l_Mod_whereBehind_6 F v0 v1 nn (a6_2 + (1 : Int32)) h12
theorem cl_Mod_whereBehind_6 {G : fw_G} {F : Nat} {v0 : Option Nat} {v1 : Int32} : ∀ (nn : Nat) (a6_2 : Int32) (g6 : fw_H), fw_R G m_Mod_whereBehind fw_wI 8 0 0 6 [(0, some (fw_r v0)), (1, some (fw_i v1)), (2, some (fw_i a6_2))] [] g6 (l_Mod_whereBehind_6 F v0 v1 nn a6_2 g6) := by
  intro nn
  induction nn with
  | zero => intros; exact r_none
  | succ nn ih =>
    intro a6_2 g6
    rw [l_Mod_whereBehind_6]
    refine r_iload_n (i := 4) rfl rfl rfl ?_
    refine r_iload_n (i := 5) rfl rfl rfl ?_
    refine r_icmp_ge (i := 6) (tgt := 21) rfl rfl rfl ?_ ?_
    · refine r_aload_n (i := 11) rfl rfl rfl ?_
      refine r_gI (i := 12) (ci := 12) (kf := 32) rfl (Nat.le_of_ble_eq_true rfl) wF_Mod_330 rfl rfl fun x22 => ?_
      exact r_retI (i := 13) rfl rfl rfl rfl
    · refine r_aload_n (i := 7) rfl rfl rfl ?_
      refine r_VV0 (i := 8) (k2 := 0) (n2 := 0) ok_Mod_walk wM_Mod_345 (c_Mod_walk F) (fun _ e => fw_ckb e) (Nat.le_of_ble_eq_true rfl) (Nat.le_of_ble_eq_true rfl) (Nat.le_of_ble_eq_true rfl) (Nat.le_of_ble_eq_true rfl) rfl rfl fun h12 => ?_
      refine r_iinc (i := 9) (1 : Int32) kc_iconst_1 rfl rfl rfl (Nat.le_of_ble_eq_true rfl) ?_
      refine r_goto (i := 10) (tgt := 6) rfl rfl rfl ?_
      exact r_lv (fw_sub1 rfl (fw_sub1 rfl (fw_sub1 rfl fw_sub0))) (ih (a6_2 + (1 : Int32)) h12)
def s_Mod_whereBehind (F : Nat) (h : fw_H) (v0 : Option Nat) (v1 : Int32) : Option (Int32 × fw_H) :=
(f_ck h v0 12).bind fun _ =>
(s_Mod_startWalk h v0).bind fun h1 =>
l_Mod_whereBehind_6 F v0 v1 F (0 : Int32) h1
theorem c_Mod_whereBehind {G : fw_G} (F : Nat) {h : fw_H} {v0 : Option Nat} {v1 : Int32} : fw_Call G m_Mod_whereBehind fw_wI 8 0 0 [fw_r v0, fw_i v1] h (s_Mod_whereBehind F h v0 v1) := by
  refine fw_Call.of ok_Mod_whereBehind.1 (Nat.le_of_ble_eq_true rfl) [(0, some (fw_r v0)), (1, some (fw_i v1))] rfl ?_
  refine r_ck ?_
  refine r_aload_n (i := 0) rfl rfl rfl ?_
  refine r_VV0 (i := 1) (k2 := 0) (n2 := 0) ok_Mod_startWalk wM_Mod_342 (c_Mod_startWalk) (fun _ e => fw_ckb e) (Nat.le_of_ble_eq_true rfl) (Nat.le_of_ble_eq_true rfl) (Nat.le_of_ble_eq_true rfl) (Nat.le_of_ble_eq_true rfl) rfl rfl fun h1 => ?_
  refine r_iconst (i := 2) (0 : Int32) kc_iconst_0 rfl rfl ?_
  refine r_istore_n (i := 3) rfl rfl (Nat.le_of_ble_eq_true rfl) rfl ?_
  refine r_lv (fw_sub1 rfl (fw_sub1 rfl (fw_sub1 rfl fw_sub0))) (cl_Mod_whereBehind_6 F _ _)
-- Mod_ahead
def s_Mod_ahead (F : Nat) (h : fw_H) (v0 : Option Nat) (v1 : Int32) : Option (Int32 × fw_H) :=
(f_ck h v0 12).bind fun _ =>
(f_gI h v0 12 24).bind fun x1 =>
if x1 ≤ (0 : Int32) then (some ((-1 : Int32), h)) else
(s_Mod_in v1 (0 : Int32) (99 : Int32)).bind fun x11 =>
if x11 = true then ((s_Mod_whereBehind F h v0 v1).bind fun x19 =>
some (x19.1, x19.2)) else
some ((-1 : Int32), h)
theorem c_Mod_ahead {G : fw_G} (F : Nat) {h : fw_H} {v0 : Option Nat} {v1 : Int32} : fw_Call G m_Mod_ahead fw_wI 9 0 0 [fw_r v0, fw_i v1] h (s_Mod_ahead F h v0 v1) := by
  refine fw_Call.of ok_Mod_ahead.1 (Nat.le_of_ble_eq_true rfl) [(0, some (fw_r v0)), (1, some (fw_i v1))] rfl ?_
  refine r_ck ?_
  refine r_aload_n (i := 0) rfl rfl rfl ?_
  refine r_gI (i := 1) (ci := 12) (kf := 24) rfl (Nat.le_of_ble_eq_true rfl) wF_Mod_250 rfl rfl fun x1 => ?_
  refine r_if_le (i := 2) (tgt := 25) rfl rfl rfl ?_ ?_
  · refine r_iconst (i := 12) (-1 : Int32) kc_iconst_m1 rfl rfl ?_
    exact r_retI (i := 13) rfl rfl rfl rfl
  · refine r_iload_n (i := 3) rfl rfl rfl ?_
    refine r_iconst (i := 4) (0 : Int32) kc_iconst_0 rfl rfl ?_
    refine r_bipush (i := 5) (99 : Int32) kc_bipush_99 rfl rfl ?_
    refine r_SB3 (i := 6) (k2 := 0) (n2 := 0) ok_Mod_in wM_Mod_275 (c_Mod_in) (Nat.le_of_ble_eq_true rfl) (Nat.le_of_ble_eq_true rfl) (Nat.le_of_ble_eq_true rfl) (Nat.le_of_ble_eq_true rfl) rfl rfl fun x11 => ?_
    refine r_ifeqB (i := 7) (tgt := 25) rfl rfl rfl ?_ ?_
    · refine r_iconst (i := 12) (-1 : Int32) kc_iconst_m1 rfl rfl ?_
      exact r_retI (i := 13) rfl rfl rfl rfl
    · refine r_aload_n (i := 8) rfl rfl rfl ?_
      refine r_iload_n (i := 9) rfl rfl rfl ?_
      refine r_VwI1 (i := 10) (k2 := 0) (n2 := 0) ok_Mod_whereBehind wM_Mod_348 (c_Mod_whereBehind F) (fun _ e => fw_ckb e) (Nat.le_of_ble_eq_true rfl) (Nat.le_of_ble_eq_true rfl) (Nat.le_of_ble_eq_true rfl) (Nat.le_of_ble_eq_true rfl) rfl rfl fun x19 => ?_
      refine r_goto (i := 11) (tgt := 26) rfl rfl rfl ?_
      exact r_retI (i := 13) rfl rfl rfl rfl
-- Mod_stateOf
def s_Mod_stateOf (v0 : Int32) (v1 : Int32) : Option Int32 :=
if ¬ v1 = (-1 : Int32) then (some (((13 : Int32) * v0) + v1)) else
some (((13 : Int32) * v0) + (12 : Int32))
theorem c_Mod_stateOf {G : fw_G} {h : fw_H} {v0 : Int32} {v1 : Int32} : fw_Call G m_Mod_stateOf (fw_eI h) 0 0 0 [fw_i v0, fw_i v1] h (s_Mod_stateOf v0 v1) := by
  refine fw_Call.of ok_Mod_stateOf.1 (Nat.le_of_ble_eq_true rfl) [(0, some (fw_i v0)), (1, some (fw_i v1))] rfl ?_
  refine r_bipush (i := 0) (13 : Int32) kc_bipush_13 rfl rfl ?_
  refine r_iload_n (i := 1) rfl rfl rfl ?_
  refine r_imul (i := 2) rfl rfl ?_
  refine r_iload_n (i := 3) rfl rfl rfl ?_
  refine r_iconst (i := 4) (-1 : Int32) kc_iconst_m1 rfl rfl ?_
  refine r_icmp_ne (i := 5) (tgt := 14) rfl rfl rfl ?_ ?_
  · refine r_iload_n (i := 8) rfl rfl rfl ?_
    refine r_iadd (i := 9) rfl rfl ?_
    exact r_retI (i := 10) rfl rfl rfl rfl
  · refine r_bipush (i := 6) (12 : Int32) kc_bipush_12 rfl rfl ?_
    refine r_goto (i := 7) (tgt := 15) rfl rfl rfl ?_
    refine r_iadd (i := 9) rfl rfl ?_
    exact r_retI (i := 10) rfl rfl rfl rfl
-- Mod_layRing
def l_Mod_layRing_2 (v0 : Option Nat) (K22 : fw_H → Option fw_H) : Nat → Int32 → fw_H → Option fw_H
  | 0, _, _ => none
  | nn + 1, a2_1, g2 =>
    if (3744 : Int32) ≤ a2_1 then (K22 g2) else
    (f_gR g2 v0 12 35).bind fun x10 =>
    (f_sI g2 x10 a2_1 (-1 : Int32)).bind fun h15 =>
    l_Mod_layRing_2 v0 K22 nn (a2_1 + (1 : Int32)) h15
theorem cl_Mod_layRing_2 {G : fw_G} {v0 : Option Nat} {K22 : fw_H → Option fw_H} (hK22 : ∀ (he22 : fw_H), fw_R G m_Mod_layRing fw_eV 8 0 0 22 [(0, some (fw_r v0))] [] he22 (K22 he22)) : ∀ (nn : Nat) (a2_1 : Int32) (g2 : fw_H), fw_R G m_Mod_layRing fw_eV 8 0 0 2 [(0, some (fw_r v0)), (1, some (fw_i a2_1))] [] g2 (l_Mod_layRing_2 v0 K22 nn a2_1 g2) := by
  intro nn
  induction nn with
  | zero => intros; exact r_none
  | succ nn ih =>
    intro a2_1 g2
    rw [l_Mod_layRing_2]
    refine r_iload_n (i := 2) rfl rfl rfl ?_
    refine r_sipush (i := 3) (3744 : Int32) kc_sipush_3744 rfl rfl ?_
    refine r_icmp_ge (i := 4) (tgt := 22) rfl rfl rfl ?_ ?_
    · exact r_lv (fw_sub1 rfl fw_sub0) (hK22 g2)
    · refine r_aload_n (i := 5) rfl rfl rfl ?_
      refine r_gR (i := 6) (ci := 12) (kf := 35) rfl (Nat.le_of_ble_eq_true rfl) wF_Mod_68 rfl rfl fun x10 => ?_
      refine r_iload_n (i := 7) rfl rfl rfl ?_
      refine r_iconst (i := 8) (-1 : Int32) kc_iconst_m1 rfl rfl ?_
      refine r_sI (i := 9) rfl rfl fun h15 => ?_
      refine r_iinc (i := 10) (1 : Int32) kc_iconst_1 rfl rfl rfl (Nat.le_of_ble_eq_true rfl) ?_
      refine r_goto (i := 11) (tgt := 2) rfl rfl rfl ?_
      exact r_lv (fw_sub1 rfl (fw_sub1 rfl fw_sub0)) (ih (a2_1 + (1 : Int32)) h15)
def l_Mod_layRing_53 (F : Nat) (v0 : Option Nat) (K115 : Int32 → Int32 → fw_H → Option fw_H) : Nat → Int32 → Int32 → fw_H → Option fw_H
  | 0, _, _, _ => none
  | nn + 1, a53_1, a53_2, g53 =>
    (f_gR g53 v0 12 35).bind fun x54 =>
    (f_aI g53 x54 a53_2).bind fun x58 =>
    if ¬ x58 = (-1 : Int32) then (K115 a53_1 a53_2 g53) else
    (f_gR g53 v0 12 35).bind fun x64 =>
    (f_sI g53 x64 a53_2 a53_1).bind fun h69 =>
    (f_gI h69 v0 12 38).bind fun x72 =>
    (f_gI h69 v0 12 32).bind fun x77 =>
    (f_pI h69 v0 12 38 (x72 ||| ((1 : Int32) <<< (x77 &&& 31)))).bind fun h82 =>
    (s_Mod_walk F h82 v0).bind fun h86 =>
    (f_gI h86 v0 12 32).bind fun x95 =>
    (f_gI h86 v0 12 33).bind fun x99 =>
    (s_Mod_stateOf x95 x99).bind fun x102 =>
    (f_gI h86 v0 12 34).bind fun x107 =>
    l_Mod_layRing_53 F v0 K115 nn (a53_1 + (1 : Int32)) (((24 : Int32) * x102) + x107) h86
theorem cl_Mod_layRing_53 {G : fw_G} {F : Nat} {v0 : Option Nat} {K115 : Int32 → Int32 → fw_H → Option fw_H} (hK115 : ∀ (e115_1 : Int32) (e115_2 : Int32) (he115 : fw_H), fw_R G m_Mod_layRing fw_eV 8 0 0 115 [(0, some (fw_r v0)), (1, some (fw_i e115_1)), (2, some (fw_i e115_2))] [] he115 (K115 e115_1 e115_2 he115)) : ∀ (nn : Nat) (a53_1 : Int32) (a53_2 : Int32) (g53 : fw_H), fw_R G m_Mod_layRing fw_eV 8 0 0 53 [(0, some (fw_r v0)), (1, some (fw_i a53_1)), (2, some (fw_i a53_2))] [] g53 (l_Mod_layRing_53 F v0 K115 nn a53_1 a53_2 g53) := by
  intro nn
  induction nn with
  | zero => intros; exact r_none
  | succ nn ih =>
    intro a53_1 a53_2 g53
    rw [l_Mod_layRing_53]
    refine r_aload_n (i := 30) rfl rfl rfl ?_
    refine r_gR (i := 31) (ci := 12) (kf := 35) rfl (Nat.le_of_ble_eq_true rfl) wF_Mod_68 rfl rfl fun x54 => ?_
    refine r_iload_n (i := 32) rfl rfl rfl ?_
    refine r_aI (i := 33) rfl rfl fun x58 => ?_
    refine r_iconst (i := 34) (-1 : Int32) kc_iconst_m1 rfl rfl ?_
    refine r_icmp_ne (i := 35) (tgt := 115) rfl rfl rfl ?_ ?_
    · exact r_lv (fw_sub1 rfl (fw_sub1 rfl (fw_sub1 rfl fw_sub0))) (hK115 a53_1 a53_2 g53)
    · refine r_aload_n (i := 36) rfl rfl rfl ?_
      refine r_gR (i := 37) (ci := 12) (kf := 35) rfl (Nat.le_of_ble_eq_true rfl) wF_Mod_68 rfl rfl fun x64 => ?_
      refine r_iload_n (i := 38) rfl rfl rfl ?_
      refine r_iload_n (i := 39) rfl rfl rfl ?_
      refine r_sI (i := 40) rfl rfl fun h69 => ?_
      refine r_aload_n (i := 41) rfl rfl rfl ?_
      refine r_dup_r (i := 42) rfl rfl ?_
      refine r_gI (i := 43) (ci := 12) (kf := 38) rfl (Nat.le_of_ble_eq_true rfl) wF_Mod_351 rfl rfl fun x72 => ?_
      refine r_iconst (i := 44) (1 : Int32) kc_iconst_1 rfl rfl ?_
      refine r_aload_n (i := 45) rfl rfl rfl ?_
      refine r_gI (i := 46) (ci := 12) (kf := 32) rfl (Nat.le_of_ble_eq_true rfl) wF_Mod_330 rfl rfl fun x77 => ?_
      refine r_ishl (i := 47) rfl rfl ?_
      refine r_ior (i := 48) rfl rfl ?_
      refine r_pI (i := 49) (ci := 12) (kf := 38) rfl (Nat.le_of_ble_eq_true rfl) wF_Mod_351 rfl (tyX12_ok 38 (Nat.le_of_ble_eq_true rfl)) rfl rfl fun h82 => ?_
      refine r_aload_n (i := 50) rfl rfl rfl ?_
      refine r_VV0 (i := 51) (k2 := 0) (n2 := 0) ok_Mod_walk wM_Mod_345 (c_Mod_walk F) (fun _ e => fw_ckb e) (Nat.le_of_ble_eq_true rfl) (Nat.le_of_ble_eq_true rfl) (Nat.le_of_ble_eq_true rfl) (Nat.le_of_ble_eq_true rfl) rfl rfl fun h86 => ?_
      refine r_iinc (i := 52) (1 : Int32) kc_iconst_1 rfl rfl rfl (Nat.le_of_ble_eq_true rfl) ?_
      refine r_bipush (i := 53) (24 : Int32) kc_bipush_24 rfl rfl ?_
      refine r_aload_n (i := 54) rfl rfl rfl ?_
      refine r_gI (i := 55) (ci := 12) (kf := 32) rfl (Nat.le_of_ble_eq_true rfl) wF_Mod_330 rfl rfl fun x95 => ?_
      refine r_aload_n (i := 56) rfl rfl rfl ?_
      refine r_gI (i := 57) (ci := 12) (kf := 33) rfl (Nat.le_of_ble_eq_true rfl) wF_Mod_333 rfl rfl fun x99 => ?_
      refine r_SI2 (i := 58) (k2 := 0) (n2 := 0) ok_Mod_stateOf wM_Mod_354 (c_Mod_stateOf) (Nat.le_of_ble_eq_true rfl) (Nat.le_of_ble_eq_true rfl) (Nat.le_of_ble_eq_true rfl) (Nat.le_of_ble_eq_true rfl) rfl rfl fun x102 => ?_
      refine r_imul (i := 59) rfl rfl ?_
      refine r_aload_n (i := 60) rfl rfl rfl ?_
      refine r_gI (i := 61) (ci := 12) (kf := 34) rfl (Nat.le_of_ble_eq_true rfl) wF_Mod_336 rfl rfl fun x107 => ?_
      refine r_iadd (i := 62) rfl rfl ?_
      refine r_istore_n (i := 63) rfl rfl (Nat.le_of_ble_eq_true rfl) rfl ?_
      refine r_goto (i := 64) (tgt := 53) rfl rfl rfl ?_
      exact r_lv (fw_sub1 rfl (fw_sub1 rfl (fw_sub1 rfl fw_sub0))) (ih (a53_1 + (1 : Int32)) (((24 : Int32) * x102) + x107) h86)
def l_Mod_layRing_142 (F : Nat) (v0 : Option Nat) : Nat → Int32 → fw_H → Option fw_H
  | 0, _, _ => none
  | nn + 1, a142_3, g142 =>
    (f_gI g142 v0 12 37).bind fun x144 =>
    if x144 ≤ a142_3 then (some g142) else
    (f_gI g142 v0 12 39).bind fun x152 =>
    (f_gI g142 v0 12 32).bind fun x157 =>
    (f_pI g142 v0 12 39 (x152 ||| ((1 : Int32) <<< (x157 &&& 31)))).bind fun h162 =>
    (s_Mod_walk F h162 v0).bind fun h166 =>
    l_Mod_layRing_142 F v0 nn (a142_3 + (1 : Int32)) h166
theorem cl_Mod_layRing_142 {G : fw_G} {F : Nat} {v0 : Option Nat} : ∀ (nn : Nat) (a142_3 : Int32) (g142 : fw_H), fw_R G m_Mod_layRing fw_eV 8 0 0 142 [(0, some (fw_r v0)), (3, some (fw_i a142_3))] [] g142 (l_Mod_layRing_142 F v0 nn a142_3 g142) := by
  intro nn
  induction nn with
  | zero => intros; exact r_none
  | succ nn ih =>
    intro a142_3 g142
    rw [l_Mod_layRing_142]
    refine r_iload_n (i := 82) rfl rfl rfl ?_
    refine r_aload_n (i := 83) rfl rfl rfl ?_
    refine r_gI (i := 84) (ci := 12) (kf := 37) rfl (Nat.le_of_ble_eq_true rfl) wF_Mod_360 rfl rfl fun x144 => ?_
    refine r_icmp_ge (i := 85) (tgt := 175) rfl rfl rfl ?_ ?_
    · exact r_retV (i := 99) rfl rfl rfl rfl
    · refine r_aload_n (i := 86) rfl rfl rfl ?_
      refine r_dup_r (i := 87) rfl rfl ?_
      refine r_gI (i := 88) (ci := 12) (kf := 39) rfl (Nat.le_of_ble_eq_true rfl) wF_Mod_363 rfl rfl fun x152 => ?_
      refine r_iconst (i := 89) (1 : Int32) kc_iconst_1 rfl rfl ?_
      refine r_aload_n (i := 90) rfl rfl rfl ?_
      refine r_gI (i := 91) (ci := 12) (kf := 32) rfl (Nat.le_of_ble_eq_true rfl) wF_Mod_330 rfl rfl fun x157 => ?_
      refine r_ishl (i := 92) rfl rfl ?_
      refine r_ior (i := 93) rfl rfl ?_
      refine r_pI (i := 94) (ci := 12) (kf := 39) rfl (Nat.le_of_ble_eq_true rfl) wF_Mod_363 rfl (tyX12_ok 39 (Nat.le_of_ble_eq_true rfl)) rfl rfl fun h162 => ?_
      refine r_aload_n (i := 95) rfl rfl rfl ?_
      refine r_VV0 (i := 96) (k2 := 0) (n2 := 0) ok_Mod_walk wM_Mod_345 (c_Mod_walk F) (fun _ e => fw_ckb e) (Nat.le_of_ble_eq_true rfl) (Nat.le_of_ble_eq_true rfl) (Nat.le_of_ble_eq_true rfl) (Nat.le_of_ble_eq_true rfl) rfl rfl fun h166 => ?_
      refine r_iinc (i := 97) (1 : Int32) kc_iconst_1 rfl rfl rfl (Nat.le_of_ble_eq_true rfl) ?_
      refine r_goto (i := 98) (tgt := 142) rfl rfl rfl ?_
      exact r_lv (fw_sub1 rfl (fw_sub1 rfl fw_sub0)) (ih (a142_3 + (1 : Int32)) h166)
def s_Mod_layRing (F : Nat) (h : fw_H) (v0 : Option Nat) : Option fw_H :=
(f_ck h v0 12).bind fun _ =>
l_Mod_layRing_2 v0 (fun he22 =>
(s_Mod_startWalk he22 v0).bind fun h23 =>
(f_pI h23 v0 12 38 (0 : Int32)).bind fun h28 =>
(f_gI h28 v0 12 32).bind fun x36 =>
(f_gI h28 v0 12 33).bind fun x40 =>
(s_Mod_stateOf x36 x40).bind fun x43 =>
(f_gI h28 v0 12 34).bind fun x48 =>
l_Mod_layRing_53 F v0 (fun e115_1 e115_2 he115 =>
(f_gR he115 v0 12 35).bind fun x117 =>
(f_aI he115 x117 e115_2).bind fun x121 =>
(f_pI he115 v0 12 36 x121).bind fun h122 =>
(f_gI h122 v0 12 36).bind fun x128 =>
(f_pI h122 v0 12 37 (e115_1 - x128)).bind fun h132 =>
(f_pI h132 v0 12 39 (0 : Int32)).bind fun h137 =>
l_Mod_layRing_142 F v0 F (0 : Int32) h137) F (0 : Int32) (((24 : Int32) * x43) + x48) h28) F (0 : Int32) h
theorem c_Mod_layRing {G : fw_G} (F : Nat) {h : fw_H} {v0 : Option Nat} : fw_Call G m_Mod_layRing fw_eV 8 0 0 [fw_r v0] h (s_Mod_layRing F h v0) := by
  refine fw_Call.of ok_Mod_layRing.1 (Nat.le_of_ble_eq_true rfl) [(0, some (fw_r v0))] rfl ?_
  refine r_ck ?_
  refine r_iconst (i := 0) (0 : Int32) kc_iconst_0 rfl rfl ?_
  refine r_istore_n (i := 1) rfl rfl (Nat.le_of_ble_eq_true rfl) rfl ?_
  refine r_lv (fw_sub1 rfl (fw_sub1 rfl fw_sub0)) (cl_Mod_layRing_2 ?_ F _ _)
  · intro he22
    refine r_aload_n (i := 12) rfl rfl rfl ?_
    refine r_VV0 (i := 13) (k2 := 0) (n2 := 0) ok_Mod_startWalk wM_Mod_342 (c_Mod_startWalk) (fun _ e => fw_ckb e) (Nat.le_of_ble_eq_true rfl) (Nat.le_of_ble_eq_true rfl) (Nat.le_of_ble_eq_true rfl) (Nat.le_of_ble_eq_true rfl) rfl rfl fun h23 => ?_
    refine r_aload_n (i := 14) rfl rfl rfl ?_
    refine r_iconst (i := 15) (0 : Int32) kc_iconst_0 rfl rfl ?_
    refine r_pI (i := 16) (ci := 12) (kf := 38) rfl (Nat.le_of_ble_eq_true rfl) wF_Mod_351 rfl (tyX12_ok 38 (Nat.le_of_ble_eq_true rfl)) rfl rfl fun h28 => ?_
    refine r_iconst (i := 17) (0 : Int32) kc_iconst_0 rfl rfl ?_
    refine r_istore_n (i := 18) rfl rfl (Nat.le_of_ble_eq_true rfl) rfl ?_
    refine r_bipush (i := 19) (24 : Int32) kc_bipush_24 rfl rfl ?_
    refine r_aload_n (i := 20) rfl rfl rfl ?_
    refine r_gI (i := 21) (ci := 12) (kf := 32) rfl (Nat.le_of_ble_eq_true rfl) wF_Mod_330 rfl rfl fun x36 => ?_
    refine r_aload_n (i := 22) rfl rfl rfl ?_
    refine r_gI (i := 23) (ci := 12) (kf := 33) rfl (Nat.le_of_ble_eq_true rfl) wF_Mod_333 rfl rfl fun x40 => ?_
    refine r_SI2 (i := 24) (k2 := 0) (n2 := 0) ok_Mod_stateOf wM_Mod_354 (c_Mod_stateOf) (Nat.le_of_ble_eq_true rfl) (Nat.le_of_ble_eq_true rfl) (Nat.le_of_ble_eq_true rfl) (Nat.le_of_ble_eq_true rfl) rfl rfl fun x43 => ?_
    refine r_imul (i := 25) rfl rfl ?_
    refine r_aload_n (i := 26) rfl rfl rfl ?_
    refine r_gI (i := 27) (ci := 12) (kf := 34) rfl (Nat.le_of_ble_eq_true rfl) wF_Mod_336 rfl rfl fun x48 => ?_
    refine r_iadd (i := 28) rfl rfl ?_
    refine r_istore_n (i := 29) rfl rfl (Nat.le_of_ble_eq_true rfl) rfl ?_
    refine r_lv (fw_sub1 rfl (fw_sub1 rfl (fw_sub1 rfl fw_sub0))) (cl_Mod_layRing_53 ?_ F _ _ _)
    · intro e115_1 e115_2 he115
      refine r_aload_n (i := 65) rfl rfl rfl ?_
      refine r_aload_n (i := 66) rfl rfl rfl ?_
      refine r_gR (i := 67) (ci := 12) (kf := 35) rfl (Nat.le_of_ble_eq_true rfl) wF_Mod_68 rfl rfl fun x117 => ?_
      refine r_iload_n (i := 68) rfl rfl rfl ?_
      refine r_aI (i := 69) rfl rfl fun x121 => ?_
      refine r_pI (i := 70) (ci := 12) (kf := 36) rfl (Nat.le_of_ble_eq_true rfl) wF_Mod_357 rfl (tyX12_ok 36 (Nat.le_of_ble_eq_true rfl)) rfl rfl fun h122 => ?_
      refine r_aload_n (i := 71) rfl rfl rfl ?_
      refine r_iload_n (i := 72) rfl rfl rfl ?_
      refine r_aload_n (i := 73) rfl rfl rfl ?_
      refine r_gI (i := 74) (ci := 12) (kf := 36) rfl (Nat.le_of_ble_eq_true rfl) wF_Mod_357 rfl rfl fun x128 => ?_
      refine r_isub (i := 75) rfl rfl ?_
      refine r_pI (i := 76) (ci := 12) (kf := 37) rfl (Nat.le_of_ble_eq_true rfl) wF_Mod_360 rfl (tyX12_ok 37 (Nat.le_of_ble_eq_true rfl)) rfl rfl fun h132 => ?_
      refine r_aload_n (i := 77) rfl rfl rfl ?_
      refine r_iconst (i := 78) (0 : Int32) kc_iconst_0 rfl rfl ?_
      refine r_pI (i := 79) (ci := 12) (kf := 39) rfl (Nat.le_of_ble_eq_true rfl) wF_Mod_363 rfl (tyX12_ok 39 (Nat.le_of_ble_eq_true rfl)) rfl rfl fun h137 => ?_
      refine r_iconst (i := 80) (0 : Int32) kc_iconst_0 rfl rfl ?_
      refine r_istore_n (i := 81) rfl rfl (Nat.le_of_ble_eq_true rfl) rfl ?_
      refine r_lv (fw_sub1 rfl (fw_sub1 rfl fw_sub0)) (cl_Mod_layRing_142 F _ _)
-- Mod_when
def l_Mod_when_33 (F : Nat) (v0 : Option Nat) (v1 : Int32) : Nat → Int32 → fw_H → Option (Int32 × fw_H)
  | 0, _, _ => none
  | nn + 1, a33_2, g33 =>
    (f_gI g33 v0 12 32).bind fun x34 =>
    if x34 = v1 then (some (a33_2, g33)) else
    (s_Mod_walk F g33 v0).bind fun h42 =>
    l_Mod_when_33 F v0 v1 nn (a33_2 + (1 : Int32)) h42
theorem cl_Mod_when_33 {G : fw_G} {F : Nat} {v0 : Option Nat} {v1 : Int32} : ∀ (nn : Nat) (a33_2 : Int32) (g33 : fw_H), fw_R G m_Mod_when fw_wI 9 0 0 33 [(0, some (fw_r v0)), (1, some (fw_i v1)), (2, some (fw_i a33_2))] [] g33 (l_Mod_when_33 F v0 v1 nn a33_2 g33) := by
  intro nn
  induction nn with
  | zero => intros; exact r_none
  | succ nn ih =>
    intro a33_2 g33
    rw [l_Mod_when_33]
    refine r_aload_n (i := 19) rfl rfl rfl ?_
    refine r_gI (i := 20) (ci := 12) (kf := 32) rfl (Nat.le_of_ble_eq_true rfl) wF_Mod_330 rfl rfl fun x34 => ?_
    refine r_iload_n (i := 21) rfl rfl rfl ?_
    refine r_icmp_eq (i := 22) (tgt := 51) rfl rfl rfl ?_ ?_
    · refine r_iload_n (i := 27) rfl rfl rfl ?_
      exact r_retI (i := 28) rfl rfl rfl rfl
    · refine r_aload_n (i := 23) rfl rfl rfl ?_
      refine r_VV0 (i := 24) (k2 := 0) (n2 := 0) ok_Mod_walk wM_Mod_345 (c_Mod_walk F) (fun _ e => fw_ckb e) (Nat.le_of_ble_eq_true rfl) (Nat.le_of_ble_eq_true rfl) (Nat.le_of_ble_eq_true rfl) (Nat.le_of_ble_eq_true rfl) rfl rfl fun h42 => ?_
      refine r_iinc (i := 25) (1 : Int32) kc_iconst_1 rfl rfl rfl (Nat.le_of_ble_eq_true rfl) ?_
      refine r_goto (i := 26) (tgt := 33) rfl rfl rfl ?_
      exact r_lv (fw_sub1 rfl (fw_sub1 rfl (fw_sub1 rfl fw_sub0))) (ih (a33_2 + (1 : Int32)) h42)
def s_Mod_when (F : Nat) (h : fw_H) (v0 : Option Nat) (v1 : Int32) : Option (Int32 × fw_H) :=
(f_ck h v0 12).bind fun _ =>
(s_Mod_isHouse h v0 v1).bind fun x2 =>
if x2 = true then ((s_Mod_layRing F h v0).bind fun h11 =>
(f_gI h11 v0 12 38).bind fun x15 =>
(s_Mod_has x15 v1).bind fun x19 =>
if x19 = true then ((s_Mod_startWalk h11 v0).bind fun h28 =>
l_Mod_when_33 F v0 v1 F (0 : Int32) h28) else
some ((-1 : Int32), h11)) else
some ((-1 : Int32), h)
theorem c_Mod_when {G : fw_G} (F : Nat) {h : fw_H} {v0 : Option Nat} {v1 : Int32} : fw_Call G m_Mod_when fw_wI 9 0 0 [fw_r v0, fw_i v1] h (s_Mod_when F h v0 v1) := by
  refine fw_Call.of ok_Mod_when.1 (Nat.le_of_ble_eq_true rfl) [(0, some (fw_r v0)), (1, some (fw_i v1))] rfl ?_
  refine r_ck ?_
  refine r_aload_n (i := 0) rfl rfl rfl ?_
  refine r_iload_n (i := 1) rfl rfl rfl ?_
  refine r_VB1 (i := 2) (k2 := 0) (n2 := 0) ok_Mod_isHouse wM_Mod_279 (c_Mod_isHouse) (fun _ e => fw_ckb e) (Nat.le_of_ble_eq_true rfl) (Nat.le_of_ble_eq_true rfl) (Nat.le_of_ble_eq_true rfl) (Nat.le_of_ble_eq_true rfl) rfl rfl fun x2 => ?_
  refine r_ifneB (i := 3) (tgt := 10) rfl rfl rfl ?_ ?_
  · refine r_aload_n (i := 6) rfl rfl rfl ?_
    refine r_VV0 (i := 7) (k2 := 0) (n2 := 0) ok_Mod_layRing wM_Mod_366 (c_Mod_layRing F) (fun _ e => fw_ckb e) (Nat.le_of_ble_eq_true rfl) (Nat.le_of_ble_eq_true rfl) (Nat.le_of_ble_eq_true rfl) (Nat.le_of_ble_eq_true rfl) rfl rfl fun h11 => ?_
    refine r_aload_n (i := 8) rfl rfl rfl ?_
    refine r_gI (i := 9) (ci := 12) (kf := 38) rfl (Nat.le_of_ble_eq_true rfl) wF_Mod_351 rfl rfl fun x15 => ?_
    refine r_iload_n (i := 10) rfl rfl rfl ?_
    refine r_SB2 (i := 11) (k2 := 0) (n2 := 0) ok_Mod_has wM_Mod_218 (c_Mod_has) (Nat.le_of_ble_eq_true rfl) (Nat.le_of_ble_eq_true rfl) (Nat.le_of_ble_eq_true rfl) (Nat.le_of_ble_eq_true rfl) rfl rfl fun x19 => ?_
    refine r_ifneB (i := 12) (tgt := 27) rfl rfl rfl ?_ ?_
    · refine r_aload_n (i := 15) rfl rfl rfl ?_
      refine r_VV0 (i := 16) (k2 := 0) (n2 := 0) ok_Mod_startWalk wM_Mod_342 (c_Mod_startWalk) (fun _ e => fw_ckb e) (Nat.le_of_ble_eq_true rfl) (Nat.le_of_ble_eq_true rfl) (Nat.le_of_ble_eq_true rfl) (Nat.le_of_ble_eq_true rfl) rfl rfl fun h28 => ?_
      refine r_iconst (i := 17) (0 : Int32) kc_iconst_0 rfl rfl ?_
      refine r_istore_n (i := 18) rfl rfl (Nat.le_of_ble_eq_true rfl) rfl ?_
      refine r_lv (fw_sub1 rfl (fw_sub1 rfl (fw_sub1 rfl fw_sub0))) (cl_Mod_when_33 F _ _)
    · refine r_iconst (i := 13) (-1 : Int32) kc_iconst_m1 rfl rfl ?_
      exact r_retI (i := 14) rfl rfl rfl rfl
  · refine r_iconst (i := 4) (-1 : Int32) kc_iconst_m1 rfl rfl ?_
    exact r_retI (i := 5) rfl rfl rfl rfl
-- Mod_round
def s_Mod_round (F : Nat) (h : fw_H) (v0 : Option Nat) (v1 : Int32) : Option (Int32 × fw_H) :=
(f_ck h v0 12).bind fun _ =>
(f_gI h v0 12 24).bind fun x1 =>
if x1 = (0 : Int32) then (some ((-1 : Int32), h)) else
(s_Mod_in v1 (0 : Int32) (1 : Int32)).bind fun x10 =>
if x10 = true then ((s_Mod_layRing F h v0).bind fun h19 =>
if ¬ v1 = (0 : Int32) then ((f_gI h19 v0 12 37).bind fun x34 =>
some (x34, h19)) else
(f_gI h19 v0 12 36).bind fun x27 =>
some (x27, h19)) else
some ((-1 : Int32), h)
theorem c_Mod_round {G : fw_G} (F : Nat) {h : fw_H} {v0 : Option Nat} {v1 : Int32} : fw_Call G m_Mod_round fw_wI 9 0 0 [fw_r v0, fw_i v1] h (s_Mod_round F h v0 v1) := by
  refine fw_Call.of ok_Mod_round.1 (Nat.le_of_ble_eq_true rfl) [(0, some (fw_r v0)), (1, some (fw_i v1))] rfl ?_
  refine r_ck ?_
  refine r_aload_n (i := 0) rfl rfl rfl ?_
  refine r_gI (i := 1) (ci := 12) (kf := 24) rfl (Nat.le_of_ble_eq_true rfl) wF_Mod_250 rfl rfl fun x1 => ?_
  refine r_if_eq (i := 2) (tgt := 16) rfl rfl rfl ?_ ?_
  · refine r_iconst (i := 8) (-1 : Int32) kc_iconst_m1 rfl rfl ?_
    exact r_retI (i := 9) rfl rfl rfl rfl
  · refine r_iload_n (i := 3) rfl rfl rfl ?_
    refine r_iconst (i := 4) (0 : Int32) kc_iconst_0 rfl rfl ?_
    refine r_iconst (i := 5) (1 : Int32) kc_iconst_1 rfl rfl ?_
    refine r_SB3 (i := 6) (k2 := 0) (n2 := 0) ok_Mod_in wM_Mod_275 (c_Mod_in) (Nat.le_of_ble_eq_true rfl) (Nat.le_of_ble_eq_true rfl) (Nat.le_of_ble_eq_true rfl) (Nat.le_of_ble_eq_true rfl) rfl rfl fun x10 => ?_
    refine r_ifneB (i := 7) (tgt := 18) rfl rfl rfl ?_ ?_
    · refine r_aload_n (i := 10) rfl rfl rfl ?_
      refine r_VV0 (i := 11) (k2 := 0) (n2 := 0) ok_Mod_layRing wM_Mod_366 (c_Mod_layRing F) (fun _ e => fw_ckb e) (Nat.le_of_ble_eq_true rfl) (Nat.le_of_ble_eq_true rfl) (Nat.le_of_ble_eq_true rfl) (Nat.le_of_ble_eq_true rfl) rfl rfl fun h19 => ?_
      refine r_iload_n (i := 12) rfl rfl rfl ?_
      refine r_if_ne (i := 13) (tgt := 33) rfl rfl rfl ?_ ?_
      · refine r_aload_n (i := 17) rfl rfl rfl ?_
        refine r_gI (i := 18) (ci := 12) (kf := 37) rfl (Nat.le_of_ble_eq_true rfl) wF_Mod_360 rfl rfl fun x34 => ?_
        exact r_retI (i := 19) rfl rfl rfl rfl
      · refine r_aload_n (i := 14) rfl rfl rfl ?_
        refine r_gI (i := 15) (ci := 12) (kf := 36) rfl (Nat.le_of_ble_eq_true rfl) wF_Mod_357 rfl rfl fun x27 => ?_
        refine r_goto (i := 16) (tgt := 37) rfl rfl rfl ?_
        exact r_retI (i := 19) rfl rfl rfl rfl
    · refine r_iconst (i := 8) (-1 : Int32) kc_iconst_m1 rfl rfl ?_
      exact r_retI (i := 9) rfl rfl rfl rfl
-- Mod_everyHouse
def s_Mod_everyHouse (h : fw_H) (v0 : Option Nat) : Option Int32 :=
(f_ck h v0 12).bind fun _ =>
(f_gI h v0 12 24).bind fun x2 =>
some (((1 : Int32) <<< (x2 &&& 31)) - (1 : Int32))
theorem c_Mod_everyHouse {G : fw_G} {h : fw_H} {v0 : Option Nat} : fw_Call G m_Mod_everyHouse (fw_eI h) 0 0 0 [fw_r v0] h (s_Mod_everyHouse h v0) := by
  refine fw_Call.of ok_Mod_everyHouse.1 (Nat.le_of_ble_eq_true rfl) [(0, some (fw_r v0))] rfl ?_
  refine r_ck ?_
  refine r_iconst (i := 0) (1 : Int32) kc_iconst_1 rfl rfl ?_
  refine r_aload_n (i := 1) rfl rfl rfl ?_
  refine r_gI (i := 2) (ci := 12) (kf := 24) rfl (Nat.le_of_ble_eq_true rfl) wF_Mod_250 rfl rfl fun x2 => ?_
  refine r_ishl (i := 3) rfl rfl ?_
  refine r_iconst (i := 4) (1 : Int32) kc_iconst_1 rfl rfl ?_
  refine r_isub (i := 5) rfl rfl ?_
  exact r_retI (i := 6) rfl rfl rfl rfl
-- Mod_never
def s_Mod_never (F : Nat) (h : fw_H) (v0 : Option Nat) : Option (Int32 × fw_H) :=
(f_ck h v0 12).bind fun _ =>
(f_gI h v0 12 24).bind fun x1 =>
if ¬ x1 = (0 : Int32) then ((s_Mod_layRing F h v0).bind fun h10 =>
(s_Mod_everyHouse h10 v0).bind fun x14 =>
(f_gI h10 v0 12 38).bind fun x18 =>
some ((x14 &&& (x18 ^^^ (-1 : Int32))), h10)) else
some ((-1 : Int32), h)
theorem c_Mod_never {G : fw_G} (F : Nat) {h : fw_H} {v0 : Option Nat} : fw_Call G m_Mod_never fw_wI 9 0 0 [fw_r v0] h (s_Mod_never F h v0) := by
  refine fw_Call.of ok_Mod_never.1 (Nat.le_of_ble_eq_true rfl) [(0, some (fw_r v0))] rfl ?_
  refine r_ck ?_
  refine r_aload_n (i := 0) rfl rfl rfl ?_
  refine r_gI (i := 1) (ci := 12) (kf := 24) rfl (Nat.le_of_ble_eq_true rfl) wF_Mod_250 rfl rfl fun x1 => ?_
  refine r_if_ne (i := 2) (tgt := 9) rfl rfl rfl ?_ ?_
  · refine r_aload_n (i := 5) rfl rfl rfl ?_
    refine r_VV0 (i := 6) (k2 := 0) (n2 := 0) ok_Mod_layRing wM_Mod_366 (c_Mod_layRing F) (fun _ e => fw_ckb e) (Nat.le_of_ble_eq_true rfl) (Nat.le_of_ble_eq_true rfl) (Nat.le_of_ble_eq_true rfl) (Nat.le_of_ble_eq_true rfl) rfl rfl fun h10 => ?_
    refine r_aload_n (i := 7) rfl rfl rfl ?_
    refine r_VI0 (i := 8) (k2 := 0) (n2 := 0) ok_Mod_everyHouse wM_Mod_369 (c_Mod_everyHouse) (fun _ e => fw_ckb e) (Nat.le_of_ble_eq_true rfl) (Nat.le_of_ble_eq_true rfl) (Nat.le_of_ble_eq_true rfl) (Nat.le_of_ble_eq_true rfl) rfl rfl fun x14 => ?_
    refine r_aload_n (i := 9) rfl rfl rfl ?_
    refine r_gI (i := 10) (ci := 12) (kf := 38) rfl (Nat.le_of_ble_eq_true rfl) wF_Mod_351 rfl rfl fun x18 => ?_
    refine r_iconst (i := 11) (-1 : Int32) kc_iconst_m1 rfl rfl ?_
    refine r_ixor (i := 12) rfl rfl ?_
    refine r_iand (i := 13) rfl rfl ?_
    exact r_retI (i := 14) rfl rfl rfl rfl
  · refine r_iconst (i := 3) (-1 : Int32) kc_iconst_m1 rfl rfl ?_
    exact r_retI (i := 4) rfl rfl rfl rfl
-- Mod_feud
def s_Mod_feud (F : Nat) (h : fw_H) (v0 : Option Nat) : Option (Int32 × fw_H) :=
(f_ck h v0 12).bind fun _ =>
(f_gI h v0 12 24).bind fun x1 =>
if ¬ x1 = (0 : Int32) then ((s_Mod_layRing F h v0).bind fun h10 =>
(f_gI h10 v0 12 39).bind fun x14 =>
some (x14, h10)) else
some ((-1 : Int32), h)
theorem c_Mod_feud {G : fw_G} (F : Nat) {h : fw_H} {v0 : Option Nat} : fw_Call G m_Mod_feud fw_wI 9 0 0 [fw_r v0] h (s_Mod_feud F h v0) := by
  refine fw_Call.of ok_Mod_feud.1 (Nat.le_of_ble_eq_true rfl) [(0, some (fw_r v0))] rfl ?_
  refine r_ck ?_
  refine r_aload_n (i := 0) rfl rfl rfl ?_
  refine r_gI (i := 1) (ci := 12) (kf := 24) rfl (Nat.le_of_ble_eq_true rfl) wF_Mod_250 rfl rfl fun x1 => ?_
  refine r_if_ne (i := 2) (tgt := 9) rfl rfl rfl ?_ ?_
  · refine r_aload_n (i := 5) rfl rfl rfl ?_
    refine r_VV0 (i := 6) (k2 := 0) (n2 := 0) ok_Mod_layRing wM_Mod_366 (c_Mod_layRing F) (fun _ e => fw_ckb e) (Nat.le_of_ble_eq_true rfl) (Nat.le_of_ble_eq_true rfl) (Nat.le_of_ble_eq_true rfl) (Nat.le_of_ble_eq_true rfl) rfl rfl fun h10 => ?_
    refine r_aload_n (i := 7) rfl rfl rfl ?_
    refine r_gI (i := 8) (ci := 12) (kf := 39) rfl (Nat.le_of_ble_eq_true rfl) wF_Mod_363 rfl rfl fun x14 => ?_
    exact r_retI (i := 9) rfl rfl rfl rfl
  · refine r_iconst (i := 3) (-1 : Int32) kc_iconst_m1 rfl rfl ?_
    exact r_retI (i := 4) rfl rfl rfl rfl
-- Mod_putAside
def l_Mod_putAside_2 (v0 : Option Nat) : Nat → Int32 → fw_H → Option fw_H
  | 0, _, _ => none
  | nn + 1, a2_1, g2 =>
    if (118 : Int32) ≤ a2_1 then (some g2) else
    (f_gR g2 v0 12 40).bind fun x9 =>
    (f_gR g2 v0 12 26).bind fun x14 =>
    (f_aI g2 x14 a2_1).bind fun x18 =>
    (f_sI g2 x9 a2_1 x18).bind fun h19 =>
    l_Mod_putAside_2 v0 nn (a2_1 + (1 : Int32)) h19
theorem cl_Mod_putAside_2 {G : fw_G} {v0 : Option Nat} : ∀ (nn : Nat) (a2_1 : Int32) (g2 : fw_H), fw_R G m_Mod_putAside fw_eV 0 0 0 2 [(0, some (fw_r v0)), (1, some (fw_i a2_1))] [] g2 (l_Mod_putAside_2 v0 nn a2_1 g2) := by
  intro nn
  induction nn with
  | zero => intros; exact r_none
  | succ nn ih =>
    intro a2_1 g2
    rw [l_Mod_putAside_2]
    refine r_iload_n (i := 2) rfl rfl rfl ?_
    refine r_bipush (i := 3) (118 : Int32) kc_bipush_118 rfl rfl ?_
    refine r_icmp_ge (i := 4) (tgt := 26) rfl rfl rfl ?_ ?_
    · exact r_retV (i := 15) rfl rfl rfl rfl
    · refine r_aload_n (i := 5) rfl rfl rfl ?_
      refine r_gR (i := 6) (ci := 12) (kf := 40) rfl (Nat.le_of_ble_eq_true rfl) wF_Mod_71 rfl rfl fun x9 => ?_
      refine r_iload_n (i := 7) rfl rfl rfl ?_
      refine r_aload_n (i := 8) rfl rfl rfl ?_
      refine r_gR (i := 9) (ci := 12) (kf := 26) rfl (Nat.le_of_ble_eq_true rfl) wF_Mod_55 rfl rfl fun x14 => ?_
      refine r_iload_n (i := 10) rfl rfl rfl ?_
      refine r_aI (i := 11) rfl rfl fun x18 => ?_
      refine r_sI (i := 12) rfl rfl fun h19 => ?_
      refine r_iinc (i := 13) (1 : Int32) kc_iconst_1 rfl rfl rfl (Nat.le_of_ble_eq_true rfl) ?_
      refine r_goto (i := 14) (tgt := 2) rfl rfl rfl ?_
      exact r_lv (fw_sub1 rfl (fw_sub1 rfl fw_sub0)) (ih (a2_1 + (1 : Int32)) h19)
def s_Mod_putAside (F : Nat) (h : fw_H) (v0 : Option Nat) : Option fw_H :=
(f_ck h v0 12).bind fun _ =>
l_Mod_putAside_2 v0 F (0 : Int32) h
theorem c_Mod_putAside {G : fw_G} (F : Nat) {h : fw_H} {v0 : Option Nat} : fw_Call G m_Mod_putAside fw_eV 0 0 0 [fw_r v0] h (s_Mod_putAside F h v0) := by
  refine fw_Call.of ok_Mod_putAside.1 (Nat.le_of_ble_eq_true rfl) [(0, some (fw_r v0))] rfl ?_
  refine r_ck ?_
  refine r_iconst (i := 0) (0 : Int32) kc_iconst_0 rfl rfl ?_
  refine r_istore_n (i := 1) rfl rfl (Nat.le_of_ble_eq_true rfl) rfl ?_
  refine r_lv (fw_sub1 rfl (fw_sub1 rfl fw_sub0)) (cl_Mod_putAside_2 F _ _)
-- Mod_takeBack
def l_Mod_takeBack_2 (v0 : Option Nat) : Nat → Int32 → fw_H → Option fw_H
  | 0, _, _ => none
  | nn + 1, a2_1, g2 =>
    if (118 : Int32) ≤ a2_1 then (some g2) else
    (f_gR g2 v0 12 26).bind fun x9 =>
    (f_gR g2 v0 12 40).bind fun x14 =>
    (f_aI g2 x14 a2_1).bind fun x18 =>
    (f_sI g2 x9 a2_1 x18).bind fun h19 =>
    l_Mod_takeBack_2 v0 nn (a2_1 + (1 : Int32)) h19
theorem cl_Mod_takeBack_2 {G : fw_G} {v0 : Option Nat} : ∀ (nn : Nat) (a2_1 : Int32) (g2 : fw_H), fw_R G m_Mod_takeBack fw_eV 0 0 0 2 [(0, some (fw_r v0)), (1, some (fw_i a2_1))] [] g2 (l_Mod_takeBack_2 v0 nn a2_1 g2) := by
  intro nn
  induction nn with
  | zero => intros; exact r_none
  | succ nn ih =>
    intro a2_1 g2
    rw [l_Mod_takeBack_2]
    refine r_iload_n (i := 2) rfl rfl rfl ?_
    refine r_bipush (i := 3) (118 : Int32) kc_bipush_118 rfl rfl ?_
    refine r_icmp_ge (i := 4) (tgt := 26) rfl rfl rfl ?_ ?_
    · exact r_retV (i := 15) rfl rfl rfl rfl
    · refine r_aload_n (i := 5) rfl rfl rfl ?_
      refine r_gR (i := 6) (ci := 12) (kf := 26) rfl (Nat.le_of_ble_eq_true rfl) wF_Mod_55 rfl rfl fun x9 => ?_
      refine r_iload_n (i := 7) rfl rfl rfl ?_
      refine r_aload_n (i := 8) rfl rfl rfl ?_
      refine r_gR (i := 9) (ci := 12) (kf := 40) rfl (Nat.le_of_ble_eq_true rfl) wF_Mod_71 rfl rfl fun x14 => ?_
      refine r_iload_n (i := 10) rfl rfl rfl ?_
      refine r_aI (i := 11) rfl rfl fun x18 => ?_
      refine r_sI (i := 12) rfl rfl fun h19 => ?_
      refine r_iinc (i := 13) (1 : Int32) kc_iconst_1 rfl rfl rfl (Nat.le_of_ble_eq_true rfl) ?_
      refine r_goto (i := 14) (tgt := 2) rfl rfl rfl ?_
      exact r_lv (fw_sub1 rfl (fw_sub1 rfl fw_sub0)) (ih (a2_1 + (1 : Int32)) h19)
def s_Mod_takeBack (F : Nat) (h : fw_H) (v0 : Option Nat) : Option fw_H :=
(f_ck h v0 12).bind fun _ =>
l_Mod_takeBack_2 v0 F (0 : Int32) h
theorem c_Mod_takeBack {G : fw_G} (F : Nat) {h : fw_H} {v0 : Option Nat} : fw_Call G m_Mod_takeBack fw_eV 0 0 0 [fw_r v0] h (s_Mod_takeBack F h v0) := by
  refine fw_Call.of ok_Mod_takeBack.1 (Nat.le_of_ble_eq_true rfl) [(0, some (fw_r v0))] rfl ?_
  refine r_ck ?_
  refine r_iconst (i := 0) (0 : Int32) kc_iconst_0 rfl rfl ?_
  refine r_istore_n (i := 1) rfl rfl (Nat.le_of_ble_eq_true rfl) rfl ?_
  refine r_lv (fw_sub1 rfl (fw_sub1 rfl fw_sub0)) (cl_Mod_takeBack_2 F _ _)
-- Mod_isFewer
def s_Mod_isFewer (v0 : Int32) (v1 : Int32) : Option Bool :=
if v1 = (-1 : Int32) then (some true) else
(s_Jdk_bitCount v0).bind fun x6 =>
(s_Jdk_bitCount v1).bind fun x10 =>
if x10 ≤ x6 then (some false) else
some true
theorem c_Mod_isFewer {G : fw_G} {h : fw_H} {v0 : Int32} {v1 : Int32} : fw_Call G m_Mod_isFewer (fw_eB h) 1 0 0 [fw_i v0, fw_i v1] h (s_Mod_isFewer v0 v1) := by
  refine fw_Call.of ok_Mod_isFewer.1 (Nat.le_of_ble_eq_true rfl) [(0, some (fw_i v0)), (1, some (fw_i v1))] rfl ?_
  refine r_iload_n (i := 0) rfl rfl rfl ?_
  refine r_iconst (i := 1) (-1 : Int32) kc_iconst_m1 rfl rfl ?_
  refine r_icmp_eq (i := 2) (tgt := 16) rfl rfl rfl ?_ ?_
  · refine r_iconst (i := 8) (1 : Int32) kc_iconst_1 rfl rfl ?_
    refine r_goto (i := 9) (tgt := 21) rfl rfl rfl ?_
    exact r_retB (x := true) (i := 11) rfl rfl rfl rfl
  · refine r_iload_n (i := 3) rfl rfl rfl ?_
    refine r_SI1 (i := 4) (k2 := 0) (n2 := 0) ok_Jdk_bitCount wM_Mod_372 (c_Jdk_bitCount) (Nat.le_of_ble_eq_true rfl) (Nat.le_of_ble_eq_true rfl) (Nat.le_of_ble_eq_true rfl) (Nat.le_of_ble_eq_true rfl) rfl rfl fun x6 => ?_
    refine r_iload_n (i := 5) rfl rfl rfl ?_
    refine r_SI1 (i := 6) (k2 := 0) (n2 := 0) ok_Jdk_bitCount wM_Mod_372 (c_Jdk_bitCount) (Nat.le_of_ble_eq_true rfl) (Nat.le_of_ble_eq_true rfl) (Nat.le_of_ble_eq_true rfl) (Nat.le_of_ble_eq_true rfl) rfl rfl fun x10 => ?_
    refine r_icmp_ge (i := 7) (tgt := 20) rfl rfl rfl ?_ ?_
    · refine r_iconst (i := 10) (0 : Int32) kc_iconst_0 rfl rfl ?_
      exact r_retB (x := false) (i := 11) rfl rfl rfl rfl
    · refine r_iconst (i := 8) (1 : Int32) kc_iconst_1 rfl rfl ?_
      refine r_goto (i := 9) (tgt := 21) rfl rfl rfl ?_
      exact r_retB (x := true) (i := 11) rfl rfl rfl rfl
