-- Mod_isWhole
def l_Mod_isWhole_28 (h : fw_H) (v0 : Option Nat) : Nat → Int32 → Int32 → Option Bool
  | 0, _, _ => none
  | nn + 1, a28_1, a28_2 =>
    (f_gI h v0 12 21).bind fun x30 =>
    if x30 ≤ a28_2 then ((f_toB a28_1).bind fun b102 =>
    some b102) else
    if a28_1 = (0 : Int32) then (l_Mod_isWhole_28 h v0 nn (0 : Int32) (a28_2 + (1 : Int32))) else
    (f_gR h v0 12 19).bind fun x41 =>
    (f_aI h x41 ((3 : Int32) * a28_2)).bind fun x47 =>
    (f_gR h v0 12 19).bind fun x49 =>
    (f_aI h x49 (((3 : Int32) * a28_2) + (1 : Int32))).bind fun x57 =>
    if x47 = x57 then (l_Mod_isWhole_28 h v0 nn (0 : Int32) (a28_2 + (1 : Int32))) else
    (f_gR h v0 12 19).bind fun x62 =>
    (f_aI h x62 ((3 : Int32) * a28_2)).bind fun x68 =>
    (f_gR h v0 12 19).bind fun x70 =>
    (f_aI h x70 (((3 : Int32) * a28_2) + (1 : Int32))).bind fun x78 =>
    (f_gI h v0 12 20).bind fun x83 =>
    if x83 ≤ (fw_max x68 x78) then (l_Mod_isWhole_28 h v0 nn (0 : Int32) (a28_2 + (1 : Int32))) else
    l_Mod_isWhole_28 h v0 nn (1 : Int32) (a28_2 + (1 : Int32))
theorem cl_Mod_isWhole_28 {G : fw_G} {h : fw_H} {v0 : Option Nat} : ∀ (nn : Nat) (a28_1 : Int32) (a28_2 : Int32), fw_R G m_Mod_isWhole (fw_eB h) 1 0 0 28 [(0, some (fw_r v0)), (1, some (fw_i a28_1)), (2, some (fw_i a28_2))] [] h (l_Mod_isWhole_28 h v0 nn a28_1 a28_2) := by
  intro nn
  induction nn with
  | zero => intros; exact r_none
  | succ nn ih =>
    intro a28_1 a28_2
    rw [l_Mod_isWhole_28]
    refine r_iload_n (i := 16) rfl rfl rfl ?_
    refine r_aload_n (i := 17) rfl rfl rfl ?_
    refine r_gI (i := 18) (ci := 12) (kf := 21) rfl (Nat.le_of_ble_eq_true rfl) wF_Mod_231 rfl rfl fun x30 => ?_
    refine r_icmp_ge (i := 19) (tgt := 101) rfl rfl rfl ?_ ?_
    · refine r_iload_n (i := 61) rfl rfl rfl ?_
      refine r_toB fun b102 eb102 => ?_
      exact r_retB (i := 62) rfl rfl rfl rfl
    · refine r_iload_n (i := 20) rfl rfl rfl ?_
      refine r_if_eq (i := 21) (tgt := 93) rfl rfl rfl ?_ ?_
      · refine r_iconst (i := 57) (0 : Int32) kc_iconst_0 rfl rfl ?_
        refine r_istore_n (i := 58) rfl rfl (Nat.le_of_ble_eq_true rfl) rfl ?_
        refine r_iinc (i := 59) (1 : Int32) kc_iconst_1 rfl rfl rfl (Nat.le_of_ble_eq_true rfl) ?_
        refine r_goto (i := 60) (tgt := 28) rfl rfl rfl ?_
        exact r_lv (fw_sub1 rfl (fw_sub1 rfl (fw_sub1 rfl fw_sub0))) (ih (0 : Int32) (a28_2 + (1 : Int32)))
      · refine r_aload_n (i := 22) rfl rfl rfl ?_
        refine r_gR (i := 23) (ci := 12) (kf := 19) rfl (Nat.le_of_ble_eq_true rfl) wF_Mod_46 rfl rfl fun x41 => ?_
        refine r_iconst (i := 24) (3 : Int32) kc_iconst_3 rfl rfl ?_
        refine r_iload_n (i := 25) rfl rfl rfl ?_
        refine r_imul (i := 26) rfl rfl ?_
        refine r_aI (i := 27) rfl rfl fun x47 => ?_
        refine r_aload_n (i := 28) rfl rfl rfl ?_
        refine r_gR (i := 29) (ci := 12) (kf := 19) rfl (Nat.le_of_ble_eq_true rfl) wF_Mod_46 rfl rfl fun x49 => ?_
        refine r_iconst (i := 30) (3 : Int32) kc_iconst_3 rfl rfl ?_
        refine r_iload_n (i := 31) rfl rfl rfl ?_
        refine r_imul (i := 32) rfl rfl ?_
        refine r_iconst (i := 33) (1 : Int32) kc_iconst_1 rfl rfl ?_
        refine r_iadd (i := 34) rfl rfl ?_
        refine r_aI (i := 35) rfl rfl fun x57 => ?_
        refine r_icmp_eq (i := 36) (tgt := 93) rfl rfl rfl ?_ ?_
        · refine r_iconst (i := 57) (0 : Int32) kc_iconst_0 rfl rfl ?_
          refine r_istore_n (i := 58) rfl rfl (Nat.le_of_ble_eq_true rfl) rfl ?_
          refine r_iinc (i := 59) (1 : Int32) kc_iconst_1 rfl rfl rfl (Nat.le_of_ble_eq_true rfl) ?_
          refine r_goto (i := 60) (tgt := 28) rfl rfl rfl ?_
          exact r_lv (fw_sub1 rfl (fw_sub1 rfl (fw_sub1 rfl fw_sub0))) (ih (0 : Int32) (a28_2 + (1 : Int32)))
        · refine r_aload_n (i := 37) rfl rfl rfl ?_
          refine r_gR (i := 38) (ci := 12) (kf := 19) rfl (Nat.le_of_ble_eq_true rfl) wF_Mod_46 rfl rfl fun x62 => ?_
          refine r_iconst (i := 39) (3 : Int32) kc_iconst_3 rfl rfl ?_
          refine r_iload_n (i := 40) rfl rfl rfl ?_
          refine r_imul (i := 41) rfl rfl ?_
          refine r_aI (i := 42) rfl rfl fun x68 => ?_
          refine r_aload_n (i := 43) rfl rfl rfl ?_
          refine r_gR (i := 44) (ci := 12) (kf := 19) rfl (Nat.le_of_ble_eq_true rfl) wF_Mod_46 rfl rfl fun x70 => ?_
          refine r_iconst (i := 45) (3 : Int32) kc_iconst_3 rfl rfl ?_
          refine r_iload_n (i := 46) rfl rfl rfl ?_
          refine r_imul (i := 47) rfl rfl ?_
          refine r_iconst (i := 48) (1 : Int32) kc_iconst_1 rfl rfl ?_
          refine r_iadd (i := 49) rfl rfl ?_
          refine r_aI (i := 50) rfl rfl fun x78 => ?_
          refine r_max (i := 51) (Nat.le_of_ble_eq_true rfl) (Nat.le_of_ble_eq_true rfl) wM_Mod_234 rfl rfl ?_
          refine r_aload_n (i := 52) rfl rfl rfl ?_
          refine r_gI (i := 53) (ci := 12) (kf := 20) rfl (Nat.le_of_ble_eq_true rfl) wF_Mod_228 rfl rfl fun x83 => ?_
          refine r_icmp_ge (i := 54) (tgt := 93) rfl rfl rfl ?_ ?_
          · refine r_iconst (i := 57) (0 : Int32) kc_iconst_0 rfl rfl ?_
            refine r_istore_n (i := 58) rfl rfl (Nat.le_of_ble_eq_true rfl) rfl ?_
            refine r_iinc (i := 59) (1 : Int32) kc_iconst_1 rfl rfl rfl (Nat.le_of_ble_eq_true rfl) ?_
            refine r_goto (i := 60) (tgt := 28) rfl rfl rfl ?_
            exact r_lv (fw_sub1 rfl (fw_sub1 rfl (fw_sub1 rfl fw_sub0))) (ih (0 : Int32) (a28_2 + (1 : Int32)))
          · refine r_iconst (i := 55) (1 : Int32) kc_iconst_1 rfl rfl ?_
            refine r_goto (i := 56) (tgt := 94) rfl rfl rfl ?_
            refine r_istore_n (i := 58) rfl rfl (Nat.le_of_ble_eq_true rfl) rfl ?_
            refine r_iinc (i := 59) (1 : Int32) kc_iconst_1 rfl rfl rfl (Nat.le_of_ble_eq_true rfl) ?_
            refine r_goto (i := 60) (tgt := 28) rfl rfl rfl ?_
            exact r_lv (fw_sub1 rfl (fw_sub1 rfl (fw_sub1 rfl fw_sub0))) (ih (1 : Int32) (a28_2 + (1 : Int32)))
def s_Mod_isWhole (F : Nat) (h : fw_H) (v0 : Option Nat) : Option Bool :=
(f_ck h v0 12).bind fun _ =>
(f_gI h v0 12 20).bind fun x1 =>
fw_jn (fun (t25_0 : Int32) =>
l_Mod_isWhole_28 h v0 F t25_0 (0 : Int32)) fun J25 =>
if x1 ≤ (0 : Int32) then (J25 (0 : Int32)) else
(f_gR h v0 12 17).bind fun x8 =>
(f_aI h x8 (0 : Int32)).bind fun x12 =>
(f_gI h v0 12 20).bind fun x14 =>
if x14 ≤ x12 then (J25 (0 : Int32)) else
J25 (1 : Int32)
theorem c_Mod_isWhole {G : fw_G} (F : Nat) {h : fw_H} {v0 : Option Nat} : fw_Call G m_Mod_isWhole (fw_eB h) 1 0 0 [fw_r v0] h (s_Mod_isWhole F h v0) := by
  refine fw_Call.of ok_Mod_isWhole.1 (Nat.le_of_ble_eq_true rfl) [(0, some (fw_r v0))] rfl ?_
  refine r_ck ?_
  refine r_aload_n (i := 0) rfl rfl rfl ?_
  refine r_gI (i := 1) (ci := 12) (kf := 20) rfl (Nat.le_of_ble_eq_true rfl) wF_Mod_228 rfl rfl fun x1 => ?_
  refine r_join (P := fun J25 => ∀ (t25_0 : Int32), fw_R G m_Mod_isWhole (fw_eB h) 1 (0) (0) 25 [(0, some (fw_r v0))] [fw_i t25_0] h (J25 t25_0)) ?_ (fun J25 hJ25 => ?_)
  · intro t25_0
    refine r_istore_n (i := 13) rfl rfl (Nat.le_of_ble_eq_true rfl) rfl ?_
    refine r_iconst (i := 14) (0 : Int32) kc_iconst_0 rfl rfl ?_
    refine r_istore_n (i := 15) rfl rfl (Nat.le_of_ble_eq_true rfl) rfl ?_
    refine r_lv (fw_sub1 rfl (fw_sub1 rfl (fw_sub1 rfl fw_sub0))) (cl_Mod_isWhole_28 F _ _)
  · refine r_if_le (i := 2) (tgt := 24) rfl rfl rfl ?_ ?_
    · refine r_iconst (i := 12) (0 : Int32) kc_iconst_0 rfl rfl ?_
      exact r_lv (fw_sub1 rfl fw_sub0) (hJ25 (0 : Int32))
    · refine r_aload_n (i := 3) rfl rfl rfl ?_
      refine r_gR (i := 4) (ci := 12) (kf := 17) rfl (Nat.le_of_ble_eq_true rfl) wF_Mod_40 rfl rfl fun x8 => ?_
      refine r_iconst (i := 5) (0 : Int32) kc_iconst_0 rfl rfl ?_
      refine r_aI (i := 6) rfl rfl fun x12 => ?_
      refine r_aload_n (i := 7) rfl rfl rfl ?_
      refine r_gI (i := 8) (ci := 12) (kf := 20) rfl (Nat.le_of_ble_eq_true rfl) wF_Mod_228 rfl rfl fun x14 => ?_
      refine r_icmp_ge (i := 9) (tgt := 24) rfl rfl rfl ?_ ?_
      · refine r_iconst (i := 12) (0 : Int32) kc_iconst_0 rfl rfl ?_
        exact r_lv (fw_sub1 rfl fw_sub0) (hJ25 (0 : Int32))
      · refine r_iconst (i := 10) (1 : Int32) kc_iconst_1 rfl rfl ?_
        refine r_goto (i := 11) (tgt := 25) rfl rfl rfl ?_
        exact r_lv (fw_sub1 rfl fw_sub0) (hJ25 (1 : Int32))
-- Mod_readAll
def l_Mod_readAll_24 (v0 : Option Nat) (K42 : fw_H → Option (Int32 × fw_H)) : Nat → Int32 → fw_H → Option (Int32 × fw_H)
  | 0, _, _ => none
  | nn + 1, a24_2, g24 =>
    if (3 : Int32) ≤ a24_2 then (K42 g24) else
    (f_gR g24 v0 12 17).bind fun x30 =>
    (f_sI g24 x30 a24_2 (0 : Int32)).bind fun h35 =>
    l_Mod_readAll_24 v0 K42 nn (a24_2 + (1 : Int32)) h35
theorem cl_Mod_readAll_24 {G : fw_G} {v0 : Option Nat} {K42 : fw_H → Option (Int32 × fw_H)} (hK42 : ∀ (he42 : fw_H), fw_R G m_Mod_readAll fw_wI 4 0 0 42 [(0, some (fw_r v0)), (1, some (fw_i (0 : Int32)))] [] he42 (K42 he42)) : ∀ (nn : Nat) (a24_2 : Int32) (g24 : fw_H), fw_R G m_Mod_readAll fw_wI 4 0 0 24 [(0, some (fw_r v0)), (1, some (fw_i (0 : Int32))), (2, some (fw_i a24_2))] [] g24 (l_Mod_readAll_24 v0 K42 nn a24_2 g24) := by
  intro nn
  induction nn with
  | zero => intros; exact r_none
  | succ nn ih =>
    intro a24_2 g24
    rw [l_Mod_readAll_24]
    refine r_iload_n (i := 16) rfl rfl rfl ?_
    refine r_iconst (i := 17) (3 : Int32) kc_iconst_3 rfl rfl ?_
    refine r_icmp_ge (i := 18) (tgt := 42) rfl rfl rfl ?_ ?_
    · exact r_lv (fw_sub1 rfl (fw_sub1 rfl fw_sub0)) (hK42 g24)
    · refine r_aload_n (i := 19) rfl rfl rfl ?_
      refine r_gR (i := 20) (ci := 12) (kf := 17) rfl (Nat.le_of_ble_eq_true rfl) wF_Mod_40 rfl rfl fun x30 => ?_
      refine r_iload_n (i := 21) rfl rfl rfl ?_
      refine r_iconst (i := 22) (0 : Int32) kc_iconst_0 rfl rfl ?_
      refine r_sI (i := 23) rfl rfl fun h35 => ?_
      refine r_iinc (i := 24) (1 : Int32) kc_iconst_1 rfl rfl rfl (Nat.le_of_ble_eq_true rfl) ?_
      refine r_goto (i := 25) (tgt := 24) rfl rfl rfl ?_
      exact r_lv (fw_sub1 rfl (fw_sub1 rfl (fw_sub1 rfl fw_sub0))) (ih (a24_2 + (1 : Int32)) h35)
def l_Mod_readAll_44 (F : Nat) (v0 : Option Nat) (K255 : fw_H → Option (Int32 × fw_H)) : Nat → Int32 → Int32 → fw_H → Option (Int32 × fw_H)
  | 0, _, _, _ => none
  | nn + 1, a44_1, a44_2, g44 =>
    if a44_2 = (0 : Int32) then (K255 g44) else
    (f_gI g44 v0 12 4).bind fun x49 =>
    if ¬ x49 = (-1 : Int32) then (K255 g44) else
    (s_Mod_look F g44 v0).bind fun x57 =>
    fw_jn (fun (j211_1 : Int32) (hj211 : fw_H) =>
    (f_gI hj211 v0 12 4).bind fun x212 =>
    if ¬ x212 = (-1 : Int32) then ((f_gI hj211 v0 12 3).bind fun x236 =>
    if (0 : Int32) = (0 : Int32) then ((f_pI hj211 v0 12 3 (x236 + (0 : Int32))).bind fun h249 =>
    l_Mod_readAll_44 F v0 K255 nn j211_1 (0 : Int32) h249) else
    (f_pI hj211 v0 12 3 (x236 + (1 : Int32))).bind fun h249 =>
    l_Mod_readAll_44 F v0 K255 nn j211_1 (0 : Int32) h249) else
    (s_Mod_look F hj211 v0).bind fun x220 =>
    if ¬ x220.1 = (59 : Int32) then ((f_gI x220.2 v0 12 3).bind fun x236 =>
    if (0 : Int32) = (0 : Int32) then ((f_pI x220.2 v0 12 3 (x236 + (0 : Int32))).bind fun h249 =>
    l_Mod_readAll_44 F v0 K255 nn j211_1 (0 : Int32) h249) else
    (f_pI x220.2 v0 12 3 (x236 + (1 : Int32))).bind fun h249 =>
    l_Mod_readAll_44 F v0 K255 nn j211_1 (0 : Int32) h249) else
    (f_gI x220.2 v0 12 3).bind fun x236 =>
    if (1 : Int32) = (0 : Int32) then ((f_pI x220.2 v0 12 3 (x236 + (0 : Int32))).bind fun h249 =>
    l_Mod_readAll_44 F v0 K255 nn j211_1 (1 : Int32) h249) else
    (f_pI x220.2 v0 12 3 (x236 + (1 : Int32))).bind fun h249 =>
    l_Mod_readAll_44 F v0 K255 nn j211_1 (1 : Int32) h249) fun J211 =>
    if ¬ x57.1 = (118 : Int32) then (if ¬ x57.1 = (100 : Int32) then (if ¬ x57.1 = (119 : Int32) then ((s_Mod_bad x57.2 v0).bind fun h208 =>
    J211 a44_1 h208) else
    (f_gI x57.2 v0 12 21).bind fun x160 =>
    if (16 : Int32) ≤ x160 then ((s_Mod_bad x57.2 v0).bind fun h208 =>
    J211 a44_1 h208) else
    (f_gI x57.2 v0 12 3).bind fun x170 =>
    (f_pI x57.2 v0 12 3 (x170 + (1 : Int32))).bind fun h175 =>
    (f_gR h175 v0 12 19).bind fun x181 =>
    (f_gI h175 v0 12 21).bind fun x186 =>
    (s_Mod_items F h175 v0 x57.1 x181 ((3 : Int32) * x186) (3 : Int32)).bind fun h191 =>
    (f_gI h191 v0 12 21).bind fun x196 =>
    (f_pI h191 v0 12 21 (x196 + (1 : Int32))).bind fun h201 =>
    J211 a44_1 h201) else
    (f_gI x57.2 v0 12 20).bind fun x104 =>
    if (12 : Int32) ≤ x104 then (if ¬ x57.1 = (119 : Int32) then ((s_Mod_bad x57.2 v0).bind fun h208 =>
    J211 a44_1 h208) else
    (f_gI x57.2 v0 12 21).bind fun x160 =>
    if (16 : Int32) ≤ x160 then ((s_Mod_bad x57.2 v0).bind fun h208 =>
    J211 a44_1 h208) else
    (f_gI x57.2 v0 12 3).bind fun x170 =>
    (f_pI x57.2 v0 12 3 (x170 + (1 : Int32))).bind fun h175 =>
    (f_gR h175 v0 12 19).bind fun x181 =>
    (f_gI h175 v0 12 21).bind fun x186 =>
    (s_Mod_items F h175 v0 x57.1 x181 ((3 : Int32) * x186) (3 : Int32)).bind fun h191 =>
    (f_gI h191 v0 12 21).bind fun x196 =>
    (f_pI h191 v0 12 21 (x196 + (1 : Int32))).bind fun h201 =>
    J211 a44_1 h201) else
    (f_gI x57.2 v0 12 3).bind fun x114 =>
    (f_pI x57.2 v0 12 3 (x114 + (1 : Int32))).bind fun h119 =>
    (f_gR h119 v0 12 18).bind fun x125 =>
    (f_gI h119 v0 12 20).bind fun x131 =>
    (s_Mod_items F h119 v0 x57.1 x125 ((6 : Int32) * x131) (6 : Int32)).bind fun h137 =>
    (f_gI h137 v0 12 20).bind fun x142 =>
    (f_pI h137 v0 12 20 (x142 + (1 : Int32))).bind fun h147 =>
    J211 a44_1 h147) else
    if ¬ a44_1 = (0 : Int32) then (if ¬ x57.1 = (100 : Int32) then (if ¬ x57.1 = (119 : Int32) then ((s_Mod_bad x57.2 v0).bind fun h208 =>
    J211 a44_1 h208) else
    (f_gI x57.2 v0 12 21).bind fun x160 =>
    if (16 : Int32) ≤ x160 then ((s_Mod_bad x57.2 v0).bind fun h208 =>
    J211 a44_1 h208) else
    (f_gI x57.2 v0 12 3).bind fun x170 =>
    (f_pI x57.2 v0 12 3 (x170 + (1 : Int32))).bind fun h175 =>
    (f_gR h175 v0 12 19).bind fun x181 =>
    (f_gI h175 v0 12 21).bind fun x186 =>
    (s_Mod_items F h175 v0 x57.1 x181 ((3 : Int32) * x186) (3 : Int32)).bind fun h191 =>
    (f_gI h191 v0 12 21).bind fun x196 =>
    (f_pI h191 v0 12 21 (x196 + (1 : Int32))).bind fun h201 =>
    J211 a44_1 h201) else
    (f_gI x57.2 v0 12 20).bind fun x104 =>
    if (12 : Int32) ≤ x104 then (if ¬ x57.1 = (119 : Int32) then ((s_Mod_bad x57.2 v0).bind fun h208 =>
    J211 a44_1 h208) else
    (f_gI x57.2 v0 12 21).bind fun x160 =>
    if (16 : Int32) ≤ x160 then ((s_Mod_bad x57.2 v0).bind fun h208 =>
    J211 a44_1 h208) else
    (f_gI x57.2 v0 12 3).bind fun x170 =>
    (f_pI x57.2 v0 12 3 (x170 + (1 : Int32))).bind fun h175 =>
    (f_gR h175 v0 12 19).bind fun x181 =>
    (f_gI h175 v0 12 21).bind fun x186 =>
    (s_Mod_items F h175 v0 x57.1 x181 ((3 : Int32) * x186) (3 : Int32)).bind fun h191 =>
    (f_gI h191 v0 12 21).bind fun x196 =>
    (f_pI h191 v0 12 21 (x196 + (1 : Int32))).bind fun h201 =>
    J211 a44_1 h201) else
    (f_gI x57.2 v0 12 3).bind fun x114 =>
    (f_pI x57.2 v0 12 3 (x114 + (1 : Int32))).bind fun h119 =>
    (f_gR h119 v0 12 18).bind fun x125 =>
    (f_gI h119 v0 12 20).bind fun x131 =>
    (s_Mod_items F h119 v0 x57.1 x125 ((6 : Int32) * x131) (6 : Int32)).bind fun h137 =>
    (f_gI h137 v0 12 20).bind fun x142 =>
    (f_pI h137 v0 12 20 (x142 + (1 : Int32))).bind fun h147 =>
    J211 a44_1 h147) else
    (f_gI x57.2 v0 12 3).bind fun x75 =>
    (f_pI x57.2 v0 12 3 (x75 + (1 : Int32))).bind fun h80 =>
    (f_gR h80 v0 12 17).bind fun x86 =>
    (s_Mod_items F h80 v0 x57.1 x86 (0 : Int32) (3 : Int32)).bind fun h91 =>
    J211 (1 : Int32) h91
theorem cl_Mod_readAll_44 {G : fw_G} {F : Nat} {v0 : Option Nat} {K255 : fw_H → Option (Int32 × fw_H)} (hK255 : ∀ (he255 : fw_H), fw_R G m_Mod_readAll fw_wI 4 0 0 255 [(0, some (fw_r v0))] [] he255 (K255 he255)) : ∀ (nn : Nat) (a44_1 : Int32) (a44_2 : Int32) (g44 : fw_H), fw_R G m_Mod_readAll fw_wI 4 0 0 44 [(0, some (fw_r v0)), (1, some (fw_i a44_1)), (2, some (fw_i a44_2))] [] g44 (l_Mod_readAll_44 F v0 K255 nn a44_1 a44_2 g44) := by
  intro nn
  induction nn with
  | zero => intros; exact r_none
  | succ nn ih =>
    intro a44_1 a44_2 g44
    rw [l_Mod_readAll_44]
    refine r_iload_n (i := 28) rfl rfl rfl ?_
    refine r_if_eq (i := 29) (tgt := 255) rfl rfl rfl ?_ ?_
    · exact r_lv (fw_sub1 rfl fw_sub0) (hK255 g44)
    · refine r_aload_n (i := 30) rfl rfl rfl ?_
      refine r_gI (i := 31) (ci := 12) (kf := 4) rfl (Nat.le_of_ble_eq_true rfl) wF_Mod_113 rfl rfl fun x49 => ?_
      refine r_iconst (i := 32) (-1 : Int32) kc_iconst_m1 rfl rfl ?_
      refine r_icmp_ne (i := 33) (tgt := 255) rfl rfl rfl ?_ ?_
      · exact r_lv (fw_sub1 rfl fw_sub0) (hK255 g44)
      · refine r_aload_n (i := 34) rfl rfl rfl ?_
        refine r_VwI0 (i := 35) (k2 := 0) (n2 := 0) ok_Mod_look wM_Mod_125 (c_Mod_look F) (fun _ e => fw_ckb e) (Nat.le_of_ble_eq_true rfl) (Nat.le_of_ble_eq_true rfl) (Nat.le_of_ble_eq_true rfl) (Nat.le_of_ble_eq_true rfl) rfl rfl fun x57 => ?_
        refine r_istore_n (i := 36) rfl rfl (Nat.le_of_ble_eq_true rfl) rfl ?_
        refine r_iload_n (i := 37) rfl rfl rfl ?_
        refine r_bipush (i := 38) (118 : Int32) kc_bipush_118 rfl rfl ?_
        refine r_join (P := fun J211 => ∀ (j211_1 : Int32) (hj211 : fw_H), fw_R G m_Mod_readAll fw_wI 4 (0) (0) 211 [(0, some (fw_r v0)), (1, some (fw_i j211_1))] [] hj211 (J211 j211_1 hj211)) ?_ (fun J211 hJ211 => ?_)
        · intro j211_1 hj211
          refine r_aload_n (i := 120) rfl rfl rfl ?_
          refine r_gI (i := 121) (ci := 12) (kf := 4) rfl (Nat.le_of_ble_eq_true rfl) wF_Mod_113 rfl rfl fun x212 => ?_
          refine r_iconst (i := 122) (-1 : Int32) kc_iconst_m1 rfl rfl ?_
          refine r_icmp_ne (i := 123) (tgt := 232) rfl rfl rfl ?_ ?_
          · refine r_iconst (i := 130) (0 : Int32) kc_iconst_0 rfl rfl ?_
            refine r_istore_n (i := 131) rfl rfl (Nat.le_of_ble_eq_true rfl) rfl ?_
            refine r_aload_n (i := 132) rfl rfl rfl ?_
            refine r_dup_r (i := 133) rfl rfl ?_
            refine r_gI (i := 134) (ci := 12) (kf := 3) rfl (Nat.le_of_ble_eq_true rfl) wF_Mod_106 rfl rfl fun x236 => ?_
            refine r_iload_n (i := 135) rfl rfl rfl ?_
            refine r_if_eq (i := 136) (tgt := 247) rfl rfl rfl ?_ ?_
            · refine r_iconst (i := 139) (0 : Int32) kc_iconst_0 rfl rfl ?_
              refine r_iadd (i := 140) rfl rfl ?_
              refine r_pI (i := 141) (ci := 12) (kf := 3) rfl (Nat.le_of_ble_eq_true rfl) wF_Mod_106 rfl (tyX12_ok 3 (Nat.le_of_ble_eq_true rfl)) rfl rfl fun h249 => ?_
              refine r_goto (i := 142) (tgt := 44) rfl rfl rfl ?_
              exact r_lv (fw_sub1 rfl (fw_sub1 rfl (fw_sub1 rfl fw_sub0))) (ih j211_1 (0 : Int32) h249)
            · refine r_iconst (i := 137) (1 : Int32) kc_iconst_1 rfl rfl ?_
              refine r_goto (i := 138) (tgt := 248) rfl rfl rfl ?_
              refine r_iadd (i := 140) rfl rfl ?_
              refine r_pI (i := 141) (ci := 12) (kf := 3) rfl (Nat.le_of_ble_eq_true rfl) wF_Mod_106 rfl (tyX12_ok 3 (Nat.le_of_ble_eq_true rfl)) rfl rfl fun h249 => ?_
              refine r_goto (i := 142) (tgt := 44) rfl rfl rfl ?_
              exact r_lv (fw_sub1 rfl (fw_sub1 rfl (fw_sub1 rfl fw_sub0))) (ih j211_1 (0 : Int32) h249)
          · refine r_aload_n (i := 124) rfl rfl rfl ?_
            refine r_VwI0 (i := 125) (k2 := 0) (n2 := 0) ok_Mod_look wM_Mod_125 (c_Mod_look F) (fun _ e => fw_ckb e) (Nat.le_of_ble_eq_true rfl) (Nat.le_of_ble_eq_true rfl) (Nat.le_of_ble_eq_true rfl) (Nat.le_of_ble_eq_true rfl) rfl rfl fun x220 => ?_
            refine r_bipush (i := 126) (59 : Int32) kc_bipush_59 rfl rfl ?_
            refine r_icmp_ne (i := 127) (tgt := 232) rfl rfl rfl ?_ ?_
            · refine r_iconst (i := 130) (0 : Int32) kc_iconst_0 rfl rfl ?_
              refine r_istore_n (i := 131) rfl rfl (Nat.le_of_ble_eq_true rfl) rfl ?_
              refine r_aload_n (i := 132) rfl rfl rfl ?_
              refine r_dup_r (i := 133) rfl rfl ?_
              refine r_gI (i := 134) (ci := 12) (kf := 3) rfl (Nat.le_of_ble_eq_true rfl) wF_Mod_106 rfl rfl fun x236 => ?_
              refine r_iload_n (i := 135) rfl rfl rfl ?_
              refine r_if_eq (i := 136) (tgt := 247) rfl rfl rfl ?_ ?_
              · refine r_iconst (i := 139) (0 : Int32) kc_iconst_0 rfl rfl ?_
                refine r_iadd (i := 140) rfl rfl ?_
                refine r_pI (i := 141) (ci := 12) (kf := 3) rfl (Nat.le_of_ble_eq_true rfl) wF_Mod_106 rfl (tyX12_ok 3 (Nat.le_of_ble_eq_true rfl)) rfl rfl fun h249 => ?_
                refine r_goto (i := 142) (tgt := 44) rfl rfl rfl ?_
                exact r_lv (fw_sub1 rfl (fw_sub1 rfl (fw_sub1 rfl fw_sub0))) (ih j211_1 (0 : Int32) h249)
              · refine r_iconst (i := 137) (1 : Int32) kc_iconst_1 rfl rfl ?_
                refine r_goto (i := 138) (tgt := 248) rfl rfl rfl ?_
                refine r_iadd (i := 140) rfl rfl ?_
                refine r_pI (i := 141) (ci := 12) (kf := 3) rfl (Nat.le_of_ble_eq_true rfl) wF_Mod_106 rfl (tyX12_ok 3 (Nat.le_of_ble_eq_true rfl)) rfl rfl fun h249 => ?_
                refine r_goto (i := 142) (tgt := 44) rfl rfl rfl ?_
                exact r_lv (fw_sub1 rfl (fw_sub1 rfl (fw_sub1 rfl fw_sub0))) (ih j211_1 (0 : Int32) h249)
            · refine r_iconst (i := 128) (1 : Int32) kc_iconst_1 rfl rfl ?_
              refine r_goto (i := 129) (tgt := 233) rfl rfl rfl ?_
              refine r_istore_n (i := 131) rfl rfl (Nat.le_of_ble_eq_true rfl) rfl ?_
              refine r_aload_n (i := 132) rfl rfl rfl ?_
              refine r_dup_r (i := 133) rfl rfl ?_
              refine r_gI (i := 134) (ci := 12) (kf := 3) rfl (Nat.le_of_ble_eq_true rfl) wF_Mod_106 rfl rfl fun x236 => ?_
              refine r_iload_n (i := 135) rfl rfl rfl ?_
              refine r_if_eq (i := 136) (tgt := 247) rfl rfl rfl ?_ ?_
              · refine r_iconst (i := 139) (0 : Int32) kc_iconst_0 rfl rfl ?_
                refine r_iadd (i := 140) rfl rfl ?_
                refine r_pI (i := 141) (ci := 12) (kf := 3) rfl (Nat.le_of_ble_eq_true rfl) wF_Mod_106 rfl (tyX12_ok 3 (Nat.le_of_ble_eq_true rfl)) rfl rfl fun h249 => ?_
                refine r_goto (i := 142) (tgt := 44) rfl rfl rfl ?_
                exact r_lv (fw_sub1 rfl (fw_sub1 rfl (fw_sub1 rfl fw_sub0))) (ih j211_1 (1 : Int32) h249)
              · refine r_iconst (i := 137) (1 : Int32) kc_iconst_1 rfl rfl ?_
                refine r_goto (i := 138) (tgt := 248) rfl rfl rfl ?_
                refine r_iadd (i := 140) rfl rfl ?_
                refine r_pI (i := 141) (ci := 12) (kf := 3) rfl (Nat.le_of_ble_eq_true rfl) wF_Mod_106 rfl (tyX12_ok 3 (Nat.le_of_ble_eq_true rfl)) rfl rfl fun h249 => ?_
                refine r_goto (i := 142) (tgt := 44) rfl rfl rfl ?_
                exact r_lv (fw_sub1 rfl (fw_sub1 rfl (fw_sub1 rfl fw_sub0))) (ih j211_1 (1 : Int32) h249)
        · refine r_icmp_ne (i := 39) (tgt := 97) rfl rfl rfl ?_ ?_
          · refine r_iload_n (i := 58) rfl rfl rfl ?_
            refine r_bipush (i := 59) (100 : Int32) kc_bipush_100 rfl rfl ?_
            refine r_icmp_ne (i := 60) (tgt := 153) rfl rfl rfl ?_ ?_
            · refine r_iload_n (i := 88) rfl rfl rfl ?_
              refine r_bipush (i := 89) (119 : Int32) kc_bipush_119 rfl rfl ?_
              refine r_icmp_ne (i := 90) (tgt := 207) rfl rfl rfl ?_ ?_
              · refine r_aload_n (i := 118) rfl rfl rfl ?_
                refine r_VV0 (i := 119) (k2 := 0) (n2 := 0) ok_Mod_bad wM_Mod_122 (c_Mod_bad) (fun _ e => fw_ckb e) (Nat.le_of_ble_eq_true rfl) (Nat.le_of_ble_eq_true rfl) (Nat.le_of_ble_eq_true rfl) (Nat.le_of_ble_eq_true rfl) rfl rfl fun h208 => ?_
                exact r_lv (fw_sub1 rfl (fw_sub1 rfl fw_sub0)) (hJ211 a44_1 h208)
              · refine r_aload_n (i := 91) rfl rfl rfl ?_
                refine r_gI (i := 92) (ci := 12) (kf := 21) rfl (Nat.le_of_ble_eq_true rfl) wF_Mod_231 rfl rfl fun x160 => ?_
                refine r_bipush (i := 93) (16 : Int32) kc_bipush_16 rfl rfl ?_
                refine r_icmp_ge (i := 94) (tgt := 207) rfl rfl rfl ?_ ?_
                · refine r_aload_n (i := 118) rfl rfl rfl ?_
                  refine r_VV0 (i := 119) (k2 := 0) (n2 := 0) ok_Mod_bad wM_Mod_122 (c_Mod_bad) (fun _ e => fw_ckb e) (Nat.le_of_ble_eq_true rfl) (Nat.le_of_ble_eq_true rfl) (Nat.le_of_ble_eq_true rfl) (Nat.le_of_ble_eq_true rfl) rfl rfl fun h208 => ?_
                  exact r_lv (fw_sub1 rfl (fw_sub1 rfl fw_sub0)) (hJ211 a44_1 h208)
                · refine r_aload_n (i := 95) rfl rfl rfl ?_
                  refine r_dup_r (i := 96) rfl rfl ?_
                  refine r_gI (i := 97) (ci := 12) (kf := 3) rfl (Nat.le_of_ble_eq_true rfl) wF_Mod_106 rfl rfl fun x170 => ?_
                  refine r_iconst (i := 98) (1 : Int32) kc_iconst_1 rfl rfl ?_
                  refine r_iadd (i := 99) rfl rfl ?_
                  refine r_pI (i := 100) (ci := 12) (kf := 3) rfl (Nat.le_of_ble_eq_true rfl) wF_Mod_106 rfl (tyX12_ok 3 (Nat.le_of_ble_eq_true rfl)) rfl rfl fun h175 => ?_
                  refine r_aload_n (i := 101) rfl rfl rfl ?_
                  refine r_iload_n (i := 102) rfl rfl rfl ?_
                  refine r_aload_n (i := 103) rfl rfl rfl ?_
                  refine r_gR (i := 104) (ci := 12) (kf := 19) rfl (Nat.le_of_ble_eq_true rfl) wF_Mod_46 rfl rfl fun x181 => ?_
                  refine r_iconst (i := 105) (3 : Int32) kc_iconst_3 rfl rfl ?_
                  refine r_aload_n (i := 106) rfl rfl rfl ?_
                  refine r_gI (i := 107) (ci := 12) (kf := 21) rfl (Nat.le_of_ble_eq_true rfl) wF_Mod_231 rfl rfl fun x186 => ?_
                  refine r_imul (i := 108) rfl rfl ?_
                  refine r_iconst (i := 109) (3 : Int32) kc_iconst_3 rfl rfl ?_
                  refine r_VV4 (i := 110) (k2 := 0) (n2 := 0) ok_Mod_items wM_Mod_236 (c_Mod_items F) (fun _ e => fw_ckb e) (Nat.le_of_ble_eq_true rfl) (Nat.le_of_ble_eq_true rfl) (Nat.le_of_ble_eq_true rfl) (Nat.le_of_ble_eq_true rfl) rfl rfl fun h191 => ?_
                  refine r_aload_n (i := 111) rfl rfl rfl ?_
                  refine r_dup_r (i := 112) rfl rfl ?_
                  refine r_gI (i := 113) (ci := 12) (kf := 21) rfl (Nat.le_of_ble_eq_true rfl) wF_Mod_231 rfl rfl fun x196 => ?_
                  refine r_iconst (i := 114) (1 : Int32) kc_iconst_1 rfl rfl ?_
                  refine r_iadd (i := 115) rfl rfl ?_
                  refine r_pI (i := 116) (ci := 12) (kf := 21) rfl (Nat.le_of_ble_eq_true rfl) wF_Mod_231 rfl (tyX12_ok 21 (Nat.le_of_ble_eq_true rfl)) rfl rfl fun h201 => ?_
                  refine r_goto (i := 117) (tgt := 211) rfl rfl rfl ?_
                  exact r_lv (fw_sub1 rfl (fw_sub1 rfl fw_sub0)) (hJ211 a44_1 h201)
            · refine r_aload_n (i := 61) rfl rfl rfl ?_
              refine r_gI (i := 62) (ci := 12) (kf := 20) rfl (Nat.le_of_ble_eq_true rfl) wF_Mod_228 rfl rfl fun x104 => ?_
              refine r_bipush (i := 63) (12 : Int32) kc_bipush_12 rfl rfl ?_
              refine r_icmp_ge (i := 64) (tgt := 153) rfl rfl rfl ?_ ?_
              · refine r_iload_n (i := 88) rfl rfl rfl ?_
                refine r_bipush (i := 89) (119 : Int32) kc_bipush_119 rfl rfl ?_
                refine r_icmp_ne (i := 90) (tgt := 207) rfl rfl rfl ?_ ?_
                · refine r_aload_n (i := 118) rfl rfl rfl ?_
                  refine r_VV0 (i := 119) (k2 := 0) (n2 := 0) ok_Mod_bad wM_Mod_122 (c_Mod_bad) (fun _ e => fw_ckb e) (Nat.le_of_ble_eq_true rfl) (Nat.le_of_ble_eq_true rfl) (Nat.le_of_ble_eq_true rfl) (Nat.le_of_ble_eq_true rfl) rfl rfl fun h208 => ?_
                  exact r_lv (fw_sub1 rfl (fw_sub1 rfl fw_sub0)) (hJ211 a44_1 h208)
                · refine r_aload_n (i := 91) rfl rfl rfl ?_
                  refine r_gI (i := 92) (ci := 12) (kf := 21) rfl (Nat.le_of_ble_eq_true rfl) wF_Mod_231 rfl rfl fun x160 => ?_
                  refine r_bipush (i := 93) (16 : Int32) kc_bipush_16 rfl rfl ?_
                  refine r_icmp_ge (i := 94) (tgt := 207) rfl rfl rfl ?_ ?_
                  · refine r_aload_n (i := 118) rfl rfl rfl ?_
                    refine r_VV0 (i := 119) (k2 := 0) (n2 := 0) ok_Mod_bad wM_Mod_122 (c_Mod_bad) (fun _ e => fw_ckb e) (Nat.le_of_ble_eq_true rfl) (Nat.le_of_ble_eq_true rfl) (Nat.le_of_ble_eq_true rfl) (Nat.le_of_ble_eq_true rfl) rfl rfl fun h208 => ?_
                    exact r_lv (fw_sub1 rfl (fw_sub1 rfl fw_sub0)) (hJ211 a44_1 h208)
                  · refine r_aload_n (i := 95) rfl rfl rfl ?_
                    refine r_dup_r (i := 96) rfl rfl ?_
                    refine r_gI (i := 97) (ci := 12) (kf := 3) rfl (Nat.le_of_ble_eq_true rfl) wF_Mod_106 rfl rfl fun x170 => ?_
                    refine r_iconst (i := 98) (1 : Int32) kc_iconst_1 rfl rfl ?_
                    refine r_iadd (i := 99) rfl rfl ?_
                    refine r_pI (i := 100) (ci := 12) (kf := 3) rfl (Nat.le_of_ble_eq_true rfl) wF_Mod_106 rfl (tyX12_ok 3 (Nat.le_of_ble_eq_true rfl)) rfl rfl fun h175 => ?_
                    refine r_aload_n (i := 101) rfl rfl rfl ?_
                    refine r_iload_n (i := 102) rfl rfl rfl ?_
                    refine r_aload_n (i := 103) rfl rfl rfl ?_
                    refine r_gR (i := 104) (ci := 12) (kf := 19) rfl (Nat.le_of_ble_eq_true rfl) wF_Mod_46 rfl rfl fun x181 => ?_
                    refine r_iconst (i := 105) (3 : Int32) kc_iconst_3 rfl rfl ?_
                    refine r_aload_n (i := 106) rfl rfl rfl ?_
                    refine r_gI (i := 107) (ci := 12) (kf := 21) rfl (Nat.le_of_ble_eq_true rfl) wF_Mod_231 rfl rfl fun x186 => ?_
                    refine r_imul (i := 108) rfl rfl ?_
                    refine r_iconst (i := 109) (3 : Int32) kc_iconst_3 rfl rfl ?_
                    refine r_VV4 (i := 110) (k2 := 0) (n2 := 0) ok_Mod_items wM_Mod_236 (c_Mod_items F) (fun _ e => fw_ckb e) (Nat.le_of_ble_eq_true rfl) (Nat.le_of_ble_eq_true rfl) (Nat.le_of_ble_eq_true rfl) (Nat.le_of_ble_eq_true rfl) rfl rfl fun h191 => ?_
                    refine r_aload_n (i := 111) rfl rfl rfl ?_
                    refine r_dup_r (i := 112) rfl rfl ?_
                    refine r_gI (i := 113) (ci := 12) (kf := 21) rfl (Nat.le_of_ble_eq_true rfl) wF_Mod_231 rfl rfl fun x196 => ?_
                    refine r_iconst (i := 114) (1 : Int32) kc_iconst_1 rfl rfl ?_
                    refine r_iadd (i := 115) rfl rfl ?_
                    refine r_pI (i := 116) (ci := 12) (kf := 21) rfl (Nat.le_of_ble_eq_true rfl) wF_Mod_231 rfl (tyX12_ok 21 (Nat.le_of_ble_eq_true rfl)) rfl rfl fun h201 => ?_
                    refine r_goto (i := 117) (tgt := 211) rfl rfl rfl ?_
                    exact r_lv (fw_sub1 rfl (fw_sub1 rfl fw_sub0)) (hJ211 a44_1 h201)
              · refine r_aload_n (i := 65) rfl rfl rfl ?_
                refine r_dup_r (i := 66) rfl rfl ?_
                refine r_gI (i := 67) (ci := 12) (kf := 3) rfl (Nat.le_of_ble_eq_true rfl) wF_Mod_106 rfl rfl fun x114 => ?_
                refine r_iconst (i := 68) (1 : Int32) kc_iconst_1 rfl rfl ?_
                refine r_iadd (i := 69) rfl rfl ?_
                refine r_pI (i := 70) (ci := 12) (kf := 3) rfl (Nat.le_of_ble_eq_true rfl) wF_Mod_106 rfl (tyX12_ok 3 (Nat.le_of_ble_eq_true rfl)) rfl rfl fun h119 => ?_
                refine r_aload_n (i := 71) rfl rfl rfl ?_
                refine r_iload_n (i := 72) rfl rfl rfl ?_
                refine r_aload_n (i := 73) rfl rfl rfl ?_
                refine r_gR (i := 74) (ci := 12) (kf := 18) rfl (Nat.le_of_ble_eq_true rfl) wF_Mod_43 rfl rfl fun x125 => ?_
                refine r_bipush (i := 75) (6 : Int32) kc_bipush_6 rfl rfl ?_
                refine r_aload_n (i := 76) rfl rfl rfl ?_
                refine r_gI (i := 77) (ci := 12) (kf := 20) rfl (Nat.le_of_ble_eq_true rfl) wF_Mod_228 rfl rfl fun x131 => ?_
                refine r_imul (i := 78) rfl rfl ?_
                refine r_bipush (i := 79) (6 : Int32) kc_bipush_6 rfl rfl ?_
                refine r_VV4 (i := 80) (k2 := 0) (n2 := 0) ok_Mod_items wM_Mod_236 (c_Mod_items F) (fun _ e => fw_ckb e) (Nat.le_of_ble_eq_true rfl) (Nat.le_of_ble_eq_true rfl) (Nat.le_of_ble_eq_true rfl) (Nat.le_of_ble_eq_true rfl) rfl rfl fun h137 => ?_
                refine r_aload_n (i := 81) rfl rfl rfl ?_
                refine r_dup_r (i := 82) rfl rfl ?_
                refine r_gI (i := 83) (ci := 12) (kf := 20) rfl (Nat.le_of_ble_eq_true rfl) wF_Mod_228 rfl rfl fun x142 => ?_
                refine r_iconst (i := 84) (1 : Int32) kc_iconst_1 rfl rfl ?_
                refine r_iadd (i := 85) rfl rfl ?_
                refine r_pI (i := 86) (ci := 12) (kf := 20) rfl (Nat.le_of_ble_eq_true rfl) wF_Mod_228 rfl (tyX12_ok 20 (Nat.le_of_ble_eq_true rfl)) rfl rfl fun h147 => ?_
                refine r_goto (i := 87) (tgt := 211) rfl rfl rfl ?_
                exact r_lv (fw_sub1 rfl (fw_sub1 rfl fw_sub0)) (hJ211 a44_1 h147)
          · refine r_iload_n (i := 40) rfl rfl rfl ?_
            refine r_if_ne (i := 41) (tgt := 97) rfl rfl rfl ?_ ?_
            · refine r_iload_n (i := 58) rfl rfl rfl ?_
              refine r_bipush (i := 59) (100 : Int32) kc_bipush_100 rfl rfl ?_
              refine r_icmp_ne (i := 60) (tgt := 153) rfl rfl rfl ?_ ?_
              · refine r_iload_n (i := 88) rfl rfl rfl ?_
                refine r_bipush (i := 89) (119 : Int32) kc_bipush_119 rfl rfl ?_
                refine r_icmp_ne (i := 90) (tgt := 207) rfl rfl rfl ?_ ?_
                · refine r_aload_n (i := 118) rfl rfl rfl ?_
                  refine r_VV0 (i := 119) (k2 := 0) (n2 := 0) ok_Mod_bad wM_Mod_122 (c_Mod_bad) (fun _ e => fw_ckb e) (Nat.le_of_ble_eq_true rfl) (Nat.le_of_ble_eq_true rfl) (Nat.le_of_ble_eq_true rfl) (Nat.le_of_ble_eq_true rfl) rfl rfl fun h208 => ?_
                  exact r_lv (fw_sub1 rfl (fw_sub1 rfl fw_sub0)) (hJ211 a44_1 h208)
                · refine r_aload_n (i := 91) rfl rfl rfl ?_
                  refine r_gI (i := 92) (ci := 12) (kf := 21) rfl (Nat.le_of_ble_eq_true rfl) wF_Mod_231 rfl rfl fun x160 => ?_
                  refine r_bipush (i := 93) (16 : Int32) kc_bipush_16 rfl rfl ?_
                  refine r_icmp_ge (i := 94) (tgt := 207) rfl rfl rfl ?_ ?_
                  · refine r_aload_n (i := 118) rfl rfl rfl ?_
                    refine r_VV0 (i := 119) (k2 := 0) (n2 := 0) ok_Mod_bad wM_Mod_122 (c_Mod_bad) (fun _ e => fw_ckb e) (Nat.le_of_ble_eq_true rfl) (Nat.le_of_ble_eq_true rfl) (Nat.le_of_ble_eq_true rfl) (Nat.le_of_ble_eq_true rfl) rfl rfl fun h208 => ?_
                    exact r_lv (fw_sub1 rfl (fw_sub1 rfl fw_sub0)) (hJ211 a44_1 h208)
                  · refine r_aload_n (i := 95) rfl rfl rfl ?_
                    refine r_dup_r (i := 96) rfl rfl ?_
                    refine r_gI (i := 97) (ci := 12) (kf := 3) rfl (Nat.le_of_ble_eq_true rfl) wF_Mod_106 rfl rfl fun x170 => ?_
                    refine r_iconst (i := 98) (1 : Int32) kc_iconst_1 rfl rfl ?_
                    refine r_iadd (i := 99) rfl rfl ?_
                    refine r_pI (i := 100) (ci := 12) (kf := 3) rfl (Nat.le_of_ble_eq_true rfl) wF_Mod_106 rfl (tyX12_ok 3 (Nat.le_of_ble_eq_true rfl)) rfl rfl fun h175 => ?_
                    refine r_aload_n (i := 101) rfl rfl rfl ?_
                    refine r_iload_n (i := 102) rfl rfl rfl ?_
                    refine r_aload_n (i := 103) rfl rfl rfl ?_
                    refine r_gR (i := 104) (ci := 12) (kf := 19) rfl (Nat.le_of_ble_eq_true rfl) wF_Mod_46 rfl rfl fun x181 => ?_
                    refine r_iconst (i := 105) (3 : Int32) kc_iconst_3 rfl rfl ?_
                    refine r_aload_n (i := 106) rfl rfl rfl ?_
                    refine r_gI (i := 107) (ci := 12) (kf := 21) rfl (Nat.le_of_ble_eq_true rfl) wF_Mod_231 rfl rfl fun x186 => ?_
                    refine r_imul (i := 108) rfl rfl ?_
                    refine r_iconst (i := 109) (3 : Int32) kc_iconst_3 rfl rfl ?_
                    refine r_VV4 (i := 110) (k2 := 0) (n2 := 0) ok_Mod_items wM_Mod_236 (c_Mod_items F) (fun _ e => fw_ckb e) (Nat.le_of_ble_eq_true rfl) (Nat.le_of_ble_eq_true rfl) (Nat.le_of_ble_eq_true rfl) (Nat.le_of_ble_eq_true rfl) rfl rfl fun h191 => ?_
                    refine r_aload_n (i := 111) rfl rfl rfl ?_
                    refine r_dup_r (i := 112) rfl rfl ?_
                    refine r_gI (i := 113) (ci := 12) (kf := 21) rfl (Nat.le_of_ble_eq_true rfl) wF_Mod_231 rfl rfl fun x196 => ?_
                    refine r_iconst (i := 114) (1 : Int32) kc_iconst_1 rfl rfl ?_
                    refine r_iadd (i := 115) rfl rfl ?_
                    refine r_pI (i := 116) (ci := 12) (kf := 21) rfl (Nat.le_of_ble_eq_true rfl) wF_Mod_231 rfl (tyX12_ok 21 (Nat.le_of_ble_eq_true rfl)) rfl rfl fun h201 => ?_
                    refine r_goto (i := 117) (tgt := 211) rfl rfl rfl ?_
                    exact r_lv (fw_sub1 rfl (fw_sub1 rfl fw_sub0)) (hJ211 a44_1 h201)
              · refine r_aload_n (i := 61) rfl rfl rfl ?_
                refine r_gI (i := 62) (ci := 12) (kf := 20) rfl (Nat.le_of_ble_eq_true rfl) wF_Mod_228 rfl rfl fun x104 => ?_
                refine r_bipush (i := 63) (12 : Int32) kc_bipush_12 rfl rfl ?_
                refine r_icmp_ge (i := 64) (tgt := 153) rfl rfl rfl ?_ ?_
                · refine r_iload_n (i := 88) rfl rfl rfl ?_
                  refine r_bipush (i := 89) (119 : Int32) kc_bipush_119 rfl rfl ?_
                  refine r_icmp_ne (i := 90) (tgt := 207) rfl rfl rfl ?_ ?_
                  · refine r_aload_n (i := 118) rfl rfl rfl ?_
                    refine r_VV0 (i := 119) (k2 := 0) (n2 := 0) ok_Mod_bad wM_Mod_122 (c_Mod_bad) (fun _ e => fw_ckb e) (Nat.le_of_ble_eq_true rfl) (Nat.le_of_ble_eq_true rfl) (Nat.le_of_ble_eq_true rfl) (Nat.le_of_ble_eq_true rfl) rfl rfl fun h208 => ?_
                    exact r_lv (fw_sub1 rfl (fw_sub1 rfl fw_sub0)) (hJ211 a44_1 h208)
                  · refine r_aload_n (i := 91) rfl rfl rfl ?_
                    refine r_gI (i := 92) (ci := 12) (kf := 21) rfl (Nat.le_of_ble_eq_true rfl) wF_Mod_231 rfl rfl fun x160 => ?_
                    refine r_bipush (i := 93) (16 : Int32) kc_bipush_16 rfl rfl ?_
                    refine r_icmp_ge (i := 94) (tgt := 207) rfl rfl rfl ?_ ?_
                    · refine r_aload_n (i := 118) rfl rfl rfl ?_
                      refine r_VV0 (i := 119) (k2 := 0) (n2 := 0) ok_Mod_bad wM_Mod_122 (c_Mod_bad) (fun _ e => fw_ckb e) (Nat.le_of_ble_eq_true rfl) (Nat.le_of_ble_eq_true rfl) (Nat.le_of_ble_eq_true rfl) (Nat.le_of_ble_eq_true rfl) rfl rfl fun h208 => ?_
                      exact r_lv (fw_sub1 rfl (fw_sub1 rfl fw_sub0)) (hJ211 a44_1 h208)
                    · refine r_aload_n (i := 95) rfl rfl rfl ?_
                      refine r_dup_r (i := 96) rfl rfl ?_
                      refine r_gI (i := 97) (ci := 12) (kf := 3) rfl (Nat.le_of_ble_eq_true rfl) wF_Mod_106 rfl rfl fun x170 => ?_
                      refine r_iconst (i := 98) (1 : Int32) kc_iconst_1 rfl rfl ?_
                      refine r_iadd (i := 99) rfl rfl ?_
                      refine r_pI (i := 100) (ci := 12) (kf := 3) rfl (Nat.le_of_ble_eq_true rfl) wF_Mod_106 rfl (tyX12_ok 3 (Nat.le_of_ble_eq_true rfl)) rfl rfl fun h175 => ?_
                      refine r_aload_n (i := 101) rfl rfl rfl ?_
                      refine r_iload_n (i := 102) rfl rfl rfl ?_
                      refine r_aload_n (i := 103) rfl rfl rfl ?_
                      refine r_gR (i := 104) (ci := 12) (kf := 19) rfl (Nat.le_of_ble_eq_true rfl) wF_Mod_46 rfl rfl fun x181 => ?_
                      refine r_iconst (i := 105) (3 : Int32) kc_iconst_3 rfl rfl ?_
                      refine r_aload_n (i := 106) rfl rfl rfl ?_
                      refine r_gI (i := 107) (ci := 12) (kf := 21) rfl (Nat.le_of_ble_eq_true rfl) wF_Mod_231 rfl rfl fun x186 => ?_
                      refine r_imul (i := 108) rfl rfl ?_
                      refine r_iconst (i := 109) (3 : Int32) kc_iconst_3 rfl rfl ?_
                      refine r_VV4 (i := 110) (k2 := 0) (n2 := 0) ok_Mod_items wM_Mod_236 (c_Mod_items F) (fun _ e => fw_ckb e) (Nat.le_of_ble_eq_true rfl) (Nat.le_of_ble_eq_true rfl) (Nat.le_of_ble_eq_true rfl) (Nat.le_of_ble_eq_true rfl) rfl rfl fun h191 => ?_
                      refine r_aload_n (i := 111) rfl rfl rfl ?_
                      refine r_dup_r (i := 112) rfl rfl ?_
                      refine r_gI (i := 113) (ci := 12) (kf := 21) rfl (Nat.le_of_ble_eq_true rfl) wF_Mod_231 rfl rfl fun x196 => ?_
                      refine r_iconst (i := 114) (1 : Int32) kc_iconst_1 rfl rfl ?_
                      refine r_iadd (i := 115) rfl rfl ?_
                      refine r_pI (i := 116) (ci := 12) (kf := 21) rfl (Nat.le_of_ble_eq_true rfl) wF_Mod_231 rfl (tyX12_ok 21 (Nat.le_of_ble_eq_true rfl)) rfl rfl fun h201 => ?_
                      refine r_goto (i := 117) (tgt := 211) rfl rfl rfl ?_
                      exact r_lv (fw_sub1 rfl (fw_sub1 rfl fw_sub0)) (hJ211 a44_1 h201)
                · refine r_aload_n (i := 65) rfl rfl rfl ?_
                  refine r_dup_r (i := 66) rfl rfl ?_
                  refine r_gI (i := 67) (ci := 12) (kf := 3) rfl (Nat.le_of_ble_eq_true rfl) wF_Mod_106 rfl rfl fun x114 => ?_
                  refine r_iconst (i := 68) (1 : Int32) kc_iconst_1 rfl rfl ?_
                  refine r_iadd (i := 69) rfl rfl ?_
                  refine r_pI (i := 70) (ci := 12) (kf := 3) rfl (Nat.le_of_ble_eq_true rfl) wF_Mod_106 rfl (tyX12_ok 3 (Nat.le_of_ble_eq_true rfl)) rfl rfl fun h119 => ?_
                  refine r_aload_n (i := 71) rfl rfl rfl ?_
                  refine r_iload_n (i := 72) rfl rfl rfl ?_
                  refine r_aload_n (i := 73) rfl rfl rfl ?_
                  refine r_gR (i := 74) (ci := 12) (kf := 18) rfl (Nat.le_of_ble_eq_true rfl) wF_Mod_43 rfl rfl fun x125 => ?_
                  refine r_bipush (i := 75) (6 : Int32) kc_bipush_6 rfl rfl ?_
                  refine r_aload_n (i := 76) rfl rfl rfl ?_
                  refine r_gI (i := 77) (ci := 12) (kf := 20) rfl (Nat.le_of_ble_eq_true rfl) wF_Mod_228 rfl rfl fun x131 => ?_
                  refine r_imul (i := 78) rfl rfl ?_
                  refine r_bipush (i := 79) (6 : Int32) kc_bipush_6 rfl rfl ?_
                  refine r_VV4 (i := 80) (k2 := 0) (n2 := 0) ok_Mod_items wM_Mod_236 (c_Mod_items F) (fun _ e => fw_ckb e) (Nat.le_of_ble_eq_true rfl) (Nat.le_of_ble_eq_true rfl) (Nat.le_of_ble_eq_true rfl) (Nat.le_of_ble_eq_true rfl) rfl rfl fun h137 => ?_
                  refine r_aload_n (i := 81) rfl rfl rfl ?_
                  refine r_dup_r (i := 82) rfl rfl ?_
                  refine r_gI (i := 83) (ci := 12) (kf := 20) rfl (Nat.le_of_ble_eq_true rfl) wF_Mod_228 rfl rfl fun x142 => ?_
                  refine r_iconst (i := 84) (1 : Int32) kc_iconst_1 rfl rfl ?_
                  refine r_iadd (i := 85) rfl rfl ?_
                  refine r_pI (i := 86) (ci := 12) (kf := 20) rfl (Nat.le_of_ble_eq_true rfl) wF_Mod_228 rfl (tyX12_ok 20 (Nat.le_of_ble_eq_true rfl)) rfl rfl fun h147 => ?_
                  refine r_goto (i := 87) (tgt := 211) rfl rfl rfl ?_
                  exact r_lv (fw_sub1 rfl (fw_sub1 rfl fw_sub0)) (hJ211 a44_1 h147)
            · refine r_iconst (i := 42) (1 : Int32) kc_iconst_1 rfl rfl ?_
              refine r_istore_n (i := 43) rfl rfl (Nat.le_of_ble_eq_true rfl) rfl ?_
              refine r_aload_n (i := 44) rfl rfl rfl ?_
              refine r_dup_r (i := 45) rfl rfl ?_
              refine r_gI (i := 46) (ci := 12) (kf := 3) rfl (Nat.le_of_ble_eq_true rfl) wF_Mod_106 rfl rfl fun x75 => ?_
              refine r_iconst (i := 47) (1 : Int32) kc_iconst_1 rfl rfl ?_
              refine r_iadd (i := 48) rfl rfl ?_
              refine r_pI (i := 49) (ci := 12) (kf := 3) rfl (Nat.le_of_ble_eq_true rfl) wF_Mod_106 rfl (tyX12_ok 3 (Nat.le_of_ble_eq_true rfl)) rfl rfl fun h80 => ?_
              refine r_aload_n (i := 50) rfl rfl rfl ?_
              refine r_iload_n (i := 51) rfl rfl rfl ?_
              refine r_aload_n (i := 52) rfl rfl rfl ?_
              refine r_gR (i := 53) (ci := 12) (kf := 17) rfl (Nat.le_of_ble_eq_true rfl) wF_Mod_40 rfl rfl fun x86 => ?_
              refine r_iconst (i := 54) (0 : Int32) kc_iconst_0 rfl rfl ?_
              refine r_iconst (i := 55) (3 : Int32) kc_iconst_3 rfl rfl ?_
              refine r_VV4 (i := 56) (k2 := 0) (n2 := 0) ok_Mod_items wM_Mod_236 (c_Mod_items F) (fun _ e => fw_ckb e) (Nat.le_of_ble_eq_true rfl) (Nat.le_of_ble_eq_true rfl) (Nat.le_of_ble_eq_true rfl) (Nat.le_of_ble_eq_true rfl) rfl rfl fun h91 => ?_
              refine r_goto (i := 57) (tgt := 211) rfl rfl rfl ?_
              exact r_lv (fw_sub1 rfl (fw_sub1 rfl fw_sub0)) (hJ211 (1 : Int32) h91)
def s_Mod_readAll (F : Nat) (h : fw_H) (v0 : Option Nat) : Option (Int32 × fw_H) :=
(f_ck h v0 12).bind fun _ =>
(f_pI h v0 12 3 (0 : Int32)).bind fun h2 =>
(f_pI h2 v0 12 4 (-1 : Int32)).bind fun h7 =>
(f_pI h7 v0 12 20 (0 : Int32)).bind fun h12 =>
(f_pI h12 v0 12 21 (0 : Int32)).bind fun h17 =>
l_Mod_readAll_24 v0 (fun he42 =>
l_Mod_readAll_44 F v0 (fun he255 =>
(f_gI he255 v0 12 4).bind fun x256 =>
if ¬ x256 = (-1 : Int32) then ((f_gI he255 v0 12 4).bind fun x283 =>
some (x283, he255)) else
(s_Mod_look F he255 v0).bind fun x264 =>
if ¬ x264.1 = (-1 : Int32) then ((s_Mod_bad x264.2 v0).bind fun h279 =>
(f_gI h279 v0 12 4).bind fun x283 =>
some (x283, h279)) else
(s_Mod_isWhole F x264.2 v0).bind fun x272 =>
if x272 = true then ((f_gI x264.2 v0 12 4).bind fun x283 =>
some (x283, x264.2)) else
(s_Mod_bad x264.2 v0).bind fun h279 =>
(f_gI h279 v0 12 4).bind fun x283 =>
some (x283, h279)) F (0 : Int32) (1 : Int32) he42) F (0 : Int32) h17
theorem c_Mod_readAll {G : fw_G} (F : Nat) {h : fw_H} {v0 : Option Nat} : fw_Call G m_Mod_readAll fw_wI 4 0 0 [fw_r v0] h (s_Mod_readAll F h v0) := by
  refine fw_Call.of ok_Mod_readAll.1 (Nat.le_of_ble_eq_true rfl) [(0, some (fw_r v0))] rfl ?_
  refine r_ck ?_
  refine r_aload_n (i := 0) rfl rfl rfl ?_
  refine r_iconst (i := 1) (0 : Int32) kc_iconst_0 rfl rfl ?_
  refine r_pI (i := 2) (ci := 12) (kf := 3) rfl (Nat.le_of_ble_eq_true rfl) wF_Mod_106 rfl (tyX12_ok 3 (Nat.le_of_ble_eq_true rfl)) rfl rfl fun h2 => ?_
  refine r_aload_n (i := 3) rfl rfl rfl ?_
  refine r_iconst (i := 4) (-1 : Int32) kc_iconst_m1 rfl rfl ?_
  refine r_pI (i := 5) (ci := 12) (kf := 4) rfl (Nat.le_of_ble_eq_true rfl) wF_Mod_113 rfl (tyX12_ok 4 (Nat.le_of_ble_eq_true rfl)) rfl rfl fun h7 => ?_
  refine r_aload_n (i := 6) rfl rfl rfl ?_
  refine r_iconst (i := 7) (0 : Int32) kc_iconst_0 rfl rfl ?_
  refine r_pI (i := 8) (ci := 12) (kf := 20) rfl (Nat.le_of_ble_eq_true rfl) wF_Mod_228 rfl (tyX12_ok 20 (Nat.le_of_ble_eq_true rfl)) rfl rfl fun h12 => ?_
  refine r_aload_n (i := 9) rfl rfl rfl ?_
  refine r_iconst (i := 10) (0 : Int32) kc_iconst_0 rfl rfl ?_
  refine r_pI (i := 11) (ci := 12) (kf := 21) rfl (Nat.le_of_ble_eq_true rfl) wF_Mod_231 rfl (tyX12_ok 21 (Nat.le_of_ble_eq_true rfl)) rfl rfl fun h17 => ?_
  refine r_iconst (i := 12) (0 : Int32) kc_iconst_0 rfl rfl ?_
  refine r_istore_n (i := 13) rfl rfl (Nat.le_of_ble_eq_true rfl) rfl ?_
  refine r_iconst (i := 14) (0 : Int32) kc_iconst_0 rfl rfl ?_
  refine r_istore_n (i := 15) rfl rfl (Nat.le_of_ble_eq_true rfl) rfl ?_
  refine r_lv (fw_sub1 rfl (fw_sub1 rfl (fw_sub1 rfl fw_sub0))) (cl_Mod_readAll_24 ?_ F _ _)
  · intro he42
    refine r_iconst (i := 26) (1 : Int32) kc_iconst_1 rfl rfl ?_
    refine r_istore_n (i := 27) rfl rfl (Nat.le_of_ble_eq_true rfl) rfl ?_
    refine r_lv (fw_sub1 rfl (fw_sub1 rfl (fw_sub1 rfl fw_sub0))) (cl_Mod_readAll_44 ?_ F _ _ _)
    · intro he255
      refine r_aload_n (i := 143) rfl rfl rfl ?_
      refine r_gI (i := 144) (ci := 12) (kf := 4) rfl (Nat.le_of_ble_eq_true rfl) wF_Mod_113 rfl rfl fun x256 => ?_
      refine r_iconst (i := 145) (-1 : Int32) kc_iconst_m1 rfl rfl ?_
      refine r_icmp_ne (i := 146) (tgt := 282) rfl rfl rfl ?_ ?_
      · refine r_aload_n (i := 156) rfl rfl rfl ?_
        refine r_gI (i := 157) (ci := 12) (kf := 4) rfl (Nat.le_of_ble_eq_true rfl) wF_Mod_113 rfl rfl fun x283 => ?_
        exact r_retI (i := 158) rfl rfl rfl rfl
      · refine r_aload_n (i := 147) rfl rfl rfl ?_
        refine r_VwI0 (i := 148) (k2 := 0) (n2 := 0) ok_Mod_look wM_Mod_125 (c_Mod_look F) (fun _ e => fw_ckb e) (Nat.le_of_ble_eq_true rfl) (Nat.le_of_ble_eq_true rfl) (Nat.le_of_ble_eq_true rfl) (Nat.le_of_ble_eq_true rfl) rfl rfl fun x264 => ?_
        refine r_iconst (i := 149) (-1 : Int32) kc_iconst_m1 rfl rfl ?_
        refine r_icmp_ne (i := 150) (tgt := 278) rfl rfl rfl ?_ ?_
        · refine r_aload_n (i := 154) rfl rfl rfl ?_
          refine r_VV0 (i := 155) (k2 := 0) (n2 := 0) ok_Mod_bad wM_Mod_122 (c_Mod_bad) (fun _ e => fw_ckb e) (Nat.le_of_ble_eq_true rfl) (Nat.le_of_ble_eq_true rfl) (Nat.le_of_ble_eq_true rfl) (Nat.le_of_ble_eq_true rfl) rfl rfl fun h279 => ?_
          refine r_aload_n (i := 156) rfl rfl rfl ?_
          refine r_gI (i := 157) (ci := 12) (kf := 4) rfl (Nat.le_of_ble_eq_true rfl) wF_Mod_113 rfl rfl fun x283 => ?_
          exact r_retI (i := 158) rfl rfl rfl rfl
        · refine r_aload_n (i := 151) rfl rfl rfl ?_
          refine r_VB0 (i := 152) (k2 := 0) (n2 := 0) ok_Mod_isWhole wM_Mod_240 (c_Mod_isWhole F) (fun _ e => fw_ckb e) (Nat.le_of_ble_eq_true rfl) (Nat.le_of_ble_eq_true rfl) (Nat.le_of_ble_eq_true rfl) (Nat.le_of_ble_eq_true rfl) rfl rfl fun x272 => ?_
          refine r_ifneB (i := 153) (tgt := 282) rfl rfl rfl ?_ ?_
          · refine r_aload_n (i := 156) rfl rfl rfl ?_
            refine r_gI (i := 157) (ci := 12) (kf := 4) rfl (Nat.le_of_ble_eq_true rfl) wF_Mod_113 rfl rfl fun x283 => ?_
            exact r_retI (i := 158) rfl rfl rfl rfl
          · refine r_aload_n (i := 154) rfl rfl rfl ?_
            refine r_VV0 (i := 155) (k2 := 0) (n2 := 0) ok_Mod_bad wM_Mod_122 (c_Mod_bad) (fun _ e => fw_ckb e) (Nat.le_of_ble_eq_true rfl) (Nat.le_of_ble_eq_true rfl) (Nat.le_of_ble_eq_true rfl) (Nat.le_of_ble_eq_true rfl) rfl rfl fun h279 => ?_
            refine r_aload_n (i := 156) rfl rfl rfl ?_
            refine r_gI (i := 157) (ci := 12) (kf := 4) rfl (Nat.le_of_ble_eq_true rfl) wF_Mod_113 rfl rfl fun x283 => ?_
            exact r_retI (i := 158) rfl rfl rfl rfl
-- Mod_fault
def s_Mod_fault (F : Nat) (h : fw_H) (v0 : Option Nat) (v1 : Int32) : Option (Int32 × fw_H) :=
(f_ck h v0 12).bind fun _ =>
if ¬ v1 = (0 : Int32) then (if ¬ v1 = (1 : Int32) then (some ((-2 : Int32), h)) else
(s_Mod_readLaw F h v0 (4 : Int32)).bind fun x18 =>
some (x18.1, x18.2)) else
(s_Mod_readAll F h v0).bind fun x5 =>
some (x5.1, x5.2)
theorem c_Mod_fault {G : fw_G} (F : Nat) {h : fw_H} {v0 : Option Nat} {v1 : Int32} : fw_Call G m_Mod_fault fw_wI 168 0 0 [fw_r v0, fw_i v1] h (s_Mod_fault F h v0 v1) := by
  refine fw_Call.of ok_Mod_fault.1 (Nat.le_of_ble_eq_true rfl) [(0, some (fw_r v0)), (1, some (fw_i v1))] rfl ?_
  refine r_ck ?_
  refine r_iload_n (i := 0) rfl rfl rfl ?_
  refine r_if_ne (i := 1) (tgt := 11) rfl rfl rfl ?_ ?_
  · refine r_iload_n (i := 5) rfl rfl rfl ?_
    refine r_iconst (i := 6) (1 : Int32) kc_iconst_1 rfl rfl ?_
    refine r_icmp_ne (i := 7) (tgt := 24) rfl rfl rfl ?_ ?_
    · refine r_bipush (i := 12) (-2 : Int32) kc_bipush_m2 rfl rfl ?_
      exact r_retI (i := 13) rfl rfl rfl rfl
    · refine r_aload_n (i := 8) rfl rfl rfl ?_
      refine r_iconst (i := 9) (4 : Int32) kc_iconst_4 rfl rfl ?_
      refine r_VwI1 (i := 10) (k2 := 0) (n2 := 0) ok_Mod_readLaw wM_Mod_247 (c_Mod_readLaw F) (fun _ e => fw_ckb e) (Nat.le_of_ble_eq_true rfl) (Nat.le_of_ble_eq_true rfl) (Nat.le_of_ble_eq_true rfl) (Nat.le_of_ble_eq_true rfl) rfl rfl fun x18 => ?_
      refine r_goto (i := 11) (tgt := 26) rfl rfl rfl ?_
      exact r_retI (i := 13) rfl rfl rfl rfl
  · refine r_aload_n (i := 2) rfl rfl rfl ?_
    refine r_VwI0 (i := 3) (k2 := 0) (n2 := 0) ok_Mod_readAll wM_Mod_244 (c_Mod_readAll F) (fun _ e => fw_ckb e) (Nat.le_of_ble_eq_true rfl) (Nat.le_of_ble_eq_true rfl) (Nat.le_of_ble_eq_true rfl) (Nat.le_of_ble_eq_true rfl) rfl rfl fun x5 => ?_
    refine r_goto (i := 4) (tgt := 26) rfl rfl rfl ?_
    exact r_retI (i := 13) rfl rfl rfl rfl
-- Mod_layEnvy
def l_Mod_layEnvy_2 (v0 : Option Nat) (v1 : Int32) : Nat → Int32 → fw_H → Option fw_H
  | 0, _, _ => none
  | nn + 1, a2_2, g2 =>
    (f_gI g2 v0 12 24).bind fun x4 =>
    if x4 ≤ a2_2 then (some g2) else
    (f_gR g2 v0 12 27).bind fun x11 =>
    (s_Mod_has v1 a2_2).bind fun x17 =>
    if x17 = true then ((f_gR g2 v0 12 22).bind fun x24 =>
    (f_aI g2 x24 (((6 : Int32) * a2_2) + (1 : Int32))).bind fun x33 =>
    (f_sI g2 x11 a2_2 x33).bind fun h38 =>
    l_Mod_layEnvy_2 v0 v1 nn (a2_2 + (1 : Int32)) h38) else
    (f_sI g2 x11 a2_2 (0 : Int32)).bind fun h38 =>
    l_Mod_layEnvy_2 v0 v1 nn (a2_2 + (1 : Int32)) h38
theorem cl_Mod_layEnvy_2 {G : fw_G} {v0 : Option Nat} {v1 : Int32} : ∀ (nn : Nat) (a2_2 : Int32) (g2 : fw_H), fw_R G m_Mod_layEnvy fw_eV 1 0 0 2 [(0, some (fw_r v0)), (1, some (fw_i v1)), (2, some (fw_i a2_2))] [] g2 (l_Mod_layEnvy_2 v0 v1 nn a2_2 g2) := by
  intro nn
  induction nn with
  | zero => intros; exact r_none
  | succ nn ih =>
    intro a2_2 g2
    rw [l_Mod_layEnvy_2]
    refine r_iload_n (i := 2) rfl rfl rfl ?_
    refine r_aload_n (i := 3) rfl rfl rfl ?_
    refine r_gI (i := 4) (ci := 12) (kf := 24) rfl (Nat.le_of_ble_eq_true rfl) wF_Mod_250 rfl rfl fun x4 => ?_
    refine r_icmp_ge (i := 5) (tgt := 45) rfl rfl rfl ?_ ?_
    · exact r_retV (i := 26) rfl rfl rfl rfl
    · refine r_aload_n (i := 6) rfl rfl rfl ?_
      refine r_gR (i := 7) (ci := 12) (kf := 27) rfl (Nat.le_of_ble_eq_true rfl) wF_Mod_58 rfl rfl fun x11 => ?_
      refine r_iload_n (i := 8) rfl rfl rfl ?_
      refine r_iload_n (i := 9) rfl rfl rfl ?_
      refine r_iload_n (i := 10) rfl rfl rfl ?_
      refine r_SB2 (i := 11) (k2 := 0) (n2 := 0) ok_Mod_has wM_Mod_218 (c_Mod_has) (Nat.le_of_ble_eq_true rfl) (Nat.le_of_ble_eq_true rfl) (Nat.le_of_ble_eq_true rfl) (Nat.le_of_ble_eq_true rfl) rfl rfl fun x17 => ?_
      refine r_ifeqB (i := 12) (tgt := 37) rfl rfl rfl ?_ ?_
      · refine r_iconst (i := 22) (0 : Int32) kc_iconst_0 rfl rfl ?_
        refine r_sI (i := 23) rfl rfl fun h38 => ?_
        refine r_iinc (i := 24) (1 : Int32) kc_iconst_1 rfl rfl rfl (Nat.le_of_ble_eq_true rfl) ?_
        refine r_goto (i := 25) (tgt := 2) rfl rfl rfl ?_
        exact r_lv (fw_sub1 rfl (fw_sub1 rfl (fw_sub1 rfl fw_sub0))) (ih (a2_2 + (1 : Int32)) h38)
      · refine r_aload_n (i := 13) rfl rfl rfl ?_
        refine r_gR (i := 14) (ci := 12) (kf := 22) rfl (Nat.le_of_ble_eq_true rfl) wF_Mod_49 rfl rfl fun x24 => ?_
        refine r_bipush (i := 15) (6 : Int32) kc_bipush_6 rfl rfl ?_
        refine r_iload_n (i := 16) rfl rfl rfl ?_
        refine r_imul (i := 17) rfl rfl ?_
        refine r_iconst (i := 18) (1 : Int32) kc_iconst_1 rfl rfl ?_
        refine r_iadd (i := 19) rfl rfl ?_
        refine r_aI (i := 20) rfl rfl fun x33 => ?_
        refine r_goto (i := 21) (tgt := 38) rfl rfl rfl ?_
        refine r_sI (i := 23) rfl rfl fun h38 => ?_
        refine r_iinc (i := 24) (1 : Int32) kc_iconst_1 rfl rfl rfl (Nat.le_of_ble_eq_true rfl) ?_
        refine r_goto (i := 25) (tgt := 2) rfl rfl rfl ?_
        exact r_lv (fw_sub1 rfl (fw_sub1 rfl (fw_sub1 rfl fw_sub0))) (ih (a2_2 + (1 : Int32)) h38)
def s_Mod_layEnvy (F : Nat) (h : fw_H) (v0 : Option Nat) (v1 : Int32) : Option fw_H :=
(f_ck h v0 12).bind fun _ =>
l_Mod_layEnvy_2 v0 v1 F (0 : Int32) h
theorem c_Mod_layEnvy {G : fw_G} (F : Nat) {h : fw_H} {v0 : Option Nat} {v1 : Int32} : fw_Call G m_Mod_layEnvy fw_eV 1 0 0 [fw_r v0, fw_i v1] h (s_Mod_layEnvy F h v0 v1) := by
  refine fw_Call.of ok_Mod_layEnvy.1 (Nat.le_of_ble_eq_true rfl) [(0, some (fw_r v0)), (1, some (fw_i v1))] rfl ?_
  refine r_ck ?_
  refine r_iconst (i := 0) (0 : Int32) kc_iconst_0 rfl rfl ?_
  refine r_istore_n (i := 1) rfl rfl (Nat.le_of_ble_eq_true rfl) rfl ?_
  refine r_lv (fw_sub1 rfl (fw_sub1 rfl (fw_sub1 rfl fw_sub0))) (cl_Mod_layEnvy_2 F _ _)
-- Mod_takeAll
def l_Mod_takeAll_18 (v0 : Option Nat) (K42 : fw_H → Option (Int32 × fw_H)) : Nat → Int32 → fw_H → Option (Int32 × fw_H)
  | 0, _, _ => none
  | nn + 1, a18_1, g18 =>
    if (72 : Int32) ≤ a18_1 then (K42 g18) else
    (f_gR g18 v0 12 22).bind fun x25 =>
    (f_gR g18 v0 12 18).bind fun x30 =>
    (f_aI g18 x30 a18_1).bind fun x34 =>
    (f_sI g18 x25 a18_1 x34).bind fun h35 =>
    l_Mod_takeAll_18 v0 K42 nn (a18_1 + (1 : Int32)) h35
theorem cl_Mod_takeAll_18 {G : fw_G} {v0 : Option Nat} {K42 : fw_H → Option (Int32 × fw_H)} (hK42 : ∀ (he42 : fw_H), fw_R G m_Mod_takeAll fw_wI 2 0 0 42 [(0, some (fw_r v0))] [] he42 (K42 he42)) : ∀ (nn : Nat) (a18_1 : Int32) (g18 : fw_H), fw_R G m_Mod_takeAll fw_wI 2 0 0 18 [(0, some (fw_r v0)), (1, some (fw_i a18_1))] [] g18 (l_Mod_takeAll_18 v0 K42 nn a18_1 g18) := by
  intro nn
  induction nn with
  | zero => intros; exact r_none
  | succ nn ih =>
    intro a18_1 g18
    rw [l_Mod_takeAll_18]
    refine r_iload_n (i := 10) rfl rfl rfl ?_
    refine r_bipush (i := 11) (72 : Int32) kc_bipush_72 rfl rfl ?_
    refine r_icmp_ge (i := 12) (tgt := 42) rfl rfl rfl ?_ ?_
    · exact r_lv (fw_sub1 rfl fw_sub0) (hK42 g18)
    · refine r_aload_n (i := 13) rfl rfl rfl ?_
      refine r_gR (i := 14) (ci := 12) (kf := 22) rfl (Nat.le_of_ble_eq_true rfl) wF_Mod_49 rfl rfl fun x25 => ?_
      refine r_iload_n (i := 15) rfl rfl rfl ?_
      refine r_aload_n (i := 16) rfl rfl rfl ?_
      refine r_gR (i := 17) (ci := 12) (kf := 18) rfl (Nat.le_of_ble_eq_true rfl) wF_Mod_43 rfl rfl fun x30 => ?_
      refine r_iload_n (i := 18) rfl rfl rfl ?_
      refine r_aI (i := 19) rfl rfl fun x34 => ?_
      refine r_sI (i := 20) rfl rfl fun h35 => ?_
      refine r_iinc (i := 21) (1 : Int32) kc_iconst_1 rfl rfl rfl (Nat.le_of_ble_eq_true rfl) ?_
      refine r_goto (i := 22) (tgt := 18) rfl rfl rfl ?_
      exact r_lv (fw_sub1 rfl (fw_sub1 rfl fw_sub0)) (ih (a18_1 + (1 : Int32)) h35)
def l_Mod_takeAll_44 (v0 : Option Nat) (K68 : fw_H → Option (Int32 × fw_H)) : Nat → Int32 → fw_H → Option (Int32 × fw_H)
  | 0, _, _ => none
  | nn + 1, a44_1, g44 =>
    if (48 : Int32) ≤ a44_1 then (K68 g44) else
    (f_gR g44 v0 12 23).bind fun x51 =>
    (f_gR g44 v0 12 19).bind fun x56 =>
    (f_aI g44 x56 a44_1).bind fun x60 =>
    (f_sI g44 x51 a44_1 x60).bind fun h61 =>
    l_Mod_takeAll_44 v0 K68 nn (a44_1 + (1 : Int32)) h61
theorem cl_Mod_takeAll_44 {G : fw_G} {v0 : Option Nat} {K68 : fw_H → Option (Int32 × fw_H)} (hK68 : ∀ (he68 : fw_H), fw_R G m_Mod_takeAll fw_wI 2 0 0 68 [(0, some (fw_r v0))] [] he68 (K68 he68)) : ∀ (nn : Nat) (a44_1 : Int32) (g44 : fw_H), fw_R G m_Mod_takeAll fw_wI 2 0 0 44 [(0, some (fw_r v0)), (1, some (fw_i a44_1))] [] g44 (l_Mod_takeAll_44 v0 K68 nn a44_1 g44) := by
  intro nn
  induction nn with
  | zero => intros; exact r_none
  | succ nn ih =>
    intro a44_1 g44
    rw [l_Mod_takeAll_44]
    refine r_iload_n (i := 25) rfl rfl rfl ?_
    refine r_bipush (i := 26) (48 : Int32) kc_bipush_48 rfl rfl ?_
    refine r_icmp_ge (i := 27) (tgt := 68) rfl rfl rfl ?_ ?_
    · exact r_lv (fw_sub1 rfl fw_sub0) (hK68 g44)
    · refine r_aload_n (i := 28) rfl rfl rfl ?_
      refine r_gR (i := 29) (ci := 12) (kf := 23) rfl (Nat.le_of_ble_eq_true rfl) wF_Mod_52 rfl rfl fun x51 => ?_
      refine r_iload_n (i := 30) rfl rfl rfl ?_
      refine r_aload_n (i := 31) rfl rfl rfl ?_
      refine r_gR (i := 32) (ci := 12) (kf := 19) rfl (Nat.le_of_ble_eq_true rfl) wF_Mod_46 rfl rfl fun x56 => ?_
      refine r_iload_n (i := 33) rfl rfl rfl ?_
      refine r_aI (i := 34) rfl rfl fun x60 => ?_
      refine r_sI (i := 35) rfl rfl fun h61 => ?_
      refine r_iinc (i := 36) (1 : Int32) kc_iconst_1 rfl rfl rfl (Nat.le_of_ble_eq_true rfl) ?_
      refine r_goto (i := 37) (tgt := 44) rfl rfl rfl ?_
      exact r_lv (fw_sub1 rfl (fw_sub1 rfl fw_sub0)) (ih (a44_1 + (1 : Int32)) h61)
def l_Mod_takeAll_70 (v0 : Option Nat) (K89 : fw_H → Option (Int32 × fw_H)) : Nat → Int32 → fw_H → Option (Int32 × fw_H)
  | 0, _, _ => none
  | nn + 1, a70_1, g70 =>
    if (118 : Int32) ≤ a70_1 then (K89 g70) else
    (f_gR g70 v0 12 26).bind fun x77 =>
    (f_sI g70 x77 a70_1 (0 : Int32)).bind fun h82 =>
    l_Mod_takeAll_70 v0 K89 nn (a70_1 + (1 : Int32)) h82
theorem cl_Mod_takeAll_70 {G : fw_G} {v0 : Option Nat} {K89 : fw_H → Option (Int32 × fw_H)} (hK89 : ∀ (he89 : fw_H), fw_R G m_Mod_takeAll fw_wI 2 0 0 89 [(0, some (fw_r v0))] [] he89 (K89 he89)) : ∀ (nn : Nat) (a70_1 : Int32) (g70 : fw_H), fw_R G m_Mod_takeAll fw_wI 2 0 0 70 [(0, some (fw_r v0)), (1, some (fw_i a70_1))] [] g70 (l_Mod_takeAll_70 v0 K89 nn a70_1 g70) := by
  intro nn
  induction nn with
  | zero => intros; exact r_none
  | succ nn ih =>
    intro a70_1 g70
    rw [l_Mod_takeAll_70]
    refine r_iload_n (i := 40) rfl rfl rfl ?_
    refine r_bipush (i := 41) (118 : Int32) kc_bipush_118 rfl rfl ?_
    refine r_icmp_ge (i := 42) (tgt := 89) rfl rfl rfl ?_ ?_
    · exact r_lv (fw_sub1 rfl fw_sub0) (hK89 g70)
    · refine r_aload_n (i := 43) rfl rfl rfl ?_
      refine r_gR (i := 44) (ci := 12) (kf := 26) rfl (Nat.le_of_ble_eq_true rfl) wF_Mod_55 rfl rfl fun x77 => ?_
      refine r_iload_n (i := 45) rfl rfl rfl ?_
      refine r_iconst (i := 46) (0 : Int32) kc_iconst_0 rfl rfl ?_
      refine r_sI (i := 47) rfl rfl fun h82 => ?_
      refine r_iinc (i := 48) (1 : Int32) kc_iconst_1 rfl rfl rfl (Nat.le_of_ble_eq_true rfl) ?_
      refine r_goto (i := 49) (tgt := 70) rfl rfl rfl ?_
      exact r_lv (fw_sub1 rfl (fw_sub1 rfl fw_sub0)) (ih (a70_1 + (1 : Int32)) h82)
def l_Mod_takeAll_91 (v0 : Option Nat) (K144 : fw_H → Option (Int32 × fw_H)) : Nat → Int32 → fw_H → Option (Int32 × fw_H)
  | 0, _, _ => none
  | nn + 1, a91_1, g91 =>
    (f_gI g91 v0 12 24).bind fun x93 =>
    if x93 ≤ a91_1 then (K144 g91) else
    (f_gR g91 v0 12 26).bind fun x100 =>
    (f_gR g91 v0 12 22).bind fun x107 =>
    (f_aI g91 x107 (((6 : Int32) * a91_1) + (0 : Int32))).bind fun x116 =>
    (f_sI g91 x100 ((0 : Int32) + a91_1) x116).bind fun h117 =>
    (f_gR h117 v0 12 26).bind fun x119 =>
    (f_gR h117 v0 12 22).bind fun x127 =>
    (f_aI h117 x127 (((6 : Int32) * a91_1) + (5 : Int32))).bind fun x136 =>
    (f_sI h117 x119 ((12 : Int32) + a91_1) x136).bind fun h137 =>
    l_Mod_takeAll_91 v0 K144 nn (a91_1 + (1 : Int32)) h137
theorem cl_Mod_takeAll_91 {G : fw_G} {v0 : Option Nat} {K144 : fw_H → Option (Int32 × fw_H)} (hK144 : ∀ (he144 : fw_H), fw_R G m_Mod_takeAll fw_wI 2 0 0 144 [(0, some (fw_r v0))] [] he144 (K144 he144)) : ∀ (nn : Nat) (a91_1 : Int32) (g91 : fw_H), fw_R G m_Mod_takeAll fw_wI 2 0 0 91 [(0, some (fw_r v0)), (1, some (fw_i a91_1))] [] g91 (l_Mod_takeAll_91 v0 K144 nn a91_1 g91) := by
  intro nn
  induction nn with
  | zero => intros; exact r_none
  | succ nn ih =>
    intro a91_1 g91
    rw [l_Mod_takeAll_91]
    refine r_iload_n (i := 52) rfl rfl rfl ?_
    refine r_aload_n (i := 53) rfl rfl rfl ?_
    refine r_gI (i := 54) (ci := 12) (kf := 24) rfl (Nat.le_of_ble_eq_true rfl) wF_Mod_250 rfl rfl fun x93 => ?_
    refine r_icmp_ge (i := 55) (tgt := 144) rfl rfl rfl ?_ ?_
    · exact r_lv (fw_sub1 rfl fw_sub0) (hK144 g91)
    · refine r_aload_n (i := 56) rfl rfl rfl ?_
      refine r_gR (i := 57) (ci := 12) (kf := 26) rfl (Nat.le_of_ble_eq_true rfl) wF_Mod_55 rfl rfl fun x100 => ?_
      refine r_iconst (i := 58) (0 : Int32) kc_iconst_0 rfl rfl ?_
      refine r_iload_n (i := 59) rfl rfl rfl ?_
      refine r_iadd (i := 60) rfl rfl ?_
      refine r_aload_n (i := 61) rfl rfl rfl ?_
      refine r_gR (i := 62) (ci := 12) (kf := 22) rfl (Nat.le_of_ble_eq_true rfl) wF_Mod_49 rfl rfl fun x107 => ?_
      refine r_bipush (i := 63) (6 : Int32) kc_bipush_6 rfl rfl ?_
      refine r_iload_n (i := 64) rfl rfl rfl ?_
      refine r_imul (i := 65) rfl rfl ?_
      refine r_iconst (i := 66) (0 : Int32) kc_iconst_0 rfl rfl ?_
      refine r_iadd (i := 67) rfl rfl ?_
      refine r_aI (i := 68) rfl rfl fun x116 => ?_
      refine r_sI (i := 69) rfl rfl fun h117 => ?_
      refine r_aload_n (i := 70) rfl rfl rfl ?_
      refine r_gR (i := 71) (ci := 12) (kf := 26) rfl (Nat.le_of_ble_eq_true rfl) wF_Mod_55 rfl rfl fun x119 => ?_
      refine r_bipush (i := 72) (12 : Int32) kc_bipush_12 rfl rfl ?_
      refine r_iload_n (i := 73) rfl rfl rfl ?_
      refine r_iadd (i := 74) rfl rfl ?_
      refine r_aload_n (i := 75) rfl rfl rfl ?_
      refine r_gR (i := 76) (ci := 12) (kf := 22) rfl (Nat.le_of_ble_eq_true rfl) wF_Mod_49 rfl rfl fun x127 => ?_
      refine r_bipush (i := 77) (6 : Int32) kc_bipush_6 rfl rfl ?_
      refine r_iload_n (i := 78) rfl rfl rfl ?_
      refine r_imul (i := 79) rfl rfl ?_
      refine r_iconst (i := 80) (5 : Int32) kc_iconst_5 rfl rfl ?_
      refine r_iadd (i := 81) rfl rfl ?_
      refine r_aI (i := 82) rfl rfl fun x136 => ?_
      refine r_sI (i := 83) rfl rfl fun h137 => ?_
      refine r_iinc (i := 84) (1 : Int32) kc_iconst_1 rfl rfl rfl (Nat.le_of_ble_eq_true rfl) ?_
      refine r_goto (i := 85) (tgt := 91) rfl rfl rfl ?_
      exact r_lv (fw_sub1 rfl (fw_sub1 rfl fw_sub0)) (ih (a91_1 + (1 : Int32)) h137)
def s_Mod_takeAll (F : Nat) (h : fw_H) (v0 : Option Nat) : Option (Int32 × fw_H) :=
(f_ck h v0 12).bind fun _ =>
(f_gI h v0 12 20).bind fun x2 =>
(f_pI h v0 12 24 x2).bind fun h5 =>
(f_gI h5 v0 12 21).bind fun x10 =>
(f_pI h5 v0 12 25 x10).bind fun h13 =>
l_Mod_takeAll_18 v0 (fun he42 =>
l_Mod_takeAll_44 v0 (fun he68 =>
l_Mod_takeAll_70 v0 (fun he89 =>
l_Mod_takeAll_91 v0 (fun he144 =>
(s_Mod_layEnvy F he144 v0 (-1 : Int32)).bind fun h146 =>
(f_gR h146 v0 12 26).bind fun x150 =>
(f_gR h146 v0 12 17).bind fun x156 =>
(f_aI h146 x156 (2 : Int32)).bind fun x160 =>
(f_sI h146 x150 (52 : Int32) x160).bind fun h161 =>
(f_gR h161 v0 12 26).bind fun x163 =>
(f_gR h161 v0 12 17).bind fun x169 =>
(f_aI h161 x169 (0 : Int32)).bind fun x173 =>
(f_sI h161 x163 (54 : Int32) x173).bind fun h174 =>
(f_gR h174 v0 12 26).bind fun x176 =>
(f_sI h174 x176 (55 : Int32) (-1 : Int32)).bind fun h182 =>
(f_gR h182 v0 12 26).bind fun x184 =>
(f_gR h182 v0 12 17).bind fun x190 =>
(f_aI h182 x190 (1 : Int32)).bind fun x194 =>
(f_sI h182 x184 (56 : Int32) x194).bind fun h195 =>
(f_pI h195 v0 12 47 (0 : Int32)).bind fun h198 =>
(f_pI h198 v0 12 31 (0 : Int32)).bind fun h203 =>
(f_pB h203 v0 12 49 false).bind fun h208 =>
(f_gI h208 v0 12 24).bind fun x212 =>
some (x212, h208)) F (0 : Int32) he89) F (0 : Int32) he68) F (0 : Int32) he42) F (0 : Int32) h13
theorem c_Mod_takeAll {G : fw_G} (F : Nat) {h : fw_H} {v0 : Option Nat} : fw_Call G m_Mod_takeAll fw_wI 2 0 0 [fw_r v0] h (s_Mod_takeAll F h v0) := by
  refine fw_Call.of ok_Mod_takeAll.1 (Nat.le_of_ble_eq_true rfl) [(0, some (fw_r v0))] rfl ?_
  refine r_ck ?_
  refine r_aload_n (i := 0) rfl rfl rfl ?_
  refine r_aload_n (i := 1) rfl rfl rfl ?_
  refine r_gI (i := 2) (ci := 12) (kf := 20) rfl (Nat.le_of_ble_eq_true rfl) wF_Mod_228 rfl rfl fun x2 => ?_
  refine r_pI (i := 3) (ci := 12) (kf := 24) rfl (Nat.le_of_ble_eq_true rfl) wF_Mod_250 rfl (tyX12_ok 24 (Nat.le_of_ble_eq_true rfl)) rfl rfl fun h5 => ?_
  refine r_aload_n (i := 4) rfl rfl rfl ?_
  refine r_aload_n (i := 5) rfl rfl rfl ?_
  refine r_gI (i := 6) (ci := 12) (kf := 21) rfl (Nat.le_of_ble_eq_true rfl) wF_Mod_231 rfl rfl fun x10 => ?_
  refine r_pI (i := 7) (ci := 12) (kf := 25) rfl (Nat.le_of_ble_eq_true rfl) wF_Mod_253 rfl (tyX12_ok 25 (Nat.le_of_ble_eq_true rfl)) rfl rfl fun h13 => ?_
  refine r_iconst (i := 8) (0 : Int32) kc_iconst_0 rfl rfl ?_
  refine r_istore_n (i := 9) rfl rfl (Nat.le_of_ble_eq_true rfl) rfl ?_
  refine r_lv (fw_sub1 rfl (fw_sub1 rfl fw_sub0)) (cl_Mod_takeAll_18 ?_ F _ _)
  · intro he42
    refine r_iconst (i := 23) (0 : Int32) kc_iconst_0 rfl rfl ?_
    refine r_istore_n (i := 24) rfl rfl (Nat.le_of_ble_eq_true rfl) rfl ?_
    refine r_lv (fw_sub1 rfl (fw_sub1 rfl fw_sub0)) (cl_Mod_takeAll_44 ?_ F _ _)
    · intro he68
      refine r_iconst (i := 38) (0 : Int32) kc_iconst_0 rfl rfl ?_
      refine r_istore_n (i := 39) rfl rfl (Nat.le_of_ble_eq_true rfl) rfl ?_
      refine r_lv (fw_sub1 rfl (fw_sub1 rfl fw_sub0)) (cl_Mod_takeAll_70 ?_ F _ _)
      · intro he89
        refine r_iconst (i := 50) (0 : Int32) kc_iconst_0 rfl rfl ?_
        refine r_istore_n (i := 51) rfl rfl (Nat.le_of_ble_eq_true rfl) rfl ?_
        refine r_lv (fw_sub1 rfl (fw_sub1 rfl fw_sub0)) (cl_Mod_takeAll_91 ?_ F _ _)
        · intro he144
          refine r_aload_n (i := 86) rfl rfl rfl ?_
          refine r_iconst (i := 87) (-1 : Int32) kc_iconst_m1 rfl rfl ?_
          refine r_VV1 (i := 88) (k2 := 0) (n2 := 0) ok_Mod_layEnvy wM_Mod_256 (c_Mod_layEnvy F) (fun _ e => fw_ckb e) (Nat.le_of_ble_eq_true rfl) (Nat.le_of_ble_eq_true rfl) (Nat.le_of_ble_eq_true rfl) (Nat.le_of_ble_eq_true rfl) rfl rfl fun h146 => ?_
          refine r_aload_n (i := 89) rfl rfl rfl ?_
          refine r_gR (i := 90) (ci := 12) (kf := 26) rfl (Nat.le_of_ble_eq_true rfl) wF_Mod_55 rfl rfl fun x150 => ?_
          refine r_bipush (i := 91) (52 : Int32) kc_bipush_52 rfl rfl ?_
          refine r_aload_n (i := 92) rfl rfl rfl ?_
          refine r_gR (i := 93) (ci := 12) (kf := 17) rfl (Nat.le_of_ble_eq_true rfl) wF_Mod_40 rfl rfl fun x156 => ?_
          refine r_iconst (i := 94) (2 : Int32) kc_iconst_2 rfl rfl ?_
          refine r_aI (i := 95) rfl rfl fun x160 => ?_
          refine r_sI (i := 96) rfl rfl fun h161 => ?_
          refine r_aload_n (i := 97) rfl rfl rfl ?_
          refine r_gR (i := 98) (ci := 12) (kf := 26) rfl (Nat.le_of_ble_eq_true rfl) wF_Mod_55 rfl rfl fun x163 => ?_
          refine r_bipush (i := 99) (54 : Int32) kc_bipush_54 rfl rfl ?_
          refine r_aload_n (i := 100) rfl rfl rfl ?_
          refine r_gR (i := 101) (ci := 12) (kf := 17) rfl (Nat.le_of_ble_eq_true rfl) wF_Mod_40 rfl rfl fun x169 => ?_
          refine r_iconst (i := 102) (0 : Int32) kc_iconst_0 rfl rfl ?_
          refine r_aI (i := 103) rfl rfl fun x173 => ?_
          refine r_sI (i := 104) rfl rfl fun h174 => ?_
          refine r_aload_n (i := 105) rfl rfl rfl ?_
          refine r_gR (i := 106) (ci := 12) (kf := 26) rfl (Nat.le_of_ble_eq_true rfl) wF_Mod_55 rfl rfl fun x176 => ?_
          refine r_bipush (i := 107) (55 : Int32) kc_bipush_55 rfl rfl ?_
          refine r_iconst (i := 108) (-1 : Int32) kc_iconst_m1 rfl rfl ?_
          refine r_sI (i := 109) rfl rfl fun h182 => ?_
          refine r_aload_n (i := 110) rfl rfl rfl ?_
          refine r_gR (i := 111) (ci := 12) (kf := 26) rfl (Nat.le_of_ble_eq_true rfl) wF_Mod_55 rfl rfl fun x184 => ?_
          refine r_bipush (i := 112) (56 : Int32) kc_bipush_56 rfl rfl ?_
          refine r_aload_n (i := 113) rfl rfl rfl ?_
          refine r_gR (i := 114) (ci := 12) (kf := 17) rfl (Nat.le_of_ble_eq_true rfl) wF_Mod_40 rfl rfl fun x190 => ?_
          refine r_iconst (i := 115) (1 : Int32) kc_iconst_1 rfl rfl ?_
          refine r_aI (i := 116) rfl rfl fun x194 => ?_
          refine r_sI (i := 117) rfl rfl fun h195 => ?_
          refine r_aload_n (i := 118) rfl rfl rfl ?_
          refine r_iconst (i := 119) (0 : Int32) kc_iconst_0 rfl rfl ?_
          refine r_pI (i := 120) (ci := 12) (kf := 47) rfl (Nat.le_of_ble_eq_true rfl) wF_Mod_259 rfl (tyX12_ok 47 (Nat.le_of_ble_eq_true rfl)) rfl rfl fun h198 => ?_
          refine r_aload_n (i := 121) rfl rfl rfl ?_
          refine r_iconst (i := 122) (0 : Int32) kc_iconst_0 rfl rfl ?_
          refine r_pI (i := 123) (ci := 12) (kf := 31) rfl (Nat.le_of_ble_eq_true rfl) wF_Mod_262 rfl (tyX12_ok 31 (Nat.le_of_ble_eq_true rfl)) rfl rfl fun h203 => ?_
          refine r_aload_n (i := 124) rfl rfl rfl ?_
          refine r_iconst (i := 125) (0 : Int32) kc_iconst_0 rfl rfl ?_
          refine r_pB (y := false) (i := 126) (ci := 12) (kf := 49) rfl (Nat.le_of_ble_eq_true rfl) wF_Mod_265 rfl (tyX12_ok 49 (Nat.le_of_ble_eq_true rfl)) rfl rfl fun h208 => ?_
          refine r_aload_n (i := 127) rfl rfl rfl ?_
          refine r_gI (i := 128) (ci := 12) (kf := 24) rfl (Nat.le_of_ble_eq_true rfl) wF_Mod_250 rfl rfl fun x212 => ?_
          exact r_retI (i := 129) rfl rfl rfl rfl
-- Mod_text
def s_Mod_text (F : Nat) (h : fw_H) (v0 : Option Nat) (v1 : Int32) : Option (Int32 × fw_H) :=
(f_ck h v0 12).bind fun _ =>
if ¬ v1 = (0 : Int32) then (if ¬ v1 = (1 : Int32) then (some ((-1 : Int32), h)) else
(f_gI h v0 12 13).bind fun x28 =>
if (4 : Int32) ≤ x28 then (some ((-1 : Int32), h)) else
(f_gI h v0 12 13).bind fun x37 =>
(s_Mod_readLaw F h v0 x37).bind fun x40 =>
if ¬ x40.1 = (-1 : Int32) then (some ((-1 : Int32), x40.2)) else
(f_pI x40.2 v0 12 2 (0 : Int32)).bind fun h49 =>
(f_gI h49 v0 12 13).bind fun x54 =>
(f_pI h49 v0 12 13 (x54 + (1 : Int32))).bind fun h59 =>
(f_gI h59 v0 12 13).bind fun x63 =>
some ((x63 - (1 : Int32)), h59)) else
(s_Mod_readAll F h v0).bind fun x5 =>
if ¬ x5.1 = (-1 : Int32) then (if ¬ v1 = (1 : Int32) then (some ((-1 : Int32), x5.2)) else
(f_gI x5.2 v0 12 13).bind fun x28 =>
if (4 : Int32) ≤ x28 then (some ((-1 : Int32), x5.2)) else
(f_gI x5.2 v0 12 13).bind fun x37 =>
(s_Mod_readLaw F x5.2 v0 x37).bind fun x40 =>
if ¬ x40.1 = (-1 : Int32) then (some ((-1 : Int32), x40.2)) else
(f_pI x40.2 v0 12 2 (0 : Int32)).bind fun h49 =>
(f_gI h49 v0 12 13).bind fun x54 =>
(f_pI h49 v0 12 13 (x54 + (1 : Int32))).bind fun h59 =>
(f_gI h59 v0 12 13).bind fun x63 =>
some ((x63 - (1 : Int32)), h59)) else
(f_pI x5.2 v0 12 2 (0 : Int32)).bind fun h14 =>
(s_Mod_takeAll F h14 v0).bind fun x18 =>
some (x18.1, x18.2)
theorem c_Mod_text {G : fw_G} (F : Nat) {h : fw_H} {v0 : Option Nat} {v1 : Int32} : fw_Call G m_Mod_text fw_wI 168 0 0 [fw_r v0, fw_i v1] h (s_Mod_text F h v0 v1) := by
  refine fw_Call.of ok_Mod_text.1 (Nat.le_of_ble_eq_true rfl) [(0, some (fw_r v0)), (1, some (fw_i v1))] rfl ?_
  refine r_ck ?_
  refine r_iload_n (i := 0) rfl rfl rfl ?_
  refine r_if_ne (i := 1) (tgt := 22) rfl rfl rfl ?_ ?_
  · refine r_iload_n (i := 12) rfl rfl rfl ?_
    refine r_iconst (i := 13) (1 : Int32) kc_iconst_1 rfl rfl ?_
    refine r_icmp_ne (i := 14) (tgt := 69) rfl rfl rfl ?_ ?_
    · refine r_iconst (i := 39) (-1 : Int32) kc_iconst_m1 rfl rfl ?_
      exact r_retI (i := 40) rfl rfl rfl rfl
    · refine r_aload_n (i := 15) rfl rfl rfl ?_
      refine r_gI (i := 16) (ci := 12) (kf := 13) rfl (Nat.le_of_ble_eq_true rfl) wF_Mod_272 rfl rfl fun x28 => ?_
      refine r_iconst (i := 17) (4 : Int32) kc_iconst_4 rfl rfl ?_
      refine r_icmp_ge (i := 18) (tgt := 69) rfl rfl rfl ?_ ?_
      · refine r_iconst (i := 39) (-1 : Int32) kc_iconst_m1 rfl rfl ?_
        exact r_retI (i := 40) rfl rfl rfl rfl
      · refine r_aload_n (i := 19) rfl rfl rfl ?_
        refine r_aload_n (i := 20) rfl rfl rfl ?_
        refine r_gI (i := 21) (ci := 12) (kf := 13) rfl (Nat.le_of_ble_eq_true rfl) wF_Mod_272 rfl rfl fun x37 => ?_
        refine r_VwI1 (i := 22) (k2 := 0) (n2 := 0) ok_Mod_readLaw wM_Mod_247 (c_Mod_readLaw F) (fun _ e => fw_ckb e) (Nat.le_of_ble_eq_true rfl) (Nat.le_of_ble_eq_true rfl) (Nat.le_of_ble_eq_true rfl) (Nat.le_of_ble_eq_true rfl) rfl rfl fun x40 => ?_
        refine r_iconst (i := 23) (-1 : Int32) kc_iconst_m1 rfl rfl ?_
        refine r_icmp_ne (i := 24) (tgt := 69) rfl rfl rfl ?_ ?_
        · refine r_iconst (i := 39) (-1 : Int32) kc_iconst_m1 rfl rfl ?_
          exact r_retI (i := 40) rfl rfl rfl rfl
        · refine r_aload_n (i := 25) rfl rfl rfl ?_
          refine r_iconst (i := 26) (0 : Int32) kc_iconst_0 rfl rfl ?_
          refine r_pI (i := 27) (ci := 12) (kf := 2) rfl (Nat.le_of_ble_eq_true rfl) wF_Mod_103 rfl (tyX12_ok 2 (Nat.le_of_ble_eq_true rfl)) rfl rfl fun h49 => ?_
          refine r_aload_n (i := 28) rfl rfl rfl ?_
          refine r_dup_r (i := 29) rfl rfl ?_
          refine r_gI (i := 30) (ci := 12) (kf := 13) rfl (Nat.le_of_ble_eq_true rfl) wF_Mod_272 rfl rfl fun x54 => ?_
          refine r_iconst (i := 31) (1 : Int32) kc_iconst_1 rfl rfl ?_
          refine r_iadd (i := 32) rfl rfl ?_
          refine r_pI (i := 33) (ci := 12) (kf := 13) rfl (Nat.le_of_ble_eq_true rfl) wF_Mod_272 rfl (tyX12_ok 13 (Nat.le_of_ble_eq_true rfl)) rfl rfl fun h59 => ?_
          refine r_aload_n (i := 34) rfl rfl rfl ?_
          refine r_gI (i := 35) (ci := 12) (kf := 13) rfl (Nat.le_of_ble_eq_true rfl) wF_Mod_272 rfl rfl fun x63 => ?_
          refine r_iconst (i := 36) (1 : Int32) kc_iconst_1 rfl rfl ?_
          refine r_isub (i := 37) rfl rfl ?_
          exact r_retI (i := 38) rfl rfl rfl rfl
  · refine r_aload_n (i := 2) rfl rfl rfl ?_
    refine r_VwI0 (i := 3) (k2 := 0) (n2 := 0) ok_Mod_readAll wM_Mod_244 (c_Mod_readAll F) (fun _ e => fw_ckb e) (Nat.le_of_ble_eq_true rfl) (Nat.le_of_ble_eq_true rfl) (Nat.le_of_ble_eq_true rfl) (Nat.le_of_ble_eq_true rfl) rfl rfl fun x5 => ?_
    refine r_iconst (i := 4) (-1 : Int32) kc_iconst_m1 rfl rfl ?_
    refine r_icmp_ne (i := 5) (tgt := 22) rfl rfl rfl ?_ ?_
    · refine r_iload_n (i := 12) rfl rfl rfl ?_
      refine r_iconst (i := 13) (1 : Int32) kc_iconst_1 rfl rfl ?_
      refine r_icmp_ne (i := 14) (tgt := 69) rfl rfl rfl ?_ ?_
      · refine r_iconst (i := 39) (-1 : Int32) kc_iconst_m1 rfl rfl ?_
        exact r_retI (i := 40) rfl rfl rfl rfl
      · refine r_aload_n (i := 15) rfl rfl rfl ?_
        refine r_gI (i := 16) (ci := 12) (kf := 13) rfl (Nat.le_of_ble_eq_true rfl) wF_Mod_272 rfl rfl fun x28 => ?_
        refine r_iconst (i := 17) (4 : Int32) kc_iconst_4 rfl rfl ?_
        refine r_icmp_ge (i := 18) (tgt := 69) rfl rfl rfl ?_ ?_
        · refine r_iconst (i := 39) (-1 : Int32) kc_iconst_m1 rfl rfl ?_
          exact r_retI (i := 40) rfl rfl rfl rfl
        · refine r_aload_n (i := 19) rfl rfl rfl ?_
          refine r_aload_n (i := 20) rfl rfl rfl ?_
          refine r_gI (i := 21) (ci := 12) (kf := 13) rfl (Nat.le_of_ble_eq_true rfl) wF_Mod_272 rfl rfl fun x37 => ?_
          refine r_VwI1 (i := 22) (k2 := 0) (n2 := 0) ok_Mod_readLaw wM_Mod_247 (c_Mod_readLaw F) (fun _ e => fw_ckb e) (Nat.le_of_ble_eq_true rfl) (Nat.le_of_ble_eq_true rfl) (Nat.le_of_ble_eq_true rfl) (Nat.le_of_ble_eq_true rfl) rfl rfl fun x40 => ?_
          refine r_iconst (i := 23) (-1 : Int32) kc_iconst_m1 rfl rfl ?_
          refine r_icmp_ne (i := 24) (tgt := 69) rfl rfl rfl ?_ ?_
          · refine r_iconst (i := 39) (-1 : Int32) kc_iconst_m1 rfl rfl ?_
            exact r_retI (i := 40) rfl rfl rfl rfl
          · refine r_aload_n (i := 25) rfl rfl rfl ?_
            refine r_iconst (i := 26) (0 : Int32) kc_iconst_0 rfl rfl ?_
            refine r_pI (i := 27) (ci := 12) (kf := 2) rfl (Nat.le_of_ble_eq_true rfl) wF_Mod_103 rfl (tyX12_ok 2 (Nat.le_of_ble_eq_true rfl)) rfl rfl fun h49 => ?_
            refine r_aload_n (i := 28) rfl rfl rfl ?_
            refine r_dup_r (i := 29) rfl rfl ?_
            refine r_gI (i := 30) (ci := 12) (kf := 13) rfl (Nat.le_of_ble_eq_true rfl) wF_Mod_272 rfl rfl fun x54 => ?_
            refine r_iconst (i := 31) (1 : Int32) kc_iconst_1 rfl rfl ?_
            refine r_iadd (i := 32) rfl rfl ?_
            refine r_pI (i := 33) (ci := 12) (kf := 13) rfl (Nat.le_of_ble_eq_true rfl) wF_Mod_272 rfl (tyX12_ok 13 (Nat.le_of_ble_eq_true rfl)) rfl rfl fun h59 => ?_
            refine r_aload_n (i := 34) rfl rfl rfl ?_
            refine r_gI (i := 35) (ci := 12) (kf := 13) rfl (Nat.le_of_ble_eq_true rfl) wF_Mod_272 rfl rfl fun x63 => ?_
            refine r_iconst (i := 36) (1 : Int32) kc_iconst_1 rfl rfl ?_
            refine r_isub (i := 37) rfl rfl ?_
            exact r_retI (i := 38) rfl rfl rfl rfl
    · refine r_aload_n (i := 6) rfl rfl rfl ?_
      refine r_iconst (i := 7) (0 : Int32) kc_iconst_0 rfl rfl ?_
      refine r_pI (i := 8) (ci := 12) (kf := 2) rfl (Nat.le_of_ble_eq_true rfl) wF_Mod_103 rfl (tyX12_ok 2 (Nat.le_of_ble_eq_true rfl)) rfl rfl fun h14 => ?_
      refine r_aload_n (i := 9) rfl rfl rfl ?_
      refine r_VwI0 (i := 10) (k2 := 0) (n2 := 0) ok_Mod_takeAll wM_Mod_269 (c_Mod_takeAll F) (fun _ e => fw_ckb e) (Nat.le_of_ble_eq_true rfl) (Nat.le_of_ble_eq_true rfl) (Nat.le_of_ble_eq_true rfl) (Nat.le_of_ble_eq_true rfl) rfl rfl fun x18 => ?_
      exact r_retI (i := 11) rfl rfl rfl rfl
-- Mod_isHouse
def s_Mod_isHouse (h : fw_H) (v0 : Option Nat) (v1 : Int32) : Option Bool :=
(f_ck h v0 12).bind fun _ =>
(f_gI h v0 12 24).bind fun x3 =>
(s_Mod_in v1 (0 : Int32) (x3 - (1 : Int32))).bind fun x8 =>
some x8
theorem c_Mod_isHouse {G : fw_G} {h : fw_H} {v0 : Option Nat} {v1 : Int32} : fw_Call G m_Mod_isHouse (fw_eB h) 1 0 0 [fw_r v0, fw_i v1] h (s_Mod_isHouse h v0 v1) := by
  refine fw_Call.of ok_Mod_isHouse.1 (Nat.le_of_ble_eq_true rfl) [(0, some (fw_r v0)), (1, some (fw_i v1))] rfl ?_
  refine r_ck ?_
  refine r_iload_n (i := 0) rfl rfl rfl ?_
  refine r_iconst (i := 1) (0 : Int32) kc_iconst_0 rfl rfl ?_
  refine r_aload_n (i := 2) rfl rfl rfl ?_
  refine r_gI (i := 3) (ci := 12) (kf := 24) rfl (Nat.le_of_ble_eq_true rfl) wF_Mod_250 rfl rfl fun x3 => ?_
  refine r_iconst (i := 4) (1 : Int32) kc_iconst_1 rfl rfl ?_
  refine r_isub (i := 5) rfl rfl ?_
  refine r_SB3 (i := 6) (k2 := 0) (n2 := 0) ok_Mod_in wM_Mod_275 (c_Mod_in) (Nat.le_of_ble_eq_true rfl) (Nat.le_of_ble_eq_true rfl) (Nat.le_of_ble_eq_true rfl) (Nat.le_of_ble_eq_true rfl) rfl rfl fun x8 => ?_
  exact r_retB (i := 7) rfl rfl rfl rfl
-- Mod_isWindow
def s_Mod_isWindow (h : fw_H) (v0 : Option Nat) (v1 : Int32) : Option Bool :=
(f_ck h v0 12).bind fun _ =>
(f_gI h v0 12 25).bind fun x3 =>
(s_Mod_in v1 (0 : Int32) (x3 - (1 : Int32))).bind fun x8 =>
some x8
theorem c_Mod_isWindow {G : fw_G} {h : fw_H} {v0 : Option Nat} {v1 : Int32} : fw_Call G m_Mod_isWindow (fw_eB h) 1 0 0 [fw_r v0, fw_i v1] h (s_Mod_isWindow h v0 v1) := by
  refine fw_Call.of ok_Mod_isWindow.1 (Nat.le_of_ble_eq_true rfl) [(0, some (fw_r v0)), (1, some (fw_i v1))] rfl ?_
  refine r_ck ?_
  refine r_iload_n (i := 0) rfl rfl rfl ?_
  refine r_iconst (i := 1) (0 : Int32) kc_iconst_0 rfl rfl ?_
  refine r_aload_n (i := 2) rfl rfl rfl ?_
  refine r_gI (i := 3) (ci := 12) (kf := 25) rfl (Nat.le_of_ble_eq_true rfl) wF_Mod_253 rfl rfl fun x3 => ?_
  refine r_iconst (i := 4) (1 : Int32) kc_iconst_1 rfl rfl ?_
  refine r_isub (i := 5) rfl rfl ?_
  refine r_SB3 (i := 6) (k2 := 0) (n2 := 0) ok_Mod_in wM_Mod_275 (c_Mod_in) (Nat.le_of_ble_eq_true rfl) (Nat.le_of_ble_eq_true rfl) (Nat.le_of_ble_eq_true rfl) (Nat.le_of_ble_eq_true rfl) rfl rfl fun x8 => ?_
  exact r_retB (i := 7) rfl rfl rfl rfl
-- Mod_house
def s_Mod_house (h : fw_H) (v0 : Option Nat) (v1 : Int32) (v2 : Int32) : Option (Int32 × fw_H) :=
(f_ck h v0 12).bind fun _ =>
(s_Mod_isHouse h v0 v1).bind fun x3 =>
fw_jn (fun (t24_1 : Int32) =>
(f_pI h v0 12 0 t24_1).bind fun h24 =>
(f_gI h24 v0 12 0).bind fun x28 =>
if ¬ x28 = (1 : Int32) then (if ¬ v2 = (0 : Int32) then (if (5 : Int32) ≤ v2 then (if ¬ v2 = (5 : Int32) then ((f_gR h24 v0 12 26).bind fun x89 =>
(f_aI h24 x89 ((24 : Int32) + v1)).bind fun x96 =>
some (x96, h24)) else
(f_gR h24 v0 12 26).bind fun x77 =>
(f_aI h24 x77 ((12 : Int32) + v1)).bind fun x84 =>
some (x84, h24)) else
(f_gR h24 v0 12 22).bind fun x58 =>
(f_aI h24 x58 (((6 : Int32) * v1) + v2)).bind fun x67 =>
some (x67, h24)) else
(f_gR h24 v0 12 26).bind fun x42 =>
(f_aI h24 x42 ((0 : Int32) + v1)).bind fun x48 =>
some (x48, h24)) else
some ((0 : Int32), h24)) fun J24 =>
if x3 = true then ((s_Mod_in v2 (0 : Int32) (6 : Int32)).bind fun x13 =>
if x13 = true then (J24 (0 : Int32)) else
J24 (1 : Int32)) else
J24 (1 : Int32)
theorem c_Mod_house {G : fw_G} {h : fw_H} {v0 : Option Nat} {v1 : Int32} {v2 : Int32} : fw_Call G m_Mod_house fw_wI 2 0 0 [fw_r v0, fw_i v1, fw_i v2] h (s_Mod_house h v0 v1 v2) := by
  refine fw_Call.of ok_Mod_house.1 (Nat.le_of_ble_eq_true rfl) [(0, some (fw_r v0)), (1, some (fw_i v1)), (2, some (fw_i v2))] rfl ?_
  refine r_ck ?_
  refine r_aload_n (i := 0) rfl rfl rfl ?_
  refine r_aload_n (i := 1) rfl rfl rfl ?_
  refine r_iload_n (i := 2) rfl rfl rfl ?_
  refine r_VB1 (i := 3) (k2 := 0) (n2 := 0) ok_Mod_isHouse wM_Mod_279 (c_Mod_isHouse) (fun _ e => fw_ckb e) (Nat.le_of_ble_eq_true rfl) (Nat.le_of_ble_eq_true rfl) (Nat.le_of_ble_eq_true rfl) (Nat.le_of_ble_eq_true rfl) rfl rfl fun x3 => ?_
  refine r_join (P := fun J24 => ∀ (t24_1 : Int32), fw_R G m_Mod_house fw_wI 2 (0) (0) 24 [(0, some (fw_r v0)), (1, some (fw_i v1)), (2, some (fw_i v2))] [fw_i t24_1, fw_r v0] h (J24 t24_1)) ?_ (fun J24 hJ24 => ?_)
  · intro t24_1
    refine r_pI (i := 13) (ci := 12) (kf := 0) rfl (Nat.le_of_ble_eq_true rfl) wF_Mod_96 rfl (tyX12_ok 0 (Nat.le_of_ble_eq_true rfl)) rfl rfl fun h24 => ?_
    refine r_aload_n (i := 14) rfl rfl rfl ?_
    refine r_gI (i := 15) (ci := 12) (kf := 0) rfl (Nat.le_of_ble_eq_true rfl) wF_Mod_96 rfl rfl fun x28 => ?_
    refine r_iconst (i := 16) (1 : Int32) kc_iconst_1 rfl rfl ?_
    refine r_icmp_ne (i := 17) (tgt := 37) rfl rfl rfl ?_ ?_
    · refine r_iload_n (i := 20) rfl rfl rfl ?_
      refine r_if_ne (i := 21) (tgt := 52) rfl rfl rfl ?_ ?_
      · refine r_iload_n (i := 29) rfl rfl rfl ?_
        refine r_iconst (i := 30) (5 : Int32) kc_iconst_5 rfl rfl ?_
        refine r_icmp_ge (i := 31) (tgt := 71) rfl rfl rfl ?_ ?_
        · refine r_iload_n (i := 41) rfl rfl rfl ?_
          refine r_iconst (i := 42) (5 : Int32) kc_iconst_5 rfl rfl ?_
          refine r_icmp_ne (i := 43) (tgt := 88) rfl rfl rfl ?_ ?_
          · refine r_aload_n (i := 51) rfl rfl rfl ?_
            refine r_gR (i := 52) (ci := 12) (kf := 26) rfl (Nat.le_of_ble_eq_true rfl) wF_Mod_55 rfl rfl fun x89 => ?_
            refine r_bipush (i := 53) (24 : Int32) kc_bipush_24 rfl rfl ?_
            refine r_iload_n (i := 54) rfl rfl rfl ?_
            refine r_iadd (i := 55) rfl rfl ?_
            refine r_aI (i := 56) rfl rfl fun x96 => ?_
            exact r_retI (i := 57) rfl rfl rfl rfl
          · refine r_aload_n (i := 44) rfl rfl rfl ?_
            refine r_gR (i := 45) (ci := 12) (kf := 26) rfl (Nat.le_of_ble_eq_true rfl) wF_Mod_55 rfl rfl fun x77 => ?_
            refine r_bipush (i := 46) (12 : Int32) kc_bipush_12 rfl rfl ?_
            refine r_iload_n (i := 47) rfl rfl rfl ?_
            refine r_iadd (i := 48) rfl rfl ?_
            refine r_aI (i := 49) rfl rfl fun x84 => ?_
            refine r_goto (i := 50) (tgt := 97) rfl rfl rfl ?_
            exact r_retI (i := 57) rfl rfl rfl rfl
        · refine r_aload_n (i := 32) rfl rfl rfl ?_
          refine r_gR (i := 33) (ci := 12) (kf := 22) rfl (Nat.le_of_ble_eq_true rfl) wF_Mod_49 rfl rfl fun x58 => ?_
          refine r_bipush (i := 34) (6 : Int32) kc_bipush_6 rfl rfl ?_
          refine r_iload_n (i := 35) rfl rfl rfl ?_
          refine r_imul (i := 36) rfl rfl ?_
          refine r_iload_n (i := 37) rfl rfl rfl ?_
          refine r_iadd (i := 38) rfl rfl ?_
          refine r_aI (i := 39) rfl rfl fun x67 => ?_
          refine r_goto (i := 40) (tgt := 97) rfl rfl rfl ?_
          exact r_retI (i := 57) rfl rfl rfl rfl
      · refine r_aload_n (i := 22) rfl rfl rfl ?_
        refine r_gR (i := 23) (ci := 12) (kf := 26) rfl (Nat.le_of_ble_eq_true rfl) wF_Mod_55 rfl rfl fun x42 => ?_
        refine r_iconst (i := 24) (0 : Int32) kc_iconst_0 rfl rfl ?_
        refine r_iload_n (i := 25) rfl rfl rfl ?_
        refine r_iadd (i := 26) rfl rfl ?_
        refine r_aI (i := 27) rfl rfl fun x48 => ?_
        refine r_goto (i := 28) (tgt := 97) rfl rfl rfl ?_
        exact r_retI (i := 57) rfl rfl rfl rfl
    · refine r_iconst (i := 18) (0 : Int32) kc_iconst_0 rfl rfl ?_
      exact r_retI (i := 19) rfl rfl rfl rfl
  · refine r_ifeqB (i := 4) (tgt := 23) rfl rfl rfl ?_ ?_
    · refine r_iconst (i := 12) (1 : Int32) kc_iconst_1 rfl rfl ?_
      exact r_lv (fw_sub1 rfl (fw_sub1 rfl (fw_sub1 rfl fw_sub0))) (hJ24 (1 : Int32))
    · refine r_iload_n (i := 5) rfl rfl rfl ?_
      refine r_iconst (i := 6) (0 : Int32) kc_iconst_0 rfl rfl ?_
      refine r_bipush (i := 7) (6 : Int32) kc_bipush_6 rfl rfl ?_
      refine r_SB3 (i := 8) (k2 := 0) (n2 := 0) ok_Mod_in wM_Mod_275 (c_Mod_in) (Nat.le_of_ble_eq_true rfl) (Nat.le_of_ble_eq_true rfl) (Nat.le_of_ble_eq_true rfl) (Nat.le_of_ble_eq_true rfl) rfl rfl fun x13 => ?_
      refine r_ifeqB (i := 9) (tgt := 23) rfl rfl rfl ?_ ?_
      · refine r_iconst (i := 12) (1 : Int32) kc_iconst_1 rfl rfl ?_
        exact r_lv (fw_sub1 rfl (fw_sub1 rfl (fw_sub1 rfl fw_sub0))) (hJ24 (1 : Int32))
      · refine r_iconst (i := 10) (0 : Int32) kc_iconst_0 rfl rfl ?_
        refine r_goto (i := 11) (tgt := 24) rfl rfl rfl ?_
        exact r_lv (fw_sub1 rfl (fw_sub1 rfl (fw_sub1 rfl fw_sub0))) (hJ24 (0 : Int32))
-- Mod_window
def s_Mod_window (h : fw_H) (v0 : Option Nat) (v1 : Int32) (v2 : Int32) : Option Int32 :=
(f_ck h v0 12).bind fun _ =>
(s_Mod_isWindow h v0 v1).bind fun x2 =>
if x2 = true then ((s_Mod_in v2 (0 : Int32) (3 : Int32)).bind fun x11 =>
if x11 = true then (if (3 : Int32) ≤ v2 then ((f_gR h v0 12 26).bind fun x40 =>
(f_aI h x40 ((36 : Int32) + v1)).bind fun x47 =>
some x47) else
(f_gR h v0 12 23).bind fun x27 =>
(f_aI h x27 (((3 : Int32) * v1) + v2)).bind fun x35 =>
some x35) else
some (-1 : Int32)) else
some (-1 : Int32)
theorem c_Mod_window {G : fw_G} {h : fw_H} {v0 : Option Nat} {v1 : Int32} {v2 : Int32} : fw_Call G m_Mod_window (fw_eI h) 2 0 0 [fw_r v0, fw_i v1, fw_i v2] h (s_Mod_window h v0 v1 v2) := by
  refine fw_Call.of ok_Mod_window.1 (Nat.le_of_ble_eq_true rfl) [(0, some (fw_r v0)), (1, some (fw_i v1)), (2, some (fw_i v2))] rfl ?_
  refine r_ck ?_
  refine r_aload_n (i := 0) rfl rfl rfl ?_
  refine r_iload_n (i := 1) rfl rfl rfl ?_
  refine r_VB1 (i := 2) (k2 := 0) (n2 := 0) ok_Mod_isWindow wM_Mod_282 (c_Mod_isWindow) (fun _ e => fw_ckb e) (Nat.le_of_ble_eq_true rfl) (Nat.le_of_ble_eq_true rfl) (Nat.le_of_ble_eq_true rfl) (Nat.le_of_ble_eq_true rfl) rfl rfl fun x2 => ?_
  refine r_ifeqB (i := 3) (tgt := 17) rfl rfl rfl ?_ ?_
  · refine r_iconst (i := 9) (-1 : Int32) kc_iconst_m1 rfl rfl ?_
    refine r_goto (i := 10) (tgt := 48) rfl rfl rfl ?_
    exact r_retI (i := 29) rfl rfl rfl rfl
  · refine r_iload_n (i := 4) rfl rfl rfl ?_
    refine r_iconst (i := 5) (0 : Int32) kc_iconst_0 rfl rfl ?_
    refine r_iconst (i := 6) (3 : Int32) kc_iconst_3 rfl rfl ?_
    refine r_SB3 (i := 7) (k2 := 0) (n2 := 0) ok_Mod_in wM_Mod_275 (c_Mod_in) (Nat.le_of_ble_eq_true rfl) (Nat.le_of_ble_eq_true rfl) (Nat.le_of_ble_eq_true rfl) (Nat.le_of_ble_eq_true rfl) rfl rfl fun x11 => ?_
    refine r_ifneB (i := 8) (tgt := 21) rfl rfl rfl ?_ ?_
    · refine r_iload_n (i := 11) rfl rfl rfl ?_
      refine r_iconst (i := 12) (3 : Int32) kc_iconst_3 rfl rfl ?_
      refine r_icmp_ge (i := 13) (tgt := 39) rfl rfl rfl ?_ ?_
      · refine r_aload_n (i := 23) rfl rfl rfl ?_
        refine r_gR (i := 24) (ci := 12) (kf := 26) rfl (Nat.le_of_ble_eq_true rfl) wF_Mod_55 rfl rfl fun x40 => ?_
        refine r_bipush (i := 25) (36 : Int32) kc_bipush_36 rfl rfl ?_
        refine r_iload_n (i := 26) rfl rfl rfl ?_
        refine r_iadd (i := 27) rfl rfl ?_
        refine r_aI (i := 28) rfl rfl fun x47 => ?_
        exact r_retI (i := 29) rfl rfl rfl rfl
      · refine r_aload_n (i := 14) rfl rfl rfl ?_
        refine r_gR (i := 15) (ci := 12) (kf := 23) rfl (Nat.le_of_ble_eq_true rfl) wF_Mod_52 rfl rfl fun x27 => ?_
        refine r_iconst (i := 16) (3 : Int32) kc_iconst_3 rfl rfl ?_
        refine r_iload_n (i := 17) rfl rfl rfl ?_
        refine r_imul (i := 18) rfl rfl ?_
        refine r_iload_n (i := 19) rfl rfl rfl ?_
        refine r_iadd (i := 20) rfl rfl ?_
        refine r_aI (i := 21) rfl rfl fun x35 => ?_
        refine r_goto (i := 22) (tgt := 48) rfl rfl rfl ?_
        exact r_retI (i := 29) rfl rfl rfl rfl
    · refine r_iconst (i := 9) (-1 : Int32) kc_iconst_m1 rfl rfl ?_
      refine r_goto (i := 10) (tgt := 48) rfl rfl rfl ?_
      exact r_retI (i := 29) rfl rfl rfl rfl
-- Mod_law
def s_Mod_law (h : fw_H) (v0 : Option Nat) (v1 : Int32) : Option (Bool × fw_H) :=
(f_ck h v0 12).bind fun _ =>
(f_gI h v0 12 13).bind fun x3 =>
(s_Mod_in v1 (-1 : Int32) (x3 - (1 : Int32))).bind fun x8 =>
if x8 = true then ((f_pI h v0 12 28 v1).bind fun h18 =>
some (true, h18)) else
some (false, h)
theorem c_Mod_law {G : fw_G} {h : fw_H} {v0 : Option Nat} {v1 : Int32} : fw_Call G m_Mod_law fw_wB 1 0 0 [fw_r v0, fw_i v1] h (s_Mod_law h v0 v1) := by
  refine fw_Call.of ok_Mod_law.1 (Nat.le_of_ble_eq_true rfl) [(0, some (fw_r v0)), (1, some (fw_i v1))] rfl ?_
  refine r_ck ?_
  refine r_iload_n (i := 0) rfl rfl rfl ?_
  refine r_iconst (i := 1) (-1 : Int32) kc_iconst_m1 rfl rfl ?_
  refine r_aload_n (i := 2) rfl rfl rfl ?_
  refine r_gI (i := 3) (ci := 12) (kf := 13) rfl (Nat.le_of_ble_eq_true rfl) wF_Mod_272 rfl rfl fun x3 => ?_
  refine r_iconst (i := 4) (1 : Int32) kc_iconst_1 rfl rfl ?_
  refine r_isub (i := 5) rfl rfl ?_
  refine r_SB3 (i := 6) (k2 := 0) (n2 := 0) ok_Mod_in wM_Mod_275 (c_Mod_in) (Nat.le_of_ble_eq_true rfl) (Nat.le_of_ble_eq_true rfl) (Nat.le_of_ble_eq_true rfl) (Nat.le_of_ble_eq_true rfl) rfl rfl fun x8 => ?_
  refine r_ifneB (i := 7) (tgt := 16) rfl rfl rfl ?_ ?_
  · refine r_aload_n (i := 10) rfl rfl rfl ?_
    refine r_iload_n (i := 11) rfl rfl rfl ?_
    refine r_pI (i := 12) (ci := 12) (kf := 28) rfl (Nat.le_of_ble_eq_true rfl) wF_Mod_61 rfl (tyX12_ok 28 (Nat.le_of_ble_eq_true rfl)) rfl rfl fun h18 => ?_
    refine r_iconst (i := 13) (1 : Int32) kc_iconst_1 rfl rfl ?_
    exact r_retB (x := true) (i := 14) rfl rfl rfl rfl
  · refine r_iconst (i := 8) (0 : Int32) kc_iconst_0 rfl rfl ?_
    exact r_retB (x := false) (i := 9) rfl rfl rfl rfl
-- Mod_wishAt
def s_Mod_wishAt (F : Nat) (h : fw_H) (v0 : Option Nat) (v1 : Int32) (v2 : Int32) : Option (Int32 × fw_H) :=
(f_ck h v0 12).bind fun _ =>
(f_gI h v0 12 28).bind fun x1 =>
if ¬ x1 = (-1 : Int32) then ((f_gR h v0 12 15).bind fun x64 =>
(f_gR h v0 12 26).bind fun x69 =>
(f_aI h x69 ((0 : Int32) + v1)).bind fun x75 =>
(f_sI h x64 (0 : Int32) x75).bind fun h76 =>
(f_gR h76 v0 12 15).bind fun x78 =>
(f_gR h76 v0 12 22).bind fun x83 =>
(f_aI h76 x83 (((6 : Int32) * v1) + (1 : Int32))).bind fun x92 =>
(f_sI h76 x78 (1 : Int32) x92).bind fun h93 =>
(f_gR h93 v0 12 15).bind fun x95 =>
(f_gR h93 v0 12 22).bind fun x100 =>
(f_aI h93 x100 (((6 : Int32) * v1) + (2 : Int32))).bind fun x109 =>
(f_sI h93 x95 (2 : Int32) x109).bind fun h110 =>
(f_gR h110 v0 12 15).bind fun x112 =>
(f_gR h110 v0 12 22).bind fun x117 =>
(f_aI h110 x117 (((6 : Int32) * v1) + (3 : Int32))).bind fun x126 =>
(f_sI h110 x112 (3 : Int32) x126).bind fun h127 =>
(f_gR h127 v0 12 15).bind fun x129 =>
(f_gR h127 v0 12 22).bind fun x134 =>
(f_aI h127 x134 (((6 : Int32) * v1) + (4 : Int32))).bind fun x143 =>
(f_sI h127 x129 (4 : Int32) x143).bind fun h144 =>
(f_gR h144 v0 12 15).bind fun x146 =>
(f_gR h144 v0 12 26).bind fun x151 =>
(f_aI h144 x151 ((12 : Int32) + v1)).bind fun x158 =>
(f_sI h144 x146 (5 : Int32) x158).bind fun h159 =>
(f_gR h159 v0 12 15).bind fun x161 =>
(f_gR h159 v0 12 26).bind fun x167 =>
(f_aI h159 x167 (52 : Int32)).bind fun x172 =>
(f_sI h159 x161 (6 : Int32) x172).bind fun h173 =>
(f_gR h173 v0 12 15).bind fun x175 =>
(f_sI h173 x175 (7 : Int32) v2).bind fun h181 =>
(f_gI h181 v0 12 28).bind fun x184 =>
(s_Mod_worthOf F h181 v0 x184).bind fun x187 =>
some (x187.1, x187.2)) else
(f_gR h v0 12 26).bind fun x9 =>
(f_aI h x9 ((12 : Int32) + v1)).bind fun x16 =>
fw_jn (fun (t33_0 : Int32) =>
(f_gR h v0 12 26).bind fun x35 =>
(f_aI h x35 (52 : Int32)).bind fun x40 =>
if ¬ x40 = (1 : Int32) then (some (t33_0, h)) else
(f_gR h v0 12 22).bind fun x47 =>
(f_aI h x47 (((6 : Int32) * v1) + (4 : Int32))).bind fun x56 =>
some ((t33_0 - x56), h)) fun J33 =>
if ¬ x16 = (1 : Int32) then ((f_gR h v0 12 26).bind fun x26 =>
(f_aI h x26 ((0 : Int32) + v1)).bind fun x32 =>
J33 x32) else
J33 (0 : Int32)
theorem c_Mod_wishAt {G : fw_G} (F : Nat) {h : fw_H} {v0 : Option Nat} {v1 : Int32} {v2 : Int32} : fw_Call G m_Mod_wishAt fw_wI 5 0 0 [fw_r v0, fw_i v1, fw_i v2] h (s_Mod_wishAt F h v0 v1 v2) := by
  refine fw_Call.of ok_Mod_wishAt.1 (Nat.le_of_ble_eq_true rfl) [(0, some (fw_r v0)), (1, some (fw_i v1)), (2, some (fw_i v2))] rfl ?_
  refine r_ck ?_
  refine r_aload_n (i := 0) rfl rfl rfl ?_
  refine r_gI (i := 1) (ci := 12) (kf := 28) rfl (Nat.le_of_ble_eq_true rfl) wF_Mod_61 rfl rfl fun x1 => ?_
  refine r_iconst (i := 2) (-1 : Int32) kc_iconst_m1 rfl rfl ?_
  refine r_icmp_ne (i := 3) (tgt := 63) rfl rfl rfl ?_ ?_
  · refine r_aload_n (i := 40) rfl rfl rfl ?_
    refine r_gR (i := 41) (ci := 12) (kf := 15) rfl (Nat.le_of_ble_eq_true rfl) wF_Mod_34 rfl rfl fun x64 => ?_
    refine r_iconst (i := 42) (0 : Int32) kc_iconst_0 rfl rfl ?_
    refine r_aload_n (i := 43) rfl rfl rfl ?_
    refine r_gR (i := 44) (ci := 12) (kf := 26) rfl (Nat.le_of_ble_eq_true rfl) wF_Mod_55 rfl rfl fun x69 => ?_
    refine r_iconst (i := 45) (0 : Int32) kc_iconst_0 rfl rfl ?_
    refine r_iload_n (i := 46) rfl rfl rfl ?_
    refine r_iadd (i := 47) rfl rfl ?_
    refine r_aI (i := 48) rfl rfl fun x75 => ?_
    refine r_sI (i := 49) rfl rfl fun h76 => ?_
    refine r_aload_n (i := 50) rfl rfl rfl ?_
    refine r_gR (i := 51) (ci := 12) (kf := 15) rfl (Nat.le_of_ble_eq_true rfl) wF_Mod_34 rfl rfl fun x78 => ?_
    refine r_iconst (i := 52) (1 : Int32) kc_iconst_1 rfl rfl ?_
    refine r_aload_n (i := 53) rfl rfl rfl ?_
    refine r_gR (i := 54) (ci := 12) (kf := 22) rfl (Nat.le_of_ble_eq_true rfl) wF_Mod_49 rfl rfl fun x83 => ?_
    refine r_bipush (i := 55) (6 : Int32) kc_bipush_6 rfl rfl ?_
    refine r_iload_n (i := 56) rfl rfl rfl ?_
    refine r_imul (i := 57) rfl rfl ?_
    refine r_iconst (i := 58) (1 : Int32) kc_iconst_1 rfl rfl ?_
    refine r_iadd (i := 59) rfl rfl ?_
    refine r_aI (i := 60) rfl rfl fun x92 => ?_
    refine r_sI (i := 61) rfl rfl fun h93 => ?_
    refine r_aload_n (i := 62) rfl rfl rfl ?_
    refine r_gR (i := 63) (ci := 12) (kf := 15) rfl (Nat.le_of_ble_eq_true rfl) wF_Mod_34 rfl rfl fun x95 => ?_
    refine r_iconst (i := 64) (2 : Int32) kc_iconst_2 rfl rfl ?_
    refine r_aload_n (i := 65) rfl rfl rfl ?_
    refine r_gR (i := 66) (ci := 12) (kf := 22) rfl (Nat.le_of_ble_eq_true rfl) wF_Mod_49 rfl rfl fun x100 => ?_
    refine r_bipush (i := 67) (6 : Int32) kc_bipush_6 rfl rfl ?_
    refine r_iload_n (i := 68) rfl rfl rfl ?_
    refine r_imul (i := 69) rfl rfl ?_
    refine r_iconst (i := 70) (2 : Int32) kc_iconst_2 rfl rfl ?_
    refine r_iadd (i := 71) rfl rfl ?_
    refine r_aI (i := 72) rfl rfl fun x109 => ?_
    refine r_sI (i := 73) rfl rfl fun h110 => ?_
    refine r_aload_n (i := 74) rfl rfl rfl ?_
    refine r_gR (i := 75) (ci := 12) (kf := 15) rfl (Nat.le_of_ble_eq_true rfl) wF_Mod_34 rfl rfl fun x112 => ?_
    refine r_iconst (i := 76) (3 : Int32) kc_iconst_3 rfl rfl ?_
    refine r_aload_n (i := 77) rfl rfl rfl ?_
    refine r_gR (i := 78) (ci := 12) (kf := 22) rfl (Nat.le_of_ble_eq_true rfl) wF_Mod_49 rfl rfl fun x117 => ?_
    refine r_bipush (i := 79) (6 : Int32) kc_bipush_6 rfl rfl ?_
    refine r_iload_n (i := 80) rfl rfl rfl ?_
    refine r_imul (i := 81) rfl rfl ?_
    refine r_iconst (i := 82) (3 : Int32) kc_iconst_3 rfl rfl ?_
    refine r_iadd (i := 83) rfl rfl ?_
    refine r_aI (i := 84) rfl rfl fun x126 => ?_
    refine r_sI (i := 85) rfl rfl fun h127 => ?_
    refine r_aload_n (i := 86) rfl rfl rfl ?_
    refine r_gR (i := 87) (ci := 12) (kf := 15) rfl (Nat.le_of_ble_eq_true rfl) wF_Mod_34 rfl rfl fun x129 => ?_
    refine r_iconst (i := 88) (4 : Int32) kc_iconst_4 rfl rfl ?_
    refine r_aload_n (i := 89) rfl rfl rfl ?_
    refine r_gR (i := 90) (ci := 12) (kf := 22) rfl (Nat.le_of_ble_eq_true rfl) wF_Mod_49 rfl rfl fun x134 => ?_
    refine r_bipush (i := 91) (6 : Int32) kc_bipush_6 rfl rfl ?_
    refine r_iload_n (i := 92) rfl rfl rfl ?_
    refine r_imul (i := 93) rfl rfl ?_
    refine r_iconst (i := 94) (4 : Int32) kc_iconst_4 rfl rfl ?_
    refine r_iadd (i := 95) rfl rfl ?_
    refine r_aI (i := 96) rfl rfl fun x143 => ?_
    refine r_sI (i := 97) rfl rfl fun h144 => ?_
    refine r_aload_n (i := 98) rfl rfl rfl ?_
    refine r_gR (i := 99) (ci := 12) (kf := 15) rfl (Nat.le_of_ble_eq_true rfl) wF_Mod_34 rfl rfl fun x146 => ?_
    refine r_iconst (i := 100) (5 : Int32) kc_iconst_5 rfl rfl ?_
    refine r_aload_n (i := 101) rfl rfl rfl ?_
    refine r_gR (i := 102) (ci := 12) (kf := 26) rfl (Nat.le_of_ble_eq_true rfl) wF_Mod_55 rfl rfl fun x151 => ?_
    refine r_bipush (i := 103) (12 : Int32) kc_bipush_12 rfl rfl ?_
    refine r_iload_n (i := 104) rfl rfl rfl ?_
    refine r_iadd (i := 105) rfl rfl ?_
    refine r_aI (i := 106) rfl rfl fun x158 => ?_
    refine r_sI (i := 107) rfl rfl fun h159 => ?_
    refine r_aload_n (i := 108) rfl rfl rfl ?_
    refine r_gR (i := 109) (ci := 12) (kf := 15) rfl (Nat.le_of_ble_eq_true rfl) wF_Mod_34 rfl rfl fun x161 => ?_
    refine r_bipush (i := 110) (6 : Int32) kc_bipush_6 rfl rfl ?_
    refine r_aload_n (i := 111) rfl rfl rfl ?_
    refine r_gR (i := 112) (ci := 12) (kf := 26) rfl (Nat.le_of_ble_eq_true rfl) wF_Mod_55 rfl rfl fun x167 => ?_
    refine r_bipush (i := 113) (52 : Int32) kc_bipush_52 rfl rfl ?_
    refine r_aI (i := 114) rfl rfl fun x172 => ?_
    refine r_sI (i := 115) rfl rfl fun h173 => ?_
    refine r_aload_n (i := 116) rfl rfl rfl ?_
    refine r_gR (i := 117) (ci := 12) (kf := 15) rfl (Nat.le_of_ble_eq_true rfl) wF_Mod_34 rfl rfl fun x175 => ?_
    refine r_bipush (i := 118) (7 : Int32) kc_bipush_7 rfl rfl ?_
    refine r_iload_n (i := 119) rfl rfl rfl ?_
    refine r_sI (i := 120) rfl rfl fun h181 => ?_
    refine r_aload_n (i := 121) rfl rfl rfl ?_
    refine r_aload_n (i := 122) rfl rfl rfl ?_
    refine r_gI (i := 123) (ci := 12) (kf := 28) rfl (Nat.le_of_ble_eq_true rfl) wF_Mod_61 rfl rfl fun x184 => ?_
    refine r_VwI1 (i := 124) (k2 := 0) (n2 := 0) ok_Mod_worthOf wM_Mod_285 (c_Mod_worthOf F) (fun _ e => fw_ckb e) (Nat.le_of_ble_eq_true rfl) (Nat.le_of_ble_eq_true rfl) (Nat.le_of_ble_eq_true rfl) (Nat.le_of_ble_eq_true rfl) rfl rfl fun x187 => ?_
    exact r_retI (i := 125) rfl rfl rfl rfl
  · refine r_aload_n (i := 4) rfl rfl rfl ?_
    refine r_gR (i := 5) (ci := 12) (kf := 26) rfl (Nat.le_of_ble_eq_true rfl) wF_Mod_55 rfl rfl fun x9 => ?_
    refine r_bipush (i := 6) (12 : Int32) kc_bipush_12 rfl rfl ?_
    refine r_iload_n (i := 7) rfl rfl rfl ?_
    refine r_iadd (i := 8) rfl rfl ?_
    refine r_aI (i := 9) rfl rfl fun x16 => ?_
    refine r_iconst (i := 10) (1 : Int32) kc_iconst_1 rfl rfl ?_
    refine r_join (P := fun J33 => ∀ (t33_0 : Int32), fw_R G m_Mod_wishAt fw_wI 5 (0) (0) 33 [(0, some (fw_r v0)), (1, some (fw_i v1))] [fw_i t33_0] h (J33 t33_0)) ?_ (fun J33 hJ33 => ?_)
    · intro t33_0
      refine r_istore_n (i := 20) rfl rfl (Nat.le_of_ble_eq_true rfl) rfl ?_
      refine r_aload_n (i := 21) rfl rfl rfl ?_
      refine r_gR (i := 22) (ci := 12) (kf := 26) rfl (Nat.le_of_ble_eq_true rfl) wF_Mod_55 rfl rfl fun x35 => ?_
      refine r_bipush (i := 23) (52 : Int32) kc_bipush_52 rfl rfl ?_
      refine r_aI (i := 24) rfl rfl fun x40 => ?_
      refine r_iconst (i := 25) (1 : Int32) kc_iconst_1 rfl rfl ?_
      refine r_icmp_ne (i := 26) (tgt := 61) rfl rfl rfl ?_ ?_
      · refine r_iload_n (i := 38) rfl rfl rfl ?_
        exact r_retI (i := 39) rfl rfl rfl rfl
      · refine r_iload_n (i := 27) rfl rfl rfl ?_
        refine r_aload_n (i := 28) rfl rfl rfl ?_
        refine r_gR (i := 29) (ci := 12) (kf := 22) rfl (Nat.le_of_ble_eq_true rfl) wF_Mod_49 rfl rfl fun x47 => ?_
        refine r_bipush (i := 30) (6 : Int32) kc_bipush_6 rfl rfl ?_
        refine r_iload_n (i := 31) rfl rfl rfl ?_
        refine r_imul (i := 32) rfl rfl ?_
        refine r_iconst (i := 33) (4 : Int32) kc_iconst_4 rfl rfl ?_
        refine r_iadd (i := 34) rfl rfl ?_
        refine r_aI (i := 35) rfl rfl fun x56 => ?_
        refine r_isub (i := 36) rfl rfl ?_
        refine r_goto (i := 37) (tgt := 62) rfl rfl rfl ?_
        exact r_retI (i := 39) rfl rfl rfl rfl
    · refine r_icmp_ne (i := 11) (tgt := 25) rfl rfl rfl ?_ ?_
      · refine r_aload_n (i := 14) rfl rfl rfl ?_
        refine r_gR (i := 15) (ci := 12) (kf := 26) rfl (Nat.le_of_ble_eq_true rfl) wF_Mod_55 rfl rfl fun x26 => ?_
        refine r_iconst (i := 16) (0 : Int32) kc_iconst_0 rfl rfl ?_
        refine r_iload_n (i := 17) rfl rfl rfl ?_
        refine r_iadd (i := 18) rfl rfl ?_
        refine r_aI (i := 19) rfl rfl fun x32 => ?_
        exact r_lv (fw_sub1 rfl (fw_sub1 rfl fw_sub0)) (hJ33 x32)
      · refine r_iconst (i := 12) (0 : Int32) kc_iconst_0 rfl rfl ?_
        refine r_goto (i := 13) (tgt := 33) rfl rfl rfl ?_
        exact r_lv (fw_sub1 rfl (fw_sub1 rfl fw_sub0)) (hJ33 (0 : Int32))
-- Mod_wish
def s_Mod_wish (F : Nat) (h : fw_H) (v0 : Option Nat) (v1 : Int32) : Option (Int32 × fw_H) :=
(f_ck h v0 12).bind fun _ =>
(s_Mod_isHouse h v0 v1).bind fun x2 =>
if x2 = true then ((f_gR h v0 12 26).bind fun x11 =>
(f_aI h x11 (56 : Int32)).bind fun x16 =>
(f_irem x16 (24 : Int32)).bind fun x19 =>
(s_Mod_wishAt F h v0 v1 x19).bind fun x20 =>
some (x20.1, x20.2)) else
some ((-1000000 : Int32), h)
theorem c_Mod_wish {G : fw_G} (F : Nat) {h : fw_H} {v0 : Option Nat} {v1 : Int32} : fw_Call G m_Mod_wish fw_wI 6 0 0 [fw_r v0, fw_i v1] h (s_Mod_wish F h v0 v1) := by
  refine fw_Call.of ok_Mod_wish.1 (Nat.le_of_ble_eq_true rfl) [(0, some (fw_r v0)), (1, some (fw_i v1))] rfl ?_
  refine r_ck ?_
  refine r_aload_n (i := 0) rfl rfl rfl ?_
  refine r_iload_n (i := 1) rfl rfl rfl ?_
  refine r_VB1 (i := 2) (k2 := 0) (n2 := 0) ok_Mod_isHouse wM_Mod_279 (c_Mod_isHouse) (fun _ e => fw_ckb e) (Nat.le_of_ble_eq_true rfl) (Nat.le_of_ble_eq_true rfl) (Nat.le_of_ble_eq_true rfl) (Nat.le_of_ble_eq_true rfl) rfl rfl fun x2 => ?_
  refine r_ifeqB (i := 3) (tgt := 26) rfl rfl rfl ?_ ?_
  · refine r_ldcw (i := 14) wK_Mod_291 rfl rfl ?_
    exact r_retI (i := 15) rfl rfl rfl rfl
  · refine r_aload_n (i := 4) rfl rfl rfl ?_
    refine r_iload_n (i := 5) rfl rfl rfl ?_
    refine r_aload_n (i := 6) rfl rfl rfl ?_
    refine r_gR (i := 7) (ci := 12) (kf := 26) rfl (Nat.le_of_ble_eq_true rfl) wF_Mod_55 rfl rfl fun x11 => ?_
    refine r_bipush (i := 8) (56 : Int32) kc_bipush_56 rfl rfl ?_
    refine r_aI (i := 9) rfl rfl fun x16 => ?_
    refine r_bipush (i := 10) (24 : Int32) kc_bipush_24 rfl rfl ?_
    refine r_iremN (i := 11) rfl rfl fun x19 => ?_
    refine r_VwI2 (i := 12) (k2 := 0) (n2 := 0) ok_Mod_wishAt wM_Mod_288 (c_Mod_wishAt F) (fun _ e => fw_ckb e) (Nat.le_of_ble_eq_true rfl) (Nat.le_of_ble_eq_true rfl) (Nat.le_of_ble_eq_true rfl) (Nat.le_of_ble_eq_true rfl) rfl rfl fun x20 => ?_
    refine r_goto (i := 13) (tgt := 29) rfl rfl rfl ?_
    exact r_retI (i := 15) rfl rfl rfl rfl
-- Mod_goes
def s_Mod_goes (h : fw_H) (v0 : Option Nat) (v1 : Int32) (v2 : Int32) (v3 : Int32) : Option Bool :=
(f_ck h v0 12).bind fun _ =>
(f_gR h v0 12 23).bind fun x1 =>
(f_aI h x1 ((3 : Int32) * v1)).bind fun x7 =>
if ¬ x7 = v2 then ((f_gR h v0 12 23).bind fun x27 =>
(f_aI h x27 ((3 : Int32) * v1)).bind fun x33 =>
if ¬ x33 = v3 then (if (0 : Int32) = (0 : Int32) then (some false) else
(f_gR h v0 12 26).bind fun x78 =>
(f_aI h x78 ((36 : Int32) + v1)).bind fun x85 =>
if ¬ x85 = (0 : Int32) then (some false) else
some true) else
(f_gR h v0 12 23).bind fun x39 =>
(f_aI h x39 (((3 : Int32) * v1) + (1 : Int32))).bind fun x47 =>
if ¬ x47 = v2 then (if (0 : Int32) = (0 : Int32) then (some false) else
(f_gR h v0 12 26).bind fun x78 =>
(f_aI h x78 ((36 : Int32) + v1)).bind fun x85 =>
if ¬ x85 = (0 : Int32) then (some false) else
some true) else
(f_gR h v0 12 23).bind fun x53 =>
(f_aI h x53 (((3 : Int32) * v1) + (2 : Int32))).bind fun x61 =>
if ¬ x61 = (0 : Int32) then (if (0 : Int32) = (0 : Int32) then (some false) else
(f_gR h v0 12 26).bind fun x78 =>
(f_aI h x78 ((36 : Int32) + v1)).bind fun x85 =>
if ¬ x85 = (0 : Int32) then (some false) else
some true) else
if (1 : Int32) = (0 : Int32) then (some false) else
(f_gR h v0 12 26).bind fun x78 =>
(f_aI h x78 ((36 : Int32) + v1)).bind fun x85 =>
if ¬ x85 = (0 : Int32) then (some false) else
some true) else
(f_gR h v0 12 23).bind fun x13 =>
(f_aI h x13 (((3 : Int32) * v1) + (1 : Int32))).bind fun x21 =>
if x21 = v3 then (if (1 : Int32) = (0 : Int32) then (some false) else
(f_gR h v0 12 26).bind fun x78 =>
(f_aI h x78 ((36 : Int32) + v1)).bind fun x85 =>
if ¬ x85 = (0 : Int32) then (some false) else
some true) else
(f_gR h v0 12 23).bind fun x27 =>
(f_aI h x27 ((3 : Int32) * v1)).bind fun x33 =>
if ¬ x33 = v3 then (if (0 : Int32) = (0 : Int32) then (some false) else
(f_gR h v0 12 26).bind fun x78 =>
(f_aI h x78 ((36 : Int32) + v1)).bind fun x85 =>
if ¬ x85 = (0 : Int32) then (some false) else
some true) else
(f_gR h v0 12 23).bind fun x39 =>
(f_aI h x39 (((3 : Int32) * v1) + (1 : Int32))).bind fun x47 =>
if ¬ x47 = v2 then (if (0 : Int32) = (0 : Int32) then (some false) else
(f_gR h v0 12 26).bind fun x78 =>
(f_aI h x78 ((36 : Int32) + v1)).bind fun x85 =>
if ¬ x85 = (0 : Int32) then (some false) else
some true) else
(f_gR h v0 12 23).bind fun x53 =>
(f_aI h x53 (((3 : Int32) * v1) + (2 : Int32))).bind fun x61 =>
if ¬ x61 = (0 : Int32) then (if (0 : Int32) = (0 : Int32) then (some false) else
(f_gR h v0 12 26).bind fun x78 =>
(f_aI h x78 ((36 : Int32) + v1)).bind fun x85 =>
if ¬ x85 = (0 : Int32) then (some false) else
some true) else
if (1 : Int32) = (0 : Int32) then (some false) else
(f_gR h v0 12 26).bind fun x78 =>
(f_aI h x78 ((36 : Int32) + v1)).bind fun x85 =>
if ¬ x85 = (0 : Int32) then (some false) else
some true
theorem c_Mod_goes {G : fw_G} {h : fw_H} {v0 : Option Nat} {v1 : Int32} {v2 : Int32} {v3 : Int32} : fw_Call G m_Mod_goes (fw_eB h) 0 0 0 [fw_r v0, fw_i v1, fw_i v2, fw_i v3] h (s_Mod_goes h v0 v1 v2 v3) := by
  refine fw_Call.of ok_Mod_goes.1 (Nat.le_of_ble_eq_true rfl) [(0, some (fw_r v0)), (1, some (fw_i v1)), (2, some (fw_i v2)), (3, some (fw_i v3))] rfl ?_
  refine r_ck ?_
  refine r_aload_n (i := 0) rfl rfl rfl ?_
  refine r_gR (i := 1) (ci := 12) (kf := 23) rfl (Nat.le_of_ble_eq_true rfl) wF_Mod_52 rfl rfl fun x1 => ?_
  refine r_iconst (i := 2) (3 : Int32) kc_iconst_3 rfl rfl ?_
  refine r_iload_n (i := 3) rfl rfl rfl ?_
  refine r_imul (i := 4) rfl rfl ?_
  refine r_aI (i := 5) rfl rfl fun x7 => ?_
  refine r_iload_n (i := 6) rfl rfl rfl ?_
  refine r_icmp_ne (i := 7) (tgt := 26) rfl rfl rfl ?_ ?_
  · refine r_aload_n (i := 18) rfl rfl rfl ?_
    refine r_gR (i := 19) (ci := 12) (kf := 23) rfl (Nat.le_of_ble_eq_true rfl) wF_Mod_52 rfl rfl fun x27 => ?_
    refine r_iconst (i := 20) (3 : Int32) kc_iconst_3 rfl rfl ?_
    refine r_iload_n (i := 21) rfl rfl rfl ?_
    refine r_imul (i := 22) rfl rfl ?_
    refine r_aI (i := 23) rfl rfl fun x33 => ?_
    refine r_iload_n (i := 24) rfl rfl rfl ?_
    refine r_icmp_ne (i := 25) (tgt := 69) rfl rfl rfl ?_ ?_
    · refine r_iconst (i := 47) (0 : Int32) kc_iconst_0 rfl rfl ?_
      refine r_istore (i := 48) rfl rfl (Nat.le_of_ble_eq_true rfl) rfl ?_
      refine r_iload (i := 49) rfl rfl rfl ?_
      refine r_if_eq (i := 50) (tgt := 93) rfl rfl rfl ?_ ?_
      · refine r_iconst (i := 60) (0 : Int32) kc_iconst_0 rfl rfl ?_
        exact r_retB (x := false) (i := 61) rfl rfl rfl rfl
      · refine r_aload_n (i := 51) rfl rfl rfl ?_
        refine r_gR (i := 52) (ci := 12) (kf := 26) rfl (Nat.le_of_ble_eq_true rfl) wF_Mod_55 rfl rfl fun x78 => ?_
        refine r_bipush (i := 53) (36 : Int32) kc_bipush_36 rfl rfl ?_
        refine r_iload_n (i := 54) rfl rfl rfl ?_
        refine r_iadd (i := 55) rfl rfl ?_
        refine r_aI (i := 56) rfl rfl fun x85 => ?_
        refine r_if_ne (i := 57) (tgt := 93) rfl rfl rfl ?_ ?_
        · refine r_iconst (i := 60) (0 : Int32) kc_iconst_0 rfl rfl ?_
          exact r_retB (x := false) (i := 61) rfl rfl rfl rfl
        · refine r_iconst (i := 58) (1 : Int32) kc_iconst_1 rfl rfl ?_
          refine r_goto (i := 59) (tgt := 94) rfl rfl rfl ?_
          exact r_retB (x := true) (i := 61) rfl rfl rfl rfl
    · refine r_aload_n (i := 26) rfl rfl rfl ?_
      refine r_gR (i := 27) (ci := 12) (kf := 23) rfl (Nat.le_of_ble_eq_true rfl) wF_Mod_52 rfl rfl fun x39 => ?_
      refine r_iconst (i := 28) (3 : Int32) kc_iconst_3 rfl rfl ?_
      refine r_iload_n (i := 29) rfl rfl rfl ?_
      refine r_imul (i := 30) rfl rfl ?_
      refine r_iconst (i := 31) (1 : Int32) kc_iconst_1 rfl rfl ?_
      refine r_iadd (i := 32) rfl rfl ?_
      refine r_aI (i := 33) rfl rfl fun x47 => ?_
      refine r_iload_n (i := 34) rfl rfl rfl ?_
      refine r_icmp_ne (i := 35) (tgt := 69) rfl rfl rfl ?_ ?_
      · refine r_iconst (i := 47) (0 : Int32) kc_iconst_0 rfl rfl ?_
        refine r_istore (i := 48) rfl rfl (Nat.le_of_ble_eq_true rfl) rfl ?_
        refine r_iload (i := 49) rfl rfl rfl ?_
        refine r_if_eq (i := 50) (tgt := 93) rfl rfl rfl ?_ ?_
        · refine r_iconst (i := 60) (0 : Int32) kc_iconst_0 rfl rfl ?_
          exact r_retB (x := false) (i := 61) rfl rfl rfl rfl
        · refine r_aload_n (i := 51) rfl rfl rfl ?_
          refine r_gR (i := 52) (ci := 12) (kf := 26) rfl (Nat.le_of_ble_eq_true rfl) wF_Mod_55 rfl rfl fun x78 => ?_
          refine r_bipush (i := 53) (36 : Int32) kc_bipush_36 rfl rfl ?_
          refine r_iload_n (i := 54) rfl rfl rfl ?_
          refine r_iadd (i := 55) rfl rfl ?_
          refine r_aI (i := 56) rfl rfl fun x85 => ?_
          refine r_if_ne (i := 57) (tgt := 93) rfl rfl rfl ?_ ?_
          · refine r_iconst (i := 60) (0 : Int32) kc_iconst_0 rfl rfl ?_
            exact r_retB (x := false) (i := 61) rfl rfl rfl rfl
          · refine r_iconst (i := 58) (1 : Int32) kc_iconst_1 rfl rfl ?_
            refine r_goto (i := 59) (tgt := 94) rfl rfl rfl ?_
            exact r_retB (x := true) (i := 61) rfl rfl rfl rfl
      · refine r_aload_n (i := 36) rfl rfl rfl ?_
        refine r_gR (i := 37) (ci := 12) (kf := 23) rfl (Nat.le_of_ble_eq_true rfl) wF_Mod_52 rfl rfl fun x53 => ?_
        refine r_iconst (i := 38) (3 : Int32) kc_iconst_3 rfl rfl ?_
        refine r_iload_n (i := 39) rfl rfl rfl ?_
        refine r_imul (i := 40) rfl rfl ?_
        refine r_iconst (i := 41) (2 : Int32) kc_iconst_2 rfl rfl ?_
        refine r_iadd (i := 42) rfl rfl ?_
        refine r_aI (i := 43) rfl rfl fun x61 => ?_
        refine r_if_ne (i := 44) (tgt := 69) rfl rfl rfl ?_ ?_
        · refine r_iconst (i := 47) (0 : Int32) kc_iconst_0 rfl rfl ?_
          refine r_istore (i := 48) rfl rfl (Nat.le_of_ble_eq_true rfl) rfl ?_
          refine r_iload (i := 49) rfl rfl rfl ?_
          refine r_if_eq (i := 50) (tgt := 93) rfl rfl rfl ?_ ?_
          · refine r_iconst (i := 60) (0 : Int32) kc_iconst_0 rfl rfl ?_
            exact r_retB (x := false) (i := 61) rfl rfl rfl rfl
          · refine r_aload_n (i := 51) rfl rfl rfl ?_
            refine r_gR (i := 52) (ci := 12) (kf := 26) rfl (Nat.le_of_ble_eq_true rfl) wF_Mod_55 rfl rfl fun x78 => ?_
            refine r_bipush (i := 53) (36 : Int32) kc_bipush_36 rfl rfl ?_
            refine r_iload_n (i := 54) rfl rfl rfl ?_
            refine r_iadd (i := 55) rfl rfl ?_
            refine r_aI (i := 56) rfl rfl fun x85 => ?_
            refine r_if_ne (i := 57) (tgt := 93) rfl rfl rfl ?_ ?_
            · refine r_iconst (i := 60) (0 : Int32) kc_iconst_0 rfl rfl ?_
              exact r_retB (x := false) (i := 61) rfl rfl rfl rfl
            · refine r_iconst (i := 58) (1 : Int32) kc_iconst_1 rfl rfl ?_
              refine r_goto (i := 59) (tgt := 94) rfl rfl rfl ?_
              exact r_retB (x := true) (i := 61) rfl rfl rfl rfl
        · refine r_iconst (i := 45) (1 : Int32) kc_iconst_1 rfl rfl ?_
          refine r_goto (i := 46) (tgt := 70) rfl rfl rfl ?_
          refine r_istore (i := 48) rfl rfl (Nat.le_of_ble_eq_true rfl) rfl ?_
          refine r_iload (i := 49) rfl rfl rfl ?_
          refine r_if_eq (i := 50) (tgt := 93) rfl rfl rfl ?_ ?_
          · refine r_iconst (i := 60) (0 : Int32) kc_iconst_0 rfl rfl ?_
            exact r_retB (x := false) (i := 61) rfl rfl rfl rfl
          · refine r_aload_n (i := 51) rfl rfl rfl ?_
            refine r_gR (i := 52) (ci := 12) (kf := 26) rfl (Nat.le_of_ble_eq_true rfl) wF_Mod_55 rfl rfl fun x78 => ?_
            refine r_bipush (i := 53) (36 : Int32) kc_bipush_36 rfl rfl ?_
            refine r_iload_n (i := 54) rfl rfl rfl ?_
            refine r_iadd (i := 55) rfl rfl ?_
            refine r_aI (i := 56) rfl rfl fun x85 => ?_
            refine r_if_ne (i := 57) (tgt := 93) rfl rfl rfl ?_ ?_
            · refine r_iconst (i := 60) (0 : Int32) kc_iconst_0 rfl rfl ?_
              exact r_retB (x := false) (i := 61) rfl rfl rfl rfl
            · refine r_iconst (i := 58) (1 : Int32) kc_iconst_1 rfl rfl ?_
              refine r_goto (i := 59) (tgt := 94) rfl rfl rfl ?_
              exact r_retB (x := true) (i := 61) rfl rfl rfl rfl
  · refine r_aload_n (i := 8) rfl rfl rfl ?_
    refine r_gR (i := 9) (ci := 12) (kf := 23) rfl (Nat.le_of_ble_eq_true rfl) wF_Mod_52 rfl rfl fun x13 => ?_
    refine r_iconst (i := 10) (3 : Int32) kc_iconst_3 rfl rfl ?_
    refine r_iload_n (i := 11) rfl rfl rfl ?_
    refine r_imul (i := 12) rfl rfl ?_
    refine r_iconst (i := 13) (1 : Int32) kc_iconst_1 rfl rfl ?_
    refine r_iadd (i := 14) rfl rfl ?_
    refine r_aI (i := 15) rfl rfl fun x21 => ?_
    refine r_iload_n (i := 16) rfl rfl rfl ?_
    refine r_icmp_eq (i := 17) (tgt := 65) rfl rfl rfl ?_ ?_
    · refine r_iconst (i := 45) (1 : Int32) kc_iconst_1 rfl rfl ?_
      refine r_goto (i := 46) (tgt := 70) rfl rfl rfl ?_
      refine r_istore (i := 48) rfl rfl (Nat.le_of_ble_eq_true rfl) rfl ?_
      refine r_iload (i := 49) rfl rfl rfl ?_
      refine r_if_eq (i := 50) (tgt := 93) rfl rfl rfl ?_ ?_
      · refine r_iconst (i := 60) (0 : Int32) kc_iconst_0 rfl rfl ?_
        exact r_retB (x := false) (i := 61) rfl rfl rfl rfl
      · refine r_aload_n (i := 51) rfl rfl rfl ?_
        refine r_gR (i := 52) (ci := 12) (kf := 26) rfl (Nat.le_of_ble_eq_true rfl) wF_Mod_55 rfl rfl fun x78 => ?_
        refine r_bipush (i := 53) (36 : Int32) kc_bipush_36 rfl rfl ?_
        refine r_iload_n (i := 54) rfl rfl rfl ?_
        refine r_iadd (i := 55) rfl rfl ?_
        refine r_aI (i := 56) rfl rfl fun x85 => ?_
        refine r_if_ne (i := 57) (tgt := 93) rfl rfl rfl ?_ ?_
        · refine r_iconst (i := 60) (0 : Int32) kc_iconst_0 rfl rfl ?_
          exact r_retB (x := false) (i := 61) rfl rfl rfl rfl
        · refine r_iconst (i := 58) (1 : Int32) kc_iconst_1 rfl rfl ?_
          refine r_goto (i := 59) (tgt := 94) rfl rfl rfl ?_
          exact r_retB (x := true) (i := 61) rfl rfl rfl rfl
    · refine r_aload_n (i := 18) rfl rfl rfl ?_
      refine r_gR (i := 19) (ci := 12) (kf := 23) rfl (Nat.le_of_ble_eq_true rfl) wF_Mod_52 rfl rfl fun x27 => ?_
      refine r_iconst (i := 20) (3 : Int32) kc_iconst_3 rfl rfl ?_
      refine r_iload_n (i := 21) rfl rfl rfl ?_
      refine r_imul (i := 22) rfl rfl ?_
      refine r_aI (i := 23) rfl rfl fun x33 => ?_
      refine r_iload_n (i := 24) rfl rfl rfl ?_
      refine r_icmp_ne (i := 25) (tgt := 69) rfl rfl rfl ?_ ?_
      · refine r_iconst (i := 47) (0 : Int32) kc_iconst_0 rfl rfl ?_
        refine r_istore (i := 48) rfl rfl (Nat.le_of_ble_eq_true rfl) rfl ?_
        refine r_iload (i := 49) rfl rfl rfl ?_
        refine r_if_eq (i := 50) (tgt := 93) rfl rfl rfl ?_ ?_
        · refine r_iconst (i := 60) (0 : Int32) kc_iconst_0 rfl rfl ?_
          exact r_retB (x := false) (i := 61) rfl rfl rfl rfl
        · refine r_aload_n (i := 51) rfl rfl rfl ?_
          refine r_gR (i := 52) (ci := 12) (kf := 26) rfl (Nat.le_of_ble_eq_true rfl) wF_Mod_55 rfl rfl fun x78 => ?_
          refine r_bipush (i := 53) (36 : Int32) kc_bipush_36 rfl rfl ?_
          refine r_iload_n (i := 54) rfl rfl rfl ?_
          refine r_iadd (i := 55) rfl rfl ?_
          refine r_aI (i := 56) rfl rfl fun x85 => ?_
          refine r_if_ne (i := 57) (tgt := 93) rfl rfl rfl ?_ ?_
          · refine r_iconst (i := 60) (0 : Int32) kc_iconst_0 rfl rfl ?_
            exact r_retB (x := false) (i := 61) rfl rfl rfl rfl
          · refine r_iconst (i := 58) (1 : Int32) kc_iconst_1 rfl rfl ?_
            refine r_goto (i := 59) (tgt := 94) rfl rfl rfl ?_
            exact r_retB (x := true) (i := 61) rfl rfl rfl rfl
      · refine r_aload_n (i := 26) rfl rfl rfl ?_
        refine r_gR (i := 27) (ci := 12) (kf := 23) rfl (Nat.le_of_ble_eq_true rfl) wF_Mod_52 rfl rfl fun x39 => ?_
        refine r_iconst (i := 28) (3 : Int32) kc_iconst_3 rfl rfl ?_
        refine r_iload_n (i := 29) rfl rfl rfl ?_
        refine r_imul (i := 30) rfl rfl ?_
        refine r_iconst (i := 31) (1 : Int32) kc_iconst_1 rfl rfl ?_
        refine r_iadd (i := 32) rfl rfl ?_
        refine r_aI (i := 33) rfl rfl fun x47 => ?_
        refine r_iload_n (i := 34) rfl rfl rfl ?_
        refine r_icmp_ne (i := 35) (tgt := 69) rfl rfl rfl ?_ ?_
        · refine r_iconst (i := 47) (0 : Int32) kc_iconst_0 rfl rfl ?_
          refine r_istore (i := 48) rfl rfl (Nat.le_of_ble_eq_true rfl) rfl ?_
          refine r_iload (i := 49) rfl rfl rfl ?_
          refine r_if_eq (i := 50) (tgt := 93) rfl rfl rfl ?_ ?_
          · refine r_iconst (i := 60) (0 : Int32) kc_iconst_0 rfl rfl ?_
            exact r_retB (x := false) (i := 61) rfl rfl rfl rfl
          · refine r_aload_n (i := 51) rfl rfl rfl ?_
            refine r_gR (i := 52) (ci := 12) (kf := 26) rfl (Nat.le_of_ble_eq_true rfl) wF_Mod_55 rfl rfl fun x78 => ?_
            refine r_bipush (i := 53) (36 : Int32) kc_bipush_36 rfl rfl ?_
            refine r_iload_n (i := 54) rfl rfl rfl ?_
            refine r_iadd (i := 55) rfl rfl ?_
            refine r_aI (i := 56) rfl rfl fun x85 => ?_
            refine r_if_ne (i := 57) (tgt := 93) rfl rfl rfl ?_ ?_
            · refine r_iconst (i := 60) (0 : Int32) kc_iconst_0 rfl rfl ?_
              exact r_retB (x := false) (i := 61) rfl rfl rfl rfl
            · refine r_iconst (i := 58) (1 : Int32) kc_iconst_1 rfl rfl ?_
              refine r_goto (i := 59) (tgt := 94) rfl rfl rfl ?_
              exact r_retB (x := true) (i := 61) rfl rfl rfl rfl
        · refine r_aload_n (i := 36) rfl rfl rfl ?_
          refine r_gR (i := 37) (ci := 12) (kf := 23) rfl (Nat.le_of_ble_eq_true rfl) wF_Mod_52 rfl rfl fun x53 => ?_
          refine r_iconst (i := 38) (3 : Int32) kc_iconst_3 rfl rfl ?_
          refine r_iload_n (i := 39) rfl rfl rfl ?_
          refine r_imul (i := 40) rfl rfl ?_
          refine r_iconst (i := 41) (2 : Int32) kc_iconst_2 rfl rfl ?_
          refine r_iadd (i := 42) rfl rfl ?_
          refine r_aI (i := 43) rfl rfl fun x61 => ?_
          refine r_if_ne (i := 44) (tgt := 69) rfl rfl rfl ?_ ?_
          · refine r_iconst (i := 47) (0 : Int32) kc_iconst_0 rfl rfl ?_
            refine r_istore (i := 48) rfl rfl (Nat.le_of_ble_eq_true rfl) rfl ?_
            refine r_iload (i := 49) rfl rfl rfl ?_
            refine r_if_eq (i := 50) (tgt := 93) rfl rfl rfl ?_ ?_
            · refine r_iconst (i := 60) (0 : Int32) kc_iconst_0 rfl rfl ?_
              exact r_retB (x := false) (i := 61) rfl rfl rfl rfl
            · refine r_aload_n (i := 51) rfl rfl rfl ?_
              refine r_gR (i := 52) (ci := 12) (kf := 26) rfl (Nat.le_of_ble_eq_true rfl) wF_Mod_55 rfl rfl fun x78 => ?_
              refine r_bipush (i := 53) (36 : Int32) kc_bipush_36 rfl rfl ?_
              refine r_iload_n (i := 54) rfl rfl rfl ?_
              refine r_iadd (i := 55) rfl rfl ?_
              refine r_aI (i := 56) rfl rfl fun x85 => ?_
              refine r_if_ne (i := 57) (tgt := 93) rfl rfl rfl ?_ ?_
              · refine r_iconst (i := 60) (0 : Int32) kc_iconst_0 rfl rfl ?_
                exact r_retB (x := false) (i := 61) rfl rfl rfl rfl
              · refine r_iconst (i := 58) (1 : Int32) kc_iconst_1 rfl rfl ?_
                refine r_goto (i := 59) (tgt := 94) rfl rfl rfl ?_
                exact r_retB (x := true) (i := 61) rfl rfl rfl rfl
          · refine r_iconst (i := 45) (1 : Int32) kc_iconst_1 rfl rfl ?_
            refine r_goto (i := 46) (tgt := 70) rfl rfl rfl ?_
            refine r_istore (i := 48) rfl rfl (Nat.le_of_ble_eq_true rfl) rfl ?_
            refine r_iload (i := 49) rfl rfl rfl ?_
            refine r_if_eq (i := 50) (tgt := 93) rfl rfl rfl ?_ ?_
            · refine r_iconst (i := 60) (0 : Int32) kc_iconst_0 rfl rfl ?_
              exact r_retB (x := false) (i := 61) rfl rfl rfl rfl
            · refine r_aload_n (i := 51) rfl rfl rfl ?_
              refine r_gR (i := 52) (ci := 12) (kf := 26) rfl (Nat.le_of_ble_eq_true rfl) wF_Mod_55 rfl rfl fun x78 => ?_
              refine r_bipush (i := 53) (36 : Int32) kc_bipush_36 rfl rfl ?_
              refine r_iload_n (i := 54) rfl rfl rfl ?_
              refine r_iadd (i := 55) rfl rfl ?_
              refine r_aI (i := 56) rfl rfl fun x85 => ?_
              refine r_if_ne (i := 57) (tgt := 93) rfl rfl rfl ?_ ?_
              · refine r_iconst (i := 60) (0 : Int32) kc_iconst_0 rfl rfl ?_
                exact r_retB (x := false) (i := 61) rfl rfl rfl rfl
              · refine r_iconst (i := 58) (1 : Int32) kc_iconst_1 rfl rfl ?_
                refine r_goto (i := 59) (tgt := 94) rfl rfl rfl ?_
                exact r_retB (x := true) (i := 61) rfl rfl rfl rfl
