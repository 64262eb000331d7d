-- Vil_leads
def s_Vil_leads (h : fw_H) (v0 : Option Nat) (v1 : Int32) (v2 : Int32) (v3 : Int32) : Option Bool :=
(f_ck h v0 7).bind fun _ =>
(s_Vil_endOf h v0 v1 (0 : Int32)).bind fun x3 =>
if ¬ x3 = v2 then ((f_gI h v0 7 5).bind fun x23 =>
(s_Rows_has x23 v1).bind fun x27 =>
if x27 = true then (some false) else
(s_Vil_endOf h v0 v1 (1 : Int32)).bind fun x36 =>
if ¬ x36 = v2 then (some false) else
(s_Vil_endOf h v0 v1 (0 : Int32)).bind fun x46 =>
if ¬ x46 = v3 then (some false) else
some true) else
(s_Vil_endOf h v0 v1 (1 : Int32)).bind fun x13 =>
if ¬ x13 = v3 then ((f_gI h v0 7 5).bind fun x23 =>
(s_Rows_has x23 v1).bind fun x27 =>
if x27 = true then (some false) else
(s_Vil_endOf h v0 v1 (1 : Int32)).bind fun x36 =>
if ¬ x36 = v2 then (some false) else
(s_Vil_endOf h v0 v1 (0 : Int32)).bind fun x46 =>
if ¬ x46 = v3 then (some false) else
some true) else
some true
theorem c_Vil_leads {G : fw_G} {h : fw_H} {v0 : Option Nat} {v1 : Int32} {v2 : Int32} {v3 : Int32} : fw_Call G m_Vil_leads (fw_eB h) 2 0 0 [fw_r v0, fw_i v1, fw_i v2, fw_i v3] h (s_Vil_leads h v0 v1 v2 v3) := by
  refine fw_Call.of ok_Vil_leads.1 (Nat.le_of_ble_eq_true rfl) [(0, some (fw_r v0)), (1, some (fw_i v1)), (2, some (fw_i v2)), (3, some (fw_i v3))] rfl ?_
  refine r_ck ?_
  refine r_aload_n (i := 0) rfl rfl rfl ?_
  refine r_iload_n (i := 1) rfl rfl rfl ?_
  refine r_iconst (i := 2) (0 : Int32) kc_iconst_0 rfl rfl ?_
  refine r_VI2 (i := 3) (k2 := 0) (n2 := 0) ok_Vil_endOf wM_Vil_79 (c_Vil_endOf) (fun _ e => fw_ckb e) (Nat.le_of_ble_eq_true rfl) (Nat.le_of_ble_eq_true rfl) (Nat.le_of_ble_eq_true rfl) (Nat.le_of_ble_eq_true rfl) rfl rfl fun x3 => ?_
  refine r_iload_n (i := 4) rfl rfl rfl ?_
  refine r_icmp_ne (i := 5) (tgt := 22) rfl rfl rfl ?_ ?_
  · refine r_aload_n (i := 14) rfl rfl rfl ?_
    refine r_gI (i := 15) (ci := 7) (kf := 5) rfl (Nat.le_of_ble_eq_true rfl) wF_Vil_43 rfl rfl fun x23 => ?_
    refine r_iload_n (i := 16) rfl rfl rfl ?_
    refine r_SB2 (i := 17) (k2 := 0) (n2 := 0) ok_Rows_has wM_Vil_94 (c_Rows_has) (Nat.le_of_ble_eq_true rfl) (Nat.le_of_ble_eq_true rfl) (Nat.le_of_ble_eq_true rfl) (Nat.le_of_ble_eq_true rfl) rfl rfl fun x27 => ?_
    refine r_ifneB (i := 18) (tgt := 57) rfl rfl rfl ?_ ?_
    · refine r_iconst (i := 33) (0 : Int32) kc_iconst_0 rfl rfl ?_
      exact r_retB (x := false) (i := 34) rfl rfl rfl rfl
    · refine r_aload_n (i := 19) rfl rfl rfl ?_
      refine r_iload_n (i := 20) rfl rfl rfl ?_
      refine r_iconst (i := 21) (1 : Int32) kc_iconst_1 rfl rfl ?_
      refine r_VI2 (i := 22) (k2 := 0) (n2 := 0) ok_Vil_endOf wM_Vil_79 (c_Vil_endOf) (fun _ e => fw_ckb e) (Nat.le_of_ble_eq_true rfl) (Nat.le_of_ble_eq_true rfl) (Nat.le_of_ble_eq_true rfl) (Nat.le_of_ble_eq_true rfl) rfl rfl fun x36 => ?_
      refine r_iload_n (i := 23) rfl rfl rfl ?_
      refine r_icmp_ne (i := 24) (tgt := 57) rfl rfl rfl ?_ ?_
      · refine r_iconst (i := 33) (0 : Int32) kc_iconst_0 rfl rfl ?_
        exact r_retB (x := false) (i := 34) rfl rfl rfl rfl
      · refine r_aload_n (i := 25) rfl rfl rfl ?_
        refine r_iload_n (i := 26) rfl rfl rfl ?_
        refine r_iconst (i := 27) (0 : Int32) kc_iconst_0 rfl rfl ?_
        refine r_VI2 (i := 28) (k2 := 0) (n2 := 0) ok_Vil_endOf wM_Vil_79 (c_Vil_endOf) (fun _ e => fw_ckb e) (Nat.le_of_ble_eq_true rfl) (Nat.le_of_ble_eq_true rfl) (Nat.le_of_ble_eq_true rfl) (Nat.le_of_ble_eq_true rfl) rfl rfl fun x46 => ?_
        refine r_iload_n (i := 29) rfl rfl rfl ?_
        refine r_icmp_ne (i := 30) (tgt := 57) rfl rfl rfl ?_ ?_
        · refine r_iconst (i := 33) (0 : Int32) kc_iconst_0 rfl rfl ?_
          exact r_retB (x := false) (i := 34) rfl rfl rfl rfl
        · refine r_iconst (i := 31) (1 : Int32) kc_iconst_1 rfl rfl ?_
          refine r_goto (i := 32) (tgt := 58) rfl rfl rfl ?_
          exact r_retB (x := true) (i := 34) rfl rfl rfl rfl
  · refine r_aload_n (i := 6) rfl rfl rfl ?_
    refine r_iload_n (i := 7) rfl rfl rfl ?_
    refine r_iconst (i := 8) (1 : Int32) kc_iconst_1 rfl rfl ?_
    refine r_VI2 (i := 9) (k2 := 0) (n2 := 0) ok_Vil_endOf wM_Vil_79 (c_Vil_endOf) (fun _ e => fw_ckb e) (Nat.le_of_ble_eq_true rfl) (Nat.le_of_ble_eq_true rfl) (Nat.le_of_ble_eq_true rfl) (Nat.le_of_ble_eq_true rfl) rfl rfl fun x13 => ?_
    refine r_iload_n (i := 10) rfl rfl rfl ?_
    refine r_icmp_ne (i := 11) (tgt := 22) rfl rfl rfl ?_ ?_
    · refine r_aload_n (i := 14) rfl rfl rfl ?_
      refine r_gI (i := 15) (ci := 7) (kf := 5) rfl (Nat.le_of_ble_eq_true rfl) wF_Vil_43 rfl rfl fun x23 => ?_
      refine r_iload_n (i := 16) rfl rfl rfl ?_
      refine r_SB2 (i := 17) (k2 := 0) (n2 := 0) ok_Rows_has wM_Vil_94 (c_Rows_has) (Nat.le_of_ble_eq_true rfl) (Nat.le_of_ble_eq_true rfl) (Nat.le_of_ble_eq_true rfl) (Nat.le_of_ble_eq_true rfl) rfl rfl fun x27 => ?_
      refine r_ifneB (i := 18) (tgt := 57) rfl rfl rfl ?_ ?_
      · refine r_iconst (i := 33) (0 : Int32) kc_iconst_0 rfl rfl ?_
        exact r_retB (x := false) (i := 34) rfl rfl rfl rfl
      · refine r_aload_n (i := 19) rfl rfl rfl ?_
        refine r_iload_n (i := 20) rfl rfl rfl ?_
        refine r_iconst (i := 21) (1 : Int32) kc_iconst_1 rfl rfl ?_
        refine r_VI2 (i := 22) (k2 := 0) (n2 := 0) ok_Vil_endOf wM_Vil_79 (c_Vil_endOf) (fun _ e => fw_ckb e) (Nat.le_of_ble_eq_true rfl) (Nat.le_of_ble_eq_true rfl) (Nat.le_of_ble_eq_true rfl) (Nat.le_of_ble_eq_true rfl) rfl rfl fun x36 => ?_
        refine r_iload_n (i := 23) rfl rfl rfl ?_
        refine r_icmp_ne (i := 24) (tgt := 57) rfl rfl rfl ?_ ?_
        · refine r_iconst (i := 33) (0 : Int32) kc_iconst_0 rfl rfl ?_
          exact r_retB (x := false) (i := 34) rfl rfl rfl rfl
        · refine r_aload_n (i := 25) rfl rfl rfl ?_
          refine r_iload_n (i := 26) rfl rfl rfl ?_
          refine r_iconst (i := 27) (0 : Int32) kc_iconst_0 rfl rfl ?_
          refine r_VI2 (i := 28) (k2 := 0) (n2 := 0) ok_Vil_endOf wM_Vil_79 (c_Vil_endOf) (fun _ e => fw_ckb e) (Nat.le_of_ble_eq_true rfl) (Nat.le_of_ble_eq_true rfl) (Nat.le_of_ble_eq_true rfl) (Nat.le_of_ble_eq_true rfl) rfl rfl fun x46 => ?_
          refine r_iload_n (i := 29) rfl rfl rfl ?_
          refine r_icmp_ne (i := 30) (tgt := 57) rfl rfl rfl ?_ ?_
          · refine r_iconst (i := 33) (0 : Int32) kc_iconst_0 rfl rfl ?_
            exact r_retB (x := false) (i := 34) rfl rfl rfl rfl
          · refine r_iconst (i := 31) (1 : Int32) kc_iconst_1 rfl rfl ?_
            refine r_goto (i := 32) (tgt := 58) rfl rfl rfl ?_
            exact r_retB (x := true) (i := 34) rfl rfl rfl rfl
    · refine r_iconst (i := 12) (1 : Int32) kc_iconst_1 rfl rfl ?_
      exact r_retB (x := true) (i := 13) rfl rfl rfl rfl
-- Vil_lowestOpen
def l_Vil_lowestOpen_2 (h : fw_H) (v0 : Option Nat) (v1 : Int32) (v2 : Int32) : Nat → Int32 → Option Int32
  | 0, _ => none
  | nn + 1, a2_3 =>
    (f_gI h v0 7 1).bind fun x4 =>
    if x4 ≤ a2_3 then (some (-1 : Int32)) else
    (f_gI h v0 7 6).bind fun x11 =>
    (s_Rows_has x11 a2_3).bind fun x15 =>
    if x15 = true then (l_Vil_lowestOpen_2 h v0 v1 v2 nn (a2_3 + (1 : Int32))) else
    (s_Vil_leads h v0 a2_3 v1 v2).bind fun x25 =>
    if x25 = true then (some a2_3) else
    l_Vil_lowestOpen_2 h v0 v1 v2 nn (a2_3 + (1 : Int32))
theorem cl_Vil_lowestOpen_2 {G : fw_G} {h : fw_H} {v0 : Option Nat} {v1 : Int32} {v2 : Int32} : ∀ (nn : Nat) (a2_3 : Int32), fw_R G m_Vil_lowestOpen (fw_eI h) 3 0 0 2 [(0, some (fw_r v0)), (1, some (fw_i v1)), (2, some (fw_i v2)), (3, some (fw_i a2_3))] [] h (l_Vil_lowestOpen_2 h v0 v1 v2 nn a2_3) := by
  intro nn
  induction nn with
  | zero => intros; exact r_none
  | succ nn ih =>
    intro a2_3
    rw [l_Vil_lowestOpen_2]
    refine r_iload_n (i := 2) rfl rfl rfl ?_
    refine r_aload_n (i := 3) rfl rfl rfl ?_
    refine r_gI (i := 4) (ci := 7) (kf := 1) rfl (Nat.le_of_ble_eq_true rfl) wF_Vil_34 rfl rfl fun x4 => ?_
    refine r_icmp_ge (i := 5) (tgt := 39) rfl rfl rfl ?_ ?_
    · refine r_iconst (i := 21) (-1 : Int32) kc_iconst_m1 rfl rfl ?_
      exact r_retI (i := 22) rfl rfl rfl rfl
    · refine r_aload_n (i := 6) rfl rfl rfl ?_
      refine r_gI (i := 7) (ci := 7) (kf := 6) rfl (Nat.le_of_ble_eq_true rfl) wF_Vil_46 rfl rfl fun x11 => ?_
      refine r_iload_n (i := 8) rfl rfl rfl ?_
      refine r_SB2 (i := 9) (k2 := 0) (n2 := 0) ok_Rows_has wM_Vil_94 (c_Rows_has) (Nat.le_of_ble_eq_true rfl) (Nat.le_of_ble_eq_true rfl) (Nat.le_of_ble_eq_true rfl) (Nat.le_of_ble_eq_true rfl) rfl rfl fun x15 => ?_
      refine r_ifneB (i := 10) (tgt := 33) rfl rfl rfl ?_ ?_
      · refine r_iinc (i := 19) (1 : Int32) kc_iconst_1 rfl rfl rfl (Nat.le_of_ble_eq_true rfl) ?_
        refine r_goto (i := 20) (tgt := 2) rfl rfl rfl ?_
        exact r_lv (fw_sub1 rfl (fw_sub1 rfl (fw_sub1 rfl (fw_sub1 rfl fw_sub0)))) (ih (a2_3 + (1 : Int32)))
      · refine r_aload_n (i := 11) rfl rfl rfl ?_
        refine r_iload_n (i := 12) rfl rfl rfl ?_
        refine r_iload_n (i := 13) rfl rfl rfl ?_
        refine r_iload_n (i := 14) rfl rfl rfl ?_
        refine r_VB3 (i := 15) (k2 := 0) (n2 := 0) ok_Vil_leads wM_Vil_97 (c_Vil_leads) (fun _ e => fw_ckb e) (Nat.le_of_ble_eq_true rfl) (Nat.le_of_ble_eq_true rfl) (Nat.le_of_ble_eq_true rfl) (Nat.le_of_ble_eq_true rfl) rfl rfl fun x25 => ?_
        refine r_ifeqB (i := 16) (tgt := 33) rfl rfl rfl ?_ ?_
        · refine r_iinc (i := 19) (1 : Int32) kc_iconst_1 rfl rfl rfl (Nat.le_of_ble_eq_true rfl) ?_
          refine r_goto (i := 20) (tgt := 2) rfl rfl rfl ?_
          exact r_lv (fw_sub1 rfl (fw_sub1 rfl (fw_sub1 rfl (fw_sub1 rfl fw_sub0)))) (ih (a2_3 + (1 : Int32)))
        · refine r_iload_n (i := 17) rfl rfl rfl ?_
          exact r_retI (i := 18) rfl rfl rfl rfl
def s_Vil_lowestOpen (F : Nat) (h : fw_H) (v0 : Option Nat) (v1 : Int32) (v2 : Int32) : Option Int32 :=
(f_ck h v0 7).bind fun _ =>
l_Vil_lowestOpen_2 h v0 v1 v2 F (0 : Int32)
theorem c_Vil_lowestOpen {G : fw_G} (F : Nat) {h : fw_H} {v0 : Option Nat} {v1 : Int32} {v2 : Int32} : fw_Call G m_Vil_lowestOpen (fw_eI h) 3 0 0 [fw_r v0, fw_i v1, fw_i v2] h (s_Vil_lowestOpen F h v0 v1 v2) := by
  refine fw_Call.of ok_Vil_lowestOpen.1 (Nat.le_of_ble_eq_true rfl) [(0, some (fw_r v0)), (1, some (fw_i v1)), (2, some (fw_i v2))] rfl ?_
  refine r_ck ?_
  refine r_iconst (i := 0) (0 : Int32) kc_iconst_0 rfl rfl ?_
  refine r_istore_n (i := 1) rfl rfl (Nat.le_of_ble_eq_true rfl) rfl ?_
  refine r_lv (fw_sub1 rfl (fw_sub1 rfl (fw_sub1 rfl (fw_sub1 rfl fw_sub0)))) (cl_Vil_lowestOpen_2 F _)
-- Vil_watchers
def l_Vil_watchers_5 (h : fw_H) (v0 : Option Nat) (v1 : Int32) (v2 : Int32) : Nat → Int32 → Int32 → Option Int32
  | 0, _, _ => none
  | nn + 1, a5_3, a5_4 =>
    (f_gI h v0 7 1).bind fun x8 =>
    if x8 ≤ a5_4 then (some a5_3) else
    (s_Rows_has v2 a5_4).bind fun x17 =>
    if x17 = true then (l_Vil_watchers_5 h v0 v1 v2 nn a5_3 (a5_4 + (1 : Int32))) else
    (s_Vil_endOf h v0 a5_4 (0 : Int32)).bind fun x30 =>
    (s_Vil_endOf h v0 a5_4 (1 : Int32)).bind fun x39 =>
    if ¬ x30 = v1 then (if ¬ x39 = v1 then (l_Vil_watchers_5 h v0 v1 v2 nn a5_3 (a5_4 + (1 : Int32))) else
    (f_gI h v0 7 5).bind fun x67 =>
    (s_Rows_has x67 a5_4).bind fun x72 =>
    if x72 = true then (l_Vil_watchers_5 h v0 v1 v2 nn a5_3 (a5_4 + (1 : Int32))) else
    l_Vil_watchers_5 h v0 v1 v2 nn (a5_3 ||| ((1 : Int32) <<< (x30 &&& 31))) (a5_4 + (1 : Int32))) else
    l_Vil_watchers_5 h v0 v1 v2 nn (a5_3 ||| ((1 : Int32) <<< (x39 &&& 31))) (a5_4 + (1 : Int32))
theorem cl_Vil_watchers_5 {G : fw_G} {h : fw_H} {v0 : Option Nat} {v1 : Int32} {v2 : Int32} : ∀ (nn : Nat) (a5_3 : Int32) (a5_4 : Int32), fw_R G m_Vil_watchers (fw_eI h) 2 0 0 5 [(0, some (fw_r v0)), (1, some (fw_i v1)), (2, some (fw_i v2)), (3, some (fw_i a5_3)), (4, some (fw_i a5_4))] [] h (l_Vil_watchers_5 h v0 v1 v2 nn a5_3 a5_4) := by
  intro nn
  induction nn with
  | zero => intros; exact r_none
  | succ nn ih =>
    intro a5_3 a5_4
    rw [l_Vil_watchers_5]
    refine r_iload (i := 4) rfl rfl rfl ?_
    refine r_aload_n (i := 5) rfl rfl rfl ?_
    refine r_gI (i := 6) (ci := 7) (kf := 1) rfl (Nat.le_of_ble_eq_true rfl) wF_Vil_34 rfl rfl fun x8 => ?_
    refine r_icmp_ge (i := 7) (tgt := 91) rfl rfl rfl ?_ ?_
    · refine r_iload_n (i := 49) rfl rfl rfl ?_
      exact r_retI (i := 50) rfl rfl rfl rfl
    · refine r_iload_n (i := 8) rfl rfl rfl ?_
      refine r_iload (i := 9) rfl rfl rfl ?_
      refine r_SB2 (i := 10) (k2 := 0) (n2 := 0) ok_Rows_has wM_Vil_94 (c_Rows_has) (Nat.le_of_ble_eq_true rfl) (Nat.le_of_ble_eq_true rfl) (Nat.le_of_ble_eq_true rfl) (Nat.le_of_ble_eq_true rfl) rfl rfl fun x17 => ?_
      refine r_ifeqB (i := 11) (tgt := 26) rfl rfl rfl ?_ ?_
      · refine r_aload_n (i := 13) rfl rfl rfl ?_
        refine r_iload (i := 14) rfl rfl rfl ?_
        refine r_iconst (i := 15) (0 : Int32) kc_iconst_0 rfl rfl ?_
        refine r_VI2 (i := 16) (k2 := 0) (n2 := 0) ok_Vil_endOf wM_Vil_79 (c_Vil_endOf) (fun _ e => fw_ckb e) (Nat.le_of_ble_eq_true rfl) (Nat.le_of_ble_eq_true rfl) (Nat.le_of_ble_eq_true rfl) (Nat.le_of_ble_eq_true rfl) rfl rfl fun x30 => ?_
        refine r_istore (i := 17) rfl rfl (Nat.le_of_ble_eq_true rfl) rfl ?_
        refine r_aload_n (i := 18) rfl rfl rfl ?_
        refine r_iload (i := 19) rfl rfl rfl ?_
        refine r_iconst (i := 20) (1 : Int32) kc_iconst_1 rfl rfl ?_
        refine r_VI2 (i := 21) (k2 := 0) (n2 := 0) ok_Vil_endOf wM_Vil_79 (c_Vil_endOf) (fun _ e => fw_ckb e) (Nat.le_of_ble_eq_true rfl) (Nat.le_of_ble_eq_true rfl) (Nat.le_of_ble_eq_true rfl) (Nat.le_of_ble_eq_true rfl) rfl rfl fun x39 => ?_
        refine r_istore (i := 22) rfl rfl (Nat.le_of_ble_eq_true rfl) rfl ?_
        refine r_iload (i := 23) rfl rfl rfl ?_
        refine r_iload_n (i := 24) rfl rfl rfl ?_
        refine r_icmp_ne (i := 25) (tgt := 60) rfl rfl rfl ?_ ?_
        · refine r_iload (i := 33) rfl rfl rfl ?_
          refine r_iload_n (i := 34) rfl rfl rfl ?_
          refine r_icmp_ne (i := 35) (tgt := 85) rfl rfl rfl ?_ ?_
          · refine r_iinc (i := 47) (1 : Int32) kc_iconst_1 rfl rfl rfl (Nat.le_of_ble_eq_true rfl) ?_
            refine r_goto (i := 48) (tgt := 5) rfl rfl rfl ?_
            exact r_lv (fw_sub1 rfl (fw_sub1 rfl (fw_sub1 rfl (fw_sub1 rfl (fw_sub1 rfl fw_sub0))))) (ih a5_3 (a5_4 + (1 : Int32)))
          · refine r_aload_n (i := 36) rfl rfl rfl ?_
            refine r_gI (i := 37) (ci := 7) (kf := 5) rfl (Nat.le_of_ble_eq_true rfl) wF_Vil_43 rfl rfl fun x67 => ?_
            refine r_iload (i := 38) rfl rfl rfl ?_
            refine r_SB2 (i := 39) (k2 := 0) (n2 := 0) ok_Rows_has wM_Vil_94 (c_Rows_has) (Nat.le_of_ble_eq_true rfl) (Nat.le_of_ble_eq_true rfl) (Nat.le_of_ble_eq_true rfl) (Nat.le_of_ble_eq_true rfl) rfl rfl fun x72 => ?_
            refine r_ifneB (i := 40) (tgt := 85) rfl rfl rfl ?_ ?_
            · refine r_iinc (i := 47) (1 : Int32) kc_iconst_1 rfl rfl rfl (Nat.le_of_ble_eq_true rfl) ?_
              refine r_goto (i := 48) (tgt := 5) rfl rfl rfl ?_
              exact r_lv (fw_sub1 rfl (fw_sub1 rfl (fw_sub1 rfl (fw_sub1 rfl (fw_sub1 rfl fw_sub0))))) (ih a5_3 (a5_4 + (1 : Int32)))
            · refine r_iload_n (i := 41) rfl rfl rfl ?_
              refine r_iconst (i := 42) (1 : Int32) kc_iconst_1 rfl rfl ?_
              refine r_iload (i := 43) rfl rfl rfl ?_
              refine r_ishl (i := 44) rfl rfl ?_
              refine r_ior (i := 45) rfl rfl ?_
              refine r_istore_n (i := 46) rfl rfl (Nat.le_of_ble_eq_true rfl) rfl ?_
              refine r_iinc (i := 47) (1 : Int32) kc_iconst_1 rfl rfl rfl (Nat.le_of_ble_eq_true rfl) ?_
              refine r_goto (i := 48) (tgt := 5) rfl rfl rfl ?_
              exact r_lv (fw_sub1 rfl (fw_sub1 rfl (fw_sub1 rfl (fw_sub1 rfl (fw_sub1 rfl fw_sub0))))) (ih (a5_3 ||| ((1 : Int32) <<< (x30 &&& 31))) (a5_4 + (1 : Int32)))
        · refine r_iload_n (i := 26) rfl rfl rfl ?_
          refine r_iconst (i := 27) (1 : Int32) kc_iconst_1 rfl rfl ?_
          refine r_iload (i := 28) rfl rfl rfl ?_
          refine r_ishl (i := 29) rfl rfl ?_
          refine r_ior (i := 30) rfl rfl ?_
          refine r_istore_n (i := 31) rfl rfl (Nat.le_of_ble_eq_true rfl) rfl ?_
          refine r_goto (i := 32) (tgt := 85) rfl rfl rfl ?_
          refine r_iinc (i := 47) (1 : Int32) kc_iconst_1 rfl rfl rfl (Nat.le_of_ble_eq_true rfl) ?_
          refine r_goto (i := 48) (tgt := 5) rfl rfl rfl ?_
          exact r_lv (fw_sub1 rfl (fw_sub1 rfl (fw_sub1 rfl (fw_sub1 rfl (fw_sub1 rfl fw_sub0))))) (ih (a5_3 ||| ((1 : Int32) <<< (x39 &&& 31))) (a5_4 + (1 : Int32)))
      · refine r_goto (i := 12) (tgt := 85) rfl rfl rfl ?_
        refine r_iinc (i := 47) (1 : Int32) kc_iconst_1 rfl rfl rfl (Nat.le_of_ble_eq_true rfl) ?_
        refine r_goto (i := 48) (tgt := 5) rfl rfl rfl ?_
        exact r_lv (fw_sub1 rfl (fw_sub1 rfl (fw_sub1 rfl (fw_sub1 rfl (fw_sub1 rfl fw_sub0))))) (ih a5_3 (a5_4 + (1 : Int32)))
def s_Vil_watchers (F : Nat) (h : fw_H) (v0 : Option Nat) (v1 : Int32) (v2 : Int32) : Option Int32 :=
(f_ck h v0 7).bind fun _ =>
l_Vil_watchers_5 h v0 v1 v2 F (0 : Int32) (0 : Int32)
theorem c_Vil_watchers {G : fw_G} (F : Nat) {h : fw_H} {v0 : Option Nat} {v1 : Int32} {v2 : Int32} : fw_Call G m_Vil_watchers (fw_eI h) 2 0 0 [fw_r v0, fw_i v1, fw_i v2] h (s_Vil_watchers F h v0 v1 v2) := by
  refine fw_Call.of ok_Vil_watchers.1 (Nat.le_of_ble_eq_true rfl) [(0, some (fw_r v0)), (1, some (fw_i v1)), (2, some (fw_i v2))] rfl ?_
  refine r_ck ?_
  refine r_iconst (i := 0) (0 : Int32) kc_iconst_0 rfl rfl ?_
  refine r_istore_n (i := 1) rfl rfl (Nat.le_of_ble_eq_true rfl) rfl ?_
  refine r_iconst (i := 2) (0 : Int32) kc_iconst_0 rfl rfl ?_
  refine r_istore (i := 3) rfl rfl (Nat.le_of_ble_eq_true rfl) rfl ?_
  refine r_lv (fw_sub1 rfl (fw_sub1 rfl (fw_sub1 rfl (fw_sub1 rfl (fw_sub1 rfl fw_sub0))))) (cl_Vil_watchers_5 F _ _)
-- Vil_laughsTogether
def l_Vil_laughsTogether_4 (h : fw_H) (v0 : Option Nat) : Nat → Int32 → Int32 → Option Int32
  | 0, _, _ => none
  | nn + 1, a4_1, a4_2 =>
    (f_gI h v0 7 0).bind fun x6 =>
    if x6 ≤ a4_2 then (some a4_1) else
    (f_gR h v0 7 3).bind fun x14 =>
    (s_Rows_get h x14 a4_2).bind fun x18 =>
    l_Vil_laughsTogether_4 h v0 nn (a4_1 + x18) (a4_2 + (1 : Int32))
theorem cl_Vil_laughsTogether_4 {G : fw_G} {h : fw_H} {v0 : Option Nat} : ∀ (nn : Nat) (a4_1 : Int32) (a4_2 : Int32), fw_R G m_Vil_laughsTogether (fw_eI h) 1 0 0 4 [(0, some (fw_r v0)), (1, some (fw_i a4_1)), (2, some (fw_i a4_2))] [] h (l_Vil_laughsTogether_4 h v0 nn a4_1 a4_2) := by
  intro nn
  induction nn with
  | zero => intros; exact r_none
  | succ nn ih =>
    intro a4_1 a4_2
    rw [l_Vil_laughsTogether_4]
    refine r_iload_n (i := 4) rfl rfl rfl ?_
    refine r_aload_n (i := 5) rfl rfl rfl ?_
    refine r_gI (i := 6) (ci := 7) (kf := 0) rfl (Nat.le_of_ble_eq_true rfl) wF_Vil_31 rfl rfl fun x6 => ?_
    refine r_icmp_ge (i := 7) (tgt := 29) rfl rfl rfl ?_ ?_
    · refine r_iload_n (i := 17) rfl rfl rfl ?_
      exact r_retI (i := 18) rfl rfl rfl rfl
    · refine r_iload_n (i := 8) rfl rfl rfl ?_
      refine r_aload_n (i := 9) rfl rfl rfl ?_
      refine r_gR (i := 10) (ci := 7) (kf := 3) rfl (Nat.le_of_ble_eq_true rfl) wF_Vil_15 rfl rfl fun x14 => ?_
      refine r_iload_n (i := 11) rfl rfl rfl ?_
      refine r_SI2 (i := 12) (k2 := 0) (n2 := 0) ok_Rows_get wM_Vil_71 (c_Rows_get) (Nat.le_of_ble_eq_true rfl) (Nat.le_of_ble_eq_true rfl) (Nat.le_of_ble_eq_true rfl) (Nat.le_of_ble_eq_true rfl) rfl rfl fun x18 => ?_
      refine r_iadd (i := 13) rfl rfl ?_
      refine r_istore_n (i := 14) rfl rfl (Nat.le_of_ble_eq_true rfl) rfl ?_
      refine r_iinc (i := 15) (1 : Int32) kc_iconst_1 rfl rfl rfl (Nat.le_of_ble_eq_true rfl) ?_
      refine r_goto (i := 16) (tgt := 4) rfl rfl rfl ?_
      exact r_lv (fw_sub1 rfl (fw_sub1 rfl (fw_sub1 rfl fw_sub0))) (ih (a4_1 + x18) (a4_2 + (1 : Int32)))
def s_Vil_laughsTogether (F : Nat) (h : fw_H) (v0 : Option Nat) : Option Int32 :=
(f_ck h v0 7).bind fun _ =>
l_Vil_laughsTogether_4 h v0 F (0 : Int32) (0 : Int32)
theorem c_Vil_laughsTogether {G : fw_G} (F : Nat) {h : fw_H} {v0 : Option Nat} : fw_Call G m_Vil_laughsTogether (fw_eI h) 1 0 0 [fw_r v0] h (s_Vil_laughsTogether F h v0) := by
  refine fw_Call.of ok_Vil_laughsTogether.1 (Nat.le_of_ble_eq_true rfl) [(0, some (fw_r v0))] rfl ?_
  refine r_ck ?_
  refine r_iconst (i := 0) (0 : Int32) kc_iconst_0 rfl rfl ?_
  refine r_istore_n (i := 1) rfl rfl (Nat.le_of_ble_eq_true rfl) rfl ?_
  refine r_iconst (i := 2) (0 : Int32) kc_iconst_0 rfl rfl ?_
  refine r_istore_n (i := 3) rfl rfl (Nat.le_of_ble_eq_true rfl) rfl ?_
  refine r_lv (fw_sub1 rfl (fw_sub1 rfl (fw_sub1 rfl fw_sub0))) (cl_Vil_laughsTogether_4 F _ _)
-- Vil_passHour
def s_Vil_passHour (F : Nat) (h : fw_H) (v0 : Option Nat) (v1 : Int32) (v2 : Int32) : Option fw_H :=
(f_ck h v0 7).bind fun _ =>
(f_pI h v0 7 10 v1).bind fun h2 =>
(f_pI h2 v0 7 11 v2).bind fun h7 =>
(s_Vil_laughAll F h7 v0 (1 : Int32)).bind fun h12 =>
(f_gI h12 v0 7 12).bind fun x17 =>
(f_pI h12 v0 7 12 (x17 + (1 : Int32))).bind fun h22 =>
(f_gR h22 v0 7 13).bind fun x26 =>
(f_gI h22 v0 7 14).bind fun x30 =>
(f_irem x30 (100 : Int32)).bind fun x35 =>
(f_gI h22 v0 7 10).bind fun x37 =>
(s_Rows_put h22 x26 x35 x37).bind fun h40 =>
(f_gI h40 v0 7 14).bind fun x45 =>
(f_pI h40 v0 7 14 (x45 + (1 : Int32))).bind fun h50 =>
some h50
theorem c_Vil_passHour {G : fw_G} (F : Nat) {h : fw_H} {v0 : Option Nat} {v1 : Int32} {v2 : Int32} : fw_Call G m_Vil_passHour fw_eV 3 0 0 [fw_r v0, fw_i v1, fw_i v2] h (s_Vil_passHour F h v0 v1 v2) := by
  refine fw_Call.of ok_Vil_passHour.1 (Nat.le_of_ble_eq_true rfl) [(0, some (fw_r v0)), (1, some (fw_i v1)), (2, some (fw_i v2))] rfl ?_
  refine r_ck ?_
  refine r_aload_n (i := 0) rfl rfl rfl ?_
  refine r_iload_n (i := 1) rfl rfl rfl ?_
  refine r_pI (i := 2) (ci := 7) (kf := 10) rfl (Nat.le_of_ble_eq_true rfl) wF_Vil_21 rfl (tyX7_ok 10 (Nat.le_of_ble_eq_true rfl)) rfl rfl fun h2 => ?_
  refine r_aload_n (i := 3) rfl rfl rfl ?_
  refine r_iload_n (i := 4) rfl rfl rfl ?_
  refine r_pI (i := 5) (ci := 7) (kf := 11) rfl (Nat.le_of_ble_eq_true rfl) wF_Vil_25 rfl (tyX7_ok 11 (Nat.le_of_ble_eq_true rfl)) rfl rfl fun h7 => ?_
  refine r_aload_n (i := 6) rfl rfl rfl ?_
  refine r_iconst (i := 7) (1 : Int32) kc_iconst_1 rfl rfl ?_
  refine r_VV1 (i := 8) (k2 := 0) (n2 := 0) ok_Vil_laughAll wM_Vil_105 (c_Vil_laughAll F) (fun _ e => fw_ckb e) (Nat.le_of_ble_eq_true rfl) (Nat.le_of_ble_eq_true rfl) (Nat.le_of_ble_eq_true rfl) (Nat.le_of_ble_eq_true rfl) rfl rfl fun h12 => ?_
  refine r_aload_n (i := 9) rfl rfl rfl ?_
  refine r_dup_r (i := 10) rfl rfl ?_
  refine r_gI (i := 11) (ci := 7) (kf := 12) rfl (Nat.le_of_ble_eq_true rfl) wF_Vil_59 rfl rfl fun x17 => ?_
  refine r_iconst (i := 12) (1 : Int32) kc_iconst_1 rfl rfl ?_
  refine r_iadd (i := 13) rfl rfl ?_
  refine r_pI (i := 14) (ci := 7) (kf := 12) rfl (Nat.le_of_ble_eq_true rfl) wF_Vil_59 rfl (tyX7_ok 12 (Nat.le_of_ble_eq_true rfl)) rfl rfl fun h22 => ?_
  refine r_aload_n (i := 15) rfl rfl rfl ?_
  refine r_gR (i := 16) (ci := 7) (kf := 13) rfl (Nat.le_of_ble_eq_true rfl) wF_Vil_28 rfl rfl fun x26 => ?_
  refine r_aload_n (i := 17) rfl rfl rfl ?_
  refine r_gI (i := 18) (ci := 7) (kf := 14) rfl (Nat.le_of_ble_eq_true rfl) wF_Vil_62 rfl rfl fun x30 => ?_
  refine r_bipush (i := 19) (100 : Int32) kc_bipush_100 rfl rfl ?_
  refine r_iremN (i := 20) rfl rfl fun x35 => ?_
  refine r_aload_n (i := 21) rfl rfl rfl ?_
  refine r_gI (i := 22) (ci := 7) (kf := 10) rfl (Nat.le_of_ble_eq_true rfl) wF_Vil_21 rfl rfl fun x37 => ?_
  refine r_SV3 (i := 23) (k2 := 0) (n2 := 0) ok_Rows_put wM_Vil_75 (c_Rows_put) (Nat.le_of_ble_eq_true rfl) (Nat.le_of_ble_eq_true rfl) (Nat.le_of_ble_eq_true rfl) (Nat.le_of_ble_eq_true rfl) rfl rfl fun h40 => ?_
  refine r_aload_n (i := 24) rfl rfl rfl ?_
  refine r_dup_r (i := 25) rfl rfl ?_
  refine r_gI (i := 26) (ci := 7) (kf := 14) rfl (Nat.le_of_ble_eq_true rfl) wF_Vil_62 rfl rfl fun x45 => ?_
  refine r_iconst (i := 27) (1 : Int32) kc_iconst_1 rfl rfl ?_
  refine r_iadd (i := 28) rfl rfl ?_
  refine r_pI (i := 29) (ci := 7) (kf := 14) rfl (Nat.le_of_ble_eq_true rfl) wF_Vil_62 rfl (tyX7_ok 14 (Nat.le_of_ble_eq_true rfl)) rfl rfl fun h50 => ?_
  exact r_retV (i := 30) rfl rfl rfl rfl
-- Vil_logLength
def s_Vil_logLength (h : fw_H) (v0 : Option Nat) : Option Int32 :=
(f_ck h v0 7).bind fun _ =>
(f_gI h v0 7 14).bind fun x1 =>
some (fw_min x1 (60 : Int32))
theorem c_Vil_logLength {G : fw_G} {h : fw_H} {v0 : Option Nat} : fw_Call G m_Vil_logLength (fw_eI h) 1 0 0 [fw_r v0] h (s_Vil_logLength h v0) := by
  refine fw_Call.of ok_Vil_logLength.1 (Nat.le_of_ble_eq_true rfl) [(0, some (fw_r v0))] rfl ?_
  refine r_ck ?_
  refine r_aload_n (i := 0) rfl rfl rfl ?_
  refine r_gI (i := 1) (ci := 7) (kf := 14) rfl (Nat.le_of_ble_eq_true rfl) wF_Vil_62 rfl rfl fun x1 => ?_
  refine r_bipush (i := 2) (60 : Int32) kc_bipush_60 rfl rfl ?_
  refine r_min (i := 3) (Nat.le_of_ble_eq_true rfl) (Nat.le_of_ble_eq_true rfl) wM_Vil_109 rfl rfl ?_
  exact r_retI (i := 4) rfl rfl rfl rfl
-- Vil_logged
def s_Vil_logged (h : fw_H) (v0 : Option Nat) (v1 : Int32) : Option Int32 :=
(f_ck h v0 7).bind fun _ =>
if v1 < (0 : Int32) then (some (-1 : Int32)) else
(s_Vil_logLength h v0).bind fun x6 =>
if v1 < x6 then ((f_gR h v0 7 13).bind fun x15 =>
(f_gI h v0 7 14).bind fun x19 =>
(f_irem ((x19 - (1 : Int32)) - v1) (100 : Int32)).bind fun x28 =>
(s_Rows_get h x15 x28).bind fun x29 =>
some x29) else
some (-1 : Int32)
theorem c_Vil_logged {G : fw_G} {h : fw_H} {v0 : Option Nat} {v1 : Int32} : fw_Call G m_Vil_logged (fw_eI h) 2 0 0 [fw_r v0, fw_i v1] h (s_Vil_logged h v0 v1) := by
  refine fw_Call.of ok_Vil_logged.1 (Nat.le_of_ble_eq_true rfl) [(0, some (fw_r v0)), (1, some (fw_i v1))] rfl ?_
  refine r_ck ?_
  refine r_iload_n (i := 0) rfl rfl rfl ?_
  refine r_if_lt (i := 1) (tgt := 12) rfl rfl rfl ?_ ?_
  · refine r_iconst (i := 6) (-1 : Int32) kc_iconst_m1 rfl rfl ?_
    exact r_retI (i := 7) rfl rfl rfl rfl
  · refine r_iload_n (i := 2) rfl rfl rfl ?_
    refine r_aload_n (i := 3) rfl rfl rfl ?_
    refine r_VI0 (i := 4) (k2 := 0) (n2 := 0) ok_Vil_logLength wM_Vil_114 (c_Vil_logLength) (fun _ e => fw_ckb e) (Nat.le_of_ble_eq_true rfl) (Nat.le_of_ble_eq_true rfl) (Nat.le_of_ble_eq_true rfl) (Nat.le_of_ble_eq_true rfl) rfl rfl fun x6 => ?_
    refine r_icmp_lt (i := 5) (tgt := 14) rfl rfl rfl ?_ ?_
    · refine r_aload_n (i := 8) rfl rfl rfl ?_
      refine r_gR (i := 9) (ci := 7) (kf := 13) rfl (Nat.le_of_ble_eq_true rfl) wF_Vil_28 rfl rfl fun x15 => ?_
      refine r_aload_n (i := 10) rfl rfl rfl ?_
      refine r_gI (i := 11) (ci := 7) (kf := 14) rfl (Nat.le_of_ble_eq_true rfl) wF_Vil_62 rfl rfl fun x19 => ?_
      refine r_iconst (i := 12) (1 : Int32) kc_iconst_1 rfl rfl ?_
      refine r_isub (i := 13) rfl rfl ?_
      refine r_iload_n (i := 14) rfl rfl rfl ?_
      refine r_isub (i := 15) rfl rfl ?_
      refine r_bipush (i := 16) (100 : Int32) kc_bipush_100 rfl rfl ?_
      refine r_iremN (i := 17) rfl rfl fun x28 => ?_
      refine r_SI2 (i := 18) (k2 := 0) (n2 := 0) ok_Rows_get wM_Vil_71 (c_Rows_get) (Nat.le_of_ble_eq_true rfl) (Nat.le_of_ble_eq_true rfl) (Nat.le_of_ble_eq_true rfl) (Nat.le_of_ble_eq_true rfl) rfl rfl fun x29 => ?_
      exact r_retI (i := 19) rfl rfl rfl rfl
    · refine r_iconst (i := 6) (-1 : Int32) kc_iconst_m1 rfl rfl ?_
      exact r_retI (i := 7) rfl rfl rfl rfl
-- VText_init
def s_VText_init (h : fw_H) (v0 : Option Nat) (v1 : Option Nat) : Option fw_H :=
fw_new h (fw_O 7 [fw_i 0, fw_i 0, fw_r none, fw_r none, fw_r none, fw_i 0, fw_i 0, fw_i 0, fw_i 0, fw_i 0, fw_i 0, fw_i 0, fw_i 0, fw_r none, fw_i 0]) fun q5 h5 =>
(s_Vil_init h5 q5).bind fun h9 =>
(f_pR h9 v0 8 1 q5).bind fun h12 =>
fw_new h12 (fw_I 6 (fun _ => 0)) fun q18 h18 =>
(f_pR h18 v0 8 2 q18).bind fun h20 =>
(f_pR h20 v0 8 0 v1).bind fun h25 =>
some h25
theorem c_VText_init {G : fw_G} {h : fw_H} {v0 : Option Nat} {v1 : Option Nat} (hv0 : v0.isSome = true) : fw_Call G m_VText_init fw_eV 2 6 225 [fw_r v0, fw_r v1] h (s_VText_init h v0 v1) := by
  refine fw_Call.of ok_VText_init.1 (Nat.le_of_ble_eq_true rfl) [(0, some (fw_r v0)), (1, some (fw_r v1))] rfl ?_
  refine r_aload_n (i := 0) rfl rfl rfl ?_
  refine r_obji (i := 1) hv0 (Nat.le_of_ble_eq_true rfl) (Nat.le_of_ble_eq_true rfl) wM_VText_3 wO_1 wO_2 rfl rfl ?_
  refine r_aload_n (i := 2) rfl rfl rfl ?_
  refine r_newON (i := 3) (k2 := 5) (n2 := 210) (ci := 7) rfl dfl_7 (Nat.le_of_ble_eq_true rfl) (Nat.le_of_ble_eq_true rfl) wC_VText_9 wN_Vil wI_Vil rfl rfl fun q5 h5 es5 => ?_
  refine r_dup_r (i := 4) rfl rfl ?_
  refine r_NV0 (i := 5) (k2 := 1) (n2 := 6) ok_Vil_init wM_VText_11 es5 (c_Vil_init es5) (Nat.le_of_ble_eq_true rfl) (Nat.le_of_ble_eq_true rfl) (Nat.le_of_ble_eq_true rfl) (Nat.le_of_ble_eq_true rfl) rfl rfl fun h9 => ?_
  refine r_pRF (i := 6) (ci := 8) (kf := 1) rfl (Nat.le_of_ble_eq_true rfl) wF_VText_12 rfl rfl rfl ⟨_, (tyX8_ok 1 (Nat.le_of_ble_eq_true rfl)), Or.inl ⟨_, rfl⟩⟩ rfl rfl fun h12 => ?_
  refine r_aload_n (i := 7) rfl rfl rfl ?_
  refine r_bipush (i := 8) (6 : Int32) kc_bipush_6 rfl rfl ?_
  refine r_newIN (i := 9) (k2 := 0) (n2 := 0) (N := 6) (by decide) (by decide) (Nat.le_of_ble_eq_true rfl) (Nat.le_of_ble_eq_true rfl) (Nat.le_of_ble_eq_true rfl) wA_int rfl rfl fun q18 h18 => ?_
  refine r_pRF (i := 10) (ci := 8) (kf := 2) rfl (Nat.le_of_ble_eq_true rfl) wF_VText_18 rfl rfl rfl ⟨_, (tyX8_ok 2 (Nat.le_of_ble_eq_true rfl)), Or.inr ⟨_, rfl⟩⟩ rfl rfl fun h20 => ?_
  refine r_aload_n (i := 11) rfl rfl rfl ?_
  refine r_aload_n (i := 12) rfl rfl rfl ?_
  refine r_pRF (i := 13) (ci := 8) (kf := 0) rfl (Nat.le_of_ble_eq_true rfl) wF_VText_22 rfl rfl rfl ⟨_, (tyX8_ok 0 (Nat.le_of_ble_eq_true rfl)), Or.inl ⟨_, rfl⟩⟩ rfl rfl fun h25 => ?_
  exact r_retV (i := 14) rfl rfl rfl rfl
-- VText_items
def l_VText_items_21 (F : Nat) (v0 : Option Nat) (v1 : Option Nat) (v2 : Option Nat) (K74 : fw_H → Option fw_H) : Nat → Int32 → Int32 → fw_H → Option fw_H
  | 0, _, _, _ => none
  | nn + 1, a21_4, a21_5, g21 =>
    (s_Jdk_length g21 v1).bind fun x24 =>
    if x24 < a21_5 then (some g21) else
    (f_gR g21 v0 8 0).bind fun x31 =>
    (s_Tape_peek F g21 x31).bind fun x34 =>
    fw_jn (fun (t56_0 : Int32) =>
    if (0 : Int32) ≤ t56_0 then ((s_Rows_has a21_4 t56_0).bind fun x68 =>
    if x68 = true then (K74 x34.2) else
    (f_gR x34.2 v0 8 0).bind fun x92 =>
    (s_Tape_skip x34.2 x92).bind fun h95 =>
    (f_gR h95 v0 8 2).bind fun x99 =>
    (f_gR h95 v0 8 0).bind fun x105 =>
    (s_Rows_get h95 v2 t56_0).bind fun x112 =>
    (s_Tape_number F h95 x105 (2 : Int32) x112).bind fun x115 =>
    (s_Rows_put x115.2 x99 t56_0 x115.1).bind fun h118 =>
    l_VText_items_21 F v0 v1 v2 K74 nn (a21_4 ||| ((1 : Int32) <<< (t56_0 &&& 31))) (a21_5 + (1 : Int32)) h118) else
    some x34.2) fun J56 =>
    if ¬ x34.1 = (-1 : Int32) then ((s_Jdk_indexOf1 F x34.2 v1 (fw_i2c x34.1)).bind fun x53 =>
    J56 x53) else
    J56 (-1 : Int32)
theorem cl_VText_items_21 {G : fw_G} {F : Nat} {v0 : Option Nat} {v1 : Option Nat} {v2 : Option Nat} {K74 : fw_H → Option fw_H} (hK74 : ∀ (he74 : fw_H), fw_R G m_VText_items fw_eV 4 0 0 74 [(0, some (fw_r v0))] [] he74 (K74 he74)) : ∀ (nn : Nat) (a21_4 : Int32) (a21_5 : Int32) (g21 : fw_H), fw_R G m_VText_items fw_eV 4 0 0 21 [(0, some (fw_r v0)), (1, some (fw_r v1)), (2, some (fw_r v2)), (4, some (fw_i a21_4)), (5, some (fw_i a21_5))] [] g21 (l_VText_items_21 F v0 v1 v2 K74 nn a21_4 a21_5 g21) := by
  intro nn
  induction nn with
  | zero => intros; exact r_none
  | succ nn ih =>
    intro a21_4 a21_5 g21
    rw [l_VText_items_21]
    refine r_iload (i := 11) rfl rfl rfl ?_
    refine r_aload_n (i := 12) rfl rfl rfl ?_
    refine r_TI0 (i := 13) (k2 := 0) (n2 := 0) ok_Jdk_length wM_VText_116 (c_Jdk_length) (fun _ e => fw_ckbS e) (Nat.le_of_ble_eq_true rfl) (Nat.le_of_ble_eq_true rfl) (Nat.le_of_ble_eq_true rfl) (Nat.le_of_ble_eq_true rfl) rfl rfl fun x24 => ?_
    refine r_icmp_gt (i := 14) (tgt := 127) rfl rfl rfl ?_ ?_
    · exact r_retV (i := 62) rfl rfl rfl rfl
    · refine r_aload_n (i := 15) rfl rfl rfl ?_
      refine r_gR (i := 16) (ci := 8) (kf := 0) rfl (Nat.le_of_ble_eq_true rfl) wF_VText_22 rfl rfl fun x31 => ?_
      refine r_VwI0 (i := 17) (k2 := 0) (n2 := 0) ok_Tape_peek wM_VText_41 (c_Tape_peek F) (fun _ e => fw_ckb e) (Nat.le_of_ble_eq_true rfl) (Nat.le_of_ble_eq_true rfl) (Nat.le_of_ble_eq_true rfl) (Nat.le_of_ble_eq_true rfl) rfl rfl fun x34 => ?_
      refine r_istore (i := 18) rfl rfl (Nat.le_of_ble_eq_true rfl) rfl ?_
      refine r_iload (i := 19) rfl rfl rfl ?_
      refine r_iconst (i := 20) (-1 : Int32) kc_iconst_m1 rfl rfl ?_
      refine r_join (P := fun J56 => ∀ (t56_0 : Int32), fw_R G m_VText_items fw_eV 4 (0) (0) 56 [(0, some (fw_r v0)), (1, some (fw_r v1)), (2, some (fw_r v2)), (4, some (fw_i a21_4)), (5, some (fw_i a21_5))] [fw_i t56_0] x34.2 (J56 t56_0)) ?_ (fun J56 hJ56 => ?_)
      · intro t56_0
        refine r_istore (i := 28) rfl rfl (Nat.le_of_ble_eq_true rfl) rfl ?_
        refine r_iload (i := 29) rfl rfl rfl ?_
        refine r_if_ge (i := 30) (tgt := 64) rfl rfl rfl ?_ ?_
        · refine r_iload (i := 32) rfl rfl rfl ?_
          refine r_iload (i := 33) rfl rfl rfl ?_
          refine r_SB2 (i := 34) (k2 := 0) (n2 := 0) ok_Rows_has wM_VText_125 (c_Rows_has) (Nat.le_of_ble_eq_true rfl) (Nat.le_of_ble_eq_true rfl) (Nat.le_of_ble_eq_true rfl) (Nat.le_of_ble_eq_true rfl) rfl rfl fun x68 => ?_
          refine r_ifeqB (i := 35) (tgt := 82) rfl rfl rfl ?_ ?_
          · refine r_iload (i := 40) rfl rfl rfl ?_
            refine r_iconst (i := 41) (1 : Int32) kc_iconst_1 rfl rfl ?_
            refine r_iload (i := 42) rfl rfl rfl ?_
            refine r_ishl (i := 43) rfl rfl ?_
            refine r_ior (i := 44) rfl rfl ?_
            refine r_istore (i := 45) rfl rfl (Nat.le_of_ble_eq_true rfl) rfl ?_
            refine r_aload_n (i := 46) rfl rfl rfl ?_
            refine r_gR (i := 47) (ci := 8) (kf := 0) rfl (Nat.le_of_ble_eq_true rfl) wF_VText_22 rfl rfl fun x92 => ?_
            refine r_VV0 (i := 48) (k2 := 0) (n2 := 0) ok_Tape_skip wM_VText_107 (c_Tape_skip) (fun _ e => fw_ckb e) (Nat.le_of_ble_eq_true rfl) (Nat.le_of_ble_eq_true rfl) (Nat.le_of_ble_eq_true rfl) (Nat.le_of_ble_eq_true rfl) rfl rfl fun h95 => ?_
            refine r_aload_n (i := 49) rfl rfl rfl ?_
            refine r_gR (i := 50) (ci := 8) (kf := 2) rfl (Nat.le_of_ble_eq_true rfl) wF_VText_18 rfl rfl fun x99 => ?_
            refine r_iload (i := 51) rfl rfl rfl ?_
            refine r_aload_n (i := 52) rfl rfl rfl ?_
            refine r_gR (i := 53) (ci := 8) (kf := 0) rfl (Nat.le_of_ble_eq_true rfl) wF_VText_22 rfl rfl fun x105 => ?_
            refine r_iconst (i := 54) (2 : Int32) kc_iconst_2 rfl rfl ?_
            refine r_aload_n (i := 55) rfl rfl rfl ?_
            refine r_iload (i := 56) rfl rfl rfl ?_
            refine r_SI2 (i := 57) (k2 := 0) (n2 := 0) ok_Rows_get wM_VText_129 (c_Rows_get) (Nat.le_of_ble_eq_true rfl) (Nat.le_of_ble_eq_true rfl) (Nat.le_of_ble_eq_true rfl) (Nat.le_of_ble_eq_true rfl) rfl rfl fun x112 => ?_
            refine r_VwI2 (i := 58) (k2 := 0) (n2 := 0) ok_Tape_number wM_VText_133 (c_Tape_number F) (fun _ e => fw_ckb e) (Nat.le_of_ble_eq_true rfl) (Nat.le_of_ble_eq_true rfl) (Nat.le_of_ble_eq_true rfl) (Nat.le_of_ble_eq_true rfl) rfl rfl fun x115 => ?_
            refine r_SV3 (i := 59) (k2 := 0) (n2 := 0) ok_Rows_put wM_VText_137 (c_Rows_put) (Nat.le_of_ble_eq_true rfl) (Nat.le_of_ble_eq_true rfl) (Nat.le_of_ble_eq_true rfl) (Nat.le_of_ble_eq_true rfl) rfl rfl fun h118 => ?_
            refine r_iinc (i := 60) (1 : Int32) kc_iconst_1 rfl rfl rfl (Nat.le_of_ble_eq_true rfl) ?_
            refine r_goto (i := 61) (tgt := 21) rfl rfl rfl ?_
            exact r_lv (fw_sub1 rfl (fw_sub1 rfl (fw_sub1 rfl (fw_sub1 rfl (fw_sub1 rfl fw_sub0))))) (ih (a21_4 ||| ((1 : Int32) <<< (t56_0 &&& 31))) (a21_5 + (1 : Int32)) h118)
          · exact r_lv (fw_sub1 rfl fw_sub0) (hK74 x34.2)
        · exact r_retV (i := 31) rfl rfl rfl rfl
      · refine r_icmp_ne (i := 21) (tgt := 49) rfl rfl rfl ?_ ?_
        · refine r_aload_n (i := 24) rfl rfl rfl ?_
          refine r_iload (i := 25) rfl rfl rfl ?_
          refine r_i2c (i := 26) rfl rfl ?_
          refine r_TI1 (i := 27) (k2 := 0) (n2 := 0) ok_Jdk_indexOf1 wM_VText_121 (c_Jdk_indexOf1 F) (fun _ e => fw_ckbS e) (Nat.le_of_ble_eq_true rfl) (Nat.le_of_ble_eq_true rfl) (Nat.le_of_ble_eq_true rfl) (Nat.le_of_ble_eq_true rfl) rfl rfl fun x53 => ?_
          exact r_lv (fw_sub1 rfl (fw_sub1 rfl (fw_sub1 rfl (fw_sub1 rfl (fw_sub1 rfl fw_sub0))))) (hJ56 x53)
        · refine r_iconst (i := 22) (-1 : Int32) kc_iconst_m1 rfl rfl ?_
          refine r_goto (i := 23) (tgt := 56) rfl rfl rfl ?_
          exact r_lv (fw_sub1 rfl (fw_sub1 rfl (fw_sub1 rfl (fw_sub1 rfl (fw_sub1 rfl fw_sub0))))) (hJ56 (-1 : Int32))
def s_VText_items (F : Nat) (h : fw_H) (v0 : Option Nat) (v1 : Option Nat) (v2 : Option Nat) (v3 : Option Nat) : Option fw_H :=
(f_ck h v0 8).bind fun _ =>
(f_gR h v0 8 0).bind fun x1 =>
(s_Tape_skip h x1).bind fun h4 =>
(f_gR h4 v0 8 2).bind fun x9 =>
(s_Rows_copy F h4 v3 x9).bind fun h12 =>
l_VText_items_21 F v0 v1 v2 (fun he74 =>
(f_gR he74 v0 8 0).bind fun x75 =>
(s_Tape_fail he74 x75).bind fun h78 =>
some h78) F (0 : Int32) (0 : Int32) h12
theorem c_VText_items {G : fw_G} (F : Nat) {h : fw_H} {v0 : Option Nat} {v1 : Option Nat} {v2 : Option Nat} {v3 : Option Nat} : fw_Call G m_VText_items fw_eV 4 0 0 [fw_r v0, fw_r v1, fw_r v2, fw_r v3] h (s_VText_items F h v0 v1 v2 v3) := by
  refine fw_Call.of ok_VText_items.1 (Nat.le_of_ble_eq_true rfl) [(0, some (fw_r v0)), (1, some (fw_r v1)), (2, some (fw_r v2)), (3, some (fw_r v3))] rfl ?_
  refine r_ck ?_
  refine r_aload_n (i := 0) rfl rfl rfl ?_
  refine r_gR (i := 1) (ci := 8) (kf := 0) rfl (Nat.le_of_ble_eq_true rfl) wF_VText_22 rfl rfl fun x1 => ?_
  refine r_VV0 (i := 2) (k2 := 0) (n2 := 0) ok_Tape_skip wM_VText_107 (c_Tape_skip) (fun _ e => fw_ckb e) (Nat.le_of_ble_eq_true rfl) (Nat.le_of_ble_eq_true rfl) (Nat.le_of_ble_eq_true rfl) (Nat.le_of_ble_eq_true rfl) rfl rfl fun h4 => ?_
  refine r_aload_n (i := 3) rfl rfl rfl ?_
  refine r_aload_n (i := 4) rfl rfl rfl ?_
  refine r_gR (i := 5) (ci := 8) (kf := 2) rfl (Nat.le_of_ble_eq_true rfl) wF_VText_18 rfl rfl fun x9 => ?_
  refine r_SV2 (i := 6) (k2 := 0) (n2 := 0) ok_Rows_copy wM_VText_110 (c_Rows_copy F) (Nat.le_of_ble_eq_true rfl) (Nat.le_of_ble_eq_true rfl) (Nat.le_of_ble_eq_true rfl) (Nat.le_of_ble_eq_true rfl) rfl rfl fun h12 => ?_
  refine r_iconst (i := 7) (0 : Int32) kc_iconst_0 rfl rfl ?_
  refine r_istore (i := 8) rfl rfl (Nat.le_of_ble_eq_true rfl) rfl ?_
  refine r_iconst (i := 9) (0 : Int32) kc_iconst_0 rfl rfl ?_
  refine r_istore (i := 10) rfl rfl (Nat.le_of_ble_eq_true rfl) rfl ?_
  refine r_lv (fw_sub1 rfl (fw_sub1 rfl (fw_sub1 rfl (fw_sub1 rfl (fw_sub1 rfl fw_sub0))))) (cl_VText_items_21 ?_ F _ _ _)
  · intro he74
    refine r_aload_n (i := 36) rfl rfl rfl ?_
    refine r_gR (i := 37) (ci := 8) (kf := 0) rfl (Nat.le_of_ble_eq_true rfl) wF_VText_22 rfl rfl fun x75 => ?_
    refine r_VV0 (i := 38) (k2 := 0) (n2 := 0) ok_Tape_fail wM_VText_104 (c_Tape_fail) (fun _ e => fw_ckb e) (Nat.le_of_ble_eq_true rfl) (Nat.le_of_ble_eq_true rfl) (Nat.le_of_ble_eq_true rfl) (Nat.le_of_ble_eq_true rfl) rfl rfl fun h78 => ?_
    exact r_retV (i := 39) rfl rfl rfl rfl
-- VText_clause
def s_VText_clause (F : Nat) (h : fw_H) (v0 : Option Nat) : Option fw_H :=
(f_ck h v0 8).bind fun _ =>
(f_gR h v0 8 0).bind fun x1 =>
(s_Tape_peek F h x1).bind fun x4 =>
if ¬ x4.1 = (118 : Int32) then (if ¬ x4.1 = (100 : Int32) then (if ¬ x4.1 = (119 : Int32) then ((f_gR x4.2 v0 8 0).bind fun x141 =>
(s_Tape_fail x4.2 x141).bind fun h144 =>
some h144) else
(f_gR x4.2 v0 8 1).bind fun x103 =>
(f_gI x4.2 x103 7 1).bind fun x106 =>
if (16 : Int32) ≤ x106 then ((f_gR x4.2 v0 8 0).bind fun x141 =>
(s_Tape_fail x4.2 x141).bind fun h144 =>
some h144) else
(s_VText_items F x4.2 v0 (some 9) (some 3) (some 6)).bind fun h123 =>
(f_gR h123 v0 8 1).bind fun x127 =>
(f_gR h123 v0 8 2).bind fun x131 =>
(s_Vil_addWindow h123 x127 x131).bind fun h134 =>
some h134) else
(f_gR x4.2 v0 8 1).bind fun x59 =>
(f_gI x4.2 x59 7 0).bind fun x62 =>
if (12 : Int32) ≤ x62 then (if ¬ x4.1 = (119 : Int32) then ((f_gR x4.2 v0 8 0).bind fun x141 =>
(s_Tape_fail x4.2 x141).bind fun h144 =>
some h144) else
(f_gR x4.2 v0 8 1).bind fun x103 =>
(f_gI x4.2 x103 7 1).bind fun x106 =>
if (16 : Int32) ≤ x106 then ((f_gR x4.2 v0 8 0).bind fun x141 =>
(s_Tape_fail x4.2 x141).bind fun h144 =>
some h144) else
(s_VText_items F x4.2 v0 (some 9) (some 3) (some 6)).bind fun h123 =>
(f_gR h123 v0 8 1).bind fun x127 =>
(f_gR h123 v0 8 2).bind fun x131 =>
(s_Vil_addWindow h123 x127 x131).bind fun h134 =>
some h134) else
(s_VText_items F x4.2 v0 (some 8) (some 2) (some 5)).bind fun h79 =>
(f_gR h79 v0 8 1).bind fun x83 =>
(f_gR h79 v0 8 2).bind fun x87 =>
(s_Vil_addHouse F h79 x83 x87).bind fun h90 =>
some h90) else
(f_gB x4.2 v0 8 3).bind fun x15 =>
if x15 = true then (if ¬ x4.1 = (100 : Int32) then (if ¬ x4.1 = (119 : Int32) then ((f_gR x4.2 v0 8 0).bind fun x141 =>
(s_Tape_fail x4.2 x141).bind fun h144 =>
some h144) else
(f_gR x4.2 v0 8 1).bind fun x103 =>
(f_gI x4.2 x103 7 1).bind fun x106 =>
if (16 : Int32) ≤ x106 then ((f_gR x4.2 v0 8 0).bind fun x141 =>
(s_Tape_fail x4.2 x141).bind fun h144 =>
some h144) else
(s_VText_items F x4.2 v0 (some 9) (some 3) (some 6)).bind fun h123 =>
(f_gR h123 v0 8 1).bind fun x127 =>
(f_gR h123 v0 8 2).bind fun x131 =>
(s_Vil_addWindow h123 x127 x131).bind fun h134 =>
some h134) else
(f_gR x4.2 v0 8 1).bind fun x59 =>
(f_gI x4.2 x59 7 0).bind fun x62 =>
if (12 : Int32) ≤ x62 then (if ¬ x4.1 = (119 : Int32) then ((f_gR x4.2 v0 8 0).bind fun x141 =>
(s_Tape_fail x4.2 x141).bind fun h144 =>
some h144) else
(f_gR x4.2 v0 8 1).bind fun x103 =>
(f_gI x4.2 x103 7 1).bind fun x106 =>
if (16 : Int32) ≤ x106 then ((f_gR x4.2 v0 8 0).bind fun x141 =>
(s_Tape_fail x4.2 x141).bind fun h144 =>
some h144) else
(s_VText_items F x4.2 v0 (some 9) (some 3) (some 6)).bind fun h123 =>
(f_gR h123 v0 8 1).bind fun x127 =>
(f_gR h123 v0 8 2).bind fun x131 =>
(s_Vil_addWindow h123 x127 x131).bind fun h134 =>
some h134) else
(s_VText_items F x4.2 v0 (some 8) (some 2) (some 5)).bind fun h79 =>
(f_gR h79 v0 8 1).bind fun x83 =>
(f_gR h79 v0 8 2).bind fun x87 =>
(s_Vil_addHouse F h79 x83 x87).bind fun h90 =>
some h90) else
(f_pB x4.2 v0 8 3 true).bind fun h23 =>
(s_VText_items F h23 v0 (some 7) (some 1) (some 4)).bind fun h35 =>
(f_gR h35 v0 8 1).bind fun x39 =>
(f_gR h35 v0 8 2).bind fun x43 =>
(s_Vil_begin h35 x39 x43).bind fun h46 =>
some h46
theorem c_VText_clause {G : fw_G} (F : Nat) {h : fw_H} {v0 : Option Nat} : fw_Call G m_VText_clause fw_eV 5 0 0 [fw_r v0] h (s_VText_clause F h v0) := by
  refine fw_Call.of ok_VText_clause.1 (Nat.le_of_ble_eq_true rfl) [(0, some (fw_r v0))] rfl ?_
  refine r_ck ?_
  refine r_aload_n (i := 0) rfl rfl rfl ?_
  refine r_gR (i := 1) (ci := 8) (kf := 0) rfl (Nat.le_of_ble_eq_true rfl) wF_VText_22 rfl rfl fun x1 => ?_
  refine r_VwI0 (i := 2) (k2 := 0) (n2 := 0) ok_Tape_peek wM_VText_41 (c_Tape_peek F) (fun _ e => fw_ckb e) (Nat.le_of_ble_eq_true rfl) (Nat.le_of_ble_eq_true rfl) (Nat.le_of_ble_eq_true rfl) (Nat.le_of_ble_eq_true rfl) rfl rfl fun x4 => ?_
  refine r_istore_n (i := 3) rfl rfl (Nat.le_of_ble_eq_true rfl) rfl ?_
  refine r_iload_n (i := 4) rfl rfl rfl ?_
  refine r_bipush (i := 5) (118 : Int32) kc_bipush_118 rfl rfl ?_
  refine r_icmp_ne (i := 6) (tgt := 52) rfl rfl rfl ?_ ?_
  · refine r_iload_n (i := 24) rfl rfl rfl ?_
    refine r_bipush (i := 25) (100 : Int32) kc_bipush_100 rfl rfl ?_
    refine r_icmp_ne (i := 26) (tgt := 96) rfl rfl rfl ?_ ?_
    · refine r_iload_n (i := 43) rfl rfl rfl ?_
      refine r_bipush (i := 44) (119 : Int32) kc_bipush_119 rfl rfl ?_
      refine r_icmp_ne (i := 45) (tgt := 140) rfl rfl rfl ?_ ?_
      · refine r_aload_n (i := 62) rfl rfl rfl ?_
        refine r_gR (i := 63) (ci := 8) (kf := 0) rfl (Nat.le_of_ble_eq_true rfl) wF_VText_22 rfl rfl fun x141 => ?_
        refine r_VV0 (i := 64) (k2 := 0) (n2 := 0) ok_Tape_fail wM_VText_104 (c_Tape_fail) (fun _ e => fw_ckb e) (Nat.le_of_ble_eq_true rfl) (Nat.le_of_ble_eq_true rfl) (Nat.le_of_ble_eq_true rfl) (Nat.le_of_ble_eq_true rfl) rfl rfl fun h144 => ?_
        exact r_retV (i := 65) rfl rfl rfl rfl
      · refine r_aload_n (i := 46) rfl rfl rfl ?_
        refine r_gR (i := 47) (ci := 8) (kf := 1) rfl (Nat.le_of_ble_eq_true rfl) wF_VText_12 rfl rfl fun x103 => ?_
        refine r_gI (i := 48) (ci := 7) (kf := 1) rfl (Nat.le_of_ble_eq_true rfl) wF_VText_90 rfl rfl fun x106 => ?_
        refine r_bipush (i := 49) (16 : Int32) kc_bipush_16 rfl rfl ?_
        refine r_icmp_ge (i := 50) (tgt := 140) rfl rfl rfl ?_ ?_
        · refine r_aload_n (i := 62) rfl rfl rfl ?_
          refine r_gR (i := 63) (ci := 8) (kf := 0) rfl (Nat.le_of_ble_eq_true rfl) wF_VText_22 rfl rfl fun x141 => ?_
          refine r_VV0 (i := 64) (k2 := 0) (n2 := 0) ok_Tape_fail wM_VText_104 (c_Tape_fail) (fun _ e => fw_ckb e) (Nat.le_of_ble_eq_true rfl) (Nat.le_of_ble_eq_true rfl) (Nat.le_of_ble_eq_true rfl) (Nat.le_of_ble_eq_true rfl) rfl rfl fun h144 => ?_
          exact r_retV (i := 65) rfl rfl rfl rfl
        · refine r_aload_n (i := 51) rfl rfl rfl ?_
          refine r_ldcS (i := 52) (j := 2) (Nat.le_of_ble_eq_true rfl) rfl rfl rfl ?_
          refine r_gets (i := 53) (j := 2) (Nat.le_of_ble_eq_true rfl) wF_VText_95 rfl rfl ?_
          refine r_gets (i := 54) (j := 5) (Nat.le_of_ble_eq_true rfl) wF_VText_98 rfl rfl ?_
          refine r_VV3 (i := 55) (k2 := 0) (n2 := 0) ok_VText_items wM_VText_67 (c_VText_items F) (fun _ e => fw_ckb e) (Nat.le_of_ble_eq_true rfl) (Nat.le_of_ble_eq_true rfl) (Nat.le_of_ble_eq_true rfl) (Nat.le_of_ble_eq_true rfl) rfl rfl fun h123 => ?_
          refine r_aload_n (i := 56) rfl rfl rfl ?_
          refine r_gR (i := 57) (ci := 8) (kf := 1) rfl (Nat.le_of_ble_eq_true rfl) wF_VText_12 rfl rfl fun x127 => ?_
          refine r_aload_n (i := 58) rfl rfl rfl ?_
          refine r_gR (i := 59) (ci := 8) (kf := 2) rfl (Nat.le_of_ble_eq_true rfl) wF_VText_18 rfl rfl fun x131 => ?_
          refine r_VV1 (i := 60) (k2 := 0) (n2 := 0) ok_Vil_addWindow wM_VText_101 (c_Vil_addWindow) (fun _ e => fw_ckb e) (Nat.le_of_ble_eq_true rfl) (Nat.le_of_ble_eq_true rfl) (Nat.le_of_ble_eq_true rfl) (Nat.le_of_ble_eq_true rfl) rfl rfl fun h134 => ?_
          refine r_goto (i := 61) (tgt := 147) rfl rfl rfl ?_
          exact r_retV (i := 65) rfl rfl rfl rfl
    · refine r_aload_n (i := 27) rfl rfl rfl ?_
      refine r_gR (i := 28) (ci := 8) (kf := 1) rfl (Nat.le_of_ble_eq_true rfl) wF_VText_12 rfl rfl fun x59 => ?_
      refine r_gI (i := 29) (ci := 7) (kf := 0) rfl (Nat.le_of_ble_eq_true rfl) wF_VText_75 rfl rfl fun x62 => ?_
      refine r_bipush (i := 30) (12 : Int32) kc_bipush_12 rfl rfl ?_
      refine r_icmp_ge (i := 31) (tgt := 96) rfl rfl rfl ?_ ?_
      · refine r_iload_n (i := 43) rfl rfl rfl ?_
        refine r_bipush (i := 44) (119 : Int32) kc_bipush_119 rfl rfl ?_
        refine r_icmp_ne (i := 45) (tgt := 140) rfl rfl rfl ?_ ?_
        · refine r_aload_n (i := 62) rfl rfl rfl ?_
          refine r_gR (i := 63) (ci := 8) (kf := 0) rfl (Nat.le_of_ble_eq_true rfl) wF_VText_22 rfl rfl fun x141 => ?_
          refine r_VV0 (i := 64) (k2 := 0) (n2 := 0) ok_Tape_fail wM_VText_104 (c_Tape_fail) (fun _ e => fw_ckb e) (Nat.le_of_ble_eq_true rfl) (Nat.le_of_ble_eq_true rfl) (Nat.le_of_ble_eq_true rfl) (Nat.le_of_ble_eq_true rfl) rfl rfl fun h144 => ?_
          exact r_retV (i := 65) rfl rfl rfl rfl
        · refine r_aload_n (i := 46) rfl rfl rfl ?_
          refine r_gR (i := 47) (ci := 8) (kf := 1) rfl (Nat.le_of_ble_eq_true rfl) wF_VText_12 rfl rfl fun x103 => ?_
          refine r_gI (i := 48) (ci := 7) (kf := 1) rfl (Nat.le_of_ble_eq_true rfl) wF_VText_90 rfl rfl fun x106 => ?_
          refine r_bipush (i := 49) (16 : Int32) kc_bipush_16 rfl rfl ?_
          refine r_icmp_ge (i := 50) (tgt := 140) rfl rfl rfl ?_ ?_
          · refine r_aload_n (i := 62) rfl rfl rfl ?_
            refine r_gR (i := 63) (ci := 8) (kf := 0) rfl (Nat.le_of_ble_eq_true rfl) wF_VText_22 rfl rfl fun x141 => ?_
            refine r_VV0 (i := 64) (k2 := 0) (n2 := 0) ok_Tape_fail wM_VText_104 (c_Tape_fail) (fun _ e => fw_ckb e) (Nat.le_of_ble_eq_true rfl) (Nat.le_of_ble_eq_true rfl) (Nat.le_of_ble_eq_true rfl) (Nat.le_of_ble_eq_true rfl) rfl rfl fun h144 => ?_
            exact r_retV (i := 65) rfl rfl rfl rfl
          · refine r_aload_n (i := 51) rfl rfl rfl ?_
            refine r_ldcS (i := 52) (j := 2) (Nat.le_of_ble_eq_true rfl) rfl rfl rfl ?_
            refine r_gets (i := 53) (j := 2) (Nat.le_of_ble_eq_true rfl) wF_VText_95 rfl rfl ?_
            refine r_gets (i := 54) (j := 5) (Nat.le_of_ble_eq_true rfl) wF_VText_98 rfl rfl ?_
            refine r_VV3 (i := 55) (k2 := 0) (n2 := 0) ok_VText_items wM_VText_67 (c_VText_items F) (fun _ e => fw_ckb e) (Nat.le_of_ble_eq_true rfl) (Nat.le_of_ble_eq_true rfl) (Nat.le_of_ble_eq_true rfl) (Nat.le_of_ble_eq_true rfl) rfl rfl fun h123 => ?_
            refine r_aload_n (i := 56) rfl rfl rfl ?_
            refine r_gR (i := 57) (ci := 8) (kf := 1) rfl (Nat.le_of_ble_eq_true rfl) wF_VText_12 rfl rfl fun x127 => ?_
            refine r_aload_n (i := 58) rfl rfl rfl ?_
            refine r_gR (i := 59) (ci := 8) (kf := 2) rfl (Nat.le_of_ble_eq_true rfl) wF_VText_18 rfl rfl fun x131 => ?_
            refine r_VV1 (i := 60) (k2 := 0) (n2 := 0) ok_Vil_addWindow wM_VText_101 (c_Vil_addWindow) (fun _ e => fw_ckb e) (Nat.le_of_ble_eq_true rfl) (Nat.le_of_ble_eq_true rfl) (Nat.le_of_ble_eq_true rfl) (Nat.le_of_ble_eq_true rfl) rfl rfl fun h134 => ?_
            refine r_goto (i := 61) (tgt := 147) rfl rfl rfl ?_
            exact r_retV (i := 65) rfl rfl rfl rfl
      · refine r_aload_n (i := 32) rfl rfl rfl ?_
        refine r_ldcS (i := 33) (j := 1) (Nat.le_of_ble_eq_true rfl) rfl rfl rfl ?_
        refine r_gets (i := 34) (j := 1) (Nat.le_of_ble_eq_true rfl) wF_VText_81 rfl rfl ?_
        refine r_gets (i := 35) (j := 4) (Nat.le_of_ble_eq_true rfl) wF_VText_84 rfl rfl ?_
        refine r_VV3 (i := 36) (k2 := 0) (n2 := 0) ok_VText_items wM_VText_67 (c_VText_items F) (fun _ e => fw_ckb e) (Nat.le_of_ble_eq_true rfl) (Nat.le_of_ble_eq_true rfl) (Nat.le_of_ble_eq_true rfl) (Nat.le_of_ble_eq_true rfl) rfl rfl fun h79 => ?_
        refine r_aload_n (i := 37) rfl rfl rfl ?_
        refine r_gR (i := 38) (ci := 8) (kf := 1) rfl (Nat.le_of_ble_eq_true rfl) wF_VText_12 rfl rfl fun x83 => ?_
        refine r_aload_n (i := 39) rfl rfl rfl ?_
        refine r_gR (i := 40) (ci := 8) (kf := 2) rfl (Nat.le_of_ble_eq_true rfl) wF_VText_18 rfl rfl fun x87 => ?_
        refine r_VV1 (i := 41) (k2 := 0) (n2 := 0) ok_Vil_addHouse wM_VText_87 (c_Vil_addHouse F) (fun _ e => fw_ckb e) (Nat.le_of_ble_eq_true rfl) (Nat.le_of_ble_eq_true rfl) (Nat.le_of_ble_eq_true rfl) (Nat.le_of_ble_eq_true rfl) rfl rfl fun h90 => ?_
        refine r_goto (i := 42) (tgt := 147) rfl rfl rfl ?_
        exact r_retV (i := 65) rfl rfl rfl rfl
  · refine r_aload_n (i := 7) rfl rfl rfl ?_
    refine r_gB (i := 8) (ci := 8) (kf := 3) rfl (Nat.le_of_ble_eq_true rfl) wF_VText_34 rfl rfl fun x15 => ?_
    refine r_ifneB (i := 9) (tgt := 52) rfl rfl rfl ?_ ?_
    · refine r_iload_n (i := 24) rfl rfl rfl ?_
      refine r_bipush (i := 25) (100 : Int32) kc_bipush_100 rfl rfl ?_
      refine r_icmp_ne (i := 26) (tgt := 96) rfl rfl rfl ?_ ?_
      · refine r_iload_n (i := 43) rfl rfl rfl ?_
        refine r_bipush (i := 44) (119 : Int32) kc_bipush_119 rfl rfl ?_
        refine r_icmp_ne (i := 45) (tgt := 140) rfl rfl rfl ?_ ?_
        · refine r_aload_n (i := 62) rfl rfl rfl ?_
          refine r_gR (i := 63) (ci := 8) (kf := 0) rfl (Nat.le_of_ble_eq_true rfl) wF_VText_22 rfl rfl fun x141 => ?_
          refine r_VV0 (i := 64) (k2 := 0) (n2 := 0) ok_Tape_fail wM_VText_104 (c_Tape_fail) (fun _ e => fw_ckb e) (Nat.le_of_ble_eq_true rfl) (Nat.le_of_ble_eq_true rfl) (Nat.le_of_ble_eq_true rfl) (Nat.le_of_ble_eq_true rfl) rfl rfl fun h144 => ?_
          exact r_retV (i := 65) rfl rfl rfl rfl
        · refine r_aload_n (i := 46) rfl rfl rfl ?_
          refine r_gR (i := 47) (ci := 8) (kf := 1) rfl (Nat.le_of_ble_eq_true rfl) wF_VText_12 rfl rfl fun x103 => ?_
          refine r_gI (i := 48) (ci := 7) (kf := 1) rfl (Nat.le_of_ble_eq_true rfl) wF_VText_90 rfl rfl fun x106 => ?_
          refine r_bipush (i := 49) (16 : Int32) kc_bipush_16 rfl rfl ?_
          refine r_icmp_ge (i := 50) (tgt := 140) rfl rfl rfl ?_ ?_
          · refine r_aload_n (i := 62) rfl rfl rfl ?_
            refine r_gR (i := 63) (ci := 8) (kf := 0) rfl (Nat.le_of_ble_eq_true rfl) wF_VText_22 rfl rfl fun x141 => ?_
            refine r_VV0 (i := 64) (k2 := 0) (n2 := 0) ok_Tape_fail wM_VText_104 (c_Tape_fail) (fun _ e => fw_ckb e) (Nat.le_of_ble_eq_true rfl) (Nat.le_of_ble_eq_true rfl) (Nat.le_of_ble_eq_true rfl) (Nat.le_of_ble_eq_true rfl) rfl rfl fun h144 => ?_
            exact r_retV (i := 65) rfl rfl rfl rfl
          · refine r_aload_n (i := 51) rfl rfl rfl ?_
            refine r_ldcS (i := 52) (j := 2) (Nat.le_of_ble_eq_true rfl) rfl rfl rfl ?_
            refine r_gets (i := 53) (j := 2) (Nat.le_of_ble_eq_true rfl) wF_VText_95 rfl rfl ?_
            refine r_gets (i := 54) (j := 5) (Nat.le_of_ble_eq_true rfl) wF_VText_98 rfl rfl ?_
            refine r_VV3 (i := 55) (k2 := 0) (n2 := 0) ok_VText_items wM_VText_67 (c_VText_items F) (fun _ e => fw_ckb e) (Nat.le_of_ble_eq_true rfl) (Nat.le_of_ble_eq_true rfl) (Nat.le_of_ble_eq_true rfl) (Nat.le_of_ble_eq_true rfl) rfl rfl fun h123 => ?_
            refine r_aload_n (i := 56) rfl rfl rfl ?_
            refine r_gR (i := 57) (ci := 8) (kf := 1) rfl (Nat.le_of_ble_eq_true rfl) wF_VText_12 rfl rfl fun x127 => ?_
            refine r_aload_n (i := 58) rfl rfl rfl ?_
            refine r_gR (i := 59) (ci := 8) (kf := 2) rfl (Nat.le_of_ble_eq_true rfl) wF_VText_18 rfl rfl fun x131 => ?_
            refine r_VV1 (i := 60) (k2 := 0) (n2 := 0) ok_Vil_addWindow wM_VText_101 (c_Vil_addWindow) (fun _ e => fw_ckb e) (Nat.le_of_ble_eq_true rfl) (Nat.le_of_ble_eq_true rfl) (Nat.le_of_ble_eq_true rfl) (Nat.le_of_ble_eq_true rfl) rfl rfl fun h134 => ?_
            refine r_goto (i := 61) (tgt := 147) rfl rfl rfl ?_
            exact r_retV (i := 65) rfl rfl rfl rfl
      · refine r_aload_n (i := 27) rfl rfl rfl ?_
        refine r_gR (i := 28) (ci := 8) (kf := 1) rfl (Nat.le_of_ble_eq_true rfl) wF_VText_12 rfl rfl fun x59 => ?_
        refine r_gI (i := 29) (ci := 7) (kf := 0) rfl (Nat.le_of_ble_eq_true rfl) wF_VText_75 rfl rfl fun x62 => ?_
        refine r_bipush (i := 30) (12 : Int32) kc_bipush_12 rfl rfl ?_
        refine r_icmp_ge (i := 31) (tgt := 96) rfl rfl rfl ?_ ?_
        · refine r_iload_n (i := 43) rfl rfl rfl ?_
          refine r_bipush (i := 44) (119 : Int32) kc_bipush_119 rfl rfl ?_
          refine r_icmp_ne (i := 45) (tgt := 140) rfl rfl rfl ?_ ?_
          · refine r_aload_n (i := 62) rfl rfl rfl ?_
            refine r_gR (i := 63) (ci := 8) (kf := 0) rfl (Nat.le_of_ble_eq_true rfl) wF_VText_22 rfl rfl fun x141 => ?_
            refine r_VV0 (i := 64) (k2 := 0) (n2 := 0) ok_Tape_fail wM_VText_104 (c_Tape_fail) (fun _ e => fw_ckb e) (Nat.le_of_ble_eq_true rfl) (Nat.le_of_ble_eq_true rfl) (Nat.le_of_ble_eq_true rfl) (Nat.le_of_ble_eq_true rfl) rfl rfl fun h144 => ?_
            exact r_retV (i := 65) rfl rfl rfl rfl
          · refine r_aload_n (i := 46) rfl rfl rfl ?_
            refine r_gR (i := 47) (ci := 8) (kf := 1) rfl (Nat.le_of_ble_eq_true rfl) wF_VText_12 rfl rfl fun x103 => ?_
            refine r_gI (i := 48) (ci := 7) (kf := 1) rfl (Nat.le_of_ble_eq_true rfl) wF_VText_90 rfl rfl fun x106 => ?_
            refine r_bipush (i := 49) (16 : Int32) kc_bipush_16 rfl rfl ?_
            refine r_icmp_ge (i := 50) (tgt := 140) rfl rfl rfl ?_ ?_
            · refine r_aload_n (i := 62) rfl rfl rfl ?_
              refine r_gR (i := 63) (ci := 8) (kf := 0) rfl (Nat.le_of_ble_eq_true rfl) wF_VText_22 rfl rfl fun x141 => ?_
              refine r_VV0 (i := 64) (k2 := 0) (n2 := 0) ok_Tape_fail wM_VText_104 (c_Tape_fail) (fun _ e => fw_ckb e) (Nat.le_of_ble_eq_true rfl) (Nat.le_of_ble_eq_true rfl) (Nat.le_of_ble_eq_true rfl) (Nat.le_of_ble_eq_true rfl) rfl rfl fun h144 => ?_
              exact r_retV (i := 65) rfl rfl rfl rfl
            · refine r_aload_n (i := 51) rfl rfl rfl ?_
              refine r_ldcS (i := 52) (j := 2) (Nat.le_of_ble_eq_true rfl) rfl rfl rfl ?_
              refine r_gets (i := 53) (j := 2) (Nat.le_of_ble_eq_true rfl) wF_VText_95 rfl rfl ?_
              refine r_gets (i := 54) (j := 5) (Nat.le_of_ble_eq_true rfl) wF_VText_98 rfl rfl ?_
              refine r_VV3 (i := 55) (k2 := 0) (n2 := 0) ok_VText_items wM_VText_67 (c_VText_items F) (fun _ e => fw_ckb e) (Nat.le_of_ble_eq_true rfl) (Nat.le_of_ble_eq_true rfl) (Nat.le_of_ble_eq_true rfl) (Nat.le_of_ble_eq_true rfl) rfl rfl fun h123 => ?_
              refine r_aload_n (i := 56) rfl rfl rfl ?_
              refine r_gR (i := 57) (ci := 8) (kf := 1) rfl (Nat.le_of_ble_eq_true rfl) wF_VText_12 rfl rfl fun x127 => ?_
              refine r_aload_n (i := 58) rfl rfl rfl ?_
              refine r_gR (i := 59) (ci := 8) (kf := 2) rfl (Nat.le_of_ble_eq_true rfl) wF_VText_18 rfl rfl fun x131 => ?_
              refine r_VV1 (i := 60) (k2 := 0) (n2 := 0) ok_Vil_addWindow wM_VText_101 (c_Vil_addWindow) (fun _ e => fw_ckb e) (Nat.le_of_ble_eq_true rfl) (Nat.le_of_ble_eq_true rfl) (Nat.le_of_ble_eq_true rfl) (Nat.le_of_ble_eq_true rfl) rfl rfl fun h134 => ?_
              refine r_goto (i := 61) (tgt := 147) rfl rfl rfl ?_
              exact r_retV (i := 65) rfl rfl rfl rfl
        · refine r_aload_n (i := 32) rfl rfl rfl ?_
          refine r_ldcS (i := 33) (j := 1) (Nat.le_of_ble_eq_true rfl) rfl rfl rfl ?_
          refine r_gets (i := 34) (j := 1) (Nat.le_of_ble_eq_true rfl) wF_VText_81 rfl rfl ?_
          refine r_gets (i := 35) (j := 4) (Nat.le_of_ble_eq_true rfl) wF_VText_84 rfl rfl ?_
          refine r_VV3 (i := 36) (k2 := 0) (n2 := 0) ok_VText_items wM_VText_67 (c_VText_items F) (fun _ e => fw_ckb e) (Nat.le_of_ble_eq_true rfl) (Nat.le_of_ble_eq_true rfl) (Nat.le_of_ble_eq_true rfl) (Nat.le_of_ble_eq_true rfl) rfl rfl fun h79 => ?_
          refine r_aload_n (i := 37) rfl rfl rfl ?_
          refine r_gR (i := 38) (ci := 8) (kf := 1) rfl (Nat.le_of_ble_eq_true rfl) wF_VText_12 rfl rfl fun x83 => ?_
          refine r_aload_n (i := 39) rfl rfl rfl ?_
          refine r_gR (i := 40) (ci := 8) (kf := 2) rfl (Nat.le_of_ble_eq_true rfl) wF_VText_18 rfl rfl fun x87 => ?_
          refine r_VV1 (i := 41) (k2 := 0) (n2 := 0) ok_Vil_addHouse wM_VText_87 (c_Vil_addHouse F) (fun _ e => fw_ckb e) (Nat.le_of_ble_eq_true rfl) (Nat.le_of_ble_eq_true rfl) (Nat.le_of_ble_eq_true rfl) (Nat.le_of_ble_eq_true rfl) rfl rfl fun h90 => ?_
          refine r_goto (i := 42) (tgt := 147) rfl rfl rfl ?_
          exact r_retV (i := 65) rfl rfl rfl rfl
    · refine r_aload_n (i := 10) rfl rfl rfl ?_
      refine r_iconst (i := 11) (1 : Int32) kc_iconst_1 rfl rfl ?_
      refine r_pB (y := true) (i := 12) (ci := 8) (kf := 3) rfl (Nat.le_of_ble_eq_true rfl) wF_VText_34 rfl (tyX8_ok 3 (Nat.le_of_ble_eq_true rfl)) rfl rfl fun h23 => ?_
      refine r_aload_n (i := 13) rfl rfl rfl ?_
      refine r_ldcS (i := 14) (j := 0) (Nat.le_of_ble_eq_true rfl) rfl rfl rfl ?_
      refine r_gets (i := 15) (j := 0) (Nat.le_of_ble_eq_true rfl) wF_VText_61 rfl rfl ?_
      refine r_gets (i := 16) (j := 3) (Nat.le_of_ble_eq_true rfl) wF_VText_64 rfl rfl ?_
      refine r_VV3 (i := 17) (k2 := 0) (n2 := 0) ok_VText_items wM_VText_67 (c_VText_items F) (fun _ e => fw_ckb e) (Nat.le_of_ble_eq_true rfl) (Nat.le_of_ble_eq_true rfl) (Nat.le_of_ble_eq_true rfl) (Nat.le_of_ble_eq_true rfl) rfl rfl fun h35 => ?_
      refine r_aload_n (i := 18) rfl rfl rfl ?_
      refine r_gR (i := 19) (ci := 8) (kf := 1) rfl (Nat.le_of_ble_eq_true rfl) wF_VText_12 rfl rfl fun x39 => ?_
      refine r_aload_n (i := 20) rfl rfl rfl ?_
      refine r_gR (i := 21) (ci := 8) (kf := 2) rfl (Nat.le_of_ble_eq_true rfl) wF_VText_18 rfl rfl fun x43 => ?_
      refine r_VV1 (i := 22) (k2 := 0) (n2 := 0) ok_Vil_begin wM_VText_71 (c_Vil_begin) (fun _ e => fw_ckb e) (Nat.le_of_ble_eq_true rfl) (Nat.le_of_ble_eq_true rfl) (Nat.le_of_ble_eq_true rfl) (Nat.le_of_ble_eq_true rfl) rfl rfl fun h46 => ?_
      refine r_goto (i := 23) (tgt := 147) rfl rfl rfl ?_
      exact r_retV (i := 65) rfl rfl rfl rfl
-- VText_read
def l_VText_read_21 (F : Nat) (v0 : Option Nat) (K61 : fw_H → Option (Int32 × fw_H)) (K43 : fw_H → Option (Int32 × fw_H)) : Nat → Int32 → fw_H → Option (Int32 × fw_H)
  | 0, _, _ => none
  | nn + 1, a21_1, g21 =>
    if (240 : Int32) ≤ a21_1 then (K61 g21) else
    (s_VText_clause F g21 v0).bind fun h29 =>
    (f_gR h29 v0 8 0).bind fun x33 =>
    (s_Tape_peek F h29 x33).bind fun x36 =>
    if ¬ x36.1 = (-1 : Int32) then ((f_gR x36.2 v0 8 0).bind fun x47 =>
    (s_Tape_expect F x36.2 x47 (59 : Int32)).bind fun h52 =>
    l_VText_read_21 F v0 K61 K43 nn (a21_1 + (1 : Int32)) h52) else
    K43 x36.2
theorem cl_VText_read_21 {G : fw_G} {F : Nat} {v0 : Option Nat} {K61 : fw_H → Option (Int32 × fw_H)} {K43 : fw_H → Option (Int32 × fw_H)} (hK61 : ∀ (he61 : fw_H), fw_R G m_VText_read fw_wI 6 0 0 61 [(0, some (fw_r v0))] [] he61 (K61 he61)) (hK43 : ∀ (he43 : fw_H), fw_R G m_VText_read fw_wI 6 0 0 43 [(0, some (fw_r v0))] [] he43 (K43 he43)) : ∀ (nn : Nat) (a21_1 : Int32) (g21 : fw_H), fw_R G m_VText_read fw_wI 6 0 0 21 [(0, some (fw_r v0)), (1, some (fw_i a21_1))] [] g21 (l_VText_read_21 F v0 K61 K43 nn a21_1 g21) := by
  intro nn
  induction nn with
  | zero => intros; exact r_none
  | succ nn ih =>
    intro a21_1 g21
    rw [l_VText_read_21]
    refine r_iload_n (i := 11) rfl rfl rfl ?_
    refine r_sipush (i := 12) (240 : Int32) kc_sipush_240 rfl rfl ?_
    refine r_icmp_ge (i := 13) (tgt := 61) rfl rfl rfl ?_ ?_
    · exact r_lv (fw_sub1 rfl fw_sub0) (hK61 g21)
    · refine r_aload_n (i := 14) rfl rfl rfl ?_
      refine r_VV0 (i := 15) (k2 := 0) (n2 := 0) ok_VText_clause wM_VText_38 (c_VText_clause F) (fun _ e => fw_ckb e) (Nat.le_of_ble_eq_true rfl) (Nat.le_of_ble_eq_true rfl) (Nat.le_of_ble_eq_true rfl) (Nat.le_of_ble_eq_true rfl) rfl rfl fun h29 => ?_
      refine r_aload_n (i := 16) rfl rfl rfl ?_
      refine r_gR (i := 17) (ci := 8) (kf := 0) rfl (Nat.le_of_ble_eq_true rfl) wF_VText_22 rfl rfl fun x33 => ?_
      refine r_VwI0 (i := 18) (k2 := 0) (n2 := 0) ok_Tape_peek wM_VText_41 (c_Tape_peek F) (fun _ e => fw_ckb e) (Nat.le_of_ble_eq_true rfl) (Nat.le_of_ble_eq_true rfl) (Nat.le_of_ble_eq_true rfl) (Nat.le_of_ble_eq_true rfl) rfl rfl fun x36 => ?_
      refine r_iconst (i := 19) (-1 : Int32) kc_iconst_m1 rfl rfl ?_
      refine r_icmp_ne (i := 20) (tgt := 46) rfl rfl rfl ?_ ?_
      · refine r_aload_n (i := 22) rfl rfl rfl ?_
        refine r_gR (i := 23) (ci := 8) (kf := 0) rfl (Nat.le_of_ble_eq_true rfl) wF_VText_22 rfl rfl fun x47 => ?_
        refine r_bipush (i := 24) (59 : Int32) kc_bipush_59 rfl rfl ?_
        refine r_VV1 (i := 25) (k2 := 0) (n2 := 0) ok_Tape_expect wM_VText_45 (c_Tape_expect F) (fun _ e => fw_ckb e) (Nat.le_of_ble_eq_true rfl) (Nat.le_of_ble_eq_true rfl) (Nat.le_of_ble_eq_true rfl) (Nat.le_of_ble_eq_true rfl) rfl rfl fun h52 => ?_
        refine r_iinc (i := 26) (1 : Int32) kc_iconst_1 rfl rfl rfl (Nat.le_of_ble_eq_true rfl) ?_
        refine r_goto (i := 27) (tgt := 21) rfl rfl rfl ?_
        exact r_lv (fw_sub1 rfl (fw_sub1 rfl fw_sub0)) (ih (a21_1 + (1 : Int32)) h52)
      · exact r_lv (fw_sub1 rfl fw_sub0) (hK43 x36.2)
def s_VText_read (F : Nat) (h : fw_H) (v0 : Option Nat) : Option (Int32 × fw_H) :=
(f_ck h v0 8).bind fun _ =>
(f_gR h v0 8 0).bind fun x1 =>
(s_Tape_rewind h x1).bind fun h4 =>
(f_gR h4 v0 8 1).bind fun x8 =>
(s_Vil_clear F h4 x8).bind fun h11 =>
(f_pB h11 v0 8 3 false).bind fun h16 =>
l_VText_read_21 F v0 (fun he61 =>
(f_gR he61 v0 8 1).bind fun x62 =>
(s_Vil_holdsTogether F he61 x62).bind fun x65 =>
if x65 = true then ((f_gR he61 v0 8 0).bind fun x79 =>
(s_Tape_faultFound he61 x79).bind fun x82 =>
some (x82, he61)) else
(f_gR he61 v0 8 0).bind fun x72 =>
(s_Tape_failAtEnd he61 x72).bind fun h75 =>
(f_gR h75 v0 8 0).bind fun x79 =>
(s_Tape_faultFound h75 x79).bind fun x82 =>
some (x82, h75)) (fun he43 =>
(f_gR he43 v0 8 1).bind fun x62 =>
(s_Vil_holdsTogether F he43 x62).bind fun x65 =>
if x65 = true then ((f_gR he43 v0 8 0).bind fun x79 =>
(s_Tape_faultFound he43 x79).bind fun x82 =>
some (x82, he43)) else
(f_gR he43 v0 8 0).bind fun x72 =>
(s_Tape_failAtEnd he43 x72).bind fun h75 =>
(f_gR h75 v0 8 0).bind fun x79 =>
(s_Tape_faultFound h75 x79).bind fun x82 =>
some (x82, h75)) F (0 : Int32) h16
theorem c_VText_read {G : fw_G} (F : Nat) {h : fw_H} {v0 : Option Nat} : fw_Call G m_VText_read fw_wI 6 0 0 [fw_r v0] h (s_VText_read F h v0) := by
  refine fw_Call.of ok_VText_read.1 (Nat.le_of_ble_eq_true rfl) [(0, some (fw_r v0))] rfl ?_
  refine r_ck ?_
  refine r_aload_n (i := 0) rfl rfl rfl ?_
  refine r_gR (i := 1) (ci := 8) (kf := 0) rfl (Nat.le_of_ble_eq_true rfl) wF_VText_22 rfl rfl fun x1 => ?_
  refine r_VV0 (i := 2) (k2 := 0) (n2 := 0) ok_Tape_rewind wM_VText_26 (c_Tape_rewind) (fun _ e => fw_ckb e) (Nat.le_of_ble_eq_true rfl) (Nat.le_of_ble_eq_true rfl) (Nat.le_of_ble_eq_true rfl) (Nat.le_of_ble_eq_true rfl) rfl rfl fun h4 => ?_
  refine r_aload_n (i := 3) rfl rfl rfl ?_
  refine r_gR (i := 4) (ci := 8) (kf := 1) rfl (Nat.le_of_ble_eq_true rfl) wF_VText_12 rfl rfl fun x8 => ?_
  refine r_VV0 (i := 5) (k2 := 0) (n2 := 0) ok_Vil_clear wM_VText_31 (c_Vil_clear F) (fun _ e => fw_ckb e) (Nat.le_of_ble_eq_true rfl) (Nat.le_of_ble_eq_true rfl) (Nat.le_of_ble_eq_true rfl) (Nat.le_of_ble_eq_true rfl) rfl rfl fun h11 => ?_
  refine r_aload_n (i := 6) rfl rfl rfl ?_
  refine r_iconst (i := 7) (0 : Int32) kc_iconst_0 rfl rfl ?_
  refine r_pB (y := false) (i := 8) (ci := 8) (kf := 3) rfl (Nat.le_of_ble_eq_true rfl) wF_VText_34 rfl (tyX8_ok 3 (Nat.le_of_ble_eq_true rfl)) rfl rfl fun h16 => ?_
  refine r_iconst (i := 9) (0 : Int32) kc_iconst_0 rfl rfl ?_
  refine r_istore_n (i := 10) rfl rfl (Nat.le_of_ble_eq_true rfl) rfl ?_
  refine r_lv (fw_sub1 rfl (fw_sub1 rfl fw_sub0)) (cl_VText_read_21 ?_ ?_ F _ _)
  · intro he61
    refine r_aload_n (i := 28) rfl rfl rfl ?_
    refine r_gR (i := 29) (ci := 8) (kf := 1) rfl (Nat.le_of_ble_eq_true rfl) wF_VText_12 rfl rfl fun x62 => ?_
    refine r_VB0 (i := 30) (k2 := 0) (n2 := 0) ok_Vil_holdsTogether wM_VText_49 (c_Vil_holdsTogether F) (fun _ e => fw_ckb e) (Nat.le_of_ble_eq_true rfl) (Nat.le_of_ble_eq_true rfl) (Nat.le_of_ble_eq_true rfl) (Nat.le_of_ble_eq_true rfl) rfl rfl fun x65 => ?_
    refine r_ifneB (i := 31) (tgt := 78) rfl rfl rfl ?_ ?_
    · refine r_aload_n (i := 35) rfl rfl rfl ?_
      refine r_gR (i := 36) (ci := 8) (kf := 0) rfl (Nat.le_of_ble_eq_true rfl) wF_VText_22 rfl rfl fun x79 => ?_
      refine r_VI0 (i := 37) (k2 := 0) (n2 := 0) ok_Tape_faultFound wM_VText_56 (c_Tape_faultFound) (fun _ e => fw_ckb e) (Nat.le_of_ble_eq_true rfl) (Nat.le_of_ble_eq_true rfl) (Nat.le_of_ble_eq_true rfl) (Nat.le_of_ble_eq_true rfl) rfl rfl fun x82 => ?_
      exact r_retI (i := 38) rfl rfl rfl rfl
    · refine r_aload_n (i := 32) rfl rfl rfl ?_
      refine r_gR (i := 33) (ci := 8) (kf := 0) rfl (Nat.le_of_ble_eq_true rfl) wF_VText_22 rfl rfl fun x72 => ?_
      refine r_VV0 (i := 34) (k2 := 0) (n2 := 0) ok_Tape_failAtEnd wM_VText_53 (c_Tape_failAtEnd) (fun _ e => fw_ckb e) (Nat.le_of_ble_eq_true rfl) (Nat.le_of_ble_eq_true rfl) (Nat.le_of_ble_eq_true rfl) (Nat.le_of_ble_eq_true rfl) rfl rfl fun h75 => ?_
      refine r_aload_n (i := 35) rfl rfl rfl ?_
      refine r_gR (i := 36) (ci := 8) (kf := 0) rfl (Nat.le_of_ble_eq_true rfl) wF_VText_22 rfl rfl fun x79 => ?_
      refine r_VI0 (i := 37) (k2 := 0) (n2 := 0) ok_Tape_faultFound wM_VText_56 (c_Tape_faultFound) (fun _ e => fw_ckb e) (Nat.le_of_ble_eq_true rfl) (Nat.le_of_ble_eq_true rfl) (Nat.le_of_ble_eq_true rfl) (Nat.le_of_ble_eq_true rfl) rfl rfl fun x82 => ?_
      exact r_retI (i := 38) rfl rfl rfl rfl
  · intro he43
    refine r_goto (i := 21) (tgt := 61) rfl rfl rfl ?_
    refine r_aload_n (i := 28) rfl rfl rfl ?_
    refine r_gR (i := 29) (ci := 8) (kf := 1) rfl (Nat.le_of_ble_eq_true rfl) wF_VText_12 rfl rfl fun x62 => ?_
    refine r_VB0 (i := 30) (k2 := 0) (n2 := 0) ok_Vil_holdsTogether wM_VText_49 (c_Vil_holdsTogether F) (fun _ e => fw_ckb e) (Nat.le_of_ble_eq_true rfl) (Nat.le_of_ble_eq_true rfl) (Nat.le_of_ble_eq_true rfl) (Nat.le_of_ble_eq_true rfl) rfl rfl fun x65 => ?_
    refine r_ifneB (i := 31) (tgt := 78) rfl rfl rfl ?_ ?_
    · refine r_aload_n (i := 35) rfl rfl rfl ?_
      refine r_gR (i := 36) (ci := 8) (kf := 0) rfl (Nat.le_of_ble_eq_true rfl) wF_VText_22 rfl rfl fun x79 => ?_
      refine r_VI0 (i := 37) (k2 := 0) (n2 := 0) ok_Tape_faultFound wM_VText_56 (c_Tape_faultFound) (fun _ e => fw_ckb e) (Nat.le_of_ble_eq_true rfl) (Nat.le_of_ble_eq_true rfl) (Nat.le_of_ble_eq_true rfl) (Nat.le_of_ble_eq_true rfl) rfl rfl fun x82 => ?_
      exact r_retI (i := 38) rfl rfl rfl rfl
    · refine r_aload_n (i := 32) rfl rfl rfl ?_
      refine r_gR (i := 33) (ci := 8) (kf := 0) rfl (Nat.le_of_ble_eq_true rfl) wF_VText_22 rfl rfl fun x72 => ?_
      refine r_VV0 (i := 34) (k2 := 0) (n2 := 0) ok_Tape_failAtEnd wM_VText_53 (c_Tape_failAtEnd) (fun _ e => fw_ckb e) (Nat.le_of_ble_eq_true rfl) (Nat.le_of_ble_eq_true rfl) (Nat.le_of_ble_eq_true rfl) (Nat.le_of_ble_eq_true rfl) rfl rfl fun h75 => ?_
      refine r_aload_n (i := 35) rfl rfl rfl ?_
      refine r_gR (i := 36) (ci := 8) (kf := 0) rfl (Nat.le_of_ble_eq_true rfl) wF_VText_22 rfl rfl fun x79 => ?_
      refine r_VI0 (i := 37) (k2 := 0) (n2 := 0) ok_Tape_faultFound wM_VText_56 (c_Tape_faultFound) (fun _ e => fw_ckb e) (Nat.le_of_ble_eq_true rfl) (Nat.le_of_ble_eq_true rfl) (Nat.le_of_ble_eq_true rfl) (Nat.le_of_ble_eq_true rfl) rfl rfl fun x82 => ?_
      exact r_retI (i := 38) rfl rfl rfl rfl
-- Walk_init
def s_Walk_init (h : fw_H) (v0 : Option Nat) : Option fw_H :=
fw_new h (fw_O 7 [fw_i 0, fw_i 0, fw_r none, fw_r none, fw_r none, fw_i 0, fw_i 0, fw_i 0, fw_i 0, fw_i 0, fw_i 0, fw_i 0, fw_i 0, fw_r none, fw_i 0]) fun q5 h5 =>
(s_Vil_init h5 q5).bind fun h9 =>
(f_pR h9 v0 9 0 q5).bind fun h12 =>
fw_new h12 (fw_I 144 (fun _ => 0)) fun q19 h19 =>
(f_pR h19 v0 9 7 q19).bind fun h21 =>
fw_new h21 (fw_I 12 (fun _ => 0)) fun q27 h27 =>
(f_pR h27 v0 9 8 q27).bind fun h29 =>
fw_new h29 (fw_I 576 (fun _ => 0)) fun q36 h36 =>
(f_pR h36 v0 9 9 q36).bind fun h38 =>
fw_new h38 (fw_I 8 (fun _ => 0)) fun q44 h44 =>
(f_pR h44 v0 9 10 q44).bind fun h46 =>
fw_new h46 (fw_I 3744 (fun _ => 0)) fun q53 h53 =>
(f_pR h53 v0 9 11 q53).bind fun h55 =>
(f_pI h55 v0 9 12 (1 : Int32)).bind fun h60 =>
some h60
theorem c_Walk_init {G : fw_G} {h : fw_H} {v0 : Option Nat} (hv0 : v0.isSome = true) : fw_Call G m_Walk_init fw_eV 2 10 4703 [fw_r v0] h (s_Walk_init h v0) := by
  refine fw_Call.of ok_Walk_init.1 (Nat.le_of_ble_eq_true rfl) [(0, some (fw_r v0))] rfl ?_
  refine r_aload_n (i := 0) rfl rfl rfl ?_
  refine r_obji (i := 1) hv0 (Nat.le_of_ble_eq_true rfl) (Nat.le_of_ble_eq_true rfl) wM_Walk_5 wO_1 wO_2 rfl rfl ?_
  refine r_aload_n (i := 2) rfl rfl rfl ?_
  refine r_newON (i := 3) (k2 := 9) (n2 := 4688) (ci := 7) rfl dfl_7 (Nat.le_of_ble_eq_true rfl) (Nat.le_of_ble_eq_true rfl) wC_Walk_11 wN_Vil wI_Vil rfl rfl fun q5 h5 es5 => ?_
  refine r_dup_r (i := 4) rfl rfl ?_
  refine r_NV0 (i := 5) (k2 := 5) (n2 := 4484) ok_Vil_init wM_Walk_13 es5 (c_Vil_init es5) (Nat.le_of_ble_eq_true rfl) (Nat.le_of_ble_eq_true rfl) (Nat.le_of_ble_eq_true rfl) (Nat.le_of_ble_eq_true rfl) rfl rfl fun h9 => ?_
  refine r_pRF (i := 6) (ci := 9) (kf := 0) rfl (Nat.le_of_ble_eq_true rfl) wF_Walk_14 rfl rfl rfl ⟨_, (tyX9_ok 0 (Nat.le_of_ble_eq_true rfl)), Or.inl ⟨_, rfl⟩⟩ rfl rfl fun h12 => ?_
  refine r_aload_n (i := 7) rfl rfl rfl ?_
  refine r_sipush (i := 8) (144 : Int32) kc_sipush_144 rfl rfl ?_
  refine r_newIN (i := 9) (k2 := 4) (n2 := 4340) (N := 144) (by decide) (by decide) (Nat.le_of_ble_eq_true rfl) (Nat.le_of_ble_eq_true rfl) (Nat.le_of_ble_eq_true rfl) wA_int rfl rfl fun q19 h19 => ?_
  refine r_pRF (i := 10) (ci := 9) (kf := 7) rfl (Nat.le_of_ble_eq_true rfl) wF_Walk_18 rfl rfl rfl ⟨_, (tyX9_ok 7 (Nat.le_of_ble_eq_true rfl)), Or.inr ⟨_, rfl⟩⟩ rfl rfl fun h21 => ?_
  refine r_aload_n (i := 11) rfl rfl rfl ?_
  refine r_bipush (i := 12) (12 : Int32) kc_bipush_12 rfl rfl ?_
  refine r_newIN (i := 13) (k2 := 3) (n2 := 4328) (N := 12) (by decide) (by decide) (Nat.le_of_ble_eq_true rfl) (Nat.le_of_ble_eq_true rfl) (Nat.le_of_ble_eq_true rfl) wA_int rfl rfl fun q27 h27 => ?_
  refine r_pRF (i := 14) (ci := 9) (kf := 8) rfl (Nat.le_of_ble_eq_true rfl) wF_Walk_22 rfl rfl rfl ⟨_, (tyX9_ok 8 (Nat.le_of_ble_eq_true rfl)), Or.inr ⟨_, rfl⟩⟩ rfl rfl fun h29 => ?_
  refine r_aload_n (i := 15) rfl rfl rfl ?_
  refine r_sipush (i := 16) (576 : Int32) kc_sipush_576 rfl rfl ?_
  refine r_newIN (i := 17) (k2 := 2) (n2 := 3752) (N := 576) (by decide) (by decide) (Nat.le_of_ble_eq_true rfl) (Nat.le_of_ble_eq_true rfl) (Nat.le_of_ble_eq_true rfl) wA_int rfl rfl fun q36 h36 => ?_
  refine r_pRF (i := 18) (ci := 9) (kf := 9) rfl (Nat.le_of_ble_eq_true rfl) wF_Walk_25 rfl rfl rfl ⟨_, (tyX9_ok 9 (Nat.le_of_ble_eq_true rfl)), Or.inr ⟨_, rfl⟩⟩ rfl rfl fun h38 => ?_
  refine r_aload_n (i := 19) rfl rfl rfl ?_
  refine r_bipush (i := 20) (8 : Int32) kc_bipush_8 rfl rfl ?_
  refine r_newIN (i := 21) (k2 := 1) (n2 := 3744) (N := 8) (by decide) (by decide) (Nat.le_of_ble_eq_true rfl) (Nat.le_of_ble_eq_true rfl) (Nat.le_of_ble_eq_true rfl) wA_int rfl rfl fun q44 h44 => ?_
  refine r_pRF (i := 22) (ci := 9) (kf := 10) rfl (Nat.le_of_ble_eq_true rfl) wF_Walk_28 rfl rfl rfl ⟨_, (tyX9_ok 10 (Nat.le_of_ble_eq_true rfl)), Or.inr ⟨_, rfl⟩⟩ rfl rfl fun h46 => ?_
  refine r_aload_n (i := 23) rfl rfl rfl ?_
  refine r_sipush (i := 24) (3744 : Int32) kc_sipush_3744 rfl rfl ?_
  refine r_newIN (i := 25) (k2 := 0) (n2 := 0) (N := 3744) (by decide) (by decide) (Nat.le_of_ble_eq_true rfl) (Nat.le_of_ble_eq_true rfl) (Nat.le_of_ble_eq_true rfl) wA_int rfl rfl fun q53 h53 => ?_
  refine r_pRF (i := 26) (ci := 9) (kf := 11) rfl (Nat.le_of_ble_eq_true rfl) wF_Walk_31 rfl rfl rfl ⟨_, (tyX9_ok 11 (Nat.le_of_ble_eq_true rfl)), Or.inr ⟨_, rfl⟩⟩ rfl rfl fun h55 => ?_
  refine r_aload_n (i := 27) rfl rfl rfl ?_
  refine r_iconst (i := 28) (1 : Int32) kc_iconst_1 rfl rfl ?_
  refine r_pI (i := 29) (ci := 9) (kf := 12) rfl (Nat.le_of_ble_eq_true rfl) wF_Walk_34 rfl (tyX9_ok 12 (Nat.le_of_ble_eq_true rfl)) rfl rfl fun h60 => ?_
  exact r_retV (i := 30) rfl rfl rfl rfl
-- Walk_reckonWish
def l_Walk_reckonWish_68 (v0 : Option Nat) (v1 : Int32) (K99 : fw_H → Option (Int32 × fw_H)) : Nat → Int32 → fw_H → Option (Int32 × fw_H)
  | 0, _, _ => none
  | nn + 1, a68_4, g68 =>
    if (5 : Int32) ≤ a68_4 then (K99 g68) else
    (f_gR g68 v0 9 10).bind fun x75 =>
    (f_gR g68 v0 9 0).bind fun x81 =>
    (s_Vil_trait g68 x81 v1 a68_4).bind fun x87 =>
    (s_Rows_put g68 x75 a68_4 x87).bind fun h90 =>
    l_Walk_reckonWish_68 v0 v1 K99 nn (a68_4 + (1 : Int32)) h90
theorem cl_Walk_reckonWish_68 {G : fw_G} {v0 : Option Nat} {v1 : Int32} {v2 : Int32} {v3 : Int32} {K99 : fw_H → Option (Int32 × fw_H)} (hK99 : ∀ (he99 : fw_H), fw_R G m_Walk_reckonWish fw_wI 2 0 0 99 [(0, some (fw_r v0)), (2, some (fw_i v2)), (3, some (fw_i v3))] [] he99 (K99 he99)) : ∀ (nn : Nat) (a68_4 : Int32) (g68 : fw_H), fw_R G m_Walk_reckonWish fw_wI 2 0 0 68 [(0, some (fw_r v0)), (1, some (fw_i v1)), (2, some (fw_i v2)), (3, some (fw_i v3)), (4, some (fw_i a68_4))] [] g68 (l_Walk_reckonWish_68 v0 v1 K99 nn a68_4 g68) := by
  intro nn
  induction nn with
  | zero => intros; exact r_none
  | succ nn ih =>
    intro a68_4 g68
    rw [l_Walk_reckonWish_68]
    refine r_iload (i := 34) rfl rfl rfl ?_
    refine r_iconst (i := 35) (5 : Int32) kc_iconst_5 rfl rfl ?_
    refine r_icmp_ge (i := 36) (tgt := 99) rfl rfl rfl ?_ ?_
    · exact r_lv (fw_sub1 rfl (fw_sub1 rfl (fw_sub1 rfl fw_sub0))) (hK99 g68)
    · refine r_aload_n (i := 37) rfl rfl rfl ?_
      refine r_gR (i := 38) (ci := 9) (kf := 10) rfl (Nat.le_of_ble_eq_true rfl) wF_Walk_28 rfl rfl fun x75 => ?_
      refine r_iload (i := 39) rfl rfl rfl ?_
      refine r_aload_n (i := 40) rfl rfl rfl ?_
      refine r_gR (i := 41) (ci := 9) (kf := 0) rfl (Nat.le_of_ble_eq_true rfl) wF_Walk_14 rfl rfl fun x81 => ?_
      refine r_iload_n (i := 42) rfl rfl rfl ?_
      refine r_iload (i := 43) rfl rfl rfl ?_
      refine r_VI2 (i := 44) (k2 := 0) (n2 := 0) ok_Vil_trait wM_Walk_125 (c_Vil_trait) (fun _ e => fw_ckb e) (Nat.le_of_ble_eq_true rfl) (Nat.le_of_ble_eq_true rfl) (Nat.le_of_ble_eq_true rfl) (Nat.le_of_ble_eq_true rfl) rfl rfl fun x87 => ?_
      refine r_SV3 (i := 45) (k2 := 0) (n2 := 0) ok_Rows_put wM_Walk_101 (c_Rows_put) (Nat.le_of_ble_eq_true rfl) (Nat.le_of_ble_eq_true rfl) (Nat.le_of_ble_eq_true rfl) (Nat.le_of_ble_eq_true rfl) rfl rfl fun h90 => ?_
      refine r_iinc (i := 46) (1 : Int32) kc_iconst_1 rfl rfl rfl (Nat.le_of_ble_eq_true rfl) ?_
      refine r_goto (i := 47) (tgt := 68) rfl rfl rfl ?_
      exact r_lv (fw_sub1 rfl (fw_sub1 rfl (fw_sub1 rfl (fw_sub1 rfl (fw_sub1 rfl fw_sub0))))) (ih (a68_4 + (1 : Int32)) h90)
def s_Walk_reckonWish (F : Nat) (h : fw_H) (v0 : Option Nat) (v1 : Int32) (v2 : Int32) (v3 : Int32) : Option (Int32 × fw_H) :=
(f_ck h v0 9).bind fun _ =>
(f_gR h v0 9 1).bind fun x1 =>
if x1 = none then (fw_jn (fun (t35_0 : Int32) =>
(f_gR h v0 9 0).bind fun x38 =>
(f_gB h x38 7 8).bind fun x41 =>
if x41 = true then ((f_gR h v0 9 0).bind fun x50 =>
(s_Vil_trait h x50 v1 (4 : Int32)).bind fun x55 =>
some ((t35_0 - x55), h)) else
some (t35_0, h)) fun J35 =>
if ¬ v2 = (1 : Int32) then ((f_gR h v0 9 0).bind fun x27 =>
(s_Vil_trait h x27 v1 (0 : Int32)).bind fun x32 =>
J35 x32) else
J35 (0 : Int32)) else
(f_gR h v0 9 1).bind fun x8 =>
(s_Law_isPlain h x8).bind fun x11 =>
if x11 = true then (fw_jn (fun (t35_0 : Int32) =>
(f_gR h v0 9 0).bind fun x38 =>
(f_gB h x38 7 8).bind fun x41 =>
if x41 = true then ((f_gR h v0 9 0).bind fun x50 =>
(s_Vil_trait h x50 v1 (4 : Int32)).bind fun x55 =>
some ((t35_0 - x55), h)) else
some (t35_0, h)) fun J35 =>
if ¬ v2 = (1 : Int32) then ((f_gR h v0 9 0).bind fun x27 =>
(s_Vil_trait h x27 v1 (0 : Int32)).bind fun x32 =>
J35 x32) else
J35 (0 : Int32)) else
l_Walk_reckonWish_68 v0 v1 (fun he99 =>
(f_gR he99 v0 9 10).bind fun x100 =>
(s_Rows_put he99 x100 (5 : Int32) v2).bind fun h105 =>
(f_gR h105 v0 9 10).bind fun x109 =>
(f_gR h105 v0 9 0).bind fun x115 =>
(f_gB h105 x115 7 8).bind fun x118 =>
fw_jn (fun (t129_2 : Int32) =>
(s_Rows_put h105 x109 (6 : Int32) t129_2).bind fun h129 =>
(f_gR h129 v0 9 10).bind fun x133 =>
(s_Rows_put h129 x133 (7 : Int32) v3).bind fun h139 =>
(f_gR h139 v0 9 1).bind fun x143 =>
(f_gR h139 v0 9 10).bind fun x147 =>
(s_Law_worth F h139 x143 x147).bind fun x150 =>
some (x150.1, x150.2)) fun J129 =>
if x118 = true then (J129 (1 : Int32)) else
J129 (0 : Int32)) F (0 : Int32) h
theorem c_Walk_reckonWish {G : fw_G} (F : Nat) {h : fw_H} {v0 : Option Nat} {v1 : Int32} {v2 : Int32} {v3 : Int32} : fw_Call G m_Walk_reckonWish fw_wI 2 0 0 [fw_r v0, fw_i v1, fw_i v2, fw_i v3] h (s_Walk_reckonWish F h v0 v1 v2 v3) := by
  refine fw_Call.of ok_Walk_reckonWish.1 (Nat.le_of_ble_eq_true rfl) [(0, some (fw_r v0)), (1, some (fw_i v1)), (2, some (fw_i v2)), (3, some (fw_i v3))] rfl ?_
  refine r_ck ?_
  refine r_aload_n (i := 0) rfl rfl rfl ?_
  refine r_gR (i := 1) (ci := 9) (kf := 1) rfl (Nat.le_of_ble_eq_true rfl) wF_Walk_42 rfl rfl fun x1 => ?_
  refine r_ifnull (i := 2) (tgt := 17) rfl rfl rfl ?_ ?_
  · refine r_iload_n (i := 7) rfl rfl rfl ?_
    refine r_iconst (i := 8) (1 : Int32) kc_iconst_1 rfl rfl ?_
    refine r_join (P := fun J35 => ∀ (t35_0 : Int32), fw_R G m_Walk_reckonWish fw_wI 2 (0) (0) 35 [(0, some (fw_r v0)), (1, some (fw_i v1))] [fw_i t35_0] h (J35 t35_0)) ?_ (fun J35 hJ35 => ?_)
    · intro t35_0
      refine r_istore (i := 17) rfl rfl (Nat.le_of_ble_eq_true rfl) rfl ?_
      refine r_aload_n (i := 18) rfl rfl rfl ?_
      refine r_gR (i := 19) (ci := 9) (kf := 0) rfl (Nat.le_of_ble_eq_true rfl) wF_Walk_14 rfl rfl fun x38 => ?_
      refine r_gB (i := 20) (ci := 7) (kf := 8) rfl (Nat.le_of_ble_eq_true rfl) wF_Walk_146 rfl rfl fun x41 => ?_
      refine r_ifeqB (i := 21) (tgt := 62) rfl rfl rfl ?_ ?_
      · refine r_iload (i := 30) rfl rfl rfl ?_
        exact r_retI (i := 31) rfl rfl rfl rfl
      · refine r_iload (i := 22) rfl rfl rfl ?_
        refine r_aload_n (i := 23) rfl rfl rfl ?_
        refine r_gR (i := 24) (ci := 9) (kf := 0) rfl (Nat.le_of_ble_eq_true rfl) wF_Walk_14 rfl rfl fun x50 => ?_
        refine r_iload_n (i := 25) rfl rfl rfl ?_
        refine r_iconst (i := 26) (4 : Int32) kc_iconst_4 rfl rfl ?_
        refine r_VI2 (i := 27) (k2 := 0) (n2 := 0) ok_Vil_trait wM_Walk_125 (c_Vil_trait) (fun _ e => fw_ckb e) (Nat.le_of_ble_eq_true rfl) (Nat.le_of_ble_eq_true rfl) (Nat.le_of_ble_eq_true rfl) (Nat.le_of_ble_eq_true rfl) rfl rfl fun x55 => ?_
        refine r_isub (i := 28) rfl rfl ?_
        refine r_goto (i := 29) (tgt := 64) rfl rfl rfl ?_
        exact r_retI (i := 31) rfl rfl rfl rfl
    · refine r_icmp_ne (i := 9) (tgt := 26) rfl rfl rfl ?_ ?_
      · refine r_aload_n (i := 12) rfl rfl rfl ?_
        refine r_gR (i := 13) (ci := 9) (kf := 0) rfl (Nat.le_of_ble_eq_true rfl) wF_Walk_14 rfl rfl fun x27 => ?_
        refine r_iload_n (i := 14) rfl rfl rfl ?_
        refine r_iconst (i := 15) (0 : Int32) kc_iconst_0 rfl rfl ?_
        refine r_VI2 (i := 16) (k2 := 0) (n2 := 0) ok_Vil_trait wM_Walk_125 (c_Vil_trait) (fun _ e => fw_ckb e) (Nat.le_of_ble_eq_true rfl) (Nat.le_of_ble_eq_true rfl) (Nat.le_of_ble_eq_true rfl) (Nat.le_of_ble_eq_true rfl) rfl rfl fun x32 => ?_
        exact r_lv (fw_sub1 rfl (fw_sub1 rfl fw_sub0)) (hJ35 x32)
      · refine r_iconst (i := 10) (0 : Int32) kc_iconst_0 rfl rfl ?_
        refine r_goto (i := 11) (tgt := 35) rfl rfl rfl ?_
        exact r_lv (fw_sub1 rfl (fw_sub1 rfl fw_sub0)) (hJ35 (0 : Int32))
  · refine r_aload_n (i := 3) rfl rfl rfl ?_
    refine r_gR (i := 4) (ci := 9) (kf := 1) rfl (Nat.le_of_ble_eq_true rfl) wF_Walk_42 rfl rfl fun x8 => ?_
    refine r_VB0 (i := 5) (k2 := 0) (n2 := 0) ok_Law_isPlain wM_Walk_143 (c_Law_isPlain) (fun _ e => fw_ckb e) (Nat.le_of_ble_eq_true rfl) (Nat.le_of_ble_eq_true rfl) (Nat.le_of_ble_eq_true rfl) (Nat.le_of_ble_eq_true rfl) rfl rfl fun x11 => ?_
    refine r_ifeqB (i := 6) (tgt := 65) rfl rfl rfl ?_ ?_
    · refine r_iconst (i := 32) (0 : Int32) kc_iconst_0 rfl rfl ?_
      refine r_istore (i := 33) rfl rfl (Nat.le_of_ble_eq_true rfl) rfl ?_
      refine r_lv (fw_sub1 rfl (fw_sub1 rfl (fw_sub1 rfl (fw_sub1 rfl (fw_sub1 rfl fw_sub0))))) (cl_Walk_reckonWish_68 ?_ F _ _)
      · intro he99
        refine r_aload_n (i := 48) rfl rfl rfl ?_
        refine r_gR (i := 49) (ci := 9) (kf := 10) rfl (Nat.le_of_ble_eq_true rfl) wF_Walk_28 rfl rfl fun x100 => ?_
        refine r_iconst (i := 50) (5 : Int32) kc_iconst_5 rfl rfl ?_
        refine r_iload_n (i := 51) rfl rfl rfl ?_
        refine r_SV3 (i := 52) (k2 := 0) (n2 := 0) ok_Rows_put wM_Walk_101 (c_Rows_put) (Nat.le_of_ble_eq_true rfl) (Nat.le_of_ble_eq_true rfl) (Nat.le_of_ble_eq_true rfl) (Nat.le_of_ble_eq_true rfl) rfl rfl fun h105 => ?_
        refine r_aload_n (i := 53) rfl rfl rfl ?_
        refine r_gR (i := 54) (ci := 9) (kf := 10) rfl (Nat.le_of_ble_eq_true rfl) wF_Walk_28 rfl rfl fun x109 => ?_
        refine r_bipush (i := 55) (6 : Int32) kc_bipush_6 rfl rfl ?_
        refine r_aload_n (i := 56) rfl rfl rfl ?_
        refine r_gR (i := 57) (ci := 9) (kf := 0) rfl (Nat.le_of_ble_eq_true rfl) wF_Walk_14 rfl rfl fun x115 => ?_
        refine r_gB (i := 58) (ci := 7) (kf := 8) rfl (Nat.le_of_ble_eq_true rfl) wF_Walk_146 rfl rfl fun x118 => ?_
        refine r_join (P := fun J129 => ∀ (t129_2 : Int32), fw_R G m_Walk_reckonWish fw_wI 2 (0) (0) 129 [(0, some (fw_r v0)), (3, some (fw_i v3))] [fw_i t129_2, fw_i (6 : Int32), fw_r x109] h105 (J129 t129_2)) ?_ (fun J129 hJ129 => ?_)
        · intro t129_2
          refine r_SV3 (i := 63) (k2 := 0) (n2 := 0) ok_Rows_put wM_Walk_101 (c_Rows_put) (Nat.le_of_ble_eq_true rfl) (Nat.le_of_ble_eq_true rfl) (Nat.le_of_ble_eq_true rfl) (Nat.le_of_ble_eq_true rfl) rfl rfl fun h129 => ?_
          refine r_aload_n (i := 64) rfl rfl rfl ?_
          refine r_gR (i := 65) (ci := 9) (kf := 10) rfl (Nat.le_of_ble_eq_true rfl) wF_Walk_28 rfl rfl fun x133 => ?_
          refine r_bipush (i := 66) (7 : Int32) kc_bipush_7 rfl rfl ?_
          refine r_iload_n (i := 67) rfl rfl rfl ?_
          refine r_SV3 (i := 68) (k2 := 0) (n2 := 0) ok_Rows_put wM_Walk_101 (c_Rows_put) (Nat.le_of_ble_eq_true rfl) (Nat.le_of_ble_eq_true rfl) (Nat.le_of_ble_eq_true rfl) (Nat.le_of_ble_eq_true rfl) rfl rfl fun h139 => ?_
          refine r_aload_n (i := 69) rfl rfl rfl ?_
          refine r_gR (i := 70) (ci := 9) (kf := 1) rfl (Nat.le_of_ble_eq_true rfl) wF_Walk_42 rfl rfl fun x143 => ?_
          refine r_aload_n (i := 71) rfl rfl rfl ?_
          refine r_gR (i := 72) (ci := 9) (kf := 10) rfl (Nat.le_of_ble_eq_true rfl) wF_Walk_28 rfl rfl fun x147 => ?_
          refine r_VwI1 (i := 73) (k2 := 0) (n2 := 0) ok_Law_worth wM_Walk_150 (c_Law_worth F) (fun _ e => fw_ckb e) (Nat.le_of_ble_eq_true rfl) (Nat.le_of_ble_eq_true rfl) (Nat.le_of_ble_eq_true rfl) (Nat.le_of_ble_eq_true rfl) rfl rfl fun x150 => ?_
          exact r_retI (i := 74) rfl rfl rfl rfl
        · refine r_ifeqB (i := 59) (tgt := 128) rfl rfl rfl ?_ ?_
          · refine r_iconst (i := 62) (0 : Int32) kc_iconst_0 rfl rfl ?_
            exact r_lv (fw_sub1 rfl (fw_sub1 rfl fw_sub0)) (hJ129 (0 : Int32))
          · refine r_iconst (i := 60) (1 : Int32) kc_iconst_1 rfl rfl ?_
            refine r_goto (i := 61) (tgt := 129) rfl rfl rfl ?_
            exact r_lv (fw_sub1 rfl (fw_sub1 rfl fw_sub0)) (hJ129 (1 : Int32))
    · refine r_iload_n (i := 7) rfl rfl rfl ?_
      refine r_iconst (i := 8) (1 : Int32) kc_iconst_1 rfl rfl ?_
      refine r_join (P := fun J35 => ∀ (t35_0 : Int32), fw_R G m_Walk_reckonWish fw_wI 2 (0) (0) 35 [(0, some (fw_r v0)), (1, some (fw_i v1))] [fw_i t35_0] h (J35 t35_0)) ?_ (fun J35 hJ35 => ?_)
      · intro t35_0
        refine r_istore (i := 17) rfl rfl (Nat.le_of_ble_eq_true rfl) rfl ?_
        refine r_aload_n (i := 18) rfl rfl rfl ?_
        refine r_gR (i := 19) (ci := 9) (kf := 0) rfl (Nat.le_of_ble_eq_true rfl) wF_Walk_14 rfl rfl fun x38 => ?_
        refine r_gB (i := 20) (ci := 7) (kf := 8) rfl (Nat.le_of_ble_eq_true rfl) wF_Walk_146 rfl rfl fun x41 => ?_
        refine r_ifeqB (i := 21) (tgt := 62) rfl rfl rfl ?_ ?_
        · refine r_iload (i := 30) rfl rfl rfl ?_
          exact r_retI (i := 31) rfl rfl rfl rfl
        · refine r_iload (i := 22) rfl rfl rfl ?_
          refine r_aload_n (i := 23) rfl rfl rfl ?_
          refine r_gR (i := 24) (ci := 9) (kf := 0) rfl (Nat.le_of_ble_eq_true rfl) wF_Walk_14 rfl rfl fun x50 => ?_
          refine r_iload_n (i := 25) rfl rfl rfl ?_
          refine r_iconst (i := 26) (4 : Int32) kc_iconst_4 rfl rfl ?_
          refine r_VI2 (i := 27) (k2 := 0) (n2 := 0) ok_Vil_trait wM_Walk_125 (c_Vil_trait) (fun _ e => fw_ckb e) (Nat.le_of_ble_eq_true rfl) (Nat.le_of_ble_eq_true rfl) (Nat.le_of_ble_eq_true rfl) (Nat.le_of_ble_eq_true rfl) rfl rfl fun x55 => ?_
          refine r_isub (i := 28) rfl rfl ?_
          refine r_goto (i := 29) (tgt := 64) rfl rfl rfl ?_
          exact r_retI (i := 31) rfl rfl rfl rfl
      · refine r_icmp_ne (i := 9) (tgt := 26) rfl rfl rfl ?_ ?_
        · refine r_aload_n (i := 12) rfl rfl rfl ?_
          refine r_gR (i := 13) (ci := 9) (kf := 0) rfl (Nat.le_of_ble_eq_true rfl) wF_Walk_14 rfl rfl fun x27 => ?_
          refine r_iload_n (i := 14) rfl rfl rfl ?_
          refine r_iconst (i := 15) (0 : Int32) kc_iconst_0 rfl rfl ?_
          refine r_VI2 (i := 16) (k2 := 0) (n2 := 0) ok_Vil_trait wM_Walk_125 (c_Vil_trait) (fun _ e => fw_ckb e) (Nat.le_of_ble_eq_true rfl) (Nat.le_of_ble_eq_true rfl) (Nat.le_of_ble_eq_true rfl) (Nat.le_of_ble_eq_true rfl) rfl rfl fun x32 => ?_
          exact r_lv (fw_sub1 rfl (fw_sub1 rfl fw_sub0)) (hJ35 x32)
        · refine r_iconst (i := 10) (0 : Int32) kc_iconst_0 rfl rfl ?_
          refine r_goto (i := 11) (tgt := 35) rfl rfl rfl ?_
          exact r_lv (fw_sub1 rfl (fw_sub1 rfl fw_sub0)) (hJ35 (0 : Int32))
-- Walk_reckonWishes
def l_Walk_reckonWishes_36 (F : Nat) (v0 : Option Nat) (v1 : Int32) (t22_0 : Int32) (a25_3 : Int32) (K89 : fw_H → Option fw_H) : Nat → Int32 → Int32 → fw_H → Option fw_H
  | 0, _, _, _ => none
  | nn + 1, a36_4, a36_5, g36 =>
    if (24 : Int32) ≤ a36_5 then (K89 g36) else
    if ¬ t22_0 = (0 : Int32) then ((s_Walk_reckonWish F g36 v0 v1 a25_3 a36_5).bind fun x57 =>
    (f_gR x57.2 v0 9 9).bind fun x68 =>
    (s_Walk_wishPlace v1 a25_3 a36_5).bind fun x75 =>
    (s_Rows_put x57.2 x68 x75 x57.1).bind fun h80 =>
    l_Walk_reckonWishes_36 F v0 v1 t22_0 a25_3 K89 nn x57.1 (a36_5 + (1 : Int32)) h80) else
    if ¬ a36_5 = (0 : Int32) then ((f_gR g36 v0 9 9).bind fun x68 =>
    (s_Walk_wishPlace v1 a25_3 a36_5).bind fun x75 =>
    (s_Rows_put g36 x68 x75 a36_4).bind fun h80 =>
    l_Walk_reckonWishes_36 F v0 v1 t22_0 a25_3 K89 nn a36_4 (a36_5 + (1 : Int32)) h80) else
    (s_Walk_reckonWish F g36 v0 v1 a25_3 a36_5).bind fun x57 =>
    (f_gR x57.2 v0 9 9).bind fun x68 =>
    (s_Walk_wishPlace v1 a25_3 a36_5).bind fun x75 =>
    (s_Rows_put x57.2 x68 x75 x57.1).bind fun h80 =>
    l_Walk_reckonWishes_36 F v0 v1 t22_0 a25_3 K89 nn x57.1 (a36_5 + (1 : Int32)) h80
theorem cl_Walk_reckonWishes_36 {G : fw_G} {F : Nat} {v0 : Option Nat} {v1 : Int32} {t22_0 : Int32} {a25_3 : Int32} {K89 : fw_H → Option fw_H} (hK89 : ∀ (he89 : fw_H), fw_R G m_Walk_reckonWishes fw_eV 3 0 0 89 [(0, some (fw_r v0)), (1, some (fw_i v1)), (2, some (fw_i t22_0)), (3, some (fw_i a25_3))] [] he89 (K89 he89)) : ∀ (nn : Nat) (a36_4 : Int32) (a36_5 : Int32) (g36 : fw_H), fw_R G m_Walk_reckonWishes fw_eV 3 0 0 36 [(0, some (fw_r v0)), (1, some (fw_i v1)), (2, some (fw_i t22_0)), (3, some (fw_i a25_3)), (4, some (fw_i a36_4)), (5, some (fw_i a36_5))] [] g36 (l_Walk_reckonWishes_36 F v0 v1 t22_0 a25_3 K89 nn a36_4 a36_5 g36) := by
  intro nn
  induction nn with
  | zero => intros; exact r_none
  | succ nn ih =>
    intro a36_4 a36_5 g36
    rw [l_Walk_reckonWishes_36]
    refine r_iload (i := 20) rfl rfl rfl ?_
    refine r_bipush (i := 21) (24 : Int32) kc_bipush_24 rfl rfl ?_
    refine r_icmp_ge (i := 22) (tgt := 89) rfl rfl rfl ?_ ?_
    · exact r_lv (fw_sub1 rfl (fw_sub1 rfl (fw_sub1 rfl (fw_sub1 rfl fw_sub0)))) (hK89 g36)
    · refine r_iload_n (i := 23) rfl rfl rfl ?_
      refine r_if_ne (i := 24) (tgt := 52) rfl rfl rfl ?_ ?_
      · refine r_aload_n (i := 27) rfl rfl rfl ?_
        refine r_iload_n (i := 28) rfl rfl rfl ?_
        refine r_iload_n (i := 29) rfl rfl rfl ?_
        refine r_iload (i := 30) rfl rfl rfl ?_
        refine r_VwI3 (i := 31) (k2 := 0) (n2 := 0) ok_Walk_reckonWish wM_Walk_140 (c_Walk_reckonWish F) (fun _ e => fw_ckb e) (Nat.le_of_ble_eq_true rfl) (Nat.le_of_ble_eq_true rfl) (Nat.le_of_ble_eq_true rfl) (Nat.le_of_ble_eq_true rfl) rfl rfl fun x57 => ?_
        refine r_goto (i := 32) (tgt := 65) rfl rfl rfl ?_
        refine r_istore (i := 34) rfl rfl (Nat.le_of_ble_eq_true rfl) rfl ?_
        refine r_aload_n (i := 35) rfl rfl rfl ?_
        refine r_gR (i := 36) (ci := 9) (kf := 9) rfl (Nat.le_of_ble_eq_true rfl) wF_Walk_25 rfl rfl fun x68 => ?_
        refine r_iload_n (i := 37) rfl rfl rfl ?_
        refine r_iload_n (i := 38) rfl rfl rfl ?_
        refine r_iload (i := 39) rfl rfl rfl ?_
        refine r_SI3 (i := 40) (k2 := 0) (n2 := 0) ok_Walk_wishPlace wM_Walk_131 (c_Walk_wishPlace) (Nat.le_of_ble_eq_true rfl) (Nat.le_of_ble_eq_true rfl) (Nat.le_of_ble_eq_true rfl) (Nat.le_of_ble_eq_true rfl) rfl rfl fun x75 => ?_
        refine r_iload (i := 41) rfl rfl rfl ?_
        refine r_SV3 (i := 42) (k2 := 0) (n2 := 0) ok_Rows_put wM_Walk_101 (c_Rows_put) (Nat.le_of_ble_eq_true rfl) (Nat.le_of_ble_eq_true rfl) (Nat.le_of_ble_eq_true rfl) (Nat.le_of_ble_eq_true rfl) rfl rfl fun h80 => ?_
        refine r_iinc (i := 43) (1 : Int32) kc_iconst_1 rfl rfl rfl (Nat.le_of_ble_eq_true rfl) ?_
        refine r_goto (i := 44) (tgt := 36) rfl rfl rfl ?_
        exact r_lv (fw_sub1 rfl (fw_sub1 rfl (fw_sub1 rfl (fw_sub1 rfl (fw_sub1 rfl (fw_sub1 rfl fw_sub0)))))) (ih x57.1 (a36_5 + (1 : Int32)) h80)
      · refine r_iload (i := 25) rfl rfl rfl ?_
        refine r_if_ne (i := 26) (tgt := 63) rfl rfl rfl ?_ ?_
        · refine r_iload (i := 33) rfl rfl rfl ?_
          refine r_istore (i := 34) rfl rfl (Nat.le_of_ble_eq_true rfl) rfl ?_
          refine r_aload_n (i := 35) rfl rfl rfl ?_
          refine r_gR (i := 36) (ci := 9) (kf := 9) rfl (Nat.le_of_ble_eq_true rfl) wF_Walk_25 rfl rfl fun x68 => ?_
          refine r_iload_n (i := 37) rfl rfl rfl ?_
          refine r_iload_n (i := 38) rfl rfl rfl ?_
          refine r_iload (i := 39) rfl rfl rfl ?_
          refine r_SI3 (i := 40) (k2 := 0) (n2 := 0) ok_Walk_wishPlace wM_Walk_131 (c_Walk_wishPlace) (Nat.le_of_ble_eq_true rfl) (Nat.le_of_ble_eq_true rfl) (Nat.le_of_ble_eq_true rfl) (Nat.le_of_ble_eq_true rfl) rfl rfl fun x75 => ?_
          refine r_iload (i := 41) rfl rfl rfl ?_
          refine r_SV3 (i := 42) (k2 := 0) (n2 := 0) ok_Rows_put wM_Walk_101 (c_Rows_put) (Nat.le_of_ble_eq_true rfl) (Nat.le_of_ble_eq_true rfl) (Nat.le_of_ble_eq_true rfl) (Nat.le_of_ble_eq_true rfl) rfl rfl fun h80 => ?_
          refine r_iinc (i := 43) (1 : Int32) kc_iconst_1 rfl rfl rfl (Nat.le_of_ble_eq_true rfl) ?_
          refine r_goto (i := 44) (tgt := 36) rfl rfl rfl ?_
          exact r_lv (fw_sub1 rfl (fw_sub1 rfl (fw_sub1 rfl (fw_sub1 rfl (fw_sub1 rfl (fw_sub1 rfl fw_sub0)))))) (ih a36_4 (a36_5 + (1 : Int32)) h80)
        · refine r_aload_n (i := 27) rfl rfl rfl ?_
          refine r_iload_n (i := 28) rfl rfl rfl ?_
          refine r_iload_n (i := 29) rfl rfl rfl ?_
          refine r_iload (i := 30) rfl rfl rfl ?_
          refine r_VwI3 (i := 31) (k2 := 0) (n2 := 0) ok_Walk_reckonWish wM_Walk_140 (c_Walk_reckonWish F) (fun _ e => fw_ckb e) (Nat.le_of_ble_eq_true rfl) (Nat.le_of_ble_eq_true rfl) (Nat.le_of_ble_eq_true rfl) (Nat.le_of_ble_eq_true rfl) rfl rfl fun x57 => ?_
          refine r_goto (i := 32) (tgt := 65) rfl rfl rfl ?_
          refine r_istore (i := 34) rfl rfl (Nat.le_of_ble_eq_true rfl) rfl ?_
          refine r_aload_n (i := 35) rfl rfl rfl ?_
          refine r_gR (i := 36) (ci := 9) (kf := 9) rfl (Nat.le_of_ble_eq_true rfl) wF_Walk_25 rfl rfl fun x68 => ?_
          refine r_iload_n (i := 37) rfl rfl rfl ?_
          refine r_iload_n (i := 38) rfl rfl rfl ?_
          refine r_iload (i := 39) rfl rfl rfl ?_
          refine r_SI3 (i := 40) (k2 := 0) (n2 := 0) ok_Walk_wishPlace wM_Walk_131 (c_Walk_wishPlace) (Nat.le_of_ble_eq_true rfl) (Nat.le_of_ble_eq_true rfl) (Nat.le_of_ble_eq_true rfl) (Nat.le_of_ble_eq_true rfl) rfl rfl fun x75 => ?_
          refine r_iload (i := 41) rfl rfl rfl ?_
          refine r_SV3 (i := 42) (k2 := 0) (n2 := 0) ok_Rows_put wM_Walk_101 (c_Rows_put) (Nat.le_of_ble_eq_true rfl) (Nat.le_of_ble_eq_true rfl) (Nat.le_of_ble_eq_true rfl) (Nat.le_of_ble_eq_true rfl) rfl rfl fun h80 => ?_
          refine r_iinc (i := 43) (1 : Int32) kc_iconst_1 rfl rfl rfl (Nat.le_of_ble_eq_true rfl) ?_
          refine r_goto (i := 44) (tgt := 36) rfl rfl rfl ?_
          exact r_lv (fw_sub1 rfl (fw_sub1 rfl (fw_sub1 rfl (fw_sub1 rfl (fw_sub1 rfl (fw_sub1 rfl fw_sub0)))))) (ih x57.1 (a36_5 + (1 : Int32)) h80)
def l_Walk_reckonWishes_25 (F : Nat) (v0 : Option Nat) (v1 : Int32) (t22_0 : Int32) : Nat → Int32 → fw_H → Option fw_H
  | 0, _, _ => none
  | nn + 1, a25_3, g25 =>
    if (1 : Int32) < a25_3 then (some g25) else
    l_Walk_reckonWishes_36 F v0 v1 t22_0 a25_3 (fun he89 =>
    l_Walk_reckonWishes_25 F v0 v1 t22_0 nn (a25_3 + (1 : Int32)) he89) F (0 : Int32) (0 : Int32) g25
theorem cl_Walk_reckonWishes_25 {G : fw_G} {F : Nat} {v0 : Option Nat} {v1 : Int32} {t22_0 : Int32} : ∀ (nn : Nat) (a25_3 : Int32) (g25 : fw_H), fw_R G m_Walk_reckonWishes fw_eV 3 0 0 25 [(0, some (fw_r v0)), (1, some (fw_i v1)), (2, some (fw_i t22_0)), (3, some (fw_i a25_3))] [] g25 (l_Walk_reckonWishes_25 F v0 v1 t22_0 nn a25_3 g25) := by
  intro nn
  induction nn with
  | zero => intros; exact r_none
  | succ nn ih =>
    intro a25_3 g25
    rw [l_Walk_reckonWishes_25]
    refine r_iload_n (i := 13) rfl rfl rfl ?_
    refine r_iconst (i := 14) (1 : Int32) kc_iconst_1 rfl rfl ?_
    refine r_icmp_gt (i := 15) (tgt := 95) rfl rfl rfl ?_ ?_
    · exact r_retV (i := 47) rfl rfl rfl rfl
    · refine r_iconst (i := 16) (0 : Int32) kc_iconst_0 rfl rfl ?_
      refine r_istore (i := 17) rfl rfl (Nat.le_of_ble_eq_true rfl) rfl ?_
      refine r_iconst (i := 18) (0 : Int32) kc_iconst_0 rfl rfl ?_
      refine r_istore (i := 19) rfl rfl (Nat.le_of_ble_eq_true rfl) rfl ?_
      refine r_lv (fw_sub1 rfl (fw_sub1 rfl (fw_sub1 rfl (fw_sub1 rfl (fw_sub1 rfl (fw_sub1 rfl fw_sub0)))))) (cl_Walk_reckonWishes_36 ?_ F _ _ _)
      · intro he89
        refine r_iinc (i := 45) (1 : Int32) kc_iconst_1 rfl rfl rfl (Nat.le_of_ble_eq_true rfl) ?_
        refine r_goto (i := 46) (tgt := 25) rfl rfl rfl ?_
        exact r_lv (fw_sub1 rfl (fw_sub1 rfl (fw_sub1 rfl (fw_sub1 rfl fw_sub0)))) (ih (a25_3 + (1 : Int32)) he89)
def s_Walk_reckonWishes (F : Nat) (h : fw_H) (v0 : Option Nat) (v1 : Int32) : Option fw_H :=
(f_ck h v0 9).bind fun _ =>
(f_gR h v0 9 1).bind fun x1 =>
fw_jn (fun (t22_0 : Int32) =>
l_Walk_reckonWishes_25 F v0 v1 t22_0 F (0 : Int32) h) fun J22 =>
if x1 = none then (J22 (0 : Int32)) else
(f_gR h v0 9 1).bind fun x8 =>
(s_Law_isByTime h x8).bind fun x11 =>
if x11 = true then (J22 (1 : Int32)) else
J22 (0 : Int32)
theorem c_Walk_reckonWishes {G : fw_G} (F : Nat) {h : fw_H} {v0 : Option Nat} {v1 : Int32} : fw_Call G m_Walk_reckonWishes fw_eV 3 0 0 [fw_r v0, fw_i v1] h (s_Walk_reckonWishes F h v0 v1) := by
  refine fw_Call.of ok_Walk_reckonWishes.1 (Nat.le_of_ble_eq_true rfl) [(0, some (fw_r v0)), (1, some (fw_i v1))] rfl ?_
  refine r_ck ?_
  refine r_aload_n (i := 0) rfl rfl rfl ?_
  refine r_gR (i := 1) (ci := 9) (kf := 1) rfl (Nat.le_of_ble_eq_true rfl) wF_Walk_42 rfl rfl fun x1 => ?_
  refine r_join (P := fun J22 => ∀ (t22_0 : Int32), fw_R G m_Walk_reckonWishes fw_eV 3 (0) (0) 22 [(0, some (fw_r v0)), (1, some (fw_i v1))] [fw_i t22_0] h (J22 t22_0)) ?_ (fun J22 hJ22 => ?_)
  · intro t22_0
    refine r_istore_n (i := 10) rfl rfl (Nat.le_of_ble_eq_true rfl) rfl ?_
    refine r_iconst (i := 11) (0 : Int32) kc_iconst_0 rfl rfl ?_
    refine r_istore_n (i := 12) rfl rfl (Nat.le_of_ble_eq_true rfl) rfl ?_
    refine r_lv (fw_sub1 rfl (fw_sub1 rfl (fw_sub1 rfl (fw_sub1 rfl fw_sub0)))) (cl_Walk_reckonWishes_25 F _ _)
  · refine r_ifnull (i := 2) (tgt := 21) rfl rfl rfl ?_ ?_
    · refine r_iconst (i := 9) (0 : Int32) kc_iconst_0 rfl rfl ?_
      exact r_lv (fw_sub1 rfl (fw_sub1 rfl fw_sub0)) (hJ22 (0 : Int32))
    · refine r_aload_n (i := 3) rfl rfl rfl ?_
      refine r_gR (i := 4) (ci := 9) (kf := 1) rfl (Nat.le_of_ble_eq_true rfl) wF_Walk_42 rfl rfl fun x8 => ?_
      refine r_VB0 (i := 5) (k2 := 0) (n2 := 0) ok_Law_isByTime wM_Walk_135 (c_Law_isByTime) (fun _ e => fw_ckb e) (Nat.le_of_ble_eq_true rfl) (Nat.le_of_ble_eq_true rfl) (Nat.le_of_ble_eq_true rfl) (Nat.le_of_ble_eq_true rfl) rfl rfl fun x11 => ?_
      refine r_ifeqB (i := 6) (tgt := 21) rfl rfl rfl ?_ ?_
      · refine r_iconst (i := 9) (0 : Int32) kc_iconst_0 rfl rfl ?_
        exact r_lv (fw_sub1 rfl (fw_sub1 rfl fw_sub0)) (hJ22 (0 : Int32))
      · refine r_iconst (i := 7) (1 : Int32) kc_iconst_1 rfl rfl ?_
        refine r_goto (i := 8) (tgt := 22) rfl rfl rfl ?_
        exact r_lv (fw_sub1 rfl (fw_sub1 rfl fw_sub0)) (hJ22 (1 : Int32))
-- Walk_openDoors
def l_Walk_openDoors_29 (v0 : Option Nat) (a2_2 : Int32) (x19 : Int32) (K75 : Int32 → fw_H → Option fw_H) : Nat → Int32 → Int32 → fw_H → Option fw_H
  | 0, _, _, _ => none
  | nn + 1, a29_4, a29_5, g29 =>
    (f_gR g29 v0 9 0).bind fun x32 =>
    (f_gI g29 x32 7 0).bind fun x35 =>
    if x35 ≤ a29_5 then (K75 a29_4 g29) else
    (s_Rows_has x19 a29_5).bind fun x44 =>
    if x44 = true then ((f_gR g29 v0 9 7).bind fun x51 =>
    (s_Rows_put g29 x51 ((a2_2 * (12 : Int32)) + a29_4) a29_5).bind fun h63 =>
    l_Walk_openDoors_29 v0 a2_2 x19 K75 nn (a29_4 + (1 : Int32)) (a29_5 + (1 : Int32)) h63) else
    l_Walk_openDoors_29 v0 a2_2 x19 K75 nn a29_4 (a29_5 + (1 : Int32)) g29
theorem cl_Walk_openDoors_29 {G : fw_G} {v0 : Option Nat} {v1 : Int32} {a2_2 : Int32} {x19 : Int32} {K75 : Int32 → fw_H → Option fw_H} (hK75 : ∀ (e75_4 : Int32) (he75 : fw_H), fw_R G m_Walk_openDoors fw_eV 3 0 0 75 [(0, some (fw_r v0)), (1, some (fw_i v1)), (2, some (fw_i a2_2)), (4, some (fw_i e75_4))] [] he75 (K75 e75_4 he75)) : ∀ (nn : Nat) (a29_4 : Int32) (a29_5 : Int32) (g29 : fw_H), fw_R G m_Walk_openDoors fw_eV 3 0 0 29 [(0, some (fw_r v0)), (1, some (fw_i v1)), (2, some (fw_i a2_2)), (3, some (fw_i x19)), (4, some (fw_i a29_4)), (5, some (fw_i a29_5))] [] g29 (l_Walk_openDoors_29 v0 a2_2 x19 K75 nn a29_4 a29_5 g29) := by
  intro nn
  induction nn with
  | zero => intros; exact r_none
  | succ nn ih =>
    intro a29_4 a29_5 g29
    rw [l_Walk_openDoors_29]
    refine r_iload (i := 17) rfl rfl rfl ?_
    refine r_aload_n (i := 18) rfl rfl rfl ?_
    refine r_gR (i := 19) (ci := 9) (kf := 0) rfl (Nat.le_of_ble_eq_true rfl) wF_Walk_14 rfl rfl fun x32 => ?_
    refine r_gI (i := 20) (ci := 7) (kf := 0) rfl (Nat.le_of_ble_eq_true rfl) wF_Walk_57 rfl rfl fun x35 => ?_
    refine r_icmp_ge (i := 21) (tgt := 75) rfl rfl rfl ?_ ?_
    · exact r_lv (fw_sub1 rfl (fw_sub1 rfl (fw_sub1 rfl (fw_sub1 rfl fw_sub0)))) (hK75 a29_4 g29)
    · refine r_iload_n (i := 22) rfl rfl rfl ?_
      refine r_iload (i := 23) rfl rfl rfl ?_
      refine r_SB2 (i := 24) (k2 := 0) (n2 := 0) ok_Rows_has wM_Walk_95 (c_Rows_has) (Nat.le_of_ble_eq_true rfl) (Nat.le_of_ble_eq_true rfl) (Nat.le_of_ble_eq_true rfl) (Nat.le_of_ble_eq_true rfl) rfl rfl fun x44 => ?_
      refine r_ifeqB (i := 25) (tgt := 69) rfl rfl rfl ?_ ?_
      · refine r_iinc (i := 36) (1 : Int32) kc_iconst_1 rfl rfl rfl (Nat.le_of_ble_eq_true rfl) ?_
        refine r_goto (i := 37) (tgt := 29) rfl rfl rfl ?_
        exact r_lv (fw_sub1 rfl (fw_sub1 rfl (fw_sub1 rfl (fw_sub1 rfl (fw_sub1 rfl (fw_sub1 rfl fw_sub0)))))) (ih a29_4 (a29_5 + (1 : Int32)) g29)
      · refine r_aload_n (i := 26) rfl rfl rfl ?_
        refine r_gR (i := 27) (ci := 9) (kf := 7) rfl (Nat.le_of_ble_eq_true rfl) wF_Walk_18 rfl rfl fun x51 => ?_
        refine r_iload_n (i := 28) rfl rfl rfl ?_
        refine r_bipush (i := 29) (12 : Int32) kc_bipush_12 rfl rfl ?_
        refine r_imul (i := 30) rfl rfl ?_
        refine r_iload (i := 31) rfl rfl rfl ?_
        refine r_iadd (i := 32) rfl rfl ?_
        refine r_iload (i := 33) rfl rfl rfl ?_
        refine r_SV3 (i := 34) (k2 := 0) (n2 := 0) ok_Rows_put wM_Walk_101 (c_Rows_put) (Nat.le_of_ble_eq_true rfl) (Nat.le_of_ble_eq_true rfl) (Nat.le_of_ble_eq_true rfl) (Nat.le_of_ble_eq_true rfl) rfl rfl fun h63 => ?_
        refine r_iinc (i := 35) (1 : Int32) kc_iconst_1 rfl rfl rfl (Nat.le_of_ble_eq_true rfl) ?_
        refine r_iinc (i := 36) (1 : Int32) kc_iconst_1 rfl rfl rfl (Nat.le_of_ble_eq_true rfl) ?_
        refine r_goto (i := 37) (tgt := 29) rfl rfl rfl ?_
        exact r_lv (fw_sub1 rfl (fw_sub1 rfl (fw_sub1 rfl (fw_sub1 rfl (fw_sub1 rfl (fw_sub1 rfl fw_sub0)))))) (ih (a29_4 + (1 : Int32)) (a29_5 + (1 : Int32)) h63)
def l_Walk_openDoors_2 (F : Nat) (v0 : Option Nat) (v1 : Int32) : Nat → Int32 → fw_H → Option fw_H
  | 0, _, _ => none
  | nn + 1, a2_2, g2 =>
    (f_gR g2 v0 9 0).bind fun x4 =>
    (f_gI g2 x4 7 0).bind fun x7 =>
    if x7 ≤ a2_2 then (some g2) else
    (f_gR g2 v0 9 0).bind fun x14 =>
    (s_Vil_watchers F g2 x14 a2_2 v1).bind fun x19 =>
    l_Walk_openDoors_29 v0 a2_2 x19 (fun e75_4 he75 =>
    (f_gR he75 v0 9 8).bind fun x76 =>
    (s_Rows_put he75 x76 a2_2 e75_4).bind fun h82 =>
    l_Walk_openDoors_2 F v0 v1 nn (a2_2 + (1 : Int32)) h82) F (0 : Int32) (0 : Int32) g2
theorem cl_Walk_openDoors_2 {G : fw_G} {F : Nat} {v0 : Option Nat} {v1 : Int32} : ∀ (nn : Nat) (a2_2 : Int32) (g2 : fw_H), fw_R G m_Walk_openDoors fw_eV 3 0 0 2 [(0, some (fw_r v0)), (1, some (fw_i v1)), (2, some (fw_i a2_2))] [] g2 (l_Walk_openDoors_2 F v0 v1 nn a2_2 g2) := by
  intro nn
  induction nn with
  | zero => intros; exact r_none
  | succ nn ih =>
    intro a2_2 g2
    rw [l_Walk_openDoors_2]
    refine r_iload_n (i := 2) rfl rfl rfl ?_
    refine r_aload_n (i := 3) rfl rfl rfl ?_
    refine r_gR (i := 4) (ci := 9) (kf := 0) rfl (Nat.le_of_ble_eq_true rfl) wF_Walk_14 rfl rfl fun x4 => ?_
    refine r_gI (i := 5) (ci := 7) (kf := 0) rfl (Nat.le_of_ble_eq_true rfl) wF_Walk_57 rfl rfl fun x7 => ?_
    refine r_icmp_ge (i := 6) (tgt := 91) rfl rfl rfl ?_ ?_
    · exact r_retV (i := 45) rfl rfl rfl rfl
    · refine r_aload_n (i := 7) rfl rfl rfl ?_
      refine r_gR (i := 8) (ci := 9) (kf := 0) rfl (Nat.le_of_ble_eq_true rfl) wF_Walk_14 rfl rfl fun x14 => ?_
      refine r_iload_n (i := 9) rfl rfl rfl ?_
      refine r_iload_n (i := 10) rfl rfl rfl ?_
      refine r_VI2 (i := 11) (k2 := 0) (n2 := 0) ok_Vil_watchers wM_Walk_91 (c_Vil_watchers F) (fun _ e => fw_ckb e) (Nat.le_of_ble_eq_true rfl) (Nat.le_of_ble_eq_true rfl) (Nat.le_of_ble_eq_true rfl) (Nat.le_of_ble_eq_true rfl) rfl rfl fun x19 => ?_
      refine r_istore_n (i := 12) rfl rfl (Nat.le_of_ble_eq_true rfl) rfl ?_
      refine r_iconst (i := 13) (0 : Int32) kc_iconst_0 rfl rfl ?_
      refine r_istore (i := 14) rfl rfl (Nat.le_of_ble_eq_true rfl) rfl ?_
      refine r_iconst (i := 15) (0 : Int32) kc_iconst_0 rfl rfl ?_
      refine r_istore (i := 16) rfl rfl (Nat.le_of_ble_eq_true rfl) rfl ?_
      refine r_lv (fw_sub1 rfl (fw_sub1 rfl (fw_sub1 rfl (fw_sub1 rfl (fw_sub1 rfl (fw_sub1 rfl fw_sub0)))))) (cl_Walk_openDoors_29 ?_ F _ _ _)
      · intro e75_4 he75
        refine r_aload_n (i := 38) rfl rfl rfl ?_
        refine r_gR (i := 39) (ci := 9) (kf := 8) rfl (Nat.le_of_ble_eq_true rfl) wF_Walk_22 rfl rfl fun x76 => ?_
        refine r_iload_n (i := 40) rfl rfl rfl ?_
        refine r_iload (i := 41) rfl rfl rfl ?_
        refine r_SV3 (i := 42) (k2 := 0) (n2 := 0) ok_Rows_put wM_Walk_101 (c_Rows_put) (Nat.le_of_ble_eq_true rfl) (Nat.le_of_ble_eq_true rfl) (Nat.le_of_ble_eq_true rfl) (Nat.le_of_ble_eq_true rfl) rfl rfl fun h82 => ?_
        refine r_iinc (i := 43) (1 : Int32) kc_iconst_1 rfl rfl rfl (Nat.le_of_ble_eq_true rfl) ?_
        refine r_goto (i := 44) (tgt := 2) rfl rfl rfl ?_
        exact r_lv (fw_sub1 rfl (fw_sub1 rfl (fw_sub1 rfl fw_sub0))) (ih (a2_2 + (1 : Int32)) h82)
def s_Walk_openDoors (F : Nat) (h : fw_H) (v0 : Option Nat) (v1 : Int32) : Option fw_H :=
(f_ck h v0 9).bind fun _ =>
l_Walk_openDoors_2 F v0 v1 F (0 : Int32) h
theorem c_Walk_openDoors {G : fw_G} (F : Nat) {h : fw_H} {v0 : Option Nat} {v1 : Int32} : fw_Call G m_Walk_openDoors fw_eV 3 0 0 [fw_r v0, fw_i v1] h (s_Walk_openDoors F h v0 v1) := by
  refine fw_Call.of ok_Walk_openDoors.1 (Nat.le_of_ble_eq_true rfl) [(0, some (fw_r v0)), (1, some (fw_i v1))] rfl ?_
  refine r_ck ?_
  refine r_iconst (i := 0) (0 : Int32) kc_iconst_0 rfl rfl ?_
  refine r_istore_n (i := 1) rfl rfl (Nat.le_of_ble_eq_true rfl) rfl ?_
  refine r_lv (fw_sub1 rfl (fw_sub1 rfl (fw_sub1 rfl fw_sub0))) (cl_Walk_openDoors_2 F _ _)
-- Walk_start
def l_Walk_start_37 (F : Nat) (v0 : Option Nat) (K59 : fw_H → Option fw_H) : Nat → Int32 → fw_H → Option fw_H
  | 0, _, _ => none
  | nn + 1, a37_3, g37 =>
    (f_gR g37 v0 9 0).bind fun x39 =>
    (f_gI g37 x39 7 0).bind fun x42 =>
    if x42 ≤ a37_3 then (K59 g37) else
    (s_Walk_reckonWishes F g37 v0 a37_3).bind fun h50 =>
    l_Walk_start_37 F v0 K59 nn (a37_3 + (1 : Int32)) h50
theorem cl_Walk_start_37 {G : fw_G} {F : Nat} {v0 : Option Nat} {K59 : fw_H → Option fw_H} (hK59 : ∀ (he59 : fw_H), fw_R G m_Walk_start fw_eV 4 0 0 59 [(0, some (fw_r v0))] [] he59 (K59 he59)) : ∀ (nn : Nat) (a37_3 : Int32) (g37 : fw_H), fw_R G m_Walk_start fw_eV 4 0 0 37 [(0, some (fw_r v0)), (3, some (fw_i a37_3))] [] g37 (l_Walk_start_37 F v0 K59 nn a37_3 g37) := by
  intro nn
  induction nn with
  | zero => intros; exact r_none
  | succ nn ih =>
    intro a37_3 g37
    rw [l_Walk_start_37]
    refine r_iload_n (i := 19) rfl rfl rfl ?_
    refine r_aload_n (i := 20) rfl rfl rfl ?_
    refine r_gR (i := 21) (ci := 9) (kf := 0) rfl (Nat.le_of_ble_eq_true rfl) wF_Walk_14 rfl rfl fun x39 => ?_
    refine r_gI (i := 22) (ci := 7) (kf := 0) rfl (Nat.le_of_ble_eq_true rfl) wF_Walk_57 rfl rfl fun x42 => ?_
    refine r_icmp_ge (i := 23) (tgt := 59) rfl rfl rfl ?_ ?_
    · exact r_lv (fw_sub1 rfl fw_sub0) (hK59 g37)
    · refine r_aload_n (i := 24) rfl rfl rfl ?_
      refine r_iload_n (i := 25) rfl rfl rfl ?_
      refine r_VV1 (i := 26) (k2 := 0) (n2 := 0) ok_Walk_reckonWishes wM_Walk_60 (c_Walk_reckonWishes F) (fun _ e => fw_ckb e) (Nat.le_of_ble_eq_true rfl) (Nat.le_of_ble_eq_true rfl) (Nat.le_of_ble_eq_true rfl) (Nat.le_of_ble_eq_true rfl) rfl rfl fun h50 => ?_
      refine r_iinc (i := 27) (1 : Int32) kc_iconst_1 rfl rfl rfl (Nat.le_of_ble_eq_true rfl) ?_
      refine r_goto (i := 28) (tgt := 37) rfl rfl rfl ?_
      exact r_lv (fw_sub1 rfl (fw_sub1 rfl fw_sub0)) (ih (a37_3 + (1 : Int32)) h50)
def s_Walk_start (F : Nat) (h : fw_H) (v0 : Option Nat) (v1 : Option Nat) (v2 : Option Nat) : Option fw_H :=
(f_ck h v0 9).bind fun _ =>
(f_gR h v0 9 0).bind fun x1 =>
(s_Vil_take F h x1 v1).bind fun h5 =>
(f_pR h5 v0 9 1 v2).bind fun h10 =>
(f_gR h10 v0 9 0).bind fun x15 =>
(f_gI h10 x15 7 7).bind fun x18 =>
(f_pI h10 v0 9 5 x18).bind fun h21 =>
(f_gR h21 v0 9 0).bind fun x26 =>
(s_Vil_all h21 x26).bind fun x29 =>
(f_pI h21 v0 9 6 x29).bind fun h32 =>
l_Walk_start_37 F v0 (fun he59 =>
(f_gR he59 v0 9 0).bind fun x61 =>
(f_gI he59 x61 7 6).bind fun x64 =>
(s_Walk_openDoors F he59 v0 x64).bind fun h67 =>
(s_Walk_restart h67 v0).bind fun h71 =>
some h71) F (0 : Int32) h32
theorem c_Walk_start {G : fw_G} (F : Nat) {h : fw_H} {v0 : Option Nat} {v1 : Option Nat} {v2 : Option Nat} : fw_Call G m_Walk_start fw_eV 4 0 0 [fw_r v0, fw_r v1, fw_r v2] h (s_Walk_start F h v0 v1 v2) := by
  refine fw_Call.of ok_Walk_start.1 (Nat.le_of_ble_eq_true rfl) [(0, some (fw_r v0)), (1, some (fw_r v1)), (2, some (fw_r v2))] rfl ?_
  refine r_ck ?_
  refine r_aload_n (i := 0) rfl rfl rfl ?_
  refine r_gR (i := 1) (ci := 9) (kf := 0) rfl (Nat.le_of_ble_eq_true rfl) wF_Walk_14 rfl rfl fun x1 => ?_
  refine r_aload_n (i := 2) rfl rfl rfl ?_
  refine r_VV1 (i := 3) (k2 := 0) (n2 := 0) ok_Vil_take wM_Walk_38 (c_Vil_take F) (fun _ e => fw_ckb e) (Nat.le_of_ble_eq_true rfl) (Nat.le_of_ble_eq_true rfl) (Nat.le_of_ble_eq_true rfl) (Nat.le_of_ble_eq_true rfl) rfl rfl fun h5 => ?_
  refine r_aload_n (i := 4) rfl rfl rfl ?_
  refine r_aload_n (i := 5) rfl rfl rfl ?_
  refine r_pR (i := 6) (ci := 9) (kf := 1) rfl (Nat.le_of_ble_eq_true rfl) wF_Walk_42 rfl ⟨_, (tyX9_ok 1 (Nat.le_of_ble_eq_true rfl)), Or.inl ⟨_, rfl⟩⟩ rfl rfl fun h10 => ?_
  refine r_aload_n (i := 7) rfl rfl rfl ?_
  refine r_aload_n (i := 8) rfl rfl rfl ?_
  refine r_gR (i := 9) (ci := 9) (kf := 0) rfl (Nat.le_of_ble_eq_true rfl) wF_Walk_14 rfl rfl fun x15 => ?_
  refine r_gI (i := 10) (ci := 7) (kf := 7) rfl (Nat.le_of_ble_eq_true rfl) wF_Walk_46 rfl rfl fun x18 => ?_
  refine r_pI (i := 11) (ci := 9) (kf := 5) rfl (Nat.le_of_ble_eq_true rfl) wF_Walk_49 rfl (tyX9_ok 5 (Nat.le_of_ble_eq_true rfl)) rfl rfl fun h21 => ?_
  refine r_aload_n (i := 12) rfl rfl rfl ?_
  refine r_aload_n (i := 13) rfl rfl rfl ?_
  refine r_gR (i := 14) (ci := 9) (kf := 0) rfl (Nat.le_of_ble_eq_true rfl) wF_Walk_14 rfl rfl fun x26 => ?_
  refine r_VI0 (i := 15) (k2 := 0) (n2 := 0) ok_Vil_all wM_Walk_50 (c_Vil_all) (fun _ e => fw_ckb e) (Nat.le_of_ble_eq_true rfl) (Nat.le_of_ble_eq_true rfl) (Nat.le_of_ble_eq_true rfl) (Nat.le_of_ble_eq_true rfl) rfl rfl fun x29 => ?_
  refine r_pI (i := 16) (ci := 9) (kf := 6) rfl (Nat.le_of_ble_eq_true rfl) wF_Walk_54 rfl (tyX9_ok 6 (Nat.le_of_ble_eq_true rfl)) rfl rfl fun h32 => ?_
  refine r_iconst (i := 17) (0 : Int32) kc_iconst_0 rfl rfl ?_
  refine r_istore_n (i := 18) rfl rfl (Nat.le_of_ble_eq_true rfl) rfl ?_
  refine r_lv (fw_sub1 rfl (fw_sub1 rfl fw_sub0)) (cl_Walk_start_37 ?_ F _ _)
  · intro he59
    refine r_aload_n (i := 29) rfl rfl rfl ?_
    refine r_aload_n (i := 30) rfl rfl rfl ?_
    refine r_gR (i := 31) (ci := 9) (kf := 0) rfl (Nat.le_of_ble_eq_true rfl) wF_Walk_14 rfl rfl fun x61 => ?_
    refine r_gI (i := 32) (ci := 7) (kf := 6) rfl (Nat.le_of_ble_eq_true rfl) wF_Walk_64 rfl rfl fun x64 => ?_
    refine r_VV1 (i := 33) (k2 := 0) (n2 := 0) ok_Walk_openDoors wM_Walk_67 (c_Walk_openDoors F) (fun _ e => fw_ckb e) (Nat.le_of_ble_eq_true rfl) (Nat.le_of_ble_eq_true rfl) (Nat.le_of_ble_eq_true rfl) (Nat.le_of_ble_eq_true rfl) rfl rfl fun h67 => ?_
    refine r_aload_n (i := 34) rfl rfl rfl ?_
    refine r_VV0 (i := 35) (k2 := 0) (n2 := 0) ok_Walk_restart wM_Walk_70 (c_Walk_restart) (fun _ e => fw_ckb e) (Nat.le_of_ble_eq_true rfl) (Nat.le_of_ble_eq_true rfl) (Nat.le_of_ble_eq_true rfl) (Nat.le_of_ble_eq_true rfl) rfl rfl fun h71 => ?_
    exact r_retV (i := 36) rfl rfl rfl rfl
-- Walk_stay
def s_Walk_stay (h : fw_H) (v0 : Option Nat) : Option fw_H :=
(f_ck h v0 9).bind fun _ =>
(f_gI h v0 9 4).bind fun x2 =>
(f_irem (x2 + (1 : Int32)) (24 : Int32)).bind fun x9 =>
(f_pI h v0 9 4 x9).bind fun h10 =>
some h10
theorem c_Walk_stay {G : fw_G} {h : fw_H} {v0 : Option Nat} : fw_Call G m_Walk_stay fw_eV 0 0 0 [fw_r v0] h (s_Walk_stay h v0) := by
  refine fw_Call.of ok_Walk_stay.1 (Nat.le_of_ble_eq_true rfl) [(0, some (fw_r v0))] rfl ?_
  refine r_ck ?_
  refine r_aload_n (i := 0) rfl rfl rfl ?_
  refine r_aload_n (i := 1) rfl rfl rfl ?_
  refine r_gI (i := 2) (ci := 9) (kf := 4) rfl (Nat.le_of_ble_eq_true rfl) wF_Walk_88 rfl rfl fun x2 => ?_
  refine r_iconst (i := 3) (1 : Int32) kc_iconst_1 rfl rfl ?_
  refine r_iadd (i := 4) rfl rfl ?_
  refine r_bipush (i := 5) (24 : Int32) kc_bipush_24 rfl rfl ?_
  refine r_iremN (i := 6) rfl rfl fun x9 => ?_
  refine r_pI (i := 7) (ci := 9) (kf := 4) rfl (Nat.le_of_ble_eq_true rfl) wF_Walk_88 rfl (tyX9_ok 4 (Nat.le_of_ble_eq_true rfl)) rfl rfl fun h10 => ?_
  exact r_retV (i := 8) rfl rfl rfl rfl
-- Walk_hours
def l_Walk_hours_2 (F : Nat) (v0 : Option Nat) (v1 : Int32) : Nat → Int32 → fw_H → Option fw_H
  | 0, _, _ => none
  | nn + 1, a2_2, g2 =>
    if v1 ≤ a2_2 then (some g2) else
    (s_Walk_hour F g2 v0).bind fun h8 =>
    l_Walk_hours_2 F v0 v1 nn (a2_2 + (1 : Int32)) h8
theorem cl_Walk_hours_2 {G : fw_G} {F : Nat} {v0 : Option Nat} {v1 : Int32} : ∀ (nn : Nat) (a2_2 : Int32) (g2 : fw_H), fw_R G m_Walk_hours fw_eV 4 0 0 2 [(0, some (fw_r v0)), (1, some (fw_i v1)), (2, some (fw_i a2_2))] [] g2 (l_Walk_hours_2 F v0 v1 nn a2_2 g2) := by
  intro nn
  induction nn with
  | zero => intros; exact r_none
  | succ nn ih =>
    intro a2_2 g2
    rw [l_Walk_hours_2]
    refine r_iload_n (i := 2) rfl rfl rfl ?_
    refine r_iload_n (i := 3) rfl rfl rfl ?_
    refine r_icmp_ge (i := 4) (tgt := 17) rfl rfl rfl ?_ ?_
    · exact r_retV (i := 9) rfl rfl rfl rfl
    · refine r_aload_n (i := 5) rfl rfl rfl ?_
      refine r_VV0 (i := 6) (k2 := 0) (n2 := 0) ok_Walk_hour wM_Walk_116 (c_Walk_hour F) (fun _ e => fw_ckb e) (Nat.le_of_ble_eq_true rfl) (Nat.le_of_ble_eq_true rfl) (Nat.le_of_ble_eq_true rfl) (Nat.le_of_ble_eq_true rfl) rfl rfl fun h8 => ?_
      refine r_iinc (i := 7) (1 : Int32) kc_iconst_1 rfl rfl rfl (Nat.le_of_ble_eq_true rfl) ?_
      refine r_goto (i := 8) (tgt := 2) rfl rfl rfl ?_
      exact r_lv (fw_sub1 rfl (fw_sub1 rfl (fw_sub1 rfl fw_sub0))) (ih (a2_2 + (1 : Int32)) h8)
def s_Walk_hours (F : Nat) (h : fw_H) (v0 : Option Nat) (v1 : Int32) : Option fw_H :=
(f_ck h v0 9).bind fun _ =>
l_Walk_hours_2 F v0 v1 F (0 : Int32) h
theorem c_Walk_hours {G : fw_G} (F : Nat) {h : fw_H} {v0 : Option Nat} {v1 : Int32} : fw_Call G m_Walk_hours fw_eV 4 0 0 [fw_r v0, fw_i v1] h (s_Walk_hours F h v0 v1) := by
  refine fw_Call.of ok_Walk_hours.1 (Nat.le_of_ble_eq_true rfl) [(0, some (fw_r v0)), (1, some (fw_i v1))] rfl ?_
  refine r_ck ?_
  refine r_iconst (i := 0) (0 : Int32) kc_iconst_0 rfl rfl ?_
  refine r_istore_n (i := 1) rfl rfl (Nat.le_of_ble_eq_true rfl) rfl ?_
  refine r_lv (fw_sub1 rfl (fw_sub1 rfl (fw_sub1 rfl fw_sub0))) (cl_Walk_hours_2 F _ _)
-- Walk_want
def s_Walk_want (F : Nat) (h : fw_H) (v0 : Option Nat) (v1 : Int32) (v2 : Int32) : Option fw_H :=
(f_ck h v0 9).bind fun _ =>
(f_gR h v0 9 0).bind fun x1 =>
(s_Vil_want h x1 v1 v2).bind fun h6 =>
(s_Walk_reckonWishes F h6 v0 v1).bind fun h11 =>
some h11
theorem c_Walk_want {G : fw_G} (F : Nat) {h : fw_H} {v0 : Option Nat} {v1 : Int32} {v2 : Int32} : fw_Call G m_Walk_want fw_eV 4 0 0 [fw_r v0, fw_i v1, fw_i v2] h (s_Walk_want F h v0 v1 v2) := by
  refine fw_Call.of ok_Walk_want.1 (Nat.le_of_ble_eq_true rfl) [(0, some (fw_r v0)), (1, some (fw_i v1)), (2, some (fw_i v2))] rfl ?_
  refine r_ck ?_
  refine r_aload_n (i := 0) rfl rfl rfl ?_
  refine r_gR (i := 1) (ci := 9) (kf := 0) rfl (Nat.le_of_ble_eq_true rfl) wF_Walk_14 rfl rfl fun x1 => ?_
  refine r_iload_n (i := 2) rfl rfl rfl ?_
  refine r_iload_n (i := 3) rfl rfl rfl ?_
  refine r_VV2 (i := 4) (k2 := 0) (n2 := 0) ok_Vil_want wM_Walk_154 (c_Vil_want) (fun _ e => fw_ckb e) (Nat.le_of_ble_eq_true rfl) (Nat.le_of_ble_eq_true rfl) (Nat.le_of_ble_eq_true rfl) (Nat.le_of_ble_eq_true rfl) rfl rfl fun h6 => ?_
  refine r_aload_n (i := 5) rfl rfl rfl ?_
  refine r_iload_n (i := 6) rfl rfl rfl ?_
  refine r_VV1 (i := 7) (k2 := 0) (n2 := 0) ok_Walk_reckonWishes wM_Walk_60 (c_Walk_reckonWishes F) (fun _ e => fw_ckb e) (Nat.le_of_ble_eq_true rfl) (Nat.le_of_ble_eq_true rfl) (Nat.le_of_ble_eq_true rfl) (Nat.le_of_ble_eq_true rfl) rfl rfl fun h11 => ?_
  exact r_retV (i := 8) rfl rfl rfl rfl
-- Walk_beginTrail
def s_Walk_beginTrail (F : Nat) (h : fw_H) (v0 : Option Nat) : Option fw_H :=
(f_ck h v0 9).bind fun _ =>
(f_gI h v0 9 12).bind fun x1 =>
if x1 ≤ (2000000000 : Int32) then ((f_gI h v0 9 12).bind fun x27 =>
(f_pI h v0 9 12 (x27 + (3745 : Int32))).bind fun h34 =>
some h34) else
(f_gR h v0 9 11).bind fun x10 =>
(s_Jdk_fillI F h x10 (0 : Int32)).bind fun h14 =>
(f_pI h14 v0 9 12 (1 : Int32)).bind fun h19 =>
some h19
theorem c_Walk_beginTrail {G : fw_G} (F : Nat) {h : fw_H} {v0 : Option Nat} : fw_Call G m_Walk_beginTrail fw_eV 1 0 0 [fw_r v0] h (s_Walk_beginTrail F h v0) := by
  refine fw_Call.of ok_Walk_beginTrail.1 (Nat.le_of_ble_eq_true rfl) [(0, some (fw_r v0))] rfl ?_
  refine r_ck ?_
  refine r_aload_n (i := 0) rfl rfl rfl ?_
  refine r_gI (i := 1) (ci := 9) (kf := 12) rfl (Nat.le_of_ble_eq_true rfl) wF_Walk_34 rfl rfl fun x1 => ?_
  refine r_ldc (i := 2) wK_Walk_158 rfl rfl ?_
  refine r_icmp_le (i := 3) (tgt := 25) rfl rfl rfl ?_ ?_
  · refine r_aload_n (i := 12) rfl rfl rfl ?_
    refine r_dup_r (i := 13) rfl rfl ?_
    refine r_gI (i := 14) (ci := 9) (kf := 12) rfl (Nat.le_of_ble_eq_true rfl) wF_Walk_34 rfl rfl fun x27 => ?_
    refine r_sipush (i := 15) (3745 : Int32) kc_sipush_3745 rfl rfl ?_
    refine r_iadd (i := 16) rfl rfl ?_
    refine r_pI (i := 17) (ci := 9) (kf := 12) rfl (Nat.le_of_ble_eq_true rfl) wF_Walk_34 rfl (tyX9_ok 12 (Nat.le_of_ble_eq_true rfl)) rfl rfl fun h34 => ?_
    exact r_retV (i := 18) rfl rfl rfl rfl
  · refine r_aload_n (i := 4) rfl rfl rfl ?_
    refine r_gR (i := 5) (ci := 9) (kf := 11) rfl (Nat.le_of_ble_eq_true rfl) wF_Walk_31 rfl rfl fun x10 => ?_
    refine r_iconst (i := 6) (0 : Int32) kc_iconst_0 rfl rfl ?_
    refine r_SV2 (i := 7) (k2 := 0) (n2 := 0) ok_Jdk_fillI wM_Walk_159 (c_Jdk_fillI F) (Nat.le_of_ble_eq_true rfl) (Nat.le_of_ble_eq_true rfl) (Nat.le_of_ble_eq_true rfl) (Nat.le_of_ble_eq_true rfl) rfl rfl fun h14 => ?_
    refine r_aload_n (i := 8) rfl rfl rfl ?_
    refine r_iconst (i := 9) (1 : Int32) kc_iconst_1 rfl rfl ?_
    refine r_pI (i := 10) (ci := 9) (kf := 12) rfl (Nat.le_of_ble_eq_true rfl) wF_Walk_34 rfl (tyX9_ok 12 (Nat.le_of_ble_eq_true rfl)) rfl rfl fun h19 => ?_
    refine r_goto (i := 11) (tgt := 37) rfl rfl rfl ?_
    exact r_retV (i := 18) rfl rfl rfl rfl
-- Walk_markTrail
def s_Walk_markTrail (h : fw_H) (v0 : Option Nat) (v1 : Int32) : Option (Int32 × fw_H) :=
(f_ck h v0 9).bind fun _ =>
(s_Walk_placeNow h v0).bind fun x1 =>
(f_gI h v0 9 4).bind fun x8 =>
(f_gR h v0 9 11).bind fun x14 =>
(s_Rows_get h x14 ((x1 * (24 : Int32)) + x8)).bind fun x18 =>
(f_gI h v0 9 12).bind fun x22 =>
if (x18 - x22) < (0 : Int32) then ((f_gR h v0 9 11).bind fun x34 =>
(f_gI h v0 9 12).bind fun x39 =>
(s_Rows_put h x34 ((x1 * (24 : Int32)) + x8) (x39 + v1)).bind fun h44 =>
some ((-1 : Int32), h44)) else
some ((x18 - x22), h)
theorem c_Walk_markTrail {G : fw_G} {h : fw_H} {v0 : Option Nat} {v1 : Int32} : fw_Call G m_Walk_markTrail fw_wI 1 0 0 [fw_r v0, fw_i v1] h (s_Walk_markTrail h v0 v1) := by
  refine fw_Call.of ok_Walk_markTrail.1 (Nat.le_of_ble_eq_true rfl) [(0, some (fw_r v0)), (1, some (fw_i v1))] rfl ?_
  refine r_ck ?_
  refine r_aload_n (i := 0) rfl rfl rfl ?_
  refine r_VI0 (i := 1) (k2 := 0) (n2 := 0) ok_Walk_placeNow wM_Walk_165 (c_Walk_placeNow) (fun _ e => fw_ckb e) (Nat.le_of_ble_eq_true rfl) (Nat.le_of_ble_eq_true rfl) (Nat.le_of_ble_eq_true rfl) (Nat.le_of_ble_eq_true rfl) rfl rfl fun x1 => ?_
  refine r_bipush (i := 2) (24 : Int32) kc_bipush_24 rfl rfl ?_
  refine r_imul (i := 3) rfl rfl ?_
  refine r_aload_n (i := 4) rfl rfl rfl ?_
  refine r_gI (i := 5) (ci := 9) (kf := 4) rfl (Nat.le_of_ble_eq_true rfl) wF_Walk_88 rfl rfl fun x8 => ?_
  refine r_iadd (i := 6) rfl rfl ?_
  refine r_istore_n (i := 7) rfl rfl (Nat.le_of_ble_eq_true rfl) rfl ?_
  refine r_aload_n (i := 8) rfl rfl rfl ?_
  refine r_gR (i := 9) (ci := 9) (kf := 11) rfl (Nat.le_of_ble_eq_true rfl) wF_Walk_31 rfl rfl fun x14 => ?_
  refine r_iload_n (i := 10) rfl rfl rfl ?_
  refine r_SI2 (i := 11) (k2 := 0) (n2 := 0) ok_Rows_get wM_Walk_105 (c_Rows_get) (Nat.le_of_ble_eq_true rfl) (Nat.le_of_ble_eq_true rfl) (Nat.le_of_ble_eq_true rfl) (Nat.le_of_ble_eq_true rfl) rfl rfl fun x18 => ?_
  refine r_aload_n (i := 12) rfl rfl rfl ?_
  refine r_gI (i := 13) (ci := 9) (kf := 12) rfl (Nat.le_of_ble_eq_true rfl) wF_Walk_34 rfl rfl fun x22 => ?_
  refine r_isub (i := 14) rfl rfl ?_
  refine r_istore_n (i := 15) rfl rfl (Nat.le_of_ble_eq_true rfl) rfl ?_
  refine r_iload_n (i := 16) rfl rfl rfl ?_
  refine r_if_lt (i := 17) (tgt := 33) rfl rfl rfl ?_ ?_
  · refine r_aload_n (i := 20) rfl rfl rfl ?_
    refine r_gR (i := 21) (ci := 9) (kf := 11) rfl (Nat.le_of_ble_eq_true rfl) wF_Walk_31 rfl rfl fun x34 => ?_
    refine r_iload_n (i := 22) rfl rfl rfl ?_
    refine r_aload_n (i := 23) rfl rfl rfl ?_
    refine r_gI (i := 24) (ci := 9) (kf := 12) rfl (Nat.le_of_ble_eq_true rfl) wF_Walk_34 rfl rfl fun x39 => ?_
    refine r_iload_n (i := 25) rfl rfl rfl ?_
    refine r_iadd (i := 26) rfl rfl ?_
    refine r_SV3 (i := 27) (k2 := 0) (n2 := 0) ok_Rows_put wM_Walk_101 (c_Rows_put) (Nat.le_of_ble_eq_true rfl) (Nat.le_of_ble_eq_true rfl) (Nat.le_of_ble_eq_true rfl) (Nat.le_of_ble_eq_true rfl) rfl rfl fun h44 => ?_
    refine r_iconst (i := 28) (-1 : Int32) kc_iconst_m1 rfl rfl ?_
    exact r_retI (i := 29) rfl rfl rfl rfl
  · refine r_iload_n (i := 18) rfl rfl rfl ?_
    exact r_retI (i := 19) rfl rfl rfl rfl
-- Walk_hoursTo
def l_Walk_hoursTo_6 (F : Nat) (v0 : Option Nat) (v1 : Int32) : Nat → Int32 → fw_H → Option (Int32 × fw_H)
  | 0, _, _ => none
  | nn + 1, a6_2, g6 =>
    if (3744 : Int32) < a6_2 then (some ((-1 : Int32), g6)) else
    (f_gI g6 v0 9 2).bind fun x14 =>
    if ¬ x14 = v1 then ((s_Walk_markTrail g6 v0 a6_2).bind fun x25 =>
    if x25.1 = (-1 : Int32) then ((s_Walk_hour F x25.2 v0).bind fun h35 =>
    l_Walk_hoursTo_6 F v0 v1 nn (a6_2 + (1 : Int32)) h35) else
    some ((-1 : Int32), x25.2)) else
    some (a6_2, g6)
theorem cl_Walk_hoursTo_6 {G : fw_G} {F : Nat} {v0 : Option Nat} {v1 : Int32} : ∀ (nn : Nat) (a6_2 : Int32) (g6 : fw_H), fw_R G m_Walk_hoursTo fw_wI 4 0 0 6 [(0, some (fw_r v0)), (1, some (fw_i v1)), (2, some (fw_i a6_2))] [] g6 (l_Walk_hoursTo_6 F v0 v1 nn a6_2 g6) := by
  intro nn
  induction nn with
  | zero => intros; exact r_none
  | succ nn ih =>
    intro a6_2 g6
    rw [l_Walk_hoursTo_6]
    refine r_iload_n (i := 4) rfl rfl rfl ?_
    refine r_sipush (i := 5) (3744 : Int32) kc_sipush_3744 rfl rfl ?_
    refine r_icmp_gt (i := 6) (tgt := 44) rfl rfl rfl ?_ ?_
    · refine r_iconst (i := 24) (-1 : Int32) kc_iconst_m1 rfl rfl ?_
      exact r_retI (i := 25) rfl rfl rfl rfl
    · refine r_aload_n (i := 7) rfl rfl rfl ?_
      refine r_gI (i := 8) (ci := 9) (kf := 2) rfl (Nat.le_of_ble_eq_true rfl) wF_Walk_86 rfl rfl fun x14 => ?_
      refine r_iload_n (i := 9) rfl rfl rfl ?_
      refine r_icmp_ne (i := 10) (tgt := 23) rfl rfl rfl ?_ ?_
      · refine r_aload_n (i := 13) rfl rfl rfl ?_
        refine r_iload_n (i := 14) rfl rfl rfl ?_
        refine r_VwI1 (i := 15) (k2 := 0) (n2 := 0) ok_Walk_markTrail wM_Walk_171 (c_Walk_markTrail) (fun _ e => fw_ckb e) (Nat.le_of_ble_eq_true rfl) (Nat.le_of_ble_eq_true rfl) (Nat.le_of_ble_eq_true rfl) (Nat.le_of_ble_eq_true rfl) rfl rfl fun x25 => ?_
        refine r_iconst (i := 16) (-1 : Int32) kc_iconst_m1 rfl rfl ?_
        refine r_icmp_eq (i := 17) (tgt := 34) rfl rfl rfl ?_ ?_
        · refine r_aload_n (i := 20) rfl rfl rfl ?_
          refine r_VV0 (i := 21) (k2 := 0) (n2 := 0) ok_Walk_hour wM_Walk_116 (c_Walk_hour F) (fun _ e => fw_ckb e) (Nat.le_of_ble_eq_true rfl) (Nat.le_of_ble_eq_true rfl) (Nat.le_of_ble_eq_true rfl) (Nat.le_of_ble_eq_true rfl) rfl rfl fun h35 => ?_
          refine r_iinc (i := 22) (1 : Int32) kc_iconst_1 rfl rfl rfl (Nat.le_of_ble_eq_true rfl) ?_
          refine r_goto (i := 23) (tgt := 6) rfl rfl rfl ?_
          exact r_lv (fw_sub1 rfl (fw_sub1 rfl (fw_sub1 rfl fw_sub0))) (ih (a6_2 + (1 : Int32)) h35)
        · refine r_iconst (i := 18) (-1 : Int32) kc_iconst_m1 rfl rfl ?_
          exact r_retI (i := 19) rfl rfl rfl rfl
      · refine r_iload_n (i := 11) rfl rfl rfl ?_
        exact r_retI (i := 12) rfl rfl rfl rfl
def s_Walk_hoursTo (F : Nat) (h : fw_H) (v0 : Option Nat) (v1 : Int32) : Option (Int32 × fw_H) :=
(f_ck h v0 9).bind fun _ =>
(s_Walk_beginTrail F h v0).bind fun h1 =>
l_Walk_hoursTo_6 F v0 v1 F (0 : Int32) h1
theorem c_Walk_hoursTo {G : fw_G} (F : Nat) {h : fw_H} {v0 : Option Nat} {v1 : Int32} : fw_Call G m_Walk_hoursTo fw_wI 4 0 0 [fw_r v0, fw_i v1] h (s_Walk_hoursTo F h v0 v1) := by
  refine fw_Call.of ok_Walk_hoursTo.1 (Nat.le_of_ble_eq_true rfl) [(0, some (fw_r v0)), (1, some (fw_i v1))] rfl ?_
  refine r_ck ?_
  refine r_aload_n (i := 0) rfl rfl rfl ?_
  refine r_VV0 (i := 1) (k2 := 0) (n2 := 0) ok_Walk_beginTrail wM_Walk_168 (c_Walk_beginTrail F) (fun _ e => fw_ckb e) (Nat.le_of_ble_eq_true rfl) (Nat.le_of_ble_eq_true rfl) (Nat.le_of_ble_eq_true rfl) (Nat.le_of_ble_eq_true rfl) rfl rfl fun h1 => ?_
  refine r_iconst (i := 2) (0 : Int32) kc_iconst_0 rfl rfl ?_
  refine r_istore_n (i := 3) rfl rfl (Nat.le_of_ble_eq_true rfl) rfl ?_
  refine r_lv (fw_sub1 rfl (fw_sub1 rfl (fw_sub1 rfl fw_sub0))) (cl_Walk_hoursTo_6 F _ _)
