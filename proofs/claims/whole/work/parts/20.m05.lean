-- Joy_law
def s_Joy_law (h : fw_H) (v0 : Option Nat) (v1 : Int32) : Option (Bool × fw_H) :=
(f_ck h v0 11).bind fun _ =>
if v1 < (-1 : Int32) then (some (false, h)) else
(f_gI h v0 11 8).bind fun x7 =>
if v1 < x7 then ((f_pI h v0 11 9 v1).bind fun h17 =>
some (true, h17)) else
some (false, h)
theorem c_Joy_law {G : fw_G} {h : fw_H} {v0 : Option Nat} {v1 : Int32} : fw_Call G m_Joy_law fw_wB 0 0 0 [fw_r v0, fw_i v1] h (s_Joy_law h v0 v1) := by
  refine fw_Call.of ok_Joy_law.1 (Nat.le_of_ble_eq_true rfl) [(0, some (fw_r v0)), (1, some (fw_i v1))] rfl ?_
  refine r_ck ?_
  refine r_iload_n (i := 0) rfl rfl rfl ?_
  refine r_iconst (i := 1) (-1 : Int32) kc_iconst_m1 rfl rfl ?_
  refine r_icmp_lt (i := 2) (tgt := 13) rfl rfl rfl ?_ ?_
  · refine r_iconst (i := 7) (0 : Int32) kc_iconst_0 rfl rfl ?_
    exact r_retB (x := false) (i := 8) rfl rfl rfl rfl
  · refine r_iload_n (i := 3) rfl rfl rfl ?_
    refine r_aload_n (i := 4) rfl rfl rfl ?_
    refine r_gI (i := 5) (ci := 11) (kf := 8) rfl (Nat.le_of_ble_eq_true rfl) wF_Joy_117 rfl rfl fun x7 => ?_
    refine r_icmp_lt (i := 6) (tgt := 15) rfl rfl rfl ?_ ?_
    · refine r_aload_n (i := 9) rfl rfl rfl ?_
      refine r_iload_n (i := 10) rfl rfl rfl ?_
      refine r_pI (i := 11) (ci := 11) (kf := 9) rfl (Nat.le_of_ble_eq_true rfl) wF_Joy_53 rfl (tyX11_ok 9 (Nat.le_of_ble_eq_true rfl)) rfl rfl fun h17 => ?_
      refine r_iconst (i := 12) (1 : Int32) kc_iconst_1 rfl rfl ?_
      exact r_retB (x := true) (i := 13) rfl rfl rfl rfl
    · refine r_iconst (i := 7) (0 : Int32) kc_iconst_0 rfl rfl ?_
      exact r_retB (x := false) (i := 8) rfl rfl rfl rfl
-- Joy_lawInForce
def s_Joy_lawInForce (h : fw_H) (v0 : Option Nat) : Option (Option Nat) :=
(f_ck h v0 11).bind fun _ =>
(f_gI h v0 11 9).bind fun x1 =>
if x1 < (0 : Int32) then ((f_gR h v0 11 6).bind fun x20 =>
some x20) else
(f_gI h v0 11 9).bind fun x8 =>
(f_gR h v0 11 7).bind fun x12 =>
(f_lnQ h x12).bind fun x15 =>
if x8 < x15 then ((f_gR h v0 11 7).bind fun x25 =>
(f_gI h v0 11 9).bind fun x29 =>
(f_aQ h x25 x29).bind fun x32 =>
if x32 = none then ((f_gR h v0 11 6).bind fun x39 =>
some x39) else
some x32) else
(f_gR h v0 11 6).bind fun x20 =>
some x20
theorem c_Joy_lawInForce {G : fw_G} {h : fw_H} {v0 : Option Nat} : fw_Call G m_Joy_lawInForce (fw_eR h) 0 0 0 [fw_r v0] h (s_Joy_lawInForce h v0) := by
  refine fw_Call.of ok_Joy_lawInForce.1 (Nat.le_of_ble_eq_true rfl) [(0, some (fw_r v0))] rfl ?_
  refine r_ck ?_
  refine r_aload_n (i := 0) rfl rfl rfl ?_
  refine r_gI (i := 1) (ci := 11) (kf := 9) rfl (Nat.le_of_ble_eq_true rfl) wF_Joy_53 rfl rfl fun x1 => ?_
  refine r_if_lt (i := 2) (tgt := 19) rfl rfl rfl ?_ ?_
  · refine r_aload_n (i := 9) rfl rfl rfl ?_
    refine r_gR (i := 10) (ci := 11) (kf := 6) rfl (Nat.le_of_ble_eq_true rfl) wF_Joy_45 rfl rfl fun x20 => ?_
    exact r_retR (i := 11) rfl rfl rfl rfl
  · refine r_aload_n (i := 3) rfl rfl rfl ?_
    refine r_gI (i := 4) (ci := 11) (kf := 9) rfl (Nat.le_of_ble_eq_true rfl) wF_Joy_53 rfl rfl fun x8 => ?_
    refine r_aload_n (i := 5) rfl rfl rfl ?_
    refine r_gR (i := 6) (ci := 11) (kf := 7) rfl (Nat.le_of_ble_eq_true rfl) wF_Joy_49 rfl rfl fun x12 => ?_
    refine r_lnQ (i := 7) rfl rfl fun x15 => ?_
    refine r_icmp_lt (i := 8) (tgt := 24) rfl rfl rfl ?_ ?_
    · refine r_aload_n (i := 12) rfl rfl rfl ?_
      refine r_gR (i := 13) (ci := 11) (kf := 7) rfl (Nat.le_of_ble_eq_true rfl) wF_Joy_49 rfl rfl fun x25 => ?_
      refine r_aload_n (i := 14) rfl rfl rfl ?_
      refine r_gI (i := 15) (ci := 11) (kf := 9) rfl (Nat.le_of_ble_eq_true rfl) wF_Joy_53 rfl rfl fun x29 => ?_
      refine r_aQ (i := 16) rfl rfl fun x32 => ?_
      refine r_astore_n (i := 17) rfl rfl (Nat.le_of_ble_eq_true rfl) rfl ?_
      refine r_aload_n (i := 18) rfl rfl rfl ?_
      refine r_ifnonnull (i := 19) (tgt := 45) rfl rfl rfl ?_ ?_
      · refine r_aload_n (i := 23) rfl rfl rfl ?_
        exact r_retR (i := 24) rfl rfl rfl rfl
      · refine r_aload_n (i := 20) rfl rfl rfl ?_
        refine r_gR (i := 21) (ci := 11) (kf := 6) rfl (Nat.le_of_ble_eq_true rfl) wF_Joy_45 rfl rfl fun x39 => ?_
        refine r_goto (i := 22) (tgt := 46) rfl rfl rfl ?_
        exact r_retR (i := 24) rfl rfl rfl rfl
    · refine r_aload_n (i := 9) rfl rfl rfl ?_
      refine r_gR (i := 10) (ci := 11) (kf := 6) rfl (Nat.le_of_ble_eq_true rfl) wF_Joy_45 rfl rfl fun x20 => ?_
      exact r_retR (i := 11) rfl rfl rfl rfl
-- Joy_startWalk
def s_Joy_startWalk (F : Nat) (h : fw_H) (v0 : Option Nat) : Option fw_H :=
(f_ck h v0 11).bind fun _ =>
(f_gR h v0 11 12).bind fun x1 =>
(f_gR h v0 11 3).bind fun x5 =>
(s_Joy_lawInForce h v0).bind fun x9 =>
(s_Walk_start F h x1 x5 x9).bind fun h12 =>
some h12
theorem c_Joy_startWalk {G : fw_G} (F : Nat) {h : fw_H} {v0 : Option Nat} : fw_Call G m_Joy_startWalk fw_eV 5 0 0 [fw_r v0] h (s_Joy_startWalk F h v0) := by
  refine fw_Call.of ok_Joy_startWalk.1 (Nat.le_of_ble_eq_true rfl) [(0, some (fw_r v0))] rfl ?_
  refine r_ck ?_
  refine r_aload_n (i := 0) rfl rfl rfl ?_
  refine r_gR (i := 1) (ci := 11) (kf := 12) rfl (Nat.le_of_ble_eq_true rfl) wF_Joy_67 rfl rfl fun x1 => ?_
  refine r_aload_n (i := 2) rfl rfl rfl ?_
  refine r_gR (i := 3) (ci := 11) (kf := 3) rfl (Nat.le_of_ble_eq_true rfl) wF_Joy_35 rfl rfl fun x5 => ?_
  refine r_aload_n (i := 4) rfl rfl rfl ?_
  refine r_VR0 (i := 5) (k2 := 0) (n2 := 0) ok_Joy_lawInForce wM_Joy_189 (c_Joy_lawInForce) (fun _ e => fw_ckb e) (Nat.le_of_ble_eq_true rfl) (Nat.le_of_ble_eq_true rfl) (Nat.le_of_ble_eq_true rfl) (Nat.le_of_ble_eq_true rfl) rfl rfl fun x9 => ?_
  refine r_VV2 (i := 6) (k2 := 0) (n2 := 0) ok_Walk_start wM_Joy_193 (c_Walk_start F) (fun _ e => fw_ckb e) (Nat.le_of_ble_eq_true rfl) (Nat.le_of_ble_eq_true rfl) (Nat.le_of_ble_eq_true rfl) (Nat.le_of_ble_eq_true rfl) rfl rfl fun h12 => ?_
  exact r_retV (i := 7) rfl rfl rfl rfl
-- Joy_wish
def s_Joy_wish (F : Nat) (h : fw_H) (v0 : Option Nat) (v1 : Int32) : Option (Int32 × fw_H) :=
(f_ck h v0 11).bind fun _ =>
(f_gR h v0 11 3).bind fun x1 =>
(s_Vil_hasHouse h x1 v1).bind fun x5 =>
if x5 = true then ((s_Joy_startWalk F h v0).bind fun h15 =>
(f_gR h15 v0 11 12).bind fun x19 =>
(s_Walk_wishOf h15 x19 v1).bind fun x23 =>
some (x23, h15)) else
some ((-1000000 : Int32), h)
theorem c_Joy_wish {G : fw_G} (F : Nat) {h : fw_H} {v0 : Option Nat} {v1 : Int32} : fw_Call G m_Joy_wish fw_wI 6 0 0 [fw_r v0, fw_i v1] h (s_Joy_wish F h v0 v1) := by
  refine fw_Call.of ok_Joy_wish.1 (Nat.le_of_ble_eq_true rfl) [(0, some (fw_r v0)), (1, some (fw_i v1))] rfl ?_
  refine r_ck ?_
  refine r_aload_n (i := 0) rfl rfl rfl ?_
  refine r_gR (i := 1) (ci := 11) (kf := 3) rfl (Nat.le_of_ble_eq_true rfl) wF_Joy_35 rfl rfl fun x1 => ?_
  refine r_iload_n (i := 2) rfl rfl rfl ?_
  refine r_VB1 (i := 3) (k2 := 0) (n2 := 0) ok_Vil_hasHouse wM_Joy_146 (c_Vil_hasHouse) (fun _ e => fw_ckb e) (Nat.le_of_ble_eq_true rfl) (Nat.le_of_ble_eq_true rfl) (Nat.le_of_ble_eq_true rfl) (Nat.le_of_ble_eq_true rfl) rfl rfl fun x5 => ?_
  refine r_ifneB (i := 4) (tgt := 14) rfl rfl rfl ?_ ?_
  · refine r_aload_n (i := 7) rfl rfl rfl ?_
    refine r_VV0 (i := 8) (k2 := 0) (n2 := 0) ok_Joy_startWalk wM_Joy_198 (c_Joy_startWalk F) (fun _ e => fw_ckb e) (Nat.le_of_ble_eq_true rfl) (Nat.le_of_ble_eq_true rfl) (Nat.le_of_ble_eq_true rfl) (Nat.le_of_ble_eq_true rfl) rfl rfl fun h15 => ?_
    refine r_aload_n (i := 9) rfl rfl rfl ?_
    refine r_gR (i := 10) (ci := 11) (kf := 12) rfl (Nat.le_of_ble_eq_true rfl) wF_Joy_67 rfl rfl fun x19 => ?_
    refine r_iload_n (i := 11) rfl rfl rfl ?_
    refine r_VI1 (i := 12) (k2 := 0) (n2 := 0) ok_Walk_wishOf wM_Joy_201 (c_Walk_wishOf) (fun _ e => fw_ckb e) (Nat.le_of_ble_eq_true rfl) (Nat.le_of_ble_eq_true rfl) (Nat.le_of_ble_eq_true rfl) (Nat.le_of_ble_eq_true rfl) rfl rfl fun x23 => ?_
    exact r_retI (i := 13) rfl rfl rfl rfl
  · refine r_ldc (i := 5) wK_Joy_197 rfl rfl ?_
    exact r_retI (i := 6) rfl rfl rfl rfl
-- Joy_turn
def s_Joy_turn (h : fw_H) (v0 : Option Nat) (v1 : Int32) (v2 : Bool) : Option (Bool × fw_H) :=
(f_ck h v0 11).bind fun _ =>
(f_gR h v0 11 3).bind fun x1 =>
(s_Vil_hasHouse h x1 v1).bind fun x5 =>
if x5 = true then ((f_gR h v0 11 3).bind fun x12 =>
(f_gI h x12 7 7).bind fun x15 =>
(s_Rows_has x15 v1).bind fun x19 =>
if ¬ (fw_b x19) = (fw_b v2) then ((f_gR h v0 11 10).bind fun x29 =>
(f_gR h v0 11 3).bind fun x35 =>
(s_Acts_keep h x29 (0 : Int32) v1 x35).bind fun h38 =>
(f_gR h38 v0 11 3).bind fun x42 =>
(f_gI h38 x42 7 7).bind fun x46 =>
(f_pI h38 x42 7 7 (x46 ^^^ ((1 : Int32) <<< (v1 &&& 31)))).bind fun h53 =>
some (true, h53)) else
some (false, h)) else
some (false, h)
theorem c_Joy_turn {G : fw_G} {h : fw_H} {v0 : Option Nat} {v1 : Int32} {v2 : Bool} : fw_Call G m_Joy_turn fw_wB 2 0 0 [fw_r v0, fw_i v1, fw_i (fw_b v2)] h (s_Joy_turn h v0 v1 v2) := by
  refine fw_Call.of ok_Joy_turn.1 (Nat.le_of_ble_eq_true rfl) [(0, some (fw_r v0)), (1, some (fw_i v1)), (2, some (fw_i (fw_b v2)))] rfl ?_
  refine r_ck ?_
  refine r_aload_n (i := 0) rfl rfl rfl ?_
  refine r_gR (i := 1) (ci := 11) (kf := 3) rfl (Nat.le_of_ble_eq_true rfl) wF_Joy_35 rfl rfl fun x1 => ?_
  refine r_iload_n (i := 2) rfl rfl rfl ?_
  refine r_VB1 (i := 3) (k2 := 0) (n2 := 0) ok_Vil_hasHouse wM_Joy_146 (c_Vil_hasHouse) (fun _ e => fw_ckb e) (Nat.le_of_ble_eq_true rfl) (Nat.le_of_ble_eq_true rfl) (Nat.le_of_ble_eq_true rfl) (Nat.le_of_ble_eq_true rfl) rfl rfl fun x5 => ?_
  refine r_ifeqB (i := 4) (tgt := 26) rfl rfl rfl ?_ ?_
  · refine r_iconst (i := 12) (0 : Int32) kc_iconst_0 rfl rfl ?_
    exact r_retB (x := false) (i := 13) rfl rfl rfl rfl
  · refine r_aload_n (i := 5) rfl rfl rfl ?_
    refine r_gR (i := 6) (ci := 11) (kf := 3) rfl (Nat.le_of_ble_eq_true rfl) wF_Joy_35 rfl rfl fun x12 => ?_
    refine r_gI (i := 7) (ci := 7) (kf := 7) rfl (Nat.le_of_ble_eq_true rfl) wF_Joy_156 rfl rfl fun x15 => ?_
    refine r_iload_n (i := 8) rfl rfl rfl ?_
    refine r_SB2 (i := 9) (k2 := 0) (n2 := 0) ok_Rows_has wM_Joy_159 (c_Rows_has) (Nat.le_of_ble_eq_true rfl) (Nat.le_of_ble_eq_true rfl) (Nat.le_of_ble_eq_true rfl) (Nat.le_of_ble_eq_true rfl) rfl rfl fun x19 => ?_
    refine r_iload_n (i := 10) rfl rfl rfl ?_
    refine r_icmp_ne (i := 11) (tgt := 28) rfl rfl rfl ?_ ?_
    · refine r_aload_n (i := 14) rfl rfl rfl ?_
      refine r_gR (i := 15) (ci := 11) (kf := 10) rfl (Nat.le_of_ble_eq_true rfl) wF_Joy_60 rfl rfl fun x29 => ?_
      refine r_iconst (i := 16) (0 : Int32) kc_iconst_0 rfl rfl ?_
      refine r_iload_n (i := 17) rfl rfl rfl ?_
      refine r_aload_n (i := 18) rfl rfl rfl ?_
      refine r_gR (i := 19) (ci := 11) (kf := 3) rfl (Nat.le_of_ble_eq_true rfl) wF_Joy_35 rfl rfl fun x35 => ?_
      refine r_VV3 (i := 20) (k2 := 0) (n2 := 0) ok_Acts_keep wM_Joy_204 (c_Acts_keep) (fun _ e => fw_ckb e) (Nat.le_of_ble_eq_true rfl) (Nat.le_of_ble_eq_true rfl) (Nat.le_of_ble_eq_true rfl) (Nat.le_of_ble_eq_true rfl) rfl rfl fun h38 => ?_
      refine r_aload_n (i := 21) rfl rfl rfl ?_
      refine r_gR (i := 22) (ci := 11) (kf := 3) rfl (Nat.le_of_ble_eq_true rfl) wF_Joy_35 rfl rfl fun x42 => ?_
      refine r_dup_r (i := 23) rfl rfl ?_
      refine r_gI (i := 24) (ci := 7) (kf := 7) rfl (Nat.le_of_ble_eq_true rfl) wF_Joy_156 rfl rfl fun x46 => ?_
      refine r_iconst (i := 25) (1 : Int32) kc_iconst_1 rfl rfl ?_
      refine r_iload_n (i := 26) rfl rfl rfl ?_
      refine r_ishl (i := 27) rfl rfl ?_
      refine r_ixor (i := 28) rfl rfl ?_
      refine r_pI (i := 29) (ci := 7) (kf := 7) rfl (Nat.le_of_ble_eq_true rfl) wF_Joy_156 rfl (tyX7_ok 7 (Nat.le_of_ble_eq_true rfl)) rfl rfl fun h53 => ?_
      refine r_iconst (i := 30) (1 : Int32) kc_iconst_1 rfl rfl ?_
      exact r_retB (x := true) (i := 31) rfl rfl rfl rfl
    · refine r_iconst (i := 12) (0 : Int32) kc_iconst_0 rfl rfl ?_
      exact r_retB (x := false) (i := 13) rfl rfl rfl rfl
-- Joy_shut
def s_Joy_shut (h : fw_H) (v0 : Option Nat) (v1 : Int32) (v2 : Bool) : Option (Bool × fw_H) :=
(f_ck h v0 11).bind fun _ =>
(f_gR h v0 11 3).bind fun x1 =>
(s_Vil_hasWindow h x1 v1).bind fun x5 =>
if x5 = true then ((f_gR h v0 11 3).bind fun x12 =>
(f_gI h x12 7 6).bind fun x15 =>
(s_Rows_has x15 v1).bind fun x19 =>
if ¬ (fw_b x19) = (fw_b v2) then ((f_gR h v0 11 10).bind fun x29 =>
(f_gR h v0 11 3).bind fun x35 =>
(s_Acts_keep h x29 (1 : Int32) v1 x35).bind fun h38 =>
(f_gR h38 v0 11 3).bind fun x42 =>
(f_gI h38 x42 7 6).bind fun x46 =>
(f_pI h38 x42 7 6 (x46 ^^^ ((1 : Int32) <<< (v1 &&& 31)))).bind fun h53 =>
some (true, h53)) else
some (false, h)) else
some (false, h)
theorem c_Joy_shut {G : fw_G} {h : fw_H} {v0 : Option Nat} {v1 : Int32} {v2 : Bool} : fw_Call G m_Joy_shut fw_wB 2 0 0 [fw_r v0, fw_i v1, fw_i (fw_b v2)] h (s_Joy_shut h v0 v1 v2) := by
  refine fw_Call.of ok_Joy_shut.1 (Nat.le_of_ble_eq_true rfl) [(0, some (fw_r v0)), (1, some (fw_i v1)), (2, some (fw_i (fw_b v2)))] rfl ?_
  refine r_ck ?_
  refine r_aload_n (i := 0) rfl rfl rfl ?_
  refine r_gR (i := 1) (ci := 11) (kf := 3) rfl (Nat.le_of_ble_eq_true rfl) wF_Joy_35 rfl rfl fun x1 => ?_
  refine r_iload_n (i := 2) rfl rfl rfl ?_
  refine r_VB1 (i := 3) (k2 := 0) (n2 := 0) ok_Vil_hasWindow wM_Joy_177 (c_Vil_hasWindow) (fun _ e => fw_ckb e) (Nat.le_of_ble_eq_true rfl) (Nat.le_of_ble_eq_true rfl) (Nat.le_of_ble_eq_true rfl) (Nat.le_of_ble_eq_true rfl) rfl rfl fun x5 => ?_
  refine r_ifeqB (i := 4) (tgt := 26) rfl rfl rfl ?_ ?_
  · refine r_iconst (i := 12) (0 : Int32) kc_iconst_0 rfl rfl ?_
    exact r_retB (x := false) (i := 13) rfl rfl rfl rfl
  · refine r_aload_n (i := 5) rfl rfl rfl ?_
    refine r_gR (i := 6) (ci := 11) (kf := 3) rfl (Nat.le_of_ble_eq_true rfl) wF_Joy_35 rfl rfl fun x12 => ?_
    refine r_gI (i := 7) (ci := 7) (kf := 6) rfl (Nat.le_of_ble_eq_true rfl) wF_Joy_186 rfl rfl fun x15 => ?_
    refine r_iload_n (i := 8) rfl rfl rfl ?_
    refine r_SB2 (i := 9) (k2 := 0) (n2 := 0) ok_Rows_has wM_Joy_159 (c_Rows_has) (Nat.le_of_ble_eq_true rfl) (Nat.le_of_ble_eq_true rfl) (Nat.le_of_ble_eq_true rfl) (Nat.le_of_ble_eq_true rfl) rfl rfl fun x19 => ?_
    refine r_iload_n (i := 10) rfl rfl rfl ?_
    refine r_icmp_ne (i := 11) (tgt := 28) rfl rfl rfl ?_ ?_
    · refine r_aload_n (i := 14) rfl rfl rfl ?_
      refine r_gR (i := 15) (ci := 11) (kf := 10) rfl (Nat.le_of_ble_eq_true rfl) wF_Joy_60 rfl rfl fun x29 => ?_
      refine r_iconst (i := 16) (1 : Int32) kc_iconst_1 rfl rfl ?_
      refine r_iload_n (i := 17) rfl rfl rfl ?_
      refine r_aload_n (i := 18) rfl rfl rfl ?_
      refine r_gR (i := 19) (ci := 11) (kf := 3) rfl (Nat.le_of_ble_eq_true rfl) wF_Joy_35 rfl rfl fun x35 => ?_
      refine r_VV3 (i := 20) (k2 := 0) (n2 := 0) ok_Acts_keep wM_Joy_204 (c_Acts_keep) (fun _ e => fw_ckb e) (Nat.le_of_ble_eq_true rfl) (Nat.le_of_ble_eq_true rfl) (Nat.le_of_ble_eq_true rfl) (Nat.le_of_ble_eq_true rfl) rfl rfl fun h38 => ?_
      refine r_aload_n (i := 21) rfl rfl rfl ?_
      refine r_gR (i := 22) (ci := 11) (kf := 3) rfl (Nat.le_of_ble_eq_true rfl) wF_Joy_35 rfl rfl fun x42 => ?_
      refine r_dup_r (i := 23) rfl rfl ?_
      refine r_gI (i := 24) (ci := 7) (kf := 6) rfl (Nat.le_of_ble_eq_true rfl) wF_Joy_186 rfl rfl fun x46 => ?_
      refine r_iconst (i := 25) (1 : Int32) kc_iconst_1 rfl rfl ?_
      refine r_iload_n (i := 26) rfl rfl rfl ?_
      refine r_ishl (i := 27) rfl rfl ?_
      refine r_ixor (i := 28) rfl rfl ?_
      refine r_pI (i := 29) (ci := 7) (kf := 6) rfl (Nat.le_of_ble_eq_true rfl) wF_Joy_186 rfl (tyX7_ok 6 (Nat.le_of_ble_eq_true rfl)) rfl rfl fun h53 => ?_
      refine r_iconst (i := 30) (1 : Int32) kc_iconst_1 rfl rfl ?_
      exact r_retB (x := true) (i := 31) rfl rfl rfl rfl
    · refine r_iconst (i := 12) (0 : Int32) kc_iconst_0 rfl rfl ?_
      exact r_retB (x := false) (i := 13) rfl rfl rfl rfl
-- Joy_music
def s_Joy_music (h : fw_H) (v0 : Option Nat) (v1 : Bool) : Option (Bool × fw_H) :=
(f_ck h v0 11).bind fun _ =>
(f_gR h v0 11 3).bind fun x1 =>
(s_Vil_isNone h x1).bind fun x4 =>
if x4 = true then (some (false, h)) else
(f_gR h v0 11 3).bind fun x11 =>
(f_gB h x11 7 8).bind fun x14 =>
if ¬ (fw_b x14) = (fw_b v1) then ((f_gR h v0 11 10).bind fun x24 =>
(f_gR h v0 11 3).bind fun x30 =>
(s_Acts_keep h x24 (2 : Int32) (0 : Int32) x30).bind fun h33 =>
(f_gR h33 v0 11 3).bind fun x37 =>
(f_pB h33 x37 7 8 v1).bind fun h41 =>
some (true, h41)) else
some (false, h)
theorem c_Joy_music {G : fw_G} {h : fw_H} {v0 : Option Nat} {v1 : Bool} : fw_Call G m_Joy_music fw_wB 2 0 0 [fw_r v0, fw_i (fw_b v1)] h (s_Joy_music h v0 v1) := by
  refine fw_Call.of ok_Joy_music.1 (Nat.le_of_ble_eq_true rfl) [(0, some (fw_r v0)), (1, some (fw_i (fw_b v1)))] rfl ?_
  refine r_ck ?_
  refine r_aload_n (i := 0) rfl rfl rfl ?_
  refine r_gR (i := 1) (ci := 11) (kf := 3) rfl (Nat.le_of_ble_eq_true rfl) wF_Joy_35 rfl rfl fun x1 => ?_
  refine r_VB0 (i := 2) (k2 := 0) (n2 := 0) ok_Vil_isNone wM_Joy_208 (c_Vil_isNone) (fun _ e => fw_ckb e) (Nat.le_of_ble_eq_true rfl) (Nat.le_of_ble_eq_true rfl) (Nat.le_of_ble_eq_true rfl) (Nat.le_of_ble_eq_true rfl) rfl rfl fun x4 => ?_
  refine r_ifneB (i := 3) (tgt := 21) rfl rfl rfl ?_ ?_
  · refine r_iconst (i := 9) (0 : Int32) kc_iconst_0 rfl rfl ?_
    exact r_retB (x := false) (i := 10) rfl rfl rfl rfl
  · refine r_aload_n (i := 4) rfl rfl rfl ?_
    refine r_gR (i := 5) (ci := 11) (kf := 3) rfl (Nat.le_of_ble_eq_true rfl) wF_Joy_35 rfl rfl fun x11 => ?_
    refine r_gB (i := 6) (ci := 7) (kf := 8) rfl (Nat.le_of_ble_eq_true rfl) wF_Joy_212 rfl rfl fun x14 => ?_
    refine r_iload_n (i := 7) rfl rfl rfl ?_
    refine r_icmp_ne (i := 8) (tgt := 23) rfl rfl rfl ?_ ?_
    · refine r_aload_n (i := 11) rfl rfl rfl ?_
      refine r_gR (i := 12) (ci := 11) (kf := 10) rfl (Nat.le_of_ble_eq_true rfl) wF_Joy_60 rfl rfl fun x24 => ?_
      refine r_iconst (i := 13) (2 : Int32) kc_iconst_2 rfl rfl ?_
      refine r_iconst (i := 14) (0 : Int32) kc_iconst_0 rfl rfl ?_
      refine r_aload_n (i := 15) rfl rfl rfl ?_
      refine r_gR (i := 16) (ci := 11) (kf := 3) rfl (Nat.le_of_ble_eq_true rfl) wF_Joy_35 rfl rfl fun x30 => ?_
      refine r_VV3 (i := 17) (k2 := 0) (n2 := 0) ok_Acts_keep wM_Joy_204 (c_Acts_keep) (fun _ e => fw_ckb e) (Nat.le_of_ble_eq_true rfl) (Nat.le_of_ble_eq_true rfl) (Nat.le_of_ble_eq_true rfl) (Nat.le_of_ble_eq_true rfl) rfl rfl fun h33 => ?_
      refine r_aload_n (i := 18) rfl rfl rfl ?_
      refine r_gR (i := 19) (ci := 11) (kf := 3) rfl (Nat.le_of_ble_eq_true rfl) wF_Joy_35 rfl rfl fun x37 => ?_
      refine r_iload_n (i := 20) rfl rfl rfl ?_
      refine r_pB (i := 21) (ci := 7) (kf := 8) rfl (Nat.le_of_ble_eq_true rfl) wF_Joy_212 rfl (tyX7_ok 8 (Nat.le_of_ble_eq_true rfl)) rfl rfl fun h41 => ?_
      refine r_iconst (i := 22) (1 : Int32) kc_iconst_1 rfl rfl ?_
      exact r_retB (x := true) (i := 23) rfl rfl rfl rfl
    · refine r_iconst (i := 9) (0 : Int32) kc_iconst_0 rfl rfl ?_
      exact r_retB (x := false) (i := 10) rfl rfl rfl rfl
-- Joy_fog
def s_Joy_fog (h : fw_H) (v0 : Option Nat) (v1 : Bool) : Option (Bool × fw_H) :=
(f_ck h v0 11).bind fun _ =>
(f_gR h v0 11 3).bind fun x1 =>
(s_Vil_isNone h x1).bind fun x4 =>
if x4 = true then (some (false, h)) else
(f_gR h v0 11 3).bind fun x11 =>
(f_gB h x11 7 9).bind fun x14 =>
if ¬ (fw_b x14) = (fw_b v1) then ((f_gR h v0 11 10).bind fun x24 =>
(f_gR h v0 11 3).bind fun x30 =>
(s_Acts_keep h x24 (3 : Int32) (0 : Int32) x30).bind fun h33 =>
(f_gR h33 v0 11 3).bind fun x37 =>
(f_pB h33 x37 7 9 v1).bind fun h41 =>
some (true, h41)) else
some (false, h)
theorem c_Joy_fog {G : fw_G} {h : fw_H} {v0 : Option Nat} {v1 : Bool} : fw_Call G m_Joy_fog fw_wB 2 0 0 [fw_r v0, fw_i (fw_b v1)] h (s_Joy_fog h v0 v1) := by
  refine fw_Call.of ok_Joy_fog.1 (Nat.le_of_ble_eq_true rfl) [(0, some (fw_r v0)), (1, some (fw_i (fw_b v1)))] rfl ?_
  refine r_ck ?_
  refine r_aload_n (i := 0) rfl rfl rfl ?_
  refine r_gR (i := 1) (ci := 11) (kf := 3) rfl (Nat.le_of_ble_eq_true rfl) wF_Joy_35 rfl rfl fun x1 => ?_
  refine r_VB0 (i := 2) (k2 := 0) (n2 := 0) ok_Vil_isNone wM_Joy_208 (c_Vil_isNone) (fun _ e => fw_ckb e) (Nat.le_of_ble_eq_true rfl) (Nat.le_of_ble_eq_true rfl) (Nat.le_of_ble_eq_true rfl) (Nat.le_of_ble_eq_true rfl) rfl rfl fun x4 => ?_
  refine r_ifneB (i := 3) (tgt := 21) rfl rfl rfl ?_ ?_
  · refine r_iconst (i := 9) (0 : Int32) kc_iconst_0 rfl rfl ?_
    exact r_retB (x := false) (i := 10) rfl rfl rfl rfl
  · refine r_aload_n (i := 4) rfl rfl rfl ?_
    refine r_gR (i := 5) (ci := 11) (kf := 3) rfl (Nat.le_of_ble_eq_true rfl) wF_Joy_35 rfl rfl fun x11 => ?_
    refine r_gB (i := 6) (ci := 7) (kf := 9) rfl (Nat.le_of_ble_eq_true rfl) wF_Joy_215 rfl rfl fun x14 => ?_
    refine r_iload_n (i := 7) rfl rfl rfl ?_
    refine r_icmp_ne (i := 8) (tgt := 23) rfl rfl rfl ?_ ?_
    · refine r_aload_n (i := 11) rfl rfl rfl ?_
      refine r_gR (i := 12) (ci := 11) (kf := 10) rfl (Nat.le_of_ble_eq_true rfl) wF_Joy_60 rfl rfl fun x24 => ?_
      refine r_iconst (i := 13) (3 : Int32) kc_iconst_3 rfl rfl ?_
      refine r_iconst (i := 14) (0 : Int32) kc_iconst_0 rfl rfl ?_
      refine r_aload_n (i := 15) rfl rfl rfl ?_
      refine r_gR (i := 16) (ci := 11) (kf := 3) rfl (Nat.le_of_ble_eq_true rfl) wF_Joy_35 rfl rfl fun x30 => ?_
      refine r_VV3 (i := 17) (k2 := 0) (n2 := 0) ok_Acts_keep wM_Joy_204 (c_Acts_keep) (fun _ e => fw_ckb e) (Nat.le_of_ble_eq_true rfl) (Nat.le_of_ble_eq_true rfl) (Nat.le_of_ble_eq_true rfl) (Nat.le_of_ble_eq_true rfl) rfl rfl fun h33 => ?_
      refine r_aload_n (i := 18) rfl rfl rfl ?_
      refine r_gR (i := 19) (ci := 11) (kf := 3) rfl (Nat.le_of_ble_eq_true rfl) wF_Joy_35 rfl rfl fun x37 => ?_
      refine r_iload_n (i := 20) rfl rfl rfl ?_
      refine r_pB (i := 21) (ci := 7) (kf := 9) rfl (Nat.le_of_ble_eq_true rfl) wF_Joy_215 rfl (tyX7_ok 9 (Nat.le_of_ble_eq_true rfl)) rfl rfl fun h41 => ?_
      refine r_iconst (i := 22) (1 : Int32) kc_iconst_1 rfl rfl ?_
      exact r_retB (x := true) (i := 23) rfl rfl rfl rfl
    · refine r_iconst (i := 9) (0 : Int32) kc_iconst_0 rfl rfl ?_
      exact r_retB (x := false) (i := 10) rfl rfl rfl rfl
-- Joy_prescribe
def s_Joy_prescribe (h : fw_H) (v0 : Option Nat) (v1 : Int32) : Option (Int32 × fw_H) :=
(f_ck h v0 11).bind fun _ =>
(f_gR h v0 11 3).bind fun x1 =>
(s_Vil_hasHouse h x1 v1).bind fun x5 =>
if x5 = true then ((f_gR h v0 11 3).bind fun x12 =>
(s_Vil_trait h x12 v1 (0 : Int32)).bind fun x17 =>
if x17 < (9 : Int32) then ((f_gR h v0 11 10).bind fun x28 =>
(f_gR h v0 11 3).bind fun x34 =>
(s_Acts_keep h x28 (4 : Int32) v1 x34).bind fun h37 =>
(f_gR h37 v0 11 3).bind fun x41 =>
(s_Vil_want h37 x41 v1 (1 : Int32)).bind fun h46 =>
(f_gR h46 v0 11 3).bind fun x50 =>
(s_Vil_trait h46 x50 v1 (0 : Int32)).bind fun x55 =>
some (x55, h46)) else
some ((-1 : Int32), h)) else
some ((-1 : Int32), h)
theorem c_Joy_prescribe {G : fw_G} {h : fw_H} {v0 : Option Nat} {v1 : Int32} : fw_Call G m_Joy_prescribe fw_wI 3 0 0 [fw_r v0, fw_i v1] h (s_Joy_prescribe h v0 v1) := by
  refine fw_Call.of ok_Joy_prescribe.1 (Nat.le_of_ble_eq_true rfl) [(0, some (fw_r v0)), (1, some (fw_i v1))] rfl ?_
  refine r_ck ?_
  refine r_aload_n (i := 0) rfl rfl rfl ?_
  refine r_gR (i := 1) (ci := 11) (kf := 3) rfl (Nat.le_of_ble_eq_true rfl) wF_Joy_35 rfl rfl fun x1 => ?_
  refine r_iload_n (i := 2) rfl rfl rfl ?_
  refine r_VB1 (i := 3) (k2 := 0) (n2 := 0) ok_Vil_hasHouse wM_Joy_146 (c_Vil_hasHouse) (fun _ e => fw_ckb e) (Nat.le_of_ble_eq_true rfl) (Nat.le_of_ble_eq_true rfl) (Nat.le_of_ble_eq_true rfl) (Nat.le_of_ble_eq_true rfl) rfl rfl fun x5 => ?_
  refine r_ifeqB (i := 4) (tgt := 25) rfl rfl rfl ?_ ?_
  · refine r_iconst (i := 12) (-1 : Int32) kc_iconst_m1 rfl rfl ?_
    exact r_retI (i := 13) rfl rfl rfl rfl
  · refine r_aload_n (i := 5) rfl rfl rfl ?_
    refine r_gR (i := 6) (ci := 11) (kf := 3) rfl (Nat.le_of_ble_eq_true rfl) wF_Joy_35 rfl rfl fun x12 => ?_
    refine r_iload_n (i := 7) rfl rfl rfl ?_
    refine r_iconst (i := 8) (0 : Int32) kc_iconst_0 rfl rfl ?_
    refine r_VI2 (i := 9) (k2 := 0) (n2 := 0) ok_Vil_trait wM_Joy_152 (c_Vil_trait) (fun _ e => fw_ckb e) (Nat.le_of_ble_eq_true rfl) (Nat.le_of_ble_eq_true rfl) (Nat.le_of_ble_eq_true rfl) (Nat.le_of_ble_eq_true rfl) rfl rfl fun x17 => ?_
    refine r_bipush (i := 10) (9 : Int32) kc_bipush_9 rfl rfl ?_
    refine r_icmp_lt (i := 11) (tgt := 27) rfl rfl rfl ?_ ?_
    · refine r_aload_n (i := 14) rfl rfl rfl ?_
      refine r_gR (i := 15) (ci := 11) (kf := 10) rfl (Nat.le_of_ble_eq_true rfl) wF_Joy_60 rfl rfl fun x28 => ?_
      refine r_iconst (i := 16) (4 : Int32) kc_iconst_4 rfl rfl ?_
      refine r_iload_n (i := 17) rfl rfl rfl ?_
      refine r_aload_n (i := 18) rfl rfl rfl ?_
      refine r_gR (i := 19) (ci := 11) (kf := 3) rfl (Nat.le_of_ble_eq_true rfl) wF_Joy_35 rfl rfl fun x34 => ?_
      refine r_VV3 (i := 20) (k2 := 0) (n2 := 0) ok_Acts_keep wM_Joy_204 (c_Acts_keep) (fun _ e => fw_ckb e) (Nat.le_of_ble_eq_true rfl) (Nat.le_of_ble_eq_true rfl) (Nat.le_of_ble_eq_true rfl) (Nat.le_of_ble_eq_true rfl) rfl rfl fun h37 => ?_
      refine r_aload_n (i := 21) rfl rfl rfl ?_
      refine r_gR (i := 22) (ci := 11) (kf := 3) rfl (Nat.le_of_ble_eq_true rfl) wF_Joy_35 rfl rfl fun x41 => ?_
      refine r_iload_n (i := 23) rfl rfl rfl ?_
      refine r_iconst (i := 24) (1 : Int32) kc_iconst_1 rfl rfl ?_
      refine r_VV2 (i := 25) (k2 := 0) (n2 := 0) ok_Vil_want wM_Joy_218 (c_Vil_want) (fun _ e => fw_ckb e) (Nat.le_of_ble_eq_true rfl) (Nat.le_of_ble_eq_true rfl) (Nat.le_of_ble_eq_true rfl) (Nat.le_of_ble_eq_true rfl) rfl rfl fun h46 => ?_
      refine r_aload_n (i := 26) rfl rfl rfl ?_
      refine r_gR (i := 27) (ci := 11) (kf := 3) rfl (Nat.le_of_ble_eq_true rfl) wF_Joy_35 rfl rfl fun x50 => ?_
      refine r_iload_n (i := 28) rfl rfl rfl ?_
      refine r_iconst (i := 29) (0 : Int32) kc_iconst_0 rfl rfl ?_
      refine r_VI2 (i := 30) (k2 := 0) (n2 := 0) ok_Vil_trait wM_Joy_152 (c_Vil_trait) (fun _ e => fw_ckb e) (Nat.le_of_ble_eq_true rfl) (Nat.le_of_ble_eq_true rfl) (Nat.le_of_ble_eq_true rfl) (Nat.le_of_ble_eq_true rfl) rfl rfl fun x55 => ?_
      exact r_retI (i := 31) rfl rfl rfl rfl
    · refine r_iconst (i := 12) (-1 : Int32) kc_iconst_m1 rfl rfl ?_
      exact r_retI (i := 13) rfl rfl rfl rfl
-- Joy_lie
def s_Joy_lie (h : fw_H) (v0 : Option Nat) : Option (Int32 × fw_H) :=
(f_ck h v0 11).bind fun _ =>
(f_gR h v0 11 3).bind fun x1 =>
(s_Vil_isNone h x1).bind fun x4 =>
if x4 = true then (some ((-1 : Int32), h)) else
(f_gR h v0 11 3).bind fun x13 =>
(f_gR h v0 11 3).bind fun x17 =>
(f_gI h x17 7 10).bind fun x20 =>
(s_Vil_threeOn h x13 x20).bind fun x23 =>
(f_gR h v0 11 3).bind fun x29 =>
(f_gI h x29 7 10).bind fun x32 =>
if ¬ x23 = x32 then ((f_gR h v0 11 10).bind fun x41 =>
(f_gR h v0 11 3).bind fun x47 =>
(s_Acts_keep h x41 (5 : Int32) (0 : Int32) x47).bind fun h50 =>
(f_gR h50 v0 11 3).bind fun x54 =>
(f_gR h50 v0 11 3).bind fun x58 =>
(f_gI h50 x58 7 10).bind fun x61 =>
(f_pI h50 x54 7 11 x61).bind fun h64 =>
(f_gR h64 v0 11 3).bind fun x68 =>
(f_pI h64 x68 7 10 x23).bind fun h72 =>
some (x23, h72)) else
some ((-1 : Int32), h)
theorem c_Joy_lie {G : fw_G} {h : fw_H} {v0 : Option Nat} : fw_Call G m_Joy_lie fw_wI 2 0 0 [fw_r v0] h (s_Joy_lie h v0) := by
  refine fw_Call.of ok_Joy_lie.1 (Nat.le_of_ble_eq_true rfl) [(0, some (fw_r v0))] rfl ?_
  refine r_ck ?_
  refine r_aload_n (i := 0) rfl rfl rfl ?_
  refine r_gR (i := 1) (ci := 11) (kf := 3) rfl (Nat.le_of_ble_eq_true rfl) wF_Joy_35 rfl rfl fun x1 => ?_
  refine r_VB0 (i := 2) (k2 := 0) (n2 := 0) ok_Vil_isNone wM_Joy_208 (c_Vil_isNone) (fun _ e => fw_ckb e) (Nat.le_of_ble_eq_true rfl) (Nat.le_of_ble_eq_true rfl) (Nat.le_of_ble_eq_true rfl) (Nat.le_of_ble_eq_true rfl) rfl rfl fun x4 => ?_
  refine r_ifeqB (i := 3) (tgt := 12) rfl rfl rfl ?_ ?_
  · refine r_aload_n (i := 6) rfl rfl rfl ?_
    refine r_gR (i := 7) (ci := 11) (kf := 3) rfl (Nat.le_of_ble_eq_true rfl) wF_Joy_35 rfl rfl fun x13 => ?_
    refine r_aload_n (i := 8) rfl rfl rfl ?_
    refine r_gR (i := 9) (ci := 11) (kf := 3) rfl (Nat.le_of_ble_eq_true rfl) wF_Joy_35 rfl rfl fun x17 => ?_
    refine r_gI (i := 10) (ci := 7) (kf := 10) rfl (Nat.le_of_ble_eq_true rfl) wF_Joy_222 rfl rfl fun x20 => ?_
    refine r_VI1 (i := 11) (k2 := 0) (n2 := 0) ok_Vil_threeOn wM_Joy_225 (c_Vil_threeOn) (fun _ e => fw_ckb e) (Nat.le_of_ble_eq_true rfl) (Nat.le_of_ble_eq_true rfl) (Nat.le_of_ble_eq_true rfl) (Nat.le_of_ble_eq_true rfl) rfl rfl fun x23 => ?_
    refine r_istore_n (i := 12) rfl rfl (Nat.le_of_ble_eq_true rfl) rfl ?_
    refine r_iload_n (i := 13) rfl rfl rfl ?_
    refine r_aload_n (i := 14) rfl rfl rfl ?_
    refine r_gR (i := 15) (ci := 11) (kf := 3) rfl (Nat.le_of_ble_eq_true rfl) wF_Joy_35 rfl rfl fun x29 => ?_
    refine r_gI (i := 16) (ci := 7) (kf := 10) rfl (Nat.le_of_ble_eq_true rfl) wF_Joy_222 rfl rfl fun x32 => ?_
    refine r_icmp_ne (i := 17) (tgt := 40) rfl rfl rfl ?_ ?_
    · refine r_aload_n (i := 20) rfl rfl rfl ?_
      refine r_gR (i := 21) (ci := 11) (kf := 10) rfl (Nat.le_of_ble_eq_true rfl) wF_Joy_60 rfl rfl fun x41 => ?_
      refine r_iconst (i := 22) (5 : Int32) kc_iconst_5 rfl rfl ?_
      refine r_iconst (i := 23) (0 : Int32) kc_iconst_0 rfl rfl ?_
      refine r_aload_n (i := 24) rfl rfl rfl ?_
      refine r_gR (i := 25) (ci := 11) (kf := 3) rfl (Nat.le_of_ble_eq_true rfl) wF_Joy_35 rfl rfl fun x47 => ?_
      refine r_VV3 (i := 26) (k2 := 0) (n2 := 0) ok_Acts_keep wM_Joy_204 (c_Acts_keep) (fun _ e => fw_ckb e) (Nat.le_of_ble_eq_true rfl) (Nat.le_of_ble_eq_true rfl) (Nat.le_of_ble_eq_true rfl) (Nat.le_of_ble_eq_true rfl) rfl rfl fun h50 => ?_
      refine r_aload_n (i := 27) rfl rfl rfl ?_
      refine r_gR (i := 28) (ci := 11) (kf := 3) rfl (Nat.le_of_ble_eq_true rfl) wF_Joy_35 rfl rfl fun x54 => ?_
      refine r_aload_n (i := 29) rfl rfl rfl ?_
      refine r_gR (i := 30) (ci := 11) (kf := 3) rfl (Nat.le_of_ble_eq_true rfl) wF_Joy_35 rfl rfl fun x58 => ?_
      refine r_gI (i := 31) (ci := 7) (kf := 10) rfl (Nat.le_of_ble_eq_true rfl) wF_Joy_222 rfl rfl fun x61 => ?_
      refine r_pI (i := 32) (ci := 7) (kf := 11) rfl (Nat.le_of_ble_eq_true rfl) wF_Joy_228 rfl (tyX7_ok 11 (Nat.le_of_ble_eq_true rfl)) rfl rfl fun h64 => ?_
      refine r_aload_n (i := 33) rfl rfl rfl ?_
      refine r_gR (i := 34) (ci := 11) (kf := 3) rfl (Nat.le_of_ble_eq_true rfl) wF_Joy_35 rfl rfl fun x68 => ?_
      refine r_iload_n (i := 35) rfl rfl rfl ?_
      refine r_pI (i := 36) (ci := 7) (kf := 10) rfl (Nat.le_of_ble_eq_true rfl) wF_Joy_222 rfl (tyX7_ok 10 (Nat.le_of_ble_eq_true rfl)) rfl rfl fun h72 => ?_
      refine r_iload_n (i := 37) rfl rfl rfl ?_
      exact r_retI (i := 38) rfl rfl rfl rfl
    · refine r_iconst (i := 18) (-1 : Int32) kc_iconst_m1 rfl rfl ?_
      exact r_retI (i := 19) rfl rfl rfl rfl
  · refine r_iconst (i := 4) (-1 : Int32) kc_iconst_m1 rfl rfl ?_
    exact r_retI (i := 5) rfl rfl rfl rfl
-- Joy_letHoursGo
def l_Joy_letHoursGo_49 (F : Nat) (v0 : Option Nat) (v1 : Int32) (v2 : Int32) : Nat → Int64 → Int32 → fw_H → Option (Int32 × fw_H)
  | 0, _, _, _ => none
  | nn + 1, a49_5, a49_7, g49 =>
    if v1 ≤ a49_7 then ((f_gR g49 v0 11 3).bind fun x155 =>
    (f_gI g49 x155 7 12).bind fun x158 =>
    some (x158, g49)) else
    (f_lrem (fw_lushr ((a49_5 * (6364136223846793005 : Int64)) + (1442695040888963407 : Int64)) (33 : Int32)) (100 : Int64)).bind fun x75 =>
    (f_gR g49 v0 11 10).bind fun x79 =>
    (f_gR g49 v0 11 3).bind fun x86 =>
    (s_Acts_keep g49 x79 (6 : Int32) (0 : Int32) x86).bind fun h89 =>
    (f_gR h89 v0 11 3).bind fun x93 =>
    (f_gB h89 x93 7 9).bind fun x96 =>
    if x96 = true then ((f_gR h89 v0 11 12).bind fun x111 =>
    (s_Walk_stay h89 x111).bind fun h114 =>
    (f_gR h114 v0 11 3).bind fun x128 =>
    (f_gR h114 v0 11 12).bind fun x132 =>
    (f_gI h114 x132 9 2).bind fun x135 =>
    (f_gR h114 v0 11 12).bind fun x139 =>
    (f_gI h114 x139 9 3).bind fun x142 =>
    (s_Vil_passHour F h114 x128 x135 x142).bind fun h145 =>
    l_Joy_letHoursGo_49 F v0 v1 v2 nn ((a49_5 * (6364136223846793005 : Int64)) + (1442695040888963407 : Int64)) (a49_7 + (1 : Int32)) h145) else
    if (0 : Int32) ≤ (lg_cmp x75 (Int32.toInt64 v2)) then ((f_gR h89 v0 11 12).bind fun x121 =>
    (s_Walk_hour F h89 x121).bind fun h124 =>
    (f_gR h124 v0 11 3).bind fun x128 =>
    (f_gR h124 v0 11 12).bind fun x132 =>
    (f_gI h124 x132 9 2).bind fun x135 =>
    (f_gR h124 v0 11 12).bind fun x139 =>
    (f_gI h124 x139 9 3).bind fun x142 =>
    (s_Vil_passHour F h124 x128 x135 x142).bind fun h145 =>
    l_Joy_letHoursGo_49 F v0 v1 v2 nn ((a49_5 * (6364136223846793005 : Int64)) + (1442695040888963407 : Int64)) (a49_7 + (1 : Int32)) h145) else
    (f_gR h89 v0 11 12).bind fun x111 =>
    (s_Walk_stay h89 x111).bind fun h114 =>
    (f_gR h114 v0 11 3).bind fun x128 =>
    (f_gR h114 v0 11 12).bind fun x132 =>
    (f_gI h114 x132 9 2).bind fun x135 =>
    (f_gR h114 v0 11 12).bind fun x139 =>
    (f_gI h114 x139 9 3).bind fun x142 =>
    (s_Vil_passHour F h114 x128 x135 x142).bind fun h145 =>
    l_Joy_letHoursGo_49 F v0 v1 v2 nn ((a49_5 * (6364136223846793005 : Int64)) + (1442695040888963407 : Int64)) (a49_7 + (1 : Int32)) h145
theorem cl_Joy_letHoursGo_49 {G : fw_G} {F : Nat} {v0 : Option Nat} {v1 : Int32} {v2 : Int32} : ∀ (nn : Nat) (a49_5 : Int64) (a49_7 : Int32) (g49 : fw_H), fw_R G m_Joy_letHoursGo fw_wI 6 0 0 49 [(0, some (fw_r v0)), (1, some (fw_i v1)), (2, some (fw_i v2)), (5, some (fw_j a49_5)), (7, some (fw_i a49_7))] [] g49 (l_Joy_letHoursGo_49 F v0 v1 v2 nn a49_5 a49_7 g49) := by
  intro nn
  induction nn with
  | zero => intros; exact r_none
  | succ nn ih =>
    intro a49_5 a49_7 g49
    rw [l_Joy_letHoursGo_49]
    refine r_iload (i := 25) rfl rfl rfl ?_
    refine r_iload_n (i := 26) rfl rfl rfl ?_
    refine r_icmp_ge (i := 27) (tgt := 154) rfl rfl rfl ?_ ?_
    · refine r_aload_n (i := 74) rfl rfl rfl ?_
      refine r_gR (i := 75) (ci := 11) (kf := 3) rfl (Nat.le_of_ble_eq_true rfl) wF_Joy_35 rfl rfl fun x155 => ?_
      refine r_gI (i := 76) (ci := 7) (kf := 12) rfl (Nat.le_of_ble_eq_true rfl) wF_Joy_238 rfl rfl fun x158 => ?_
      exact r_retI (i := 77) rfl rfl rfl rfl
    · refine r_lload (i := 28) rfl rfl rfl ?_
      refine r_ldc2 (i := 29) wL_Joy_241 rfl rfl ?_
      refine r_lmul (i := 30) rfl rfl ?_
      refine r_ldc2 (i := 31) wL_Joy_243 rfl rfl ?_
      refine r_ladd (i := 32) rfl rfl ?_
      refine r_lstore (i := 33) rfl rfl (Nat.le_of_ble_eq_true rfl) rfl ?_
      refine r_lload (i := 34) rfl rfl rfl ?_
      refine r_bipush (i := 35) (33 : Int32) kc_bipush_33 rfl rfl ?_
      refine r_lushr (i := 36) rfl rfl ?_
      refine r_ldc2 (i := 37) wL_Joy_245 rfl rfl ?_
      refine r_lremN (i := 38) rfl rfl fun x75 => ?_
      refine r_lstore (i := 39) rfl rfl (Nat.le_of_ble_eq_true rfl) rfl ?_
      refine r_aload_n (i := 40) rfl rfl rfl ?_
      refine r_gR (i := 41) (ci := 11) (kf := 10) rfl (Nat.le_of_ble_eq_true rfl) wF_Joy_60 rfl rfl fun x79 => ?_
      refine r_bipush (i := 42) (6 : Int32) kc_bipush_6 rfl rfl ?_
      refine r_iconst (i := 43) (0 : Int32) kc_iconst_0 rfl rfl ?_
      refine r_aload_n (i := 44) rfl rfl rfl ?_
      refine r_gR (i := 45) (ci := 11) (kf := 3) rfl (Nat.le_of_ble_eq_true rfl) wF_Joy_35 rfl rfl fun x86 => ?_
      refine r_VV3 (i := 46) (k2 := 0) (n2 := 0) ok_Acts_keep wM_Joy_204 (c_Acts_keep) (fun _ e => fw_ckb e) (Nat.le_of_ble_eq_true rfl) (Nat.le_of_ble_eq_true rfl) (Nat.le_of_ble_eq_true rfl) (Nat.le_of_ble_eq_true rfl) rfl rfl fun h89 => ?_
      refine r_aload_n (i := 47) rfl rfl rfl ?_
      refine r_gR (i := 48) (ci := 11) (kf := 3) rfl (Nat.le_of_ble_eq_true rfl) wF_Joy_35 rfl rfl fun x93 => ?_
      refine r_gB (i := 49) (ci := 7) (kf := 9) rfl (Nat.le_of_ble_eq_true rfl) wF_Joy_215 rfl rfl fun x96 => ?_
      refine r_ifneB (i := 50) (tgt := 110) rfl rfl rfl ?_ ?_
      · refine r_aload_n (i := 56) rfl rfl rfl ?_
        refine r_gR (i := 57) (ci := 11) (kf := 12) rfl (Nat.le_of_ble_eq_true rfl) wF_Joy_67 rfl rfl fun x111 => ?_
        refine r_VV0 (i := 58) (k2 := 0) (n2 := 0) ok_Walk_stay wM_Joy_247 (c_Walk_stay) (fun _ e => fw_ckb e) (Nat.le_of_ble_eq_true rfl) (Nat.le_of_ble_eq_true rfl) (Nat.le_of_ble_eq_true rfl) (Nat.le_of_ble_eq_true rfl) rfl rfl fun h114 => ?_
        refine r_goto (i := 59) (tgt := 127) rfl rfl rfl ?_
        refine r_aload_n (i := 63) rfl rfl rfl ?_
        refine r_gR (i := 64) (ci := 11) (kf := 3) rfl (Nat.le_of_ble_eq_true rfl) wF_Joy_35 rfl rfl fun x128 => ?_
        refine r_aload_n (i := 65) rfl rfl rfl ?_
        refine r_gR (i := 66) (ci := 11) (kf := 12) rfl (Nat.le_of_ble_eq_true rfl) wF_Joy_67 rfl rfl fun x132 => ?_
        refine r_gI (i := 67) (ci := 9) (kf := 2) rfl (Nat.le_of_ble_eq_true rfl) wF_Joy_252 rfl rfl fun x135 => ?_
        refine r_aload_n (i := 68) rfl rfl rfl ?_
        refine r_gR (i := 69) (ci := 11) (kf := 12) rfl (Nat.le_of_ble_eq_true rfl) wF_Joy_67 rfl rfl fun x139 => ?_
        refine r_gI (i := 70) (ci := 9) (kf := 3) rfl (Nat.le_of_ble_eq_true rfl) wF_Joy_253 rfl rfl fun x142 => ?_
        refine r_VV2 (i := 71) (k2 := 0) (n2 := 0) ok_Vil_passHour wM_Joy_254 (c_Vil_passHour F) (fun _ e => fw_ckb e) (Nat.le_of_ble_eq_true rfl) (Nat.le_of_ble_eq_true rfl) (Nat.le_of_ble_eq_true rfl) (Nat.le_of_ble_eq_true rfl) rfl rfl fun h145 => ?_
        refine r_iinc (i := 72) (1 : Int32) kc_iconst_1 rfl rfl rfl (Nat.le_of_ble_eq_true rfl) ?_
        refine r_goto (i := 73) (tgt := 49) rfl rfl rfl ?_
        exact r_lv (fw_sub1 rfl (fw_sub1 rfl (fw_sub1 rfl (fw_sub1 rfl (fw_sub1 rfl fw_sub0))))) (ih ((a49_5 * (6364136223846793005 : Int64)) + (1442695040888963407 : Int64)) (a49_7 + (1 : Int32)) h145)
      · refine r_lload (i := 51) rfl rfl rfl ?_
        refine r_iload_n (i := 52) rfl rfl rfl ?_
        refine r_i2l (i := 53) rfl rfl ?_
        refine r_lcmp (i := 54) rfl rfl ?_
        refine r_if_ge (i := 55) (tgt := 120) rfl rfl rfl ?_ ?_
        · refine r_aload_n (i := 60) rfl rfl rfl ?_
          refine r_gR (i := 61) (ci := 11) (kf := 12) rfl (Nat.le_of_ble_eq_true rfl) wF_Joy_67 rfl rfl fun x121 => ?_
          refine r_VV0 (i := 62) (k2 := 0) (n2 := 0) ok_Walk_hour wM_Joy_250 (c_Walk_hour F) (fun _ e => fw_ckb e) (Nat.le_of_ble_eq_true rfl) (Nat.le_of_ble_eq_true rfl) (Nat.le_of_ble_eq_true rfl) (Nat.le_of_ble_eq_true rfl) rfl rfl fun h124 => ?_
          refine r_aload_n (i := 63) rfl rfl rfl ?_
          refine r_gR (i := 64) (ci := 11) (kf := 3) rfl (Nat.le_of_ble_eq_true rfl) wF_Joy_35 rfl rfl fun x128 => ?_
          refine r_aload_n (i := 65) rfl rfl rfl ?_
          refine r_gR (i := 66) (ci := 11) (kf := 12) rfl (Nat.le_of_ble_eq_true rfl) wF_Joy_67 rfl rfl fun x132 => ?_
          refine r_gI (i := 67) (ci := 9) (kf := 2) rfl (Nat.le_of_ble_eq_true rfl) wF_Joy_252 rfl rfl fun x135 => ?_
          refine r_aload_n (i := 68) rfl rfl rfl ?_
          refine r_gR (i := 69) (ci := 11) (kf := 12) rfl (Nat.le_of_ble_eq_true rfl) wF_Joy_67 rfl rfl fun x139 => ?_
          refine r_gI (i := 70) (ci := 9) (kf := 3) rfl (Nat.le_of_ble_eq_true rfl) wF_Joy_253 rfl rfl fun x142 => ?_
          refine r_VV2 (i := 71) (k2 := 0) (n2 := 0) ok_Vil_passHour wM_Joy_254 (c_Vil_passHour F) (fun _ e => fw_ckb e) (Nat.le_of_ble_eq_true rfl) (Nat.le_of_ble_eq_true rfl) (Nat.le_of_ble_eq_true rfl) (Nat.le_of_ble_eq_true rfl) rfl rfl fun h145 => ?_
          refine r_iinc (i := 72) (1 : Int32) kc_iconst_1 rfl rfl rfl (Nat.le_of_ble_eq_true rfl) ?_
          refine r_goto (i := 73) (tgt := 49) rfl rfl rfl ?_
          exact r_lv (fw_sub1 rfl (fw_sub1 rfl (fw_sub1 rfl (fw_sub1 rfl (fw_sub1 rfl fw_sub0))))) (ih ((a49_5 * (6364136223846793005 : Int64)) + (1442695040888963407 : Int64)) (a49_7 + (1 : Int32)) h145)
        · refine r_aload_n (i := 56) rfl rfl rfl ?_
          refine r_gR (i := 57) (ci := 11) (kf := 12) rfl (Nat.le_of_ble_eq_true rfl) wF_Joy_67 rfl rfl fun x111 => ?_
          refine r_VV0 (i := 58) (k2 := 0) (n2 := 0) ok_Walk_stay wM_Joy_247 (c_Walk_stay) (fun _ e => fw_ckb e) (Nat.le_of_ble_eq_true rfl) (Nat.le_of_ble_eq_true rfl) (Nat.le_of_ble_eq_true rfl) (Nat.le_of_ble_eq_true rfl) rfl rfl fun h114 => ?_
          refine r_goto (i := 59) (tgt := 127) rfl rfl rfl ?_
          refine r_aload_n (i := 63) rfl rfl rfl ?_
          refine r_gR (i := 64) (ci := 11) (kf := 3) rfl (Nat.le_of_ble_eq_true rfl) wF_Joy_35 rfl rfl fun x128 => ?_
          refine r_aload_n (i := 65) rfl rfl rfl ?_
          refine r_gR (i := 66) (ci := 11) (kf := 12) rfl (Nat.le_of_ble_eq_true rfl) wF_Joy_67 rfl rfl fun x132 => ?_
          refine r_gI (i := 67) (ci := 9) (kf := 2) rfl (Nat.le_of_ble_eq_true rfl) wF_Joy_252 rfl rfl fun x135 => ?_
          refine r_aload_n (i := 68) rfl rfl rfl ?_
          refine r_gR (i := 69) (ci := 11) (kf := 12) rfl (Nat.le_of_ble_eq_true rfl) wF_Joy_67 rfl rfl fun x139 => ?_
          refine r_gI (i := 70) (ci := 9) (kf := 3) rfl (Nat.le_of_ble_eq_true rfl) wF_Joy_253 rfl rfl fun x142 => ?_
          refine r_VV2 (i := 71) (k2 := 0) (n2 := 0) ok_Vil_passHour wM_Joy_254 (c_Vil_passHour F) (fun _ e => fw_ckb e) (Nat.le_of_ble_eq_true rfl) (Nat.le_of_ble_eq_true rfl) (Nat.le_of_ble_eq_true rfl) (Nat.le_of_ble_eq_true rfl) rfl rfl fun h145 => ?_
          refine r_iinc (i := 72) (1 : Int32) kc_iconst_1 rfl rfl rfl (Nat.le_of_ble_eq_true rfl) ?_
          refine r_goto (i := 73) (tgt := 49) rfl rfl rfl ?_
          exact r_lv (fw_sub1 rfl (fw_sub1 rfl (fw_sub1 rfl (fw_sub1 rfl (fw_sub1 rfl fw_sub0))))) (ih ((a49_5 * (6364136223846793005 : Int64)) + (1442695040888963407 : Int64)) (a49_7 + (1 : Int32)) h145)
def s_Joy_letHoursGo (F : Nat) (h : fw_H) (v0 : Option Nat) (v1 : Int32) (v2 : Int32) (v3 : Int64) : Option (Int32 × fw_H) :=
(f_ck h v0 11).bind fun _ =>
(f_gR h v0 11 3).bind fun x1 =>
(s_Vil_isNone h x1).bind fun x4 =>
if x4 = true then (some ((-1 : Int32), h)) else
if v1 < (1 : Int32) then (some ((-1 : Int32), h)) else
if (240 : Int32) < v1 then (some ((-1 : Int32), h)) else
(f_gR h v0 11 3).bind fun x23 =>
(f_gI h x23 7 12).bind fun x26 =>
if (x26 + v1) ≤ (9999 : Int32) then ((s_Joy_startWalk F h v0).bind fun h40 =>
l_Joy_letHoursGo_49 F v0 v1 v2 F v3 (0 : Int32) h40) else
some ((-1 : Int32), h)
theorem c_Joy_letHoursGo {G : fw_G} (F : Nat) {h : fw_H} {v0 : Option Nat} {v1 : Int32} {v2 : Int32} {v3 : Int64} : fw_Call G m_Joy_letHoursGo fw_wI 6 0 0 [fw_r v0, fw_i v1, fw_i v2, fw_j v3] h (s_Joy_letHoursGo F h v0 v1 v2 v3) := by
  refine fw_Call.of ok_Joy_letHoursGo.1 (Nat.le_of_ble_eq_true rfl) [(0, some (fw_r v0)), (1, some (fw_i v1)), (2, some (fw_i v2)), (3, some (fw_j v3))] rfl ?_
  refine r_ck ?_
  refine r_aload_n (i := 0) rfl rfl rfl ?_
  refine r_gR (i := 1) (ci := 11) (kf := 3) rfl (Nat.le_of_ble_eq_true rfl) wF_Joy_35 rfl rfl fun x1 => ?_
  refine r_VB0 (i := 2) (k2 := 0) (n2 := 0) ok_Vil_isNone wM_Joy_208 (c_Vil_isNone) (fun _ e => fw_ckb e) (Nat.le_of_ble_eq_true rfl) (Nat.le_of_ble_eq_true rfl) (Nat.le_of_ble_eq_true rfl) (Nat.le_of_ble_eq_true rfl) rfl rfl fun x4 => ?_
  refine r_ifneB (i := 3) (tgt := 37) rfl rfl rfl ?_ ?_
  · refine r_iconst (i := 17) (-1 : Int32) kc_iconst_m1 rfl rfl ?_
    exact r_retI (i := 18) rfl rfl rfl rfl
  · refine r_iload_n (i := 4) rfl rfl rfl ?_
    refine r_iconst (i := 5) (1 : Int32) kc_iconst_1 rfl rfl ?_
    refine r_icmp_lt (i := 6) (tgt := 37) rfl rfl rfl ?_ ?_
    · refine r_iconst (i := 17) (-1 : Int32) kc_iconst_m1 rfl rfl ?_
      exact r_retI (i := 18) rfl rfl rfl rfl
    · refine r_iload_n (i := 7) rfl rfl rfl ?_
      refine r_sipush (i := 8) (240 : Int32) kc_sipush_240 rfl rfl ?_
      refine r_icmp_gt (i := 9) (tgt := 37) rfl rfl rfl ?_ ?_
      · refine r_iconst (i := 17) (-1 : Int32) kc_iconst_m1 rfl rfl ?_
        exact r_retI (i := 18) rfl rfl rfl rfl
      · refine r_aload_n (i := 10) rfl rfl rfl ?_
        refine r_gR (i := 11) (ci := 11) (kf := 3) rfl (Nat.le_of_ble_eq_true rfl) wF_Joy_35 rfl rfl fun x23 => ?_
        refine r_gI (i := 12) (ci := 7) (kf := 12) rfl (Nat.le_of_ble_eq_true rfl) wF_Joy_238 rfl rfl fun x26 => ?_
        refine r_iload_n (i := 13) rfl rfl rfl ?_
        refine r_iadd (i := 14) rfl rfl ?_
        refine r_sipush (i := 15) (9999 : Int32) kc_sipush_9999 rfl rfl ?_
        refine r_icmp_le (i := 16) (tgt := 39) rfl rfl rfl ?_ ?_
        · refine r_aload_n (i := 19) rfl rfl rfl ?_
          refine r_VV0 (i := 20) (k2 := 0) (n2 := 0) ok_Joy_startWalk wM_Joy_198 (c_Joy_startWalk F) (fun _ e => fw_ckb e) (Nat.le_of_ble_eq_true rfl) (Nat.le_of_ble_eq_true rfl) (Nat.le_of_ble_eq_true rfl) (Nat.le_of_ble_eq_true rfl) rfl rfl fun h40 => ?_
          refine r_lload_n (i := 21) rfl rfl rfl ?_
          refine r_lstore (i := 22) rfl rfl (Nat.le_of_ble_eq_true rfl) rfl ?_
          refine r_iconst (i := 23) (0 : Int32) kc_iconst_0 rfl rfl ?_
          refine r_istore (i := 24) rfl rfl (Nat.le_of_ble_eq_true rfl) rfl ?_
          refine r_lv (fw_sub1 rfl (fw_sub1 rfl (fw_sub1 rfl (fw_sub1 rfl (fw_sub1 rfl fw_sub0))))) (cl_Joy_letHoursGo_49 F _ _ _)
        · refine r_iconst (i := 17) (-1 : Int32) kc_iconst_m1 rfl rfl ?_
          exact r_retI (i := 18) rfl rfl rfl rfl
-- Joy_go
def s_Joy_go (F : Nat) (h : fw_H) (v0 : Option Nat) (v1 : Int32) : Option (Int32 × fw_H) :=
(f_ck h v0 11).bind fun _ =>
(s_Joy_letHoursGo F h v0 v1 (0 : Int32) (0 : Int64)).bind fun x4 =>
some (x4.1, x4.2)
theorem c_Joy_go {G : fw_G} (F : Nat) {h : fw_H} {v0 : Option Nat} {v1 : Int32} : fw_Call G m_Joy_go fw_wI 7 0 0 [fw_r v0, fw_i v1] h (s_Joy_go F h v0 v1) := by
  refine fw_Call.of ok_Joy_go.1 (Nat.le_of_ble_eq_true rfl) [(0, some (fw_r v0)), (1, some (fw_i v1))] rfl ?_
  refine r_ck ?_
  refine r_aload_n (i := 0) rfl rfl rfl ?_
  refine r_iload_n (i := 1) rfl rfl rfl ?_
  refine r_iconst (i := 2) (0 : Int32) kc_iconst_0 rfl rfl ?_
  refine r_lconst (i := 3) (0 : Int64) rfl rfl rfl ?_
  refine r_VwI3 (i := 4) (k2 := 0) (n2 := 0) ok_Joy_letHoursGo wM_Joy_231 (c_Joy_letHoursGo F) (fun _ e => fw_ckb e) (Nat.le_of_ble_eq_true rfl) (Nat.le_of_ble_eq_true rfl) (Nat.le_of_ble_eq_true rfl) (Nat.le_of_ble_eq_true rfl) rfl rfl fun x4 => ?_
  exact r_retI (i := 5) rfl rfl rfl rfl
-- Joy_mist
def s_Joy_mist (h : fw_H) (v0 : Option Nat) (v1 : Int32) : Option (Bool × fw_H) :=
(f_ck h v0 11).bind fun _ =>
if v1 < (0 : Int32) then (some (false, h)) else
if (99 : Int32) < v1 then (some (false, h)) else
(f_gI h v0 11 11).bind fun x12 =>
if ¬ v1 = x12 then ((f_pI h v0 11 11 v1).bind fun h22 =>
some (true, h22)) else
some (false, h)
theorem c_Joy_mist {G : fw_G} {h : fw_H} {v0 : Option Nat} {v1 : Int32} : fw_Call G m_Joy_mist fw_wB 0 0 0 [fw_r v0, fw_i v1] h (s_Joy_mist h v0 v1) := by
  refine fw_Call.of ok_Joy_mist.1 (Nat.le_of_ble_eq_true rfl) [(0, some (fw_r v0)), (1, some (fw_i v1))] rfl ?_
  refine r_ck ?_
  refine r_iload_n (i := 0) rfl rfl rfl ?_
  refine r_if_lt (i := 1) (tgt := 18) rfl rfl rfl ?_ ?_
  · refine r_iconst (i := 9) (0 : Int32) kc_iconst_0 rfl rfl ?_
    exact r_retB (x := false) (i := 10) rfl rfl rfl rfl
  · refine r_iload_n (i := 2) rfl rfl rfl ?_
    refine r_bipush (i := 3) (99 : Int32) kc_bipush_99 rfl rfl ?_
    refine r_icmp_gt (i := 4) (tgt := 18) rfl rfl rfl ?_ ?_
    · refine r_iconst (i := 9) (0 : Int32) kc_iconst_0 rfl rfl ?_
      exact r_retB (x := false) (i := 10) rfl rfl rfl rfl
    · refine r_iload_n (i := 5) rfl rfl rfl ?_
      refine r_aload_n (i := 6) rfl rfl rfl ?_
      refine r_gI (i := 7) (ci := 11) (kf := 11) rfl (Nat.le_of_ble_eq_true rfl) wF_Joy_235 rfl rfl fun x12 => ?_
      refine r_icmp_ne (i := 8) (tgt := 20) rfl rfl rfl ?_ ?_
      · refine r_aload_n (i := 11) rfl rfl rfl ?_
        refine r_iload_n (i := 12) rfl rfl rfl ?_
        refine r_pI (i := 13) (ci := 11) (kf := 11) rfl (Nat.le_of_ble_eq_true rfl) wF_Joy_235 rfl (tyX11_ok 11 (Nat.le_of_ble_eq_true rfl)) rfl rfl fun h22 => ?_
        refine r_iconst (i := 14) (1 : Int32) kc_iconst_1 rfl rfl ?_
        exact r_retB (x := true) (i := 15) rfl rfl rfl rfl
      · refine r_iconst (i := 9) (0 : Int32) kc_iconst_0 rfl rfl ?_
        exact r_retB (x := false) (i := 10) rfl rfl rfl rfl
-- Joy_mists
def s_Joy_mists (F : Nat) (h : fw_H) (v0 : Option Nat) (v1 : Int32) (v2 : Int64) : Option (Int32 × fw_H) :=
(f_ck h v0 11).bind fun _ =>
(f_gI h v0 11 11).bind fun x3 =>
(s_Joy_letHoursGo F h v0 v1 x3 v2).bind fun x7 =>
some (x7.1, x7.2)
theorem c_Joy_mists {G : fw_G} (F : Nat) {h : fw_H} {v0 : Option Nat} {v1 : Int32} {v2 : Int64} : fw_Call G m_Joy_mists fw_wI 7 0 0 [fw_r v0, fw_i v1, fw_j v2] h (s_Joy_mists F h v0 v1 v2) := by
  refine fw_Call.of ok_Joy_mists.1 (Nat.le_of_ble_eq_true rfl) [(0, some (fw_r v0)), (1, some (fw_i v1)), (2, some (fw_j v2))] rfl ?_
  refine r_ck ?_
  refine r_aload_n (i := 0) rfl rfl rfl ?_
  refine r_iload_n (i := 1) rfl rfl rfl ?_
  refine r_aload_n (i := 2) rfl rfl rfl ?_
  refine r_gI (i := 3) (ci := 11) (kf := 11) rfl (Nat.le_of_ble_eq_true rfl) wF_Joy_235 rfl rfl fun x3 => ?_
  refine r_lload_n (i := 4) rfl rfl rfl ?_
  refine r_VwI3 (i := 5) (k2 := 0) (n2 := 0) ok_Joy_letHoursGo wM_Joy_231 (c_Joy_letHoursGo F) (fun _ e => fw_ckb e) (Nat.le_of_ble_eq_true rfl) (Nat.le_of_ble_eq_true rfl) (Nat.le_of_ble_eq_true rfl) (Nat.le_of_ble_eq_true rfl) rfl rfl fun x7 => ?_
  exact r_retI (i := 6) rfl rfl rfl rfl
-- Joy_undo
def s_Joy_undo (F : Nat) (h : fw_H) (v0 : Option Nat) : Option (Int32 × fw_H) :=
(f_ck h v0 11).bind fun _ =>
(f_gR h v0 11 10).bind fun x1 =>
(f_gR h v0 11 3).bind fun x5 =>
(s_Acts_undoLatest F h x1 x5).bind fun x8 =>
some (x8.1, x8.2)
theorem c_Joy_undo {G : fw_G} (F : Nat) {h : fw_H} {v0 : Option Nat} : fw_Call G m_Joy_undo fw_wI 6 0 0 [fw_r v0] h (s_Joy_undo F h v0) := by
  refine fw_Call.of ok_Joy_undo.1 (Nat.le_of_ble_eq_true rfl) [(0, some (fw_r v0))] rfl ?_
  refine r_ck ?_
  refine r_aload_n (i := 0) rfl rfl rfl ?_
  refine r_gR (i := 1) (ci := 11) (kf := 10) rfl (Nat.le_of_ble_eq_true rfl) wF_Joy_60 rfl rfl fun x1 => ?_
  refine r_aload_n (i := 2) rfl rfl rfl ?_
  refine r_gR (i := 3) (ci := 11) (kf := 3) rfl (Nat.le_of_ble_eq_true rfl) wF_Joy_35 rfl rfl fun x5 => ?_
  refine r_VwI1 (i := 4) (k2 := 0) (n2 := 0) ok_Acts_undoLatest wM_Joy_257 (c_Acts_undoLatest F) (fun _ e => fw_ckb e) (Nat.le_of_ble_eq_true rfl) (Nat.le_of_ble_eq_true rfl) (Nat.le_of_ble_eq_true rfl) (Nat.le_of_ble_eq_true rfl) rfl rfl fun x8 => ?_
  exact r_retI (i := 5) rfl rfl rfl rfl
-- Joy_log
def s_Joy_log (h : fw_H) (v0 : Option Nat) (v1 : Int32) : Option Int32 :=
(f_ck h v0 11).bind fun _ =>
(f_gR h v0 11 3).bind fun x1 =>
(s_Vil_logged h x1 v1).bind fun x5 =>
some x5
theorem c_Joy_log {G : fw_G} {h : fw_H} {v0 : Option Nat} {v1 : Int32} : fw_Call G m_Joy_log (fw_eI h) 3 0 0 [fw_r v0, fw_i v1] h (s_Joy_log h v0 v1) := by
  refine fw_Call.of ok_Joy_log.1 (Nat.le_of_ble_eq_true rfl) [(0, some (fw_r v0)), (1, some (fw_i v1))] rfl ?_
  refine r_ck ?_
  refine r_aload_n (i := 0) rfl rfl rfl ?_
  refine r_gR (i := 1) (ci := 11) (kf := 3) rfl (Nat.le_of_ble_eq_true rfl) wF_Joy_35 rfl rfl fun x1 => ?_
  refine r_iload_n (i := 2) rfl rfl rfl ?_
  refine r_VI1 (i := 3) (k2 := 0) (n2 := 0) ok_Vil_logged wM_Joy_261 (c_Vil_logged) (fun _ e => fw_ckb e) (Nat.le_of_ble_eq_true rfl) (Nat.le_of_ble_eq_true rfl) (Nat.le_of_ble_eq_true rfl) (Nat.le_of_ble_eq_true rfl) rfl rfl fun x5 => ?_
  exact r_retI (i := 4) rfl rfl rfl rfl
-- Joy_ahead
def s_Joy_ahead (F : Nat) (h : fw_H) (v0 : Option Nat) (v1 : Int32) : Option (Int32 × fw_H) :=
(f_ck h v0 11).bind fun _ =>
(f_gR h v0 11 3).bind fun x1 =>
(s_Vil_isNone h x1).bind fun x4 =>
if x4 = true then (some ((-1 : Int32), h)) else
if v1 < (0 : Int32) then (some ((-1 : Int32), h)) else
if v1 ≤ (99 : Int32) then ((s_Joy_startWalk F h v0).bind fun h23 =>
(f_gR h23 v0 11 12).bind fun x27 =>
(s_Walk_hours F h23 x27 v1).bind fun h31 =>
(f_gR h31 v0 11 12).bind fun x35 =>
(f_gI h31 x35 9 2).bind fun x38 =>
some (x38, h31)) else
some ((-1 : Int32), h)
theorem c_Joy_ahead {G : fw_G} (F : Nat) {h : fw_H} {v0 : Option Nat} {v1 : Int32} : fw_Call G m_Joy_ahead fw_wI 6 0 0 [fw_r v0, fw_i v1] h (s_Joy_ahead F h v0 v1) := by
  refine fw_Call.of ok_Joy_ahead.1 (Nat.le_of_ble_eq_true rfl) [(0, some (fw_r v0)), (1, some (fw_i v1))] rfl ?_
  refine r_ck ?_
  refine r_aload_n (i := 0) rfl rfl rfl ?_
  refine r_gR (i := 1) (ci := 11) (kf := 3) rfl (Nat.le_of_ble_eq_true rfl) wF_Joy_35 rfl rfl fun x1 => ?_
  refine r_VB0 (i := 2) (k2 := 0) (n2 := 0) ok_Vil_isNone wM_Joy_208 (c_Vil_isNone) (fun _ e => fw_ckb e) (Nat.le_of_ble_eq_true rfl) (Nat.le_of_ble_eq_true rfl) (Nat.le_of_ble_eq_true rfl) (Nat.le_of_ble_eq_true rfl) rfl rfl fun x4 => ?_
  refine r_ifneB (i := 3) (tgt := 20) rfl rfl rfl ?_ ?_
  · refine r_iconst (i := 9) (-1 : Int32) kc_iconst_m1 rfl rfl ?_
    exact r_retI (i := 10) rfl rfl rfl rfl
  · refine r_iload_n (i := 4) rfl rfl rfl ?_
    refine r_if_lt (i := 5) (tgt := 20) rfl rfl rfl ?_ ?_
    · refine r_iconst (i := 9) (-1 : Int32) kc_iconst_m1 rfl rfl ?_
      exact r_retI (i := 10) rfl rfl rfl rfl
    · refine r_iload_n (i := 6) rfl rfl rfl ?_
      refine r_bipush (i := 7) (99 : Int32) kc_bipush_99 rfl rfl ?_
      refine r_icmp_le (i := 8) (tgt := 22) rfl rfl rfl ?_ ?_
      · refine r_aload_n (i := 11) rfl rfl rfl ?_
        refine r_VV0 (i := 12) (k2 := 0) (n2 := 0) ok_Joy_startWalk wM_Joy_198 (c_Joy_startWalk F) (fun _ e => fw_ckb e) (Nat.le_of_ble_eq_true rfl) (Nat.le_of_ble_eq_true rfl) (Nat.le_of_ble_eq_true rfl) (Nat.le_of_ble_eq_true rfl) rfl rfl fun h23 => ?_
        refine r_aload_n (i := 13) rfl rfl rfl ?_
        refine r_gR (i := 14) (ci := 11) (kf := 12) rfl (Nat.le_of_ble_eq_true rfl) wF_Joy_67 rfl rfl fun x27 => ?_
        refine r_iload_n (i := 15) rfl rfl rfl ?_
        refine r_VV1 (i := 16) (k2 := 0) (n2 := 0) ok_Walk_hours wM_Joy_264 (c_Walk_hours F) (fun _ e => fw_ckb e) (Nat.le_of_ble_eq_true rfl) (Nat.le_of_ble_eq_true rfl) (Nat.le_of_ble_eq_true rfl) (Nat.le_of_ble_eq_true rfl) rfl rfl fun h31 => ?_
        refine r_aload_n (i := 17) rfl rfl rfl ?_
        refine r_gR (i := 18) (ci := 11) (kf := 12) rfl (Nat.le_of_ble_eq_true rfl) wF_Joy_67 rfl rfl fun x35 => ?_
        refine r_gI (i := 19) (ci := 9) (kf := 2) rfl (Nat.le_of_ble_eq_true rfl) wF_Joy_252 rfl rfl fun x38 => ?_
        exact r_retI (i := 20) rfl rfl rfl rfl
      · refine r_iconst (i := 9) (-1 : Int32) kc_iconst_m1 rfl rfl ?_
        exact r_retI (i := 10) rfl rfl rfl rfl
-- Joy_when
def s_Joy_when (F : Nat) (h : fw_H) (v0 : Option Nat) (v1 : Int32) : Option (Int32 × fw_H) :=
(f_ck h v0 11).bind fun _ =>
(f_gR h v0 11 3).bind fun x1 =>
(s_Vil_hasHouse h x1 v1).bind fun x5 =>
if x5 = true then ((s_Joy_startWalk F h v0).bind fun h14 =>
(f_gR h14 v0 11 12).bind fun x18 =>
(s_Walk_hoursTo F h14 x18 v1).bind fun x22 =>
some (x22.1, x22.2)) else
some ((-1 : Int32), h)
theorem c_Joy_when {G : fw_G} (F : Nat) {h : fw_H} {v0 : Option Nat} {v1 : Int32} : fw_Call G m_Joy_when fw_wI 6 0 0 [fw_r v0, fw_i v1] h (s_Joy_when F h v0 v1) := by
  refine fw_Call.of ok_Joy_when.1 (Nat.le_of_ble_eq_true rfl) [(0, some (fw_r v0)), (1, some (fw_i v1))] rfl ?_
  refine r_ck ?_
  refine r_aload_n (i := 0) rfl rfl rfl ?_
  refine r_gR (i := 1) (ci := 11) (kf := 3) rfl (Nat.le_of_ble_eq_true rfl) wF_Joy_35 rfl rfl fun x1 => ?_
  refine r_iload_n (i := 2) rfl rfl rfl ?_
  refine r_VB1 (i := 3) (k2 := 0) (n2 := 0) ok_Vil_hasHouse wM_Joy_146 (c_Vil_hasHouse) (fun _ e => fw_ckb e) (Nat.le_of_ble_eq_true rfl) (Nat.le_of_ble_eq_true rfl) (Nat.le_of_ble_eq_true rfl) (Nat.le_of_ble_eq_true rfl) rfl rfl fun x5 => ?_
  refine r_ifneB (i := 4) (tgt := 13) rfl rfl rfl ?_ ?_
  · refine r_aload_n (i := 7) rfl rfl rfl ?_
    refine r_VV0 (i := 8) (k2 := 0) (n2 := 0) ok_Joy_startWalk wM_Joy_198 (c_Joy_startWalk F) (fun _ e => fw_ckb e) (Nat.le_of_ble_eq_true rfl) (Nat.le_of_ble_eq_true rfl) (Nat.le_of_ble_eq_true rfl) (Nat.le_of_ble_eq_true rfl) rfl rfl fun h14 => ?_
    refine r_aload_n (i := 9) rfl rfl rfl ?_
    refine r_gR (i := 10) (ci := 11) (kf := 12) rfl (Nat.le_of_ble_eq_true rfl) wF_Joy_67 rfl rfl fun x18 => ?_
    refine r_iload_n (i := 11) rfl rfl rfl ?_
    refine r_VwI1 (i := 12) (k2 := 0) (n2 := 0) ok_Walk_hoursTo wM_Joy_267 (c_Walk_hoursTo F) (fun _ e => fw_ckb e) (Nat.le_of_ble_eq_true rfl) (Nat.le_of_ble_eq_true rfl) (Nat.le_of_ble_eq_true rfl) (Nat.le_of_ble_eq_true rfl) rfl rfl fun x22 => ?_
    exact r_retI (i := 13) rfl rfl rfl rfl
  · refine r_iconst (i := 5) (-1 : Int32) kc_iconst_m1 rfl rfl ?_
    exact r_retI (i := 6) rfl rfl rfl rfl
-- Joy_round
def s_Joy_round (F : Nat) (h : fw_H) (v0 : Option Nat) (v1 : Int32) : Option (Int32 × fw_H) :=
(f_ck h v0 11).bind fun _ =>
(f_gR h v0 11 3).bind fun x1 =>
(s_Vil_isNone h x1).bind fun x4 =>
if x4 = true then (some ((-1 : Int32), h)) else
if v1 < (0 : Int32) then (some ((-1 : Int32), h)) else
if v1 ≤ (1 : Int32) then ((s_Joy_startWalk F h v0).bind fun h22 =>
(f_gR h22 v0 11 12).bind fun x26 =>
(s_Walk_circle F h22 x26).bind fun h29 =>
if ¬ v1 = (0 : Int32) then ((f_gR h29 v0 11 12).bind fun x47 =>
(f_gI h29 x47 9 14).bind fun x50 =>
some (x50, h29)) else
(f_gR h29 v0 11 12).bind fun x37 =>
(f_gI h29 x37 9 13).bind fun x40 =>
some (x40, h29)) else
some ((-1 : Int32), h)
theorem c_Joy_round {G : fw_G} (F : Nat) {h : fw_H} {v0 : Option Nat} {v1 : Int32} : fw_Call G m_Joy_round fw_wI 6 0 0 [fw_r v0, fw_i v1] h (s_Joy_round F h v0 v1) := by
  refine fw_Call.of ok_Joy_round.1 (Nat.le_of_ble_eq_true rfl) [(0, some (fw_r v0)), (1, some (fw_i v1))] rfl ?_
  refine r_ck ?_
  refine r_aload_n (i := 0) rfl rfl rfl ?_
  refine r_gR (i := 1) (ci := 11) (kf := 3) rfl (Nat.le_of_ble_eq_true rfl) wF_Joy_35 rfl rfl fun x1 => ?_
  refine r_VB0 (i := 2) (k2 := 0) (n2 := 0) ok_Vil_isNone wM_Joy_208 (c_Vil_isNone) (fun _ e => fw_ckb e) (Nat.le_of_ble_eq_true rfl) (Nat.le_of_ble_eq_true rfl) (Nat.le_of_ble_eq_true rfl) (Nat.le_of_ble_eq_true rfl) rfl rfl fun x4 => ?_
  refine r_ifneB (i := 3) (tgt := 19) rfl rfl rfl ?_ ?_
  · refine r_iconst (i := 9) (-1 : Int32) kc_iconst_m1 rfl rfl ?_
    exact r_retI (i := 10) rfl rfl rfl rfl
  · refine r_iload_n (i := 4) rfl rfl rfl ?_
    refine r_if_lt (i := 5) (tgt := 19) rfl rfl rfl ?_ ?_
    · refine r_iconst (i := 9) (-1 : Int32) kc_iconst_m1 rfl rfl ?_
      exact r_retI (i := 10) rfl rfl rfl rfl
    · refine r_iload_n (i := 6) rfl rfl rfl ?_
      refine r_iconst (i := 7) (1 : Int32) kc_iconst_1 rfl rfl ?_
      refine r_icmp_le (i := 8) (tgt := 21) rfl rfl rfl ?_ ?_
      · refine r_aload_n (i := 11) rfl rfl rfl ?_
        refine r_VV0 (i := 12) (k2 := 0) (n2 := 0) ok_Joy_startWalk wM_Joy_198 (c_Joy_startWalk F) (fun _ e => fw_ckb e) (Nat.le_of_ble_eq_true rfl) (Nat.le_of_ble_eq_true rfl) (Nat.le_of_ble_eq_true rfl) (Nat.le_of_ble_eq_true rfl) rfl rfl fun h22 => ?_
        refine r_aload_n (i := 13) rfl rfl rfl ?_
        refine r_gR (i := 14) (ci := 11) (kf := 12) rfl (Nat.le_of_ble_eq_true rfl) wF_Joy_67 rfl rfl fun x26 => ?_
        refine r_VV0 (i := 15) (k2 := 0) (n2 := 0) ok_Walk_circle wM_Joy_270 (c_Walk_circle F) (fun _ e => fw_ckb e) (Nat.le_of_ble_eq_true rfl) (Nat.le_of_ble_eq_true rfl) (Nat.le_of_ble_eq_true rfl) (Nat.le_of_ble_eq_true rfl) rfl rfl fun h29 => ?_
        refine r_iload_n (i := 16) rfl rfl rfl ?_
        refine r_if_ne (i := 17) (tgt := 46) rfl rfl rfl ?_ ?_
        · refine r_aload_n (i := 22) rfl rfl rfl ?_
          refine r_gR (i := 23) (ci := 11) (kf := 12) rfl (Nat.le_of_ble_eq_true rfl) wF_Joy_67 rfl rfl fun x47 => ?_
          refine r_gI (i := 24) (ci := 9) (kf := 14) rfl (Nat.le_of_ble_eq_true rfl) wF_Joy_276 rfl rfl fun x50 => ?_
          exact r_retI (i := 25) rfl rfl rfl rfl
        · refine r_aload_n (i := 18) rfl rfl rfl ?_
          refine r_gR (i := 19) (ci := 11) (kf := 12) rfl (Nat.le_of_ble_eq_true rfl) wF_Joy_67 rfl rfl fun x37 => ?_
          refine r_gI (i := 20) (ci := 9) (kf := 13) rfl (Nat.le_of_ble_eq_true rfl) wF_Joy_273 rfl rfl fun x40 => ?_
          refine r_goto (i := 21) (tgt := 53) rfl rfl rfl ?_
          exact r_retI (i := 25) rfl rfl rfl rfl
      · refine r_iconst (i := 9) (-1 : Int32) kc_iconst_m1 rfl rfl ?_
        exact r_retI (i := 10) rfl rfl rfl rfl
-- Joy_never
def s_Joy_never (F : Nat) (h : fw_H) (v0 : Option Nat) : Option (Int32 × fw_H) :=
(f_ck h v0 11).bind fun _ =>
(f_gR h v0 11 3).bind fun x1 =>
(s_Vil_isNone h x1).bind fun x4 =>
if x4 = true then (some ((-1 : Int32), h)) else
(s_Joy_startWalk F h v0).bind fun h13 =>
(f_gR h13 v0 11 12).bind fun x17 =>
(s_Walk_circle F h13 x17).bind fun h20 =>
(f_gR h20 v0 11 3).bind fun x24 =>
(s_Vil_all h20 x24).bind fun x27 =>
(f_gR h20 v0 11 12).bind fun x31 =>
(f_gI h20 x31 9 15).bind fun x34 =>
some ((x27 &&& (x34 ^^^ (-1 : Int32))), h20)
theorem c_Joy_never {G : fw_G} (F : Nat) {h : fw_H} {v0 : Option Nat} : fw_Call G m_Joy_never fw_wI 6 0 0 [fw_r v0] h (s_Joy_never F h v0) := by
  refine fw_Call.of ok_Joy_never.1 (Nat.le_of_ble_eq_true rfl) [(0, some (fw_r v0))] rfl ?_
  refine r_ck ?_
  refine r_aload_n (i := 0) rfl rfl rfl ?_
  refine r_gR (i := 1) (ci := 11) (kf := 3) rfl (Nat.le_of_ble_eq_true rfl) wF_Joy_35 rfl rfl fun x1 => ?_
  refine r_VB0 (i := 2) (k2 := 0) (n2 := 0) ok_Vil_isNone wM_Joy_208 (c_Vil_isNone) (fun _ e => fw_ckb e) (Nat.le_of_ble_eq_true rfl) (Nat.le_of_ble_eq_true rfl) (Nat.le_of_ble_eq_true rfl) (Nat.le_of_ble_eq_true rfl) rfl rfl fun x4 => ?_
  refine r_ifeqB (i := 3) (tgt := 12) rfl rfl rfl ?_ ?_
  · refine r_aload_n (i := 6) rfl rfl rfl ?_
    refine r_VV0 (i := 7) (k2 := 0) (n2 := 0) ok_Joy_startWalk wM_Joy_198 (c_Joy_startWalk F) (fun _ e => fw_ckb e) (Nat.le_of_ble_eq_true rfl) (Nat.le_of_ble_eq_true rfl) (Nat.le_of_ble_eq_true rfl) (Nat.le_of_ble_eq_true rfl) rfl rfl fun h13 => ?_
    refine r_aload_n (i := 8) rfl rfl rfl ?_
    refine r_gR (i := 9) (ci := 11) (kf := 12) rfl (Nat.le_of_ble_eq_true rfl) wF_Joy_67 rfl rfl fun x17 => ?_
    refine r_VV0 (i := 10) (k2 := 0) (n2 := 0) ok_Walk_circle wM_Joy_270 (c_Walk_circle F) (fun _ e => fw_ckb e) (Nat.le_of_ble_eq_true rfl) (Nat.le_of_ble_eq_true rfl) (Nat.le_of_ble_eq_true rfl) (Nat.le_of_ble_eq_true rfl) rfl rfl fun h20 => ?_
    refine r_aload_n (i := 11) rfl rfl rfl ?_
    refine r_gR (i := 12) (ci := 11) (kf := 3) rfl (Nat.le_of_ble_eq_true rfl) wF_Joy_35 rfl rfl fun x24 => ?_
    refine r_VI0 (i := 13) (k2 := 0) (n2 := 0) ok_Vil_all wM_Joy_279 (c_Vil_all) (fun _ e => fw_ckb e) (Nat.le_of_ble_eq_true rfl) (Nat.le_of_ble_eq_true rfl) (Nat.le_of_ble_eq_true rfl) (Nat.le_of_ble_eq_true rfl) rfl rfl fun x27 => ?_
    refine r_aload_n (i := 14) rfl rfl rfl ?_
    refine r_gR (i := 15) (ci := 11) (kf := 12) rfl (Nat.le_of_ble_eq_true rfl) wF_Joy_67 rfl rfl fun x31 => ?_
    refine r_gI (i := 16) (ci := 9) (kf := 15) rfl (Nat.le_of_ble_eq_true rfl) wF_Joy_282 rfl rfl fun x34 => ?_
    refine r_iconst (i := 17) (-1 : Int32) kc_iconst_m1 rfl rfl ?_
    refine r_ixor (i := 18) rfl rfl ?_
    refine r_iand (i := 19) rfl rfl ?_
    exact r_retI (i := 20) rfl rfl rfl rfl
  · refine r_iconst (i := 4) (-1 : Int32) kc_iconst_m1 rfl rfl ?_
    exact r_retI (i := 5) rfl rfl rfl rfl
-- Joy_feud
def s_Joy_feud (F : Nat) (h : fw_H) (v0 : Option Nat) : Option (Int32 × fw_H) :=
(f_ck h v0 11).bind fun _ =>
(f_gR h v0 11 3).bind fun x1 =>
(s_Vil_isNone h x1).bind fun x4 =>
if x4 = true then (some ((-1 : Int32), h)) else
(s_Joy_startWalk F h v0).bind fun h13 =>
(f_gR h13 v0 11 12).bind fun x17 =>
(s_Walk_circle F h13 x17).bind fun h20 =>
(f_gR h20 v0 11 12).bind fun x24 =>
(s_Walk_metInLoop F h20 x24).bind fun x27 =>
some (x27.1, x27.2)
theorem c_Joy_feud {G : fw_G} (F : Nat) {h : fw_H} {v0 : Option Nat} : fw_Call G m_Joy_feud fw_wI 6 0 0 [fw_r v0] h (s_Joy_feud F h v0) := by
  refine fw_Call.of ok_Joy_feud.1 (Nat.le_of_ble_eq_true rfl) [(0, some (fw_r v0))] rfl ?_
  refine r_ck ?_
  refine r_aload_n (i := 0) rfl rfl rfl ?_
  refine r_gR (i := 1) (ci := 11) (kf := 3) rfl (Nat.le_of_ble_eq_true rfl) wF_Joy_35 rfl rfl fun x1 => ?_
  refine r_VB0 (i := 2) (k2 := 0) (n2 := 0) ok_Vil_isNone wM_Joy_208 (c_Vil_isNone) (fun _ e => fw_ckb e) (Nat.le_of_ble_eq_true rfl) (Nat.le_of_ble_eq_true rfl) (Nat.le_of_ble_eq_true rfl) (Nat.le_of_ble_eq_true rfl) rfl rfl fun x4 => ?_
  refine r_ifeqB (i := 3) (tgt := 12) rfl rfl rfl ?_ ?_
  · refine r_aload_n (i := 6) rfl rfl rfl ?_
    refine r_VV0 (i := 7) (k2 := 0) (n2 := 0) ok_Joy_startWalk wM_Joy_198 (c_Joy_startWalk F) (fun _ e => fw_ckb e) (Nat.le_of_ble_eq_true rfl) (Nat.le_of_ble_eq_true rfl) (Nat.le_of_ble_eq_true rfl) (Nat.le_of_ble_eq_true rfl) rfl rfl fun h13 => ?_
    refine r_aload_n (i := 8) rfl rfl rfl ?_
    refine r_gR (i := 9) (ci := 11) (kf := 12) rfl (Nat.le_of_ble_eq_true rfl) wF_Joy_67 rfl rfl fun x17 => ?_
    refine r_VV0 (i := 10) (k2 := 0) (n2 := 0) ok_Walk_circle wM_Joy_270 (c_Walk_circle F) (fun _ e => fw_ckb e) (Nat.le_of_ble_eq_true rfl) (Nat.le_of_ble_eq_true rfl) (Nat.le_of_ble_eq_true rfl) (Nat.le_of_ble_eq_true rfl) rfl rfl fun h20 => ?_
    refine r_aload_n (i := 11) rfl rfl rfl ?_
    refine r_gR (i := 12) (ci := 11) (kf := 12) rfl (Nat.le_of_ble_eq_true rfl) wF_Joy_67 rfl rfl fun x24 => ?_
    refine r_VwI0 (i := 13) (k2 := 0) (n2 := 0) ok_Walk_metInLoop wM_Joy_285 (c_Walk_metInLoop F) (fun _ e => fw_ckb e) (Nat.le_of_ble_eq_true rfl) (Nat.le_of_ble_eq_true rfl) (Nat.le_of_ble_eq_true rfl) (Nat.le_of_ble_eq_true rfl) rfl rfl fun x27 => ?_
    exact r_retI (i := 14) rfl rfl rfl rfl
  · refine r_iconst (i := 4) (-1 : Int32) kc_iconst_m1 rfl rfl ?_
    exact r_retI (i := 5) rfl rfl rfl rfl
-- Joy_stand
def s_Joy_stand (F : Nat) (h : fw_H) (v0 : Option Nat) (v1 : Int32) (v2 : Int32) : Option (Int32 × fw_H) :=
(f_ck h v0 11).bind fun _ =>
(f_gR h v0 11 3).bind fun x1 =>
(s_Vil_hasHouse h x1 v1).bind fun x5 =>
if x5 = true then (if v2 < (1 : Int32) then (some ((-1 : Int32), h)) else
if v2 ≤ (30 : Int32) then ((s_Joy_startWalk F h v0).bind fun h25 =>
(f_gR h25 v0 11 13).bind fun x29 =>
(s_Ways_fewestTurns F h25 x29 v1 v2).bind fun x34 =>
some (x34.1, x34.2)) else
some ((-1 : Int32), h)) else
some ((-1 : Int32), h)
theorem c_Joy_stand {G : fw_G} (F : Nat) {h : fw_H} {v0 : Option Nat} {v1 : Int32} {v2 : Int32} : fw_Call G m_Joy_stand fw_wI 86 0 0 [fw_r v0, fw_i v1, fw_i v2] h (s_Joy_stand F h v0 v1 v2) := by
  refine fw_Call.of ok_Joy_stand.1 (Nat.le_of_ble_eq_true rfl) [(0, some (fw_r v0)), (1, some (fw_i v1)), (2, some (fw_i v2))] rfl ?_
  refine r_ck ?_
  refine r_aload_n (i := 0) rfl rfl rfl ?_
  refine r_gR (i := 1) (ci := 11) (kf := 3) rfl (Nat.le_of_ble_eq_true rfl) wF_Joy_35 rfl rfl fun x1 => ?_
  refine r_iload_n (i := 2) rfl rfl rfl ?_
  refine r_VB1 (i := 3) (k2 := 0) (n2 := 0) ok_Vil_hasHouse wM_Joy_146 (c_Vil_hasHouse) (fun _ e => fw_ckb e) (Nat.le_of_ble_eq_true rfl) (Nat.le_of_ble_eq_true rfl) (Nat.le_of_ble_eq_true rfl) (Nat.le_of_ble_eq_true rfl) rfl rfl fun x5 => ?_
  refine r_ifeqB (i := 4) (tgt := 22) rfl rfl rfl ?_ ?_
  · refine r_iconst (i := 11) (-1 : Int32) kc_iconst_m1 rfl rfl ?_
    exact r_retI (i := 12) rfl rfl rfl rfl
  · refine r_iload_n (i := 5) rfl rfl rfl ?_
    refine r_iconst (i := 6) (1 : Int32) kc_iconst_1 rfl rfl ?_
    refine r_icmp_lt (i := 7) (tgt := 22) rfl rfl rfl ?_ ?_
    · refine r_iconst (i := 11) (-1 : Int32) kc_iconst_m1 rfl rfl ?_
      exact r_retI (i := 12) rfl rfl rfl rfl
    · refine r_iload_n (i := 8) rfl rfl rfl ?_
      refine r_bipush (i := 9) (30 : Int32) kc_bipush_30 rfl rfl ?_
      refine r_icmp_le (i := 10) (tgt := 24) rfl rfl rfl ?_ ?_
      · refine r_aload_n (i := 13) rfl rfl rfl ?_
        refine r_VV0 (i := 14) (k2 := 0) (n2 := 0) ok_Joy_startWalk wM_Joy_198 (c_Joy_startWalk F) (fun _ e => fw_ckb e) (Nat.le_of_ble_eq_true rfl) (Nat.le_of_ble_eq_true rfl) (Nat.le_of_ble_eq_true rfl) (Nat.le_of_ble_eq_true rfl) rfl rfl fun h25 => ?_
        refine r_aload_n (i := 15) rfl rfl rfl ?_
        refine r_gR (i := 16) (ci := 11) (kf := 13) rfl (Nat.le_of_ble_eq_true rfl) wF_Joy_76 rfl rfl fun x29 => ?_
        refine r_iload_n (i := 17) rfl rfl rfl ?_
        refine r_iload_n (i := 18) rfl rfl rfl ?_
        refine r_VwI2 (i := 19) (k2 := 0) (n2 := 0) ok_Ways_fewestTurns wM_Joy_288 (c_Ways_fewestTurns F) (fun _ e => fw_ckb e) (Nat.le_of_ble_eq_true rfl) (Nat.le_of_ble_eq_true rfl) (Nat.le_of_ble_eq_true rfl) (Nat.le_of_ble_eq_true rfl) rfl rfl fun x34 => ?_
        exact r_retI (i := 20) rfl rfl rfl rfl
      · refine r_iconst (i := 11) (-1 : Int32) kc_iconst_m1 rfl rfl ?_
        exact r_retI (i := 12) rfl rfl rfl rfl
-- Joy_lies
def s_Joy_lies (F : Nat) (h : fw_H) (v0 : Option Nat) (v1 : Int32) (v2 : Int32) : Option (Int32 × fw_H) :=
(f_ck h v0 11).bind fun _ =>
(f_gR h v0 11 3).bind fun x1 =>
(s_Vil_hasHouse h x1 v1).bind fun x5 =>
if x5 = true then (if v2 < (0 : Int32) then (some ((-1 : Int32), h)) else
if v2 ≤ (30 : Int32) then ((s_Joy_startWalk F h v0).bind fun h24 =>
(f_gR h24 v0 11 14).bind fun x28 =>
(s_Spread_fewestLies F h24 x28 v1 v2).bind fun x33 =>
some (x33.1, x33.2)) else
some ((-1 : Int32), h)) else
some ((-1 : Int32), h)
theorem c_Joy_lies {G : fw_G} (F : Nat) {h : fw_H} {v0 : Option Nat} {v1 : Int32} {v2 : Int32} : fw_Call G m_Joy_lies fw_wI 7 0 0 [fw_r v0, fw_i v1, fw_i v2] h (s_Joy_lies F h v0 v1 v2) := by
  refine fw_Call.of ok_Joy_lies.1 (Nat.le_of_ble_eq_true rfl) [(0, some (fw_r v0)), (1, some (fw_i v1)), (2, some (fw_i v2))] rfl ?_
  refine r_ck ?_
  refine r_aload_n (i := 0) rfl rfl rfl ?_
  refine r_gR (i := 1) (ci := 11) (kf := 3) rfl (Nat.le_of_ble_eq_true rfl) wF_Joy_35 rfl rfl fun x1 => ?_
  refine r_iload_n (i := 2) rfl rfl rfl ?_
  refine r_VB1 (i := 3) (k2 := 0) (n2 := 0) ok_Vil_hasHouse wM_Joy_146 (c_Vil_hasHouse) (fun _ e => fw_ckb e) (Nat.le_of_ble_eq_true rfl) (Nat.le_of_ble_eq_true rfl) (Nat.le_of_ble_eq_true rfl) (Nat.le_of_ble_eq_true rfl) rfl rfl fun x5 => ?_
  refine r_ifeqB (i := 4) (tgt := 21) rfl rfl rfl ?_ ?_
  · refine r_iconst (i := 10) (-1 : Int32) kc_iconst_m1 rfl rfl ?_
    exact r_retI (i := 11) rfl rfl rfl rfl
  · refine r_iload_n (i := 5) rfl rfl rfl ?_
    refine r_if_lt (i := 6) (tgt := 21) rfl rfl rfl ?_ ?_
    · refine r_iconst (i := 10) (-1 : Int32) kc_iconst_m1 rfl rfl ?_
      exact r_retI (i := 11) rfl rfl rfl rfl
    · refine r_iload_n (i := 7) rfl rfl rfl ?_
      refine r_bipush (i := 8) (30 : Int32) kc_bipush_30 rfl rfl ?_
      refine r_icmp_le (i := 9) (tgt := 23) rfl rfl rfl ?_ ?_
      · refine r_aload_n (i := 12) rfl rfl rfl ?_
        refine r_VV0 (i := 13) (k2 := 0) (n2 := 0) ok_Joy_startWalk wM_Joy_198 (c_Joy_startWalk F) (fun _ e => fw_ckb e) (Nat.le_of_ble_eq_true rfl) (Nat.le_of_ble_eq_true rfl) (Nat.le_of_ble_eq_true rfl) (Nat.le_of_ble_eq_true rfl) rfl rfl fun h24 => ?_
        refine r_aload_n (i := 14) rfl rfl rfl ?_
        refine r_gR (i := 15) (ci := 11) (kf := 14) rfl (Nat.le_of_ble_eq_true rfl) wF_Joy_83 rfl rfl fun x28 => ?_
        refine r_iload_n (i := 16) rfl rfl rfl ?_
        refine r_iload_n (i := 17) rfl rfl rfl ?_
        refine r_VwI2 (i := 18) (k2 := 0) (n2 := 0) ok_Spread_fewestLies wM_Joy_291 (c_Spread_fewestLies F) (fun _ e => fw_ckb e) (Nat.le_of_ble_eq_true rfl) (Nat.le_of_ble_eq_true rfl) (Nat.le_of_ble_eq_true rfl) (Nat.le_of_ble_eq_true rfl) rfl rfl fun x33 => ?_
        exact r_retI (i := 19) rfl rfl rfl rfl
      · refine r_iconst (i := 10) (-1 : Int32) kc_iconst_m1 rfl rfl ?_
        exact r_retI (i := 11) rfl rfl rfl rfl
-- Joy_shutters
def s_Joy_shutters (F : Nat) (h : fw_H) (v0 : Option Nat) (v1 : Int32) : Option (Int32 × fw_H) :=
(f_ck h v0 11).bind fun _ =>
(f_gR h v0 11 3).bind fun x1 =>
(s_Vil_hasHouse h x1 v1).bind fun x5 =>
if x5 = true then ((s_Joy_startWalk F h v0).bind fun h14 =>
(f_gR h14 v0 11 13).bind fun x18 =>
(s_Ways_fewestShutters F h14 x18 v1).bind fun x22 =>
some (x22.1, x22.2)) else
some ((-1 : Int32), h)
theorem c_Joy_shutters {G : fw_G} (F : Nat) {h : fw_H} {v0 : Option Nat} {v1 : Int32} : fw_Call G m_Joy_shutters fw_wI 87 0 0 [fw_r v0, fw_i v1] h (s_Joy_shutters F h v0 v1) := by
  refine fw_Call.of ok_Joy_shutters.1 (Nat.le_of_ble_eq_true rfl) [(0, some (fw_r v0)), (1, some (fw_i v1))] rfl ?_
  refine r_ck ?_
  refine r_aload_n (i := 0) rfl rfl rfl ?_
  refine r_gR (i := 1) (ci := 11) (kf := 3) rfl (Nat.le_of_ble_eq_true rfl) wF_Joy_35 rfl rfl fun x1 => ?_
  refine r_iload_n (i := 2) rfl rfl rfl ?_
  refine r_VB1 (i := 3) (k2 := 0) (n2 := 0) ok_Vil_hasHouse wM_Joy_146 (c_Vil_hasHouse) (fun _ e => fw_ckb e) (Nat.le_of_ble_eq_true rfl) (Nat.le_of_ble_eq_true rfl) (Nat.le_of_ble_eq_true rfl) (Nat.le_of_ble_eq_true rfl) rfl rfl fun x5 => ?_
  refine r_ifneB (i := 4) (tgt := 13) rfl rfl rfl ?_ ?_
  · refine r_aload_n (i := 7) rfl rfl rfl ?_
    refine r_VV0 (i := 8) (k2 := 0) (n2 := 0) ok_Joy_startWalk wM_Joy_198 (c_Joy_startWalk F) (fun _ e => fw_ckb e) (Nat.le_of_ble_eq_true rfl) (Nat.le_of_ble_eq_true rfl) (Nat.le_of_ble_eq_true rfl) (Nat.le_of_ble_eq_true rfl) rfl rfl fun h14 => ?_
    refine r_aload_n (i := 9) rfl rfl rfl ?_
    refine r_gR (i := 10) (ci := 11) (kf := 13) rfl (Nat.le_of_ble_eq_true rfl) wF_Joy_76 rfl rfl fun x18 => ?_
    refine r_iload_n (i := 11) rfl rfl rfl ?_
    refine r_VwI1 (i := 12) (k2 := 0) (n2 := 0) ok_Ways_fewestShutters wM_Joy_294 (c_Ways_fewestShutters F) (fun _ e => fw_ckb e) (Nat.le_of_ble_eq_true rfl) (Nat.le_of_ble_eq_true rfl) (Nat.le_of_ble_eq_true rfl) (Nat.le_of_ble_eq_true rfl) rfl rfl fun x22 => ?_
    exact r_retI (i := 13) rfl rfl rfl rfl
  · refine r_iconst (i := 5) (-1 : Int32) kc_iconst_m1 rfl rfl ?_
    exact r_retI (i := 6) rfl rfl rfl rfl
-- Joy_feast
def s_Joy_feast (F : Nat) (h : fw_H) (v0 : Option Nat) (v1 : Int32) (v2 : Int32) (v3 : Int32) : Option (Int32 × fw_H) :=
(f_ck h v0 11).bind fun _ =>
(f_gR h v0 11 3).bind fun x1 =>
(s_Vil_hasHouse h x1 v1).bind fun x5 =>
if x5 = true then (if v2 < (1 : Int32) then (some ((-1 : Int32), h)) else
if (30 : Int32) < v2 then (some ((-1 : Int32), h)) else
if v3 < (0 : Int32) then (some ((-1 : Int32), h)) else
if v3 ≤ (1 : Int32) then ((s_Joy_startWalk F h v0).bind fun h34 =>
(f_gR h34 v0 11 13).bind fun x38 =>
(s_Ways_leastFeast F h34 x38 v1 v2).bind fun x43 =>
if ¬ v3 = (0 : Int32) then ((f_gR x43.2 v0 11 13).bind fun x58 =>
(s_Ways_feaster x43.2 x58).bind fun x61 =>
some (x61, x43.2)) else
some (x43.1, x43.2)) else
some ((-1 : Int32), h)) else
some ((-1 : Int32), h)
theorem c_Joy_feast {G : fw_G} (F : Nat) {h : fw_H} {v0 : Option Nat} {v1 : Int32} {v2 : Int32} {v3 : Int32} : fw_Call G m_Joy_feast fw_wI 7 0 0 [fw_r v0, fw_i v1, fw_i v2, fw_i v3] h (s_Joy_feast F h v0 v1 v2 v3) := by
  refine fw_Call.of ok_Joy_feast.1 (Nat.le_of_ble_eq_true rfl) [(0, some (fw_r v0)), (1, some (fw_i v1)), (2, some (fw_i v2)), (3, some (fw_i v3))] rfl ?_
  refine r_ck ?_
  refine r_aload_n (i := 0) rfl rfl rfl ?_
  refine r_gR (i := 1) (ci := 11) (kf := 3) rfl (Nat.le_of_ble_eq_true rfl) wF_Joy_35 rfl rfl fun x1 => ?_
  refine r_iload_n (i := 2) rfl rfl rfl ?_
  refine r_VB1 (i := 3) (k2 := 0) (n2 := 0) ok_Vil_hasHouse wM_Joy_146 (c_Vil_hasHouse) (fun _ e => fw_ckb e) (Nat.le_of_ble_eq_true rfl) (Nat.le_of_ble_eq_true rfl) (Nat.le_of_ble_eq_true rfl) (Nat.le_of_ble_eq_true rfl) rfl rfl fun x5 => ?_
  refine r_ifeqB (i := 4) (tgt := 31) rfl rfl rfl ?_ ?_
  · refine r_iconst (i := 16) (-1 : Int32) kc_iconst_m1 rfl rfl ?_
    exact r_retI (i := 17) rfl rfl rfl rfl
  · refine r_iload_n (i := 5) rfl rfl rfl ?_
    refine r_iconst (i := 6) (1 : Int32) kc_iconst_1 rfl rfl ?_
    refine r_icmp_lt (i := 7) (tgt := 31) rfl rfl rfl ?_ ?_
    · refine r_iconst (i := 16) (-1 : Int32) kc_iconst_m1 rfl rfl ?_
      exact r_retI (i := 17) rfl rfl rfl rfl
    · refine r_iload_n (i := 8) rfl rfl rfl ?_
      refine r_bipush (i := 9) (30 : Int32) kc_bipush_30 rfl rfl ?_
      refine r_icmp_gt (i := 10) (tgt := 31) rfl rfl rfl ?_ ?_
      · refine r_iconst (i := 16) (-1 : Int32) kc_iconst_m1 rfl rfl ?_
        exact r_retI (i := 17) rfl rfl rfl rfl
      · refine r_iload_n (i := 11) rfl rfl rfl ?_
        refine r_if_lt (i := 12) (tgt := 31) rfl rfl rfl ?_ ?_
        · refine r_iconst (i := 16) (-1 : Int32) kc_iconst_m1 rfl rfl ?_
          exact r_retI (i := 17) rfl rfl rfl rfl
        · refine r_iload_n (i := 13) rfl rfl rfl ?_
          refine r_iconst (i := 14) (1 : Int32) kc_iconst_1 rfl rfl ?_
          refine r_icmp_le (i := 15) (tgt := 33) rfl rfl rfl ?_ ?_
          · refine r_aload_n (i := 18) rfl rfl rfl ?_
            refine r_VV0 (i := 19) (k2 := 0) (n2 := 0) ok_Joy_startWalk wM_Joy_198 (c_Joy_startWalk F) (fun _ e => fw_ckb e) (Nat.le_of_ble_eq_true rfl) (Nat.le_of_ble_eq_true rfl) (Nat.le_of_ble_eq_true rfl) (Nat.le_of_ble_eq_true rfl) rfl rfl fun h34 => ?_
            refine r_aload_n (i := 20) rfl rfl rfl ?_
            refine r_gR (i := 21) (ci := 11) (kf := 13) rfl (Nat.le_of_ble_eq_true rfl) wF_Joy_76 rfl rfl fun x38 => ?_
            refine r_iload_n (i := 22) rfl rfl rfl ?_
            refine r_iload_n (i := 23) rfl rfl rfl ?_
            refine r_VwI2 (i := 24) (k2 := 0) (n2 := 0) ok_Ways_leastFeast wM_Joy_297 (c_Ways_leastFeast F) (fun _ e => fw_ckb e) (Nat.le_of_ble_eq_true rfl) (Nat.le_of_ble_eq_true rfl) (Nat.le_of_ble_eq_true rfl) (Nat.le_of_ble_eq_true rfl) rfl rfl fun x43 => ?_
            refine r_istore (i := 25) rfl rfl (Nat.le_of_ble_eq_true rfl) rfl ?_
            refine r_iload_n (i := 26) rfl rfl rfl ?_
            refine r_if_ne (i := 27) (tgt := 57) rfl rfl rfl ?_ ?_
            · refine r_aload_n (i := 30) rfl rfl rfl ?_
              refine r_gR (i := 31) (ci := 11) (kf := 13) rfl (Nat.le_of_ble_eq_true rfl) wF_Joy_76 rfl rfl fun x58 => ?_
              refine r_VI0 (i := 32) (k2 := 0) (n2 := 0) ok_Ways_feaster wM_Joy_300 (c_Ways_feaster) (fun _ e => fw_ckb e) (Nat.le_of_ble_eq_true rfl) (Nat.le_of_ble_eq_true rfl) (Nat.le_of_ble_eq_true rfl) (Nat.le_of_ble_eq_true rfl) rfl rfl fun x61 => ?_
              exact r_retI (i := 33) rfl rfl rfl rfl
            · refine r_iload (i := 28) rfl rfl rfl ?_
              refine r_goto (i := 29) (tgt := 64) rfl rfl rfl ?_
              exact r_retI (i := 33) rfl rfl rfl rfl
          · refine r_iconst (i := 16) (-1 : Int32) kc_iconst_m1 rfl rfl ?_
            exact r_retI (i := 17) rfl rfl rfl rfl
-- Joy_odds
def s_Joy_odds (F : Nat) (h : fw_H) (v0 : Option Nat) (v1 : Int32) (v2 : Int32) (v3 : Int32) : Option (Int32 × fw_H) :=
(f_ck h v0 11).bind fun _ =>
(f_gR h v0 11 3).bind fun x1 =>
(s_Vil_hasHouse h x1 v1).bind fun x5 =>
if x5 = true then (if v2 < (0 : Int32) then (some ((-1 : Int32), h)) else
if (30 : Int32) < v2 then (some ((-1 : Int32), h)) else
if v3 < (0 : Int32) then (some ((-1 : Int32), h)) else
if v3 ≤ (100 : Int32) then ((s_Joy_startWalk F h v0).bind fun h34 =>
(f_gR h34 v0 11 14).bind fun x38 =>
(s_Spread_partsAt F h34 x38 v1 v2 v3).bind fun x44 =>
some ((Int64.toInt32 x44.1), x44.2)) else
some ((-1 : Int32), h)) else
some ((-1 : Int32), h)
theorem c_Joy_odds {G : fw_G} (F : Nat) {h : fw_H} {v0 : Option Nat} {v1 : Int32} {v2 : Int32} {v3 : Int32} : fw_Call G m_Joy_odds fw_wI 6 0 0 [fw_r v0, fw_i v1, fw_i v2, fw_i v3] h (s_Joy_odds F h v0 v1 v2 v3) := by
  refine fw_Call.of ok_Joy_odds.1 (Nat.le_of_ble_eq_true rfl) [(0, some (fw_r v0)), (1, some (fw_i v1)), (2, some (fw_i v2)), (3, some (fw_i v3))] rfl ?_
  refine r_ck ?_
  refine r_aload_n (i := 0) rfl rfl rfl ?_
  refine r_gR (i := 1) (ci := 11) (kf := 3) rfl (Nat.le_of_ble_eq_true rfl) wF_Joy_35 rfl rfl fun x1 => ?_
  refine r_iload_n (i := 2) rfl rfl rfl ?_
  refine r_VB1 (i := 3) (k2 := 0) (n2 := 0) ok_Vil_hasHouse wM_Joy_146 (c_Vil_hasHouse) (fun _ e => fw_ckb e) (Nat.le_of_ble_eq_true rfl) (Nat.le_of_ble_eq_true rfl) (Nat.le_of_ble_eq_true rfl) (Nat.le_of_ble_eq_true rfl) rfl rfl fun x5 => ?_
  refine r_ifeqB (i := 4) (tgt := 31) rfl rfl rfl ?_ ?_
  · refine r_iconst (i := 15) (-1 : Int32) kc_iconst_m1 rfl rfl ?_
    exact r_retI (i := 16) rfl rfl rfl rfl
  · refine r_iload_n (i := 5) rfl rfl rfl ?_
    refine r_if_lt (i := 6) (tgt := 31) rfl rfl rfl ?_ ?_
    · refine r_iconst (i := 15) (-1 : Int32) kc_iconst_m1 rfl rfl ?_
      exact r_retI (i := 16) rfl rfl rfl rfl
    · refine r_iload_n (i := 7) rfl rfl rfl ?_
      refine r_bipush (i := 8) (30 : Int32) kc_bipush_30 rfl rfl ?_
      refine r_icmp_gt (i := 9) (tgt := 31) rfl rfl rfl ?_ ?_
      · refine r_iconst (i := 15) (-1 : Int32) kc_iconst_m1 rfl rfl ?_
        exact r_retI (i := 16) rfl rfl rfl rfl
      · refine r_iload_n (i := 10) rfl rfl rfl ?_
        refine r_if_lt (i := 11) (tgt := 31) rfl rfl rfl ?_ ?_
        · refine r_iconst (i := 15) (-1 : Int32) kc_iconst_m1 rfl rfl ?_
          exact r_retI (i := 16) rfl rfl rfl rfl
        · refine r_iload_n (i := 12) rfl rfl rfl ?_
          refine r_bipush (i := 13) (100 : Int32) kc_bipush_100 rfl rfl ?_
          refine r_icmp_le (i := 14) (tgt := 33) rfl rfl rfl ?_ ?_
          · refine r_aload_n (i := 17) rfl rfl rfl ?_
            refine r_VV0 (i := 18) (k2 := 0) (n2 := 0) ok_Joy_startWalk wM_Joy_198 (c_Joy_startWalk F) (fun _ e => fw_ckb e) (Nat.le_of_ble_eq_true rfl) (Nat.le_of_ble_eq_true rfl) (Nat.le_of_ble_eq_true rfl) (Nat.le_of_ble_eq_true rfl) rfl rfl fun h34 => ?_
            refine r_aload_n (i := 19) rfl rfl rfl ?_
            refine r_gR (i := 20) (ci := 11) (kf := 14) rfl (Nat.le_of_ble_eq_true rfl) wF_Joy_83 rfl rfl fun x38 => ?_
            refine r_iload_n (i := 21) rfl rfl rfl ?_
            refine r_iload_n (i := 22) rfl rfl rfl ?_
            refine r_iload_n (i := 23) rfl rfl rfl ?_
            refine r_VwJ3 (i := 24) (k2 := 0) (n2 := 0) ok_Spread_partsAt wM_Joy_303 (c_Spread_partsAt F) (fun _ e => fw_ckb e) (Nat.le_of_ble_eq_true rfl) (Nat.le_of_ble_eq_true rfl) (Nat.le_of_ble_eq_true rfl) (Nat.le_of_ble_eq_true rfl) rfl rfl fun x44 => ?_
            refine r_l2i (i := 25) rfl rfl ?_
            exact r_retI (i := 26) rfl rfl rfl rfl
          · refine r_iconst (i := 15) (-1 : Int32) kc_iconst_m1 rfl rfl ?_
            exact r_retI (i := 16) rfl rfl rfl rfl
-- Joy_mean
def s_Joy_mean (F : Nat) (h : fw_H) (v0 : Option Nat) (v1 : Int32) (v2 : Int32) (v3 : Int32) : Option (Int32 × fw_H) :=
(f_ck h v0 11).bind fun _ =>
(f_gR h v0 11 3).bind fun x1 =>
(s_Vil_hasHouse h x1 v1).bind fun x5 =>
if x5 = true then (if v2 < (1 : Int32) then (some ((-1 : Int32), h)) else
if (30 : Int32) < v2 then (some ((-1 : Int32), h)) else
if v3 < (0 : Int32) then (some ((-1 : Int32), h)) else
if v3 ≤ (100 : Int32) then ((s_Joy_startWalk F h v0).bind fun h35 =>
(f_gR h35 v0 11 14).bind fun x39 =>
(s_Spread_partsTogether F h35 x39 v1 v2 v3).bind fun x45 =>
(f_ldiv x45.1 (1000 : Int64)).bind fun x51 =>
some ((Int64.toInt32 x51), x45.2)) else
some ((-1 : Int32), h)) else
some ((-1 : Int32), h)
theorem c_Joy_mean {G : fw_G} (F : Nat) {h : fw_H} {v0 : Option Nat} {v1 : Int32} {v2 : Int32} {v3 : Int32} : fw_Call G m_Joy_mean fw_wI 6 0 0 [fw_r v0, fw_i v1, fw_i v2, fw_i v3] h (s_Joy_mean F h v0 v1 v2 v3) := by
  refine fw_Call.of ok_Joy_mean.1 (Nat.le_of_ble_eq_true rfl) [(0, some (fw_r v0)), (1, some (fw_i v1)), (2, some (fw_i v2)), (3, some (fw_i v3))] rfl ?_
  refine r_ck ?_
  refine r_aload_n (i := 0) rfl rfl rfl ?_
  refine r_gR (i := 1) (ci := 11) (kf := 3) rfl (Nat.le_of_ble_eq_true rfl) wF_Joy_35 rfl rfl fun x1 => ?_
  refine r_iload_n (i := 2) rfl rfl rfl ?_
  refine r_VB1 (i := 3) (k2 := 0) (n2 := 0) ok_Vil_hasHouse wM_Joy_146 (c_Vil_hasHouse) (fun _ e => fw_ckb e) (Nat.le_of_ble_eq_true rfl) (Nat.le_of_ble_eq_true rfl) (Nat.le_of_ble_eq_true rfl) (Nat.le_of_ble_eq_true rfl) rfl rfl fun x5 => ?_
  refine r_ifeqB (i := 4) (tgt := 32) rfl rfl rfl ?_ ?_
  · refine r_iconst (i := 16) (-1 : Int32) kc_iconst_m1 rfl rfl ?_
    exact r_retI (i := 17) rfl rfl rfl rfl
  · refine r_iload_n (i := 5) rfl rfl rfl ?_
    refine r_iconst (i := 6) (1 : Int32) kc_iconst_1 rfl rfl ?_
    refine r_icmp_lt (i := 7) (tgt := 32) rfl rfl rfl ?_ ?_
    · refine r_iconst (i := 16) (-1 : Int32) kc_iconst_m1 rfl rfl ?_
      exact r_retI (i := 17) rfl rfl rfl rfl
    · refine r_iload_n (i := 8) rfl rfl rfl ?_
      refine r_bipush (i := 9) (30 : Int32) kc_bipush_30 rfl rfl ?_
      refine r_icmp_gt (i := 10) (tgt := 32) rfl rfl rfl ?_ ?_
      · refine r_iconst (i := 16) (-1 : Int32) kc_iconst_m1 rfl rfl ?_
        exact r_retI (i := 17) rfl rfl rfl rfl
      · refine r_iload_n (i := 11) rfl rfl rfl ?_
        refine r_if_lt (i := 12) (tgt := 32) rfl rfl rfl ?_ ?_
        · refine r_iconst (i := 16) (-1 : Int32) kc_iconst_m1 rfl rfl ?_
          exact r_retI (i := 17) rfl rfl rfl rfl
        · refine r_iload_n (i := 13) rfl rfl rfl ?_
          refine r_bipush (i := 14) (100 : Int32) kc_bipush_100 rfl rfl ?_
          refine r_icmp_le (i := 15) (tgt := 34) rfl rfl rfl ?_ ?_
          · refine r_aload_n (i := 18) rfl rfl rfl ?_
            refine r_VV0 (i := 19) (k2 := 0) (n2 := 0) ok_Joy_startWalk wM_Joy_198 (c_Joy_startWalk F) (fun _ e => fw_ckb e) (Nat.le_of_ble_eq_true rfl) (Nat.le_of_ble_eq_true rfl) (Nat.le_of_ble_eq_true rfl) (Nat.le_of_ble_eq_true rfl) rfl rfl fun h35 => ?_
            refine r_aload_n (i := 20) rfl rfl rfl ?_
            refine r_gR (i := 21) (ci := 11) (kf := 14) rfl (Nat.le_of_ble_eq_true rfl) wF_Joy_83 rfl rfl fun x39 => ?_
            refine r_iload_n (i := 22) rfl rfl rfl ?_
            refine r_iload_n (i := 23) rfl rfl rfl ?_
            refine r_iload_n (i := 24) rfl rfl rfl ?_
            refine r_VwJ3 (i := 25) (k2 := 0) (n2 := 0) ok_Spread_partsTogether wM_Joy_307 (c_Spread_partsTogether F) (fun _ e => fw_ckb e) (Nat.le_of_ble_eq_true rfl) (Nat.le_of_ble_eq_true rfl) (Nat.le_of_ble_eq_true rfl) (Nat.le_of_ble_eq_true rfl) rfl rfl fun x45 => ?_
            refine r_ldc2 (i := 26) wL_Joy_310 rfl rfl ?_
            refine r_ldivN (i := 27) rfl rfl fun x51 => ?_
            refine r_l2i (i := 28) rfl rfl ?_
            exact r_retI (i := 29) rfl rfl rfl rfl
          · refine r_iconst (i := 16) (-1 : Int32) kc_iconst_m1 rfl rfl ?_
            exact r_retI (i := 17) rfl rfl rfl rfl
-- Joy_pretend
def s_Joy_pretend (F : Nat) (h : fw_H) (v0 : Option Nat) (v1 : Int32) (v2 : Int32) (v3 : Int32) (v4 : Int32) : Option (Int32 × fw_H) :=
(f_ck h v0 11).bind fun _ =>
(f_gR h v0 11 3).bind fun x1 =>
(s_Vil_areTwo h x1 v1 v2).bind fun x6 =>
if x6 = true then (if v3 < (0 : Int32) then (some ((-1000000 : Int32), h)) else
if (1 : Int32) < v3 then (some ((-1000000 : Int32), h)) else
if v4 < (0 : Int32) then (some ((-1000000 : Int32), h)) else
if v4 ≤ (1 : Int32) then ((s_Joy_startWalk F h v0).bind fun h36 =>
(f_gR h36 v0 11 13).bind fun x40 =>
(s_Ways_gain F h36 x40 v1 v2 v3 v4).bind fun x48 =>
some (x48.1, x48.2)) else
some ((-1000000 : Int32), h)) else
some ((-1000000 : Int32), h)
theorem c_Joy_pretend {G : fw_G} (F : Nat) {h : fw_H} {v0 : Option Nat} {v1 : Int32} {v2 : Int32} {v3 : Int32} {v4 : Int32} : fw_Call G m_Joy_pretend fw_wI 6 0 0 [fw_r v0, fw_i v1, fw_i v2, fw_i v3, fw_i v4] h (s_Joy_pretend F h v0 v1 v2 v3 v4) := by
  refine fw_Call.of ok_Joy_pretend.1 (Nat.le_of_ble_eq_true rfl) [(0, some (fw_r v0)), (1, some (fw_i v1)), (2, some (fw_i v2)), (3, some (fw_i v3)), (4, some (fw_i v4))] rfl ?_
  refine r_ck ?_
  refine r_aload_n (i := 0) rfl rfl rfl ?_
  refine r_gR (i := 1) (ci := 11) (kf := 3) rfl (Nat.le_of_ble_eq_true rfl) wF_Joy_35 rfl rfl fun x1 => ?_
  refine r_iload_n (i := 2) rfl rfl rfl ?_
  refine r_iload_n (i := 3) rfl rfl rfl ?_
  refine r_VB2 (i := 4) (k2 := 0) (n2 := 0) ok_Vil_areTwo wM_Joy_312 (c_Vil_areTwo) (fun _ e => fw_ckb e) (Nat.le_of_ble_eq_true rfl) (Nat.le_of_ble_eq_true rfl) (Nat.le_of_ble_eq_true rfl) (Nat.le_of_ble_eq_true rfl) rfl rfl fun x6 => ?_
  refine r_ifeqB (i := 5) (tgt := 32) rfl rfl rfl ?_ ?_
  · refine r_ldc (i := 16) wK_Joy_197 rfl rfl ?_
    exact r_retI (i := 17) rfl rfl rfl rfl
  · refine r_iload_n (i := 6) rfl rfl rfl ?_
    refine r_if_lt (i := 7) (tgt := 32) rfl rfl rfl ?_ ?_
    · refine r_ldc (i := 16) wK_Joy_197 rfl rfl ?_
      exact r_retI (i := 17) rfl rfl rfl rfl
    · refine r_iload_n (i := 8) rfl rfl rfl ?_
      refine r_iconst (i := 9) (1 : Int32) kc_iconst_1 rfl rfl ?_
      refine r_icmp_gt (i := 10) (tgt := 32) rfl rfl rfl ?_ ?_
      · refine r_ldc (i := 16) wK_Joy_197 rfl rfl ?_
        exact r_retI (i := 17) rfl rfl rfl rfl
      · refine r_iload (i := 11) rfl rfl rfl ?_
        refine r_if_lt (i := 12) (tgt := 32) rfl rfl rfl ?_ ?_
        · refine r_ldc (i := 16) wK_Joy_197 rfl rfl ?_
          exact r_retI (i := 17) rfl rfl rfl rfl
        · refine r_iload (i := 13) rfl rfl rfl ?_
          refine r_iconst (i := 14) (1 : Int32) kc_iconst_1 rfl rfl ?_
          refine r_icmp_le (i := 15) (tgt := 35) rfl rfl rfl ?_ ?_
          · refine r_aload_n (i := 18) rfl rfl rfl ?_
            refine r_VV0 (i := 19) (k2 := 0) (n2 := 0) ok_Joy_startWalk wM_Joy_198 (c_Joy_startWalk F) (fun _ e => fw_ckb e) (Nat.le_of_ble_eq_true rfl) (Nat.le_of_ble_eq_true rfl) (Nat.le_of_ble_eq_true rfl) (Nat.le_of_ble_eq_true rfl) rfl rfl fun h36 => ?_
            refine r_aload_n (i := 20) rfl rfl rfl ?_
            refine r_gR (i := 21) (ci := 11) (kf := 13) rfl (Nat.le_of_ble_eq_true rfl) wF_Joy_76 rfl rfl fun x40 => ?_
            refine r_iload_n (i := 22) rfl rfl rfl ?_
            refine r_iload_n (i := 23) rfl rfl rfl ?_
            refine r_iload_n (i := 24) rfl rfl rfl ?_
            refine r_iload (i := 25) rfl rfl rfl ?_
            refine r_VwI4 (i := 26) (k2 := 0) (n2 := 0) ok_Ways_gain wM_Joy_315 (c_Ways_gain F) (fun _ e => fw_ckb e) (Nat.le_of_ble_eq_true rfl) (Nat.le_of_ble_eq_true rfl) (Nat.le_of_ble_eq_true rfl) (Nat.le_of_ble_eq_true rfl) rfl rfl fun x48 => ?_
            exact r_retI (i := 27) rfl rfl rfl rfl
          · refine r_ldc (i := 16) wK_Joy_197 rfl rfl ?_
            exact r_retI (i := 17) rfl rfl rfl rfl
-- Joy_rests
def s_Joy_rests (F : Nat) (h : fw_H) (v0 : Option Nat) (v1 : Int32) (v2 : Int32) (v3 : Int32) : Option (Int32 × fw_H) :=
(f_ck h v0 11).bind fun _ =>
(f_gR h v0 11 3).bind fun x1 =>
(s_Vil_areTwo h x1 v1 v2).bind fun x6 =>
if x6 = true then (if (-1 : Int32) ≤ v3 then ((s_Joy_startWalk F h v0).bind fun h20 =>
(f_gR h20 v0 11 13).bind fun x24 =>
(s_Ways_rest F h20 x24 v1 v2 v3).bind fun x30 =>
some (x30.1, x30.2)) else
some ((-1 : Int32), h)) else
some ((-1 : Int32), h)
theorem c_Joy_rests {G : fw_G} (F : Nat) {h : fw_H} {v0 : Option Nat} {v1 : Int32} {v2 : Int32} {v3 : Int32} : fw_Call G m_Joy_rests fw_wI 6 0 0 [fw_r v0, fw_i v1, fw_i v2, fw_i v3] h (s_Joy_rests F h v0 v1 v2 v3) := by
  refine fw_Call.of ok_Joy_rests.1 (Nat.le_of_ble_eq_true rfl) [(0, some (fw_r v0)), (1, some (fw_i v1)), (2, some (fw_i v2)), (3, some (fw_i v3))] rfl ?_
  refine r_ck ?_
  refine r_aload_n (i := 0) rfl rfl rfl ?_
  refine r_gR (i := 1) (ci := 11) (kf := 3) rfl (Nat.le_of_ble_eq_true rfl) wF_Joy_35 rfl rfl fun x1 => ?_
  refine r_iload_n (i := 2) rfl rfl rfl ?_
  refine r_iload_n (i := 3) rfl rfl rfl ?_
  refine r_VB2 (i := 4) (k2 := 0) (n2 := 0) ok_Vil_areTwo wM_Joy_312 (c_Vil_areTwo) (fun _ e => fw_ckb e) (Nat.le_of_ble_eq_true rfl) (Nat.le_of_ble_eq_true rfl) (Nat.le_of_ble_eq_true rfl) (Nat.le_of_ble_eq_true rfl) rfl rfl fun x6 => ?_
  refine r_ifeqB (i := 5) (tgt := 17) rfl rfl rfl ?_ ?_
  · refine r_iconst (i := 9) (-1 : Int32) kc_iconst_m1 rfl rfl ?_
    exact r_retI (i := 10) rfl rfl rfl rfl
  · refine r_iload_n (i := 6) rfl rfl rfl ?_
    refine r_iconst (i := 7) (-1 : Int32) kc_iconst_m1 rfl rfl ?_
    refine r_icmp_ge (i := 8) (tgt := 19) rfl rfl rfl ?_ ?_
    · refine r_aload_n (i := 11) rfl rfl rfl ?_
      refine r_VV0 (i := 12) (k2 := 0) (n2 := 0) ok_Joy_startWalk wM_Joy_198 (c_Joy_startWalk F) (fun _ e => fw_ckb e) (Nat.le_of_ble_eq_true rfl) (Nat.le_of_ble_eq_true rfl) (Nat.le_of_ble_eq_true rfl) (Nat.le_of_ble_eq_true rfl) rfl rfl fun h20 => ?_
      refine r_aload_n (i := 13) rfl rfl rfl ?_
      refine r_gR (i := 14) (ci := 11) (kf := 13) rfl (Nat.le_of_ble_eq_true rfl) wF_Joy_76 rfl rfl fun x24 => ?_
      refine r_iload_n (i := 15) rfl rfl rfl ?_
      refine r_iload_n (i := 16) rfl rfl rfl ?_
      refine r_iload_n (i := 17) rfl rfl rfl ?_
      refine r_VwI3 (i := 18) (k2 := 0) (n2 := 0) ok_Ways_rest wM_Joy_319 (c_Ways_rest F) (fun _ e => fw_ckb e) (Nat.le_of_ble_eq_true rfl) (Nat.le_of_ble_eq_true rfl) (Nat.le_of_ble_eq_true rfl) (Nat.le_of_ble_eq_true rfl) rfl rfl fun x30 => ?_
      exact r_retI (i := 19) rfl rfl rfl rfl
    · refine r_iconst (i := 9) (-1 : Int32) kc_iconst_m1 rfl rfl ?_
      exact r_retI (i := 10) rfl rfl rfl rfl
-- Joy_see
def s_Joy_see (h : fw_H) (v0 : Option Nat) (v1 : Int32) (v2 : Int32) : Option (Int32 × fw_H) :=
(f_ck h v0 11).bind fun _ =>
(f_gR h v0 11 3).bind fun x1 =>
(s_Vil_hasHouse h x1 v2).bind fun x5 =>
if x5 = true then ((f_gR h v0 11 15).bind fun x14 =>
(s_Seen_add h x14 v1 v2).bind fun x19 =>
some (x19.1, x19.2)) else
some ((-1 : Int32), h)
theorem c_Joy_see {G : fw_G} {h : fw_H} {v0 : Option Nat} {v1 : Int32} {v2 : Int32} : fw_Call G m_Joy_see fw_wI 2 0 0 [fw_r v0, fw_i v1, fw_i v2] h (s_Joy_see h v0 v1 v2) := by
  refine fw_Call.of ok_Joy_see.1 (Nat.le_of_ble_eq_true rfl) [(0, some (fw_r v0)), (1, some (fw_i v1)), (2, some (fw_i v2))] rfl ?_
  refine r_ck ?_
  refine r_aload_n (i := 0) rfl rfl rfl ?_
  refine r_gR (i := 1) (ci := 11) (kf := 3) rfl (Nat.le_of_ble_eq_true rfl) wF_Joy_35 rfl rfl fun x1 => ?_
  refine r_iload_n (i := 2) rfl rfl rfl ?_
  refine r_VB1 (i := 3) (k2 := 0) (n2 := 0) ok_Vil_hasHouse wM_Joy_146 (c_Vil_hasHouse) (fun _ e => fw_ckb e) (Nat.le_of_ble_eq_true rfl) (Nat.le_of_ble_eq_true rfl) (Nat.le_of_ble_eq_true rfl) (Nat.le_of_ble_eq_true rfl) rfl rfl fun x5 => ?_
  refine r_ifneB (i := 4) (tgt := 13) rfl rfl rfl ?_ ?_
  · refine r_aload_n (i := 7) rfl rfl rfl ?_
    refine r_gR (i := 8) (ci := 11) (kf := 15) rfl (Nat.le_of_ble_eq_true rfl) wF_Joy_90 rfl rfl fun x14 => ?_
    refine r_iload_n (i := 9) rfl rfl rfl ?_
    refine r_iload_n (i := 10) rfl rfl rfl ?_
    refine r_VwI2 (i := 11) (k2 := 0) (n2 := 0) ok_Seen_add wM_Joy_323 (c_Seen_add) (fun _ e => fw_ckb e) (Nat.le_of_ble_eq_true rfl) (Nat.le_of_ble_eq_true rfl) (Nat.le_of_ble_eq_true rfl) (Nat.le_of_ble_eq_true rfl) rfl rfl fun x19 => ?_
    exact r_retI (i := 12) rfl rfl rfl rfl
  · refine r_iconst (i := 5) (-1 : Int32) kc_iconst_m1 rfl rfl ?_
    exact r_retI (i := 6) rfl rfl rfl rfl
-- Joy_envied
def s_Joy_envied (F : Nat) (h : fw_H) (v0 : Option Nat) (v1 : Int32) : Option (Int32 × fw_H) :=
(f_ck h v0 11).bind fun _ =>
(f_gR h v0 11 3).bind fun x1 =>
(s_Vil_isNone h x1).bind fun x4 =>
if x4 = true then (some ((-1 : Int32), h)) else
if (-1 : Int32) ≤ v1 then ((s_Joy_startWalk F h v0).bind fun h18 =>
(f_gR h18 v0 11 15).bind fun x22 =>
(f_gR h18 v0 11 3).bind fun x26 =>
(s_Vil_all h18 x26).bind fun x29 =>
(s_Seen_ask F h18 x22 x29 v1).bind fun h33 =>
if ¬ v1 = (-1 : Int32) then ((f_gR h33 v0 11 15).bind fun x52 =>
(f_gI h33 x52 4 8).bind fun x55 =>
some (x55, h33)) else
(f_gR h33 v0 11 15).bind fun x42 =>
(f_gI h33 x42 4 6).bind fun x45 =>
some (x45, h33)) else
some ((-1 : Int32), h)
theorem c_Joy_envied {G : fw_G} (F : Nat) {h : fw_H} {v0 : Option Nat} {v1 : Int32} : fw_Call G m_Joy_envied fw_wI 6 0 0 [fw_r v0, fw_i v1] h (s_Joy_envied F h v0 v1) := by
  refine fw_Call.of ok_Joy_envied.1 (Nat.le_of_ble_eq_true rfl) [(0, some (fw_r v0)), (1, some (fw_i v1))] rfl ?_
  refine r_ck ?_
  refine r_aload_n (i := 0) rfl rfl rfl ?_
  refine r_gR (i := 1) (ci := 11) (kf := 3) rfl (Nat.le_of_ble_eq_true rfl) wF_Joy_35 rfl rfl fun x1 => ?_
  refine r_VB0 (i := 2) (k2 := 0) (n2 := 0) ok_Vil_isNone wM_Joy_208 (c_Vil_isNone) (fun _ e => fw_ckb e) (Nat.le_of_ble_eq_true rfl) (Nat.le_of_ble_eq_true rfl) (Nat.le_of_ble_eq_true rfl) (Nat.le_of_ble_eq_true rfl) rfl rfl fun x4 => ?_
  refine r_ifneB (i := 3) (tgt := 15) rfl rfl rfl ?_ ?_
  · refine r_iconst (i := 7) (-1 : Int32) kc_iconst_m1 rfl rfl ?_
    exact r_retI (i := 8) rfl rfl rfl rfl
  · refine r_iload_n (i := 4) rfl rfl rfl ?_
    refine r_iconst (i := 5) (-1 : Int32) kc_iconst_m1 rfl rfl ?_
    refine r_icmp_ge (i := 6) (tgt := 17) rfl rfl rfl ?_ ?_
    · refine r_aload_n (i := 9) rfl rfl rfl ?_
      refine r_VV0 (i := 10) (k2 := 0) (n2 := 0) ok_Joy_startWalk wM_Joy_198 (c_Joy_startWalk F) (fun _ e => fw_ckb e) (Nat.le_of_ble_eq_true rfl) (Nat.le_of_ble_eq_true rfl) (Nat.le_of_ble_eq_true rfl) (Nat.le_of_ble_eq_true rfl) rfl rfl fun h18 => ?_
      refine r_aload_n (i := 11) rfl rfl rfl ?_
      refine r_gR (i := 12) (ci := 11) (kf := 15) rfl (Nat.le_of_ble_eq_true rfl) wF_Joy_90 rfl rfl fun x22 => ?_
      refine r_aload_n (i := 13) rfl rfl rfl ?_
      refine r_gR (i := 14) (ci := 11) (kf := 3) rfl (Nat.le_of_ble_eq_true rfl) wF_Joy_35 rfl rfl fun x26 => ?_
      refine r_VI0 (i := 15) (k2 := 0) (n2 := 0) ok_Vil_all wM_Joy_279 (c_Vil_all) (fun _ e => fw_ckb e) (Nat.le_of_ble_eq_true rfl) (Nat.le_of_ble_eq_true rfl) (Nat.le_of_ble_eq_true rfl) (Nat.le_of_ble_eq_true rfl) rfl rfl fun x29 => ?_
      refine r_iload_n (i := 16) rfl rfl rfl ?_
      refine r_VV2 (i := 17) (k2 := 0) (n2 := 0) ok_Seen_ask wM_Joy_325 (c_Seen_ask F) (fun _ e => fw_ckb e) (Nat.le_of_ble_eq_true rfl) (Nat.le_of_ble_eq_true rfl) (Nat.le_of_ble_eq_true rfl) (Nat.le_of_ble_eq_true rfl) rfl rfl fun h33 => ?_
      refine r_iload_n (i := 18) rfl rfl rfl ?_
      refine r_iconst (i := 19) (-1 : Int32) kc_iconst_m1 rfl rfl ?_
      refine r_icmp_ne (i := 20) (tgt := 51) rfl rfl rfl ?_ ?_
      · refine r_aload_n (i := 25) rfl rfl rfl ?_
        refine r_gR (i := 26) (ci := 11) (kf := 15) rfl (Nat.le_of_ble_eq_true rfl) wF_Joy_90 rfl rfl fun x52 => ?_
        refine r_gI (i := 27) (ci := 4) (kf := 8) rfl (Nat.le_of_ble_eq_true rfl) wF_Joy_331 rfl rfl fun x55 => ?_
        exact r_retI (i := 28) rfl rfl rfl rfl
      · refine r_aload_n (i := 21) rfl rfl rfl ?_
        refine r_gR (i := 22) (ci := 11) (kf := 15) rfl (Nat.le_of_ble_eq_true rfl) wF_Joy_90 rfl rfl fun x42 => ?_
        refine r_gI (i := 23) (ci := 4) (kf := 6) rfl (Nat.le_of_ble_eq_true rfl) wF_Joy_328 rfl rfl fun x45 => ?_
        refine r_goto (i := 24) (tgt := 58) rfl rfl rfl ?_
        exact r_retI (i := 28) rfl rfl rfl rfl
    · refine r_iconst (i := 7) (-1 : Int32) kc_iconst_m1 rfl rfl ?_
      exact r_retI (i := 8) rfl rfl rfl rfl
-- Joy_sure
def s_Joy_sure (F : Nat) (h : fw_H) (v0 : Option Nat) : Option (Int32 × fw_H) :=
(f_ck h v0 11).bind fun _ =>
(f_gR h v0 11 3).bind fun x1 =>
(s_Vil_isNone h x1).bind fun x4 =>
if x4 = true then (some ((-1 : Int32), h)) else
(s_Joy_startWalk F h v0).bind fun h13 =>
(f_gR h13 v0 11 15).bind fun x17 =>
(f_gR h13 v0 11 3).bind fun x21 =>
(s_Vil_all h13 x21).bind fun x24 =>
(s_Seen_ask F h13 x17 x24 (-1 : Int32)).bind fun h28 =>
(f_gR h28 v0 11 15).bind fun x32 =>
(f_gI h28 x32 4 6).bind fun x35 =>
if ¬ x35 = (0 : Int32) then ((f_gR h28 v0 11 15).bind fun x46 =>
(f_gI h28 x46 4 7).bind fun x49 =>
some (x49, h28)) else
some ((-1 : Int32), h28)
theorem c_Joy_sure {G : fw_G} (F : Nat) {h : fw_H} {v0 : Option Nat} : fw_Call G m_Joy_sure fw_wI 6 0 0 [fw_r v0] h (s_Joy_sure F h v0) := by
  refine fw_Call.of ok_Joy_sure.1 (Nat.le_of_ble_eq_true rfl) [(0, some (fw_r v0))] rfl ?_
  refine r_ck ?_
  refine r_aload_n (i := 0) rfl rfl rfl ?_
  refine r_gR (i := 1) (ci := 11) (kf := 3) rfl (Nat.le_of_ble_eq_true rfl) wF_Joy_35 rfl rfl fun x1 => ?_
  refine r_VB0 (i := 2) (k2 := 0) (n2 := 0) ok_Vil_isNone wM_Joy_208 (c_Vil_isNone) (fun _ e => fw_ckb e) (Nat.le_of_ble_eq_true rfl) (Nat.le_of_ble_eq_true rfl) (Nat.le_of_ble_eq_true rfl) (Nat.le_of_ble_eq_true rfl) rfl rfl fun x4 => ?_
  refine r_ifeqB (i := 3) (tgt := 12) rfl rfl rfl ?_ ?_
  · refine r_aload_n (i := 6) rfl rfl rfl ?_
    refine r_VV0 (i := 7) (k2 := 0) (n2 := 0) ok_Joy_startWalk wM_Joy_198 (c_Joy_startWalk F) (fun _ e => fw_ckb e) (Nat.le_of_ble_eq_true rfl) (Nat.le_of_ble_eq_true rfl) (Nat.le_of_ble_eq_true rfl) (Nat.le_of_ble_eq_true rfl) rfl rfl fun h13 => ?_
    refine r_aload_n (i := 8) rfl rfl rfl ?_
    refine r_gR (i := 9) (ci := 11) (kf := 15) rfl (Nat.le_of_ble_eq_true rfl) wF_Joy_90 rfl rfl fun x17 => ?_
    refine r_aload_n (i := 10) rfl rfl rfl ?_
    refine r_gR (i := 11) (ci := 11) (kf := 3) rfl (Nat.le_of_ble_eq_true rfl) wF_Joy_35 rfl rfl fun x21 => ?_
    refine r_VI0 (i := 12) (k2 := 0) (n2 := 0) ok_Vil_all wM_Joy_279 (c_Vil_all) (fun _ e => fw_ckb e) (Nat.le_of_ble_eq_true rfl) (Nat.le_of_ble_eq_true rfl) (Nat.le_of_ble_eq_true rfl) (Nat.le_of_ble_eq_true rfl) rfl rfl fun x24 => ?_
    refine r_iconst (i := 13) (-1 : Int32) kc_iconst_m1 rfl rfl ?_
    refine r_VV2 (i := 14) (k2 := 0) (n2 := 0) ok_Seen_ask wM_Joy_325 (c_Seen_ask F) (fun _ e => fw_ckb e) (Nat.le_of_ble_eq_true rfl) (Nat.le_of_ble_eq_true rfl) (Nat.le_of_ble_eq_true rfl) (Nat.le_of_ble_eq_true rfl) rfl rfl fun h28 => ?_
    refine r_aload_n (i := 15) rfl rfl rfl ?_
    refine r_gR (i := 16) (ci := 11) (kf := 15) rfl (Nat.le_of_ble_eq_true rfl) wF_Joy_90 rfl rfl fun x32 => ?_
    refine r_gI (i := 17) (ci := 4) (kf := 6) rfl (Nat.le_of_ble_eq_true rfl) wF_Joy_328 rfl rfl fun x35 => ?_
    refine r_if_ne (i := 18) (tgt := 45) rfl rfl rfl ?_ ?_
    · refine r_aload_n (i := 21) rfl rfl rfl ?_
      refine r_gR (i := 22) (ci := 11) (kf := 15) rfl (Nat.le_of_ble_eq_true rfl) wF_Joy_90 rfl rfl fun x46 => ?_
      refine r_gI (i := 23) (ci := 4) (kf := 7) rfl (Nat.le_of_ble_eq_true rfl) wF_Joy_334 rfl rfl fun x49 => ?_
      exact r_retI (i := 24) rfl rfl rfl rfl
    · refine r_iconst (i := 19) (-1 : Int32) kc_iconst_m1 rfl rfl ?_
      refine r_goto (i := 20) (tgt := 52) rfl rfl rfl ?_
      exact r_retI (i := 24) rfl rfl rfl rfl
  · refine r_iconst (i := 4) (-1 : Int32) kc_iconst_m1 rfl rfl ?_
    exact r_retI (i := 5) rfl rfl rfl rfl
-- Joy_sills
def l_Joy_sills_20 (F : Nat) (v0 : Option Nat) : Nat → Int32 → Int32 → fw_H → Option (Int32 × fw_H)
  | 0, _, _, _ => none
  | nn + 1, a20_1, a20_2, g20 =>
    if (48 : Int32) ≤ a20_2 then (some (a20_1, g20)) else
    (f_gR g20 v0 11 12).bind fun x27 =>
    (f_gI g20 x27 9 2).bind fun x30 =>
    (f_gR g20 v0 11 12).bind fun x35 =>
    (s_Walk_hour F g20 x35).bind fun h38 =>
    (f_gR h38 v0 11 12).bind fun x42 =>
    (f_gI h38 x42 9 2).bind fun x45 =>
    if ¬ x45 = x30 then ((f_gR h38 v0 11 3).bind fun x57 =>
    (f_gR h38 v0 11 12).bind fun x62 =>
    (f_gI h38 x62 9 2).bind fun x65 =>
    (s_Vil_lowestOpen F h38 x57 x30 x65).bind fun x68 =>
    if x68 = (-1 : Int32) then (l_Joy_sills_20 F v0 nn a20_1 (a20_2 + (1 : Int32)) h38) else
    l_Joy_sills_20 F v0 nn (a20_1 ||| ((1 : Int32) <<< (x68 &&& 31))) (a20_2 + (1 : Int32)) h38) else
    if (-1 : Int32) = (-1 : Int32) then (l_Joy_sills_20 F v0 nn a20_1 (a20_2 + (1 : Int32)) h38) else
    l_Joy_sills_20 F v0 nn (a20_1 ||| ((1 : Int32) <<< ((-1 : Int32) &&& 31))) (a20_2 + (1 : Int32)) h38
theorem cl_Joy_sills_20 {G : fw_G} {F : Nat} {v0 : Option Nat} : ∀ (nn : Nat) (a20_1 : Int32) (a20_2 : Int32) (g20 : fw_H), fw_R G m_Joy_sills fw_wI 6 0 0 20 [(0, some (fw_r v0)), (1, some (fw_i a20_1)), (2, some (fw_i a20_2))] [] g20 (l_Joy_sills_20 F v0 nn a20_1 a20_2 g20) := by
  intro nn
  induction nn with
  | zero => intros; exact r_none
  | succ nn ih =>
    intro a20_1 a20_2 g20
    rw [l_Joy_sills_20]
    refine r_iload_n (i := 12) rfl rfl rfl ?_
    refine r_bipush (i := 13) (48 : Int32) kc_bipush_48 rfl rfl ?_
    refine r_icmp_ge (i := 14) (tgt := 92) rfl rfl rfl ?_ ?_
    · refine r_iload_n (i := 48) rfl rfl rfl ?_
      exact r_retI (i := 49) rfl rfl rfl rfl
    · refine r_aload_n (i := 15) rfl rfl rfl ?_
      refine r_gR (i := 16) (ci := 11) (kf := 12) rfl (Nat.le_of_ble_eq_true rfl) wF_Joy_67 rfl rfl fun x27 => ?_
      refine r_gI (i := 17) (ci := 9) (kf := 2) rfl (Nat.le_of_ble_eq_true rfl) wF_Joy_252 rfl rfl fun x30 => ?_
      refine r_istore_n (i := 18) rfl rfl (Nat.le_of_ble_eq_true rfl) rfl ?_
      refine r_aload_n (i := 19) rfl rfl rfl ?_
      refine r_gR (i := 20) (ci := 11) (kf := 12) rfl (Nat.le_of_ble_eq_true rfl) wF_Joy_67 rfl rfl fun x35 => ?_
      refine r_VV0 (i := 21) (k2 := 0) (n2 := 0) ok_Walk_hour wM_Joy_250 (c_Walk_hour F) (fun _ e => fw_ckb e) (Nat.le_of_ble_eq_true rfl) (Nat.le_of_ble_eq_true rfl) (Nat.le_of_ble_eq_true rfl) (Nat.le_of_ble_eq_true rfl) rfl rfl fun h38 => ?_
      refine r_aload_n (i := 22) rfl rfl rfl ?_
      refine r_gR (i := 23) (ci := 11) (kf := 12) rfl (Nat.le_of_ble_eq_true rfl) wF_Joy_67 rfl rfl fun x42 => ?_
      refine r_gI (i := 24) (ci := 9) (kf := 2) rfl (Nat.le_of_ble_eq_true rfl) wF_Joy_252 rfl rfl fun x45 => ?_
      refine r_iload_n (i := 25) rfl rfl rfl ?_
      refine r_icmp_ne (i := 26) (tgt := 56) rfl rfl rfl ?_ ?_
      · refine r_aload_n (i := 29) rfl rfl rfl ?_
        refine r_gR (i := 30) (ci := 11) (kf := 3) rfl (Nat.le_of_ble_eq_true rfl) wF_Joy_35 rfl rfl fun x57 => ?_
        refine r_iload_n (i := 31) rfl rfl rfl ?_
        refine r_aload_n (i := 32) rfl rfl rfl ?_
        refine r_gR (i := 33) (ci := 11) (kf := 12) rfl (Nat.le_of_ble_eq_true rfl) wF_Joy_67 rfl rfl fun x62 => ?_
        refine r_gI (i := 34) (ci := 9) (kf := 2) rfl (Nat.le_of_ble_eq_true rfl) wF_Joy_252 rfl rfl fun x65 => ?_
        refine r_VI2 (i := 35) (k2 := 0) (n2 := 0) ok_Vil_lowestOpen wM_Joy_337 (c_Vil_lowestOpen F) (fun _ e => fw_ckb e) (Nat.le_of_ble_eq_true rfl) (Nat.le_of_ble_eq_true rfl) (Nat.le_of_ble_eq_true rfl) (Nat.le_of_ble_eq_true rfl) rfl rfl fun x68 => ?_
        refine r_istore (i := 36) rfl rfl (Nat.le_of_ble_eq_true rfl) rfl ?_
        refine r_iload (i := 37) rfl rfl rfl ?_
        refine r_iconst (i := 38) (-1 : Int32) kc_iconst_m1 rfl rfl ?_
        refine r_icmp_eq (i := 39) (tgt := 86) rfl rfl rfl ?_ ?_
        · refine r_iinc (i := 46) (1 : Int32) kc_iconst_1 rfl rfl rfl (Nat.le_of_ble_eq_true rfl) ?_
          refine r_goto (i := 47) (tgt := 20) rfl rfl rfl ?_
          exact r_lv (fw_sub1 rfl (fw_sub1 rfl (fw_sub1 rfl fw_sub0))) (ih a20_1 (a20_2 + (1 : Int32)) h38)
        · refine r_iload_n (i := 40) rfl rfl rfl ?_
          refine r_iconst (i := 41) (1 : Int32) kc_iconst_1 rfl rfl ?_
          refine r_iload (i := 42) rfl rfl rfl ?_
          refine r_ishl (i := 43) rfl rfl ?_
          refine r_ior (i := 44) rfl rfl ?_
          refine r_istore_n (i := 45) rfl rfl (Nat.le_of_ble_eq_true rfl) rfl ?_
          refine r_iinc (i := 46) (1 : Int32) kc_iconst_1 rfl rfl rfl (Nat.le_of_ble_eq_true rfl) ?_
          refine r_goto (i := 47) (tgt := 20) rfl rfl rfl ?_
          exact r_lv (fw_sub1 rfl (fw_sub1 rfl (fw_sub1 rfl fw_sub0))) (ih (a20_1 ||| ((1 : Int32) <<< (x68 &&& 31))) (a20_2 + (1 : Int32)) h38)
      · refine r_iconst (i := 27) (-1 : Int32) kc_iconst_m1 rfl rfl ?_
        refine r_goto (i := 28) (tgt := 71) rfl rfl rfl ?_
        refine r_istore (i := 36) rfl rfl (Nat.le_of_ble_eq_true rfl) rfl ?_
        refine r_iload (i := 37) rfl rfl rfl ?_
        refine r_iconst (i := 38) (-1 : Int32) kc_iconst_m1 rfl rfl ?_
        refine r_icmp_eq (i := 39) (tgt := 86) rfl rfl rfl ?_ ?_
        · refine r_iinc (i := 46) (1 : Int32) kc_iconst_1 rfl rfl rfl (Nat.le_of_ble_eq_true rfl) ?_
          refine r_goto (i := 47) (tgt := 20) rfl rfl rfl ?_
          exact r_lv (fw_sub1 rfl (fw_sub1 rfl (fw_sub1 rfl fw_sub0))) (ih a20_1 (a20_2 + (1 : Int32)) h38)
        · refine r_iload_n (i := 40) rfl rfl rfl ?_
          refine r_iconst (i := 41) (1 : Int32) kc_iconst_1 rfl rfl ?_
          refine r_iload (i := 42) rfl rfl rfl ?_
          refine r_ishl (i := 43) rfl rfl ?_
          refine r_ior (i := 44) rfl rfl ?_
          refine r_istore_n (i := 45) rfl rfl (Nat.le_of_ble_eq_true rfl) rfl ?_
          refine r_iinc (i := 46) (1 : Int32) kc_iconst_1 rfl rfl rfl (Nat.le_of_ble_eq_true rfl) ?_
          refine r_goto (i := 47) (tgt := 20) rfl rfl rfl ?_
          exact r_lv (fw_sub1 rfl (fw_sub1 rfl (fw_sub1 rfl fw_sub0))) (ih (a20_1 ||| ((1 : Int32) <<< ((-1 : Int32) &&& 31))) (a20_2 + (1 : Int32)) h38)
def s_Joy_sills (F : Nat) (h : fw_H) (v0 : Option Nat) : Option (Int32 × fw_H) :=
(f_ck h v0 11).bind fun _ =>
(f_gR h v0 11 3).bind fun x1 =>
(s_Vil_isNone h x1).bind fun x4 =>
if x4 = true then (some ((-1 : Int32), h)) else
(s_Joy_startWalk F h v0).bind fun h13 =>
l_Joy_sills_20 F v0 F (0 : Int32) (0 : Int32) h13
theorem c_Joy_sills {G : fw_G} (F : Nat) {h : fw_H} {v0 : Option Nat} : fw_Call G m_Joy_sills fw_wI 6 0 0 [fw_r v0] h (s_Joy_sills F h v0) := by
  refine fw_Call.of ok_Joy_sills.1 (Nat.le_of_ble_eq_true rfl) [(0, some (fw_r v0))] rfl ?_
  refine r_ck ?_
  refine r_aload_n (i := 0) rfl rfl rfl ?_
  refine r_gR (i := 1) (ci := 11) (kf := 3) rfl (Nat.le_of_ble_eq_true rfl) wF_Joy_35 rfl rfl fun x1 => ?_
  refine r_VB0 (i := 2) (k2 := 0) (n2 := 0) ok_Vil_isNone wM_Joy_208 (c_Vil_isNone) (fun _ e => fw_ckb e) (Nat.le_of_ble_eq_true rfl) (Nat.le_of_ble_eq_true rfl) (Nat.le_of_ble_eq_true rfl) (Nat.le_of_ble_eq_true rfl) rfl rfl fun x4 => ?_
  refine r_ifeqB (i := 3) (tgt := 12) rfl rfl rfl ?_ ?_
  · refine r_aload_n (i := 6) rfl rfl rfl ?_
    refine r_VV0 (i := 7) (k2 := 0) (n2 := 0) ok_Joy_startWalk wM_Joy_198 (c_Joy_startWalk F) (fun _ e => fw_ckb e) (Nat.le_of_ble_eq_true rfl) (Nat.le_of_ble_eq_true rfl) (Nat.le_of_ble_eq_true rfl) (Nat.le_of_ble_eq_true rfl) rfl rfl fun h13 => ?_
    refine r_iconst (i := 8) (0 : Int32) kc_iconst_0 rfl rfl ?_
    refine r_istore_n (i := 9) rfl rfl (Nat.le_of_ble_eq_true rfl) rfl ?_
    refine r_iconst (i := 10) (0 : Int32) kc_iconst_0 rfl rfl ?_
    refine r_istore_n (i := 11) rfl rfl (Nat.le_of_ble_eq_true rfl) rfl ?_
    refine r_lv (fw_sub1 rfl (fw_sub1 rfl (fw_sub1 rfl fw_sub0))) (cl_Joy_sills_20 F _ _ _)
  · refine r_iconst (i := 4) (-1 : Int32) kc_iconst_m1 rfl rfl ?_
    exact r_retI (i := 5) rfl rfl rfl rfl
-- Joy_sees
def s_Joy_sees (F : Nat) (h : fw_H) (v0 : Option Nat) (v1 : Int32) : Option Int32 :=
(f_ck h v0 11).bind fun _ =>
(f_gR h v0 11 3).bind fun x1 =>
(s_Vil_hasHouse h x1 v1).bind fun x5 =>
if x5 = true then ((f_gR h v0 11 3).bind fun x14 =>
(f_gR h v0 11 3).bind fun x19 =>
(f_gI h x19 7 6).bind fun x22 =>
(s_Vil_watchers F h x14 v1 x22).bind fun x25 =>
some x25) else
some (-1 : Int32)
theorem c_Joy_sees {G : fw_G} (F : Nat) {h : fw_H} {v0 : Option Nat} {v1 : Int32} : fw_Call G m_Joy_sees (fw_eI h) 3 0 0 [fw_r v0, fw_i v1] h (s_Joy_sees F h v0 v1) := by
  refine fw_Call.of ok_Joy_sees.1 (Nat.le_of_ble_eq_true rfl) [(0, some (fw_r v0)), (1, some (fw_i v1))] rfl ?_
  refine r_ck ?_
  refine r_aload_n (i := 0) rfl rfl rfl ?_
  refine r_gR (i := 1) (ci := 11) (kf := 3) rfl (Nat.le_of_ble_eq_true rfl) wF_Joy_35 rfl rfl fun x1 => ?_
  refine r_iload_n (i := 2) rfl rfl rfl ?_
  refine r_VB1 (i := 3) (k2 := 0) (n2 := 0) ok_Vil_hasHouse wM_Joy_146 (c_Vil_hasHouse) (fun _ e => fw_ckb e) (Nat.le_of_ble_eq_true rfl) (Nat.le_of_ble_eq_true rfl) (Nat.le_of_ble_eq_true rfl) (Nat.le_of_ble_eq_true rfl) rfl rfl fun x5 => ?_
  refine r_ifneB (i := 4) (tgt := 13) rfl rfl rfl ?_ ?_
  · refine r_aload_n (i := 7) rfl rfl rfl ?_
    refine r_gR (i := 8) (ci := 11) (kf := 3) rfl (Nat.le_of_ble_eq_true rfl) wF_Joy_35 rfl rfl fun x14 => ?_
    refine r_iload_n (i := 9) rfl rfl rfl ?_
    refine r_aload_n (i := 10) rfl rfl rfl ?_
    refine r_gR (i := 11) (ci := 11) (kf := 3) rfl (Nat.le_of_ble_eq_true rfl) wF_Joy_35 rfl rfl fun x19 => ?_
    refine r_gI (i := 12) (ci := 7) (kf := 6) rfl (Nat.le_of_ble_eq_true rfl) wF_Joy_186 rfl rfl fun x22 => ?_
    refine r_VI2 (i := 13) (k2 := 0) (n2 := 0) ok_Vil_watchers wM_Joy_340 (c_Vil_watchers F) (fun _ e => fw_ckb e) (Nat.le_of_ble_eq_true rfl) (Nat.le_of_ble_eq_true rfl) (Nat.le_of_ble_eq_true rfl) (Nat.le_of_ble_eq_true rfl) rfl rfl fun x25 => ?_
    exact r_retI (i := 14) rfl rfl rfl rfl
  · refine r_iconst (i := 5) (-1 : Int32) kc_iconst_m1 rfl rfl ?_
    exact r_retI (i := 6) rfl rfl rfl rfl
-- Joy_most
def l_Joy_most_16 (h : fw_H) (v0 : Option Nat) : Nat → Int32 → Int32 → Option Int32
  | 0, _, _ => none
  | nn + 1, a16_1, a16_2 =>
    (f_gR h v0 11 3).bind fun x18 =>
    (f_gI h x18 7 0).bind fun x21 =>
    if x21 ≤ a16_2 then (some a16_1) else
    (f_gR h v0 11 3).bind fun x28 =>
    (f_gR h x28 7 3).bind fun x31 =>
    (s_Rows_get h x31 a16_2).bind fun x35 =>
    (f_gR h v0 11 3).bind fun x39 =>
    (f_gR h x39 7 3).bind fun x42 =>
    (s_Rows_get h x42 a16_1).bind fun x46 =>
    if x35 ≤ x46 then (l_Joy_most_16 h v0 nn a16_1 (a16_2 + (1 : Int32))) else
    l_Joy_most_16 h v0 nn a16_2 (a16_2 + (1 : Int32))
theorem cl_Joy_most_16 {G : fw_G} {h : fw_H} {v0 : Option Nat} : ∀ (nn : Nat) (a16_1 : Int32) (a16_2 : Int32), fw_R G m_Joy_most (fw_eI h) 1 0 0 16 [(0, some (fw_r v0)), (1, some (fw_i a16_1)), (2, some (fw_i a16_2))] [] h (l_Joy_most_16 h v0 nn a16_1 a16_2) := by
  intro nn
  induction nn with
  | zero => intros; exact r_none
  | succ nn ih =>
    intro a16_1 a16_2
    rw [l_Joy_most_16]
    refine r_iload_n (i := 10) rfl rfl rfl ?_
    refine r_aload_n (i := 11) rfl rfl rfl ?_
    refine r_gR (i := 12) (ci := 11) (kf := 3) rfl (Nat.le_of_ble_eq_true rfl) wF_Joy_35 rfl rfl fun x18 => ?_
    refine r_gI (i := 13) (ci := 7) (kf := 0) rfl (Nat.le_of_ble_eq_true rfl) wF_Joy_138 rfl rfl fun x21 => ?_
    refine r_icmp_ge (i := 14) (tgt := 60) rfl rfl rfl ?_ ?_
    · refine r_iload_n (i := 30) rfl rfl rfl ?_
      exact r_retI (i := 31) rfl rfl rfl rfl
    · refine r_aload_n (i := 15) rfl rfl rfl ?_
      refine r_gR (i := 16) (ci := 11) (kf := 3) rfl (Nat.le_of_ble_eq_true rfl) wF_Joy_35 rfl rfl fun x28 => ?_
      refine r_gR (i := 17) (ci := 7) (kf := 3) rfl (Nat.le_of_ble_eq_true rfl) wF_Joy_169 rfl rfl fun x31 => ?_
      refine r_iload_n (i := 18) rfl rfl rfl ?_
      refine r_SI2 (i := 19) (k2 := 0) (n2 := 0) ok_Rows_get wM_Joy_173 (c_Rows_get) (Nat.le_of_ble_eq_true rfl) (Nat.le_of_ble_eq_true rfl) (Nat.le_of_ble_eq_true rfl) (Nat.le_of_ble_eq_true rfl) rfl rfl fun x35 => ?_
      refine r_aload_n (i := 20) rfl rfl rfl ?_
      refine r_gR (i := 21) (ci := 11) (kf := 3) rfl (Nat.le_of_ble_eq_true rfl) wF_Joy_35 rfl rfl fun x39 => ?_
      refine r_gR (i := 22) (ci := 7) (kf := 3) rfl (Nat.le_of_ble_eq_true rfl) wF_Joy_169 rfl rfl fun x42 => ?_
      refine r_iload_n (i := 23) rfl rfl rfl ?_
      refine r_SI2 (i := 24) (k2 := 0) (n2 := 0) ok_Rows_get wM_Joy_173 (c_Rows_get) (Nat.le_of_ble_eq_true rfl) (Nat.le_of_ble_eq_true rfl) (Nat.le_of_ble_eq_true rfl) (Nat.le_of_ble_eq_true rfl) rfl rfl fun x46 => ?_
      refine r_icmp_le (i := 25) (tgt := 54) rfl rfl rfl ?_ ?_
      · refine r_iinc (i := 28) (1 : Int32) kc_iconst_1 rfl rfl rfl (Nat.le_of_ble_eq_true rfl) ?_
        refine r_goto (i := 29) (tgt := 16) rfl rfl rfl ?_
        exact r_lv (fw_sub1 rfl (fw_sub1 rfl (fw_sub1 rfl fw_sub0))) (ih a16_1 (a16_2 + (1 : Int32)))
      · refine r_iload_n (i := 26) rfl rfl rfl ?_
        refine r_istore_n (i := 27) rfl rfl (Nat.le_of_ble_eq_true rfl) rfl ?_
        refine r_iinc (i := 28) (1 : Int32) kc_iconst_1 rfl rfl rfl (Nat.le_of_ble_eq_true rfl) ?_
        refine r_goto (i := 29) (tgt := 16) rfl rfl rfl ?_
        exact r_lv (fw_sub1 rfl (fw_sub1 rfl (fw_sub1 rfl fw_sub0))) (ih a16_2 (a16_2 + (1 : Int32)))
def s_Joy_most (F : Nat) (h : fw_H) (v0 : Option Nat) : Option Int32 :=
(f_ck h v0 11).bind fun _ =>
(f_gR h v0 11 3).bind fun x1 =>
(s_Vil_isNone h x1).bind fun x4 =>
if x4 = true then (some (-1 : Int32)) else
l_Joy_most_16 h v0 F (0 : Int32) (1 : Int32)
theorem c_Joy_most {G : fw_G} (F : Nat) {h : fw_H} {v0 : Option Nat} : fw_Call G m_Joy_most (fw_eI h) 1 0 0 [fw_r v0] h (s_Joy_most F h v0) := by
  refine fw_Call.of ok_Joy_most.1 (Nat.le_of_ble_eq_true rfl) [(0, some (fw_r v0))] rfl ?_
  refine r_ck ?_
  refine r_aload_n (i := 0) rfl rfl rfl ?_
  refine r_gR (i := 1) (ci := 11) (kf := 3) rfl (Nat.le_of_ble_eq_true rfl) wF_Joy_35 rfl rfl fun x1 => ?_
  refine r_VB0 (i := 2) (k2 := 0) (n2 := 0) ok_Vil_isNone wM_Joy_208 (c_Vil_isNone) (fun _ e => fw_ckb e) (Nat.le_of_ble_eq_true rfl) (Nat.le_of_ble_eq_true rfl) (Nat.le_of_ble_eq_true rfl) (Nat.le_of_ble_eq_true rfl) rfl rfl fun x4 => ?_
  refine r_ifeqB (i := 3) (tgt := 12) rfl rfl rfl ?_ ?_
  · refine r_iconst (i := 6) (0 : Int32) kc_iconst_0 rfl rfl ?_
    refine r_istore_n (i := 7) rfl rfl (Nat.le_of_ble_eq_true rfl) rfl ?_
    refine r_iconst (i := 8) (1 : Int32) kc_iconst_1 rfl rfl ?_
    refine r_istore_n (i := 9) rfl rfl (Nat.le_of_ble_eq_true rfl) rfl ?_
    refine r_lv (fw_sub1 rfl (fw_sub1 rfl (fw_sub1 rfl fw_sub0))) (cl_Joy_most_16 F _ _)
  · refine r_iconst (i := 4) (-1 : Int32) kc_iconst_m1 rfl rfl ?_
    exact r_retI (i := 5) rfl rfl rfl rfl
-- Joy_widows
def l_Joy_widows_16 (h : fw_H) (v0 : Option Nat) : Nat → Int32 → Int32 → Option Int32
  | 0, _, _ => none
  | nn + 1, a16_1, a16_2 =>
    (f_gR h v0 11 3).bind fun x18 =>
    (f_gI h x18 7 0).bind fun x21 =>
    if x21 ≤ a16_2 then (some a16_1) else
    (f_gR h v0 11 3).bind fun x28 =>
    (f_gR h x28 7 3).bind fun x31 =>
    (s_Rows_get h x31 a16_2).bind fun x35 =>
    if ¬ x35 = (0 : Int32) then (l_Joy_widows_16 h v0 nn a16_1 (a16_2 + (1 : Int32))) else
    l_Joy_widows_16 h v0 nn (a16_1 ||| ((1 : Int32) <<< (a16_2 &&& 31))) (a16_2 + (1 : Int32))
theorem cl_Joy_widows_16 {G : fw_G} {h : fw_H} {v0 : Option Nat} : ∀ (nn : Nat) (a16_1 : Int32) (a16_2 : Int32), fw_R G m_Joy_widows (fw_eI h) 1 0 0 16 [(0, some (fw_r v0)), (1, some (fw_i a16_1)), (2, some (fw_i a16_2))] [] h (l_Joy_widows_16 h v0 nn a16_1 a16_2) := by
  intro nn
  induction nn with
  | zero => intros; exact r_none
  | succ nn ih =>
    intro a16_1 a16_2
    rw [l_Joy_widows_16]
    refine r_iload_n (i := 10) rfl rfl rfl ?_
    refine r_aload_n (i := 11) rfl rfl rfl ?_
    refine r_gR (i := 12) (ci := 11) (kf := 3) rfl (Nat.le_of_ble_eq_true rfl) wF_Joy_35 rfl rfl fun x18 => ?_
    refine r_gI (i := 13) (ci := 7) (kf := 0) rfl (Nat.le_of_ble_eq_true rfl) wF_Joy_138 rfl rfl fun x21 => ?_
    refine r_icmp_ge (i := 14) (tgt := 53) rfl rfl rfl ?_ ?_
    · refine r_iload_n (i := 29) rfl rfl rfl ?_
      exact r_retI (i := 30) rfl rfl rfl rfl
    · refine r_aload_n (i := 15) rfl rfl rfl ?_
      refine r_gR (i := 16) (ci := 11) (kf := 3) rfl (Nat.le_of_ble_eq_true rfl) wF_Joy_35 rfl rfl fun x28 => ?_
      refine r_gR (i := 17) (ci := 7) (kf := 3) rfl (Nat.le_of_ble_eq_true rfl) wF_Joy_169 rfl rfl fun x31 => ?_
      refine r_iload_n (i := 18) rfl rfl rfl ?_
      refine r_SI2 (i := 19) (k2 := 0) (n2 := 0) ok_Rows_get wM_Joy_173 (c_Rows_get) (Nat.le_of_ble_eq_true rfl) (Nat.le_of_ble_eq_true rfl) (Nat.le_of_ble_eq_true rfl) (Nat.le_of_ble_eq_true rfl) rfl rfl fun x35 => ?_
      refine r_if_ne (i := 20) (tgt := 47) rfl rfl rfl ?_ ?_
      · refine r_iinc (i := 27) (1 : Int32) kc_iconst_1 rfl rfl rfl (Nat.le_of_ble_eq_true rfl) ?_
        refine r_goto (i := 28) (tgt := 16) rfl rfl rfl ?_
        exact r_lv (fw_sub1 rfl (fw_sub1 rfl (fw_sub1 rfl fw_sub0))) (ih a16_1 (a16_2 + (1 : Int32)))
      · refine r_iload_n (i := 21) rfl rfl rfl ?_
        refine r_iconst (i := 22) (1 : Int32) kc_iconst_1 rfl rfl ?_
        refine r_iload_n (i := 23) rfl rfl rfl ?_
        refine r_ishl (i := 24) rfl rfl ?_
        refine r_ior (i := 25) rfl rfl ?_
        refine r_istore_n (i := 26) rfl rfl (Nat.le_of_ble_eq_true rfl) rfl ?_
        refine r_iinc (i := 27) (1 : Int32) kc_iconst_1 rfl rfl rfl (Nat.le_of_ble_eq_true rfl) ?_
        refine r_goto (i := 28) (tgt := 16) rfl rfl rfl ?_
        exact r_lv (fw_sub1 rfl (fw_sub1 rfl (fw_sub1 rfl fw_sub0))) (ih (a16_1 ||| ((1 : Int32) <<< (a16_2 &&& 31))) (a16_2 + (1 : Int32)))
def s_Joy_widows (F : Nat) (h : fw_H) (v0 : Option Nat) : Option Int32 :=
(f_ck h v0 11).bind fun _ =>
(f_gR h v0 11 3).bind fun x1 =>
(s_Vil_isNone h x1).bind fun x4 =>
if x4 = true then (some (-1 : Int32)) else
l_Joy_widows_16 h v0 F (0 : Int32) (0 : Int32)
theorem c_Joy_widows {G : fw_G} (F : Nat) {h : fw_H} {v0 : Option Nat} : fw_Call G m_Joy_widows (fw_eI h) 1 0 0 [fw_r v0] h (s_Joy_widows F h v0) := by
  refine fw_Call.of ok_Joy_widows.1 (Nat.le_of_ble_eq_true rfl) [(0, some (fw_r v0))] rfl ?_
  refine r_ck ?_
  refine r_aload_n (i := 0) rfl rfl rfl ?_
  refine r_gR (i := 1) (ci := 11) (kf := 3) rfl (Nat.le_of_ble_eq_true rfl) wF_Joy_35 rfl rfl fun x1 => ?_
  refine r_VB0 (i := 2) (k2 := 0) (n2 := 0) ok_Vil_isNone wM_Joy_208 (c_Vil_isNone) (fun _ e => fw_ckb e) (Nat.le_of_ble_eq_true rfl) (Nat.le_of_ble_eq_true rfl) (Nat.le_of_ble_eq_true rfl) (Nat.le_of_ble_eq_true rfl) rfl rfl fun x4 => ?_
  refine r_ifeqB (i := 3) (tgt := 12) rfl rfl rfl ?_ ?_
  · refine r_iconst (i := 6) (0 : Int32) kc_iconst_0 rfl rfl ?_
    refine r_istore_n (i := 7) rfl rfl (Nat.le_of_ble_eq_true rfl) rfl ?_
    refine r_iconst (i := 8) (0 : Int32) kc_iconst_0 rfl rfl ?_
    refine r_istore_n (i := 9) rfl rfl (Nat.le_of_ble_eq_true rfl) rfl ?_
    refine r_lv (fw_sub1 rfl (fw_sub1 rfl (fw_sub1 rfl fw_sub0))) (cl_Joy_widows_16 F _ _)
  · refine r_iconst (i := 4) (-1 : Int32) kc_iconst_m1 rfl rfl ?_
    exact r_retI (i := 5) rfl rfl rfl rfl
-- Joy_image
def s_Joy_image (F : Nat) (h : fw_H) (v0 : Option Nat) : Option (Int32 × fw_H) :=
(f_ck h v0 11).bind fun _ =>
(f_gR h v0 11 3).bind fun x1 =>
(s_Vil_isNone h x1).bind fun x4 =>
if x4 = true then (some ((-1 : Int32), h)) else
(f_gR h v0 11 4).bind fun x13 =>
(f_gR h v0 11 3).bind fun x17 =>
(s_Vil_take F h x13 x17).bind fun h20 =>
(f_pB h20 v0 11 5 true).bind fun h25 =>
(f_gR h25 v0 11 3).bind fun x29 =>
(f_gI h25 x29 7 12).bind fun x32 =>
some (x32, h25)
theorem c_Joy_image {G : fw_G} (F : Nat) {h : fw_H} {v0 : Option Nat} : fw_Call G m_Joy_image fw_wI 2 0 0 [fw_r v0] h (s_Joy_image F h v0) := by
  refine fw_Call.of ok_Joy_image.1 (Nat.le_of_ble_eq_true rfl) [(0, some (fw_r v0))] rfl ?_
  refine r_ck ?_
  refine r_aload_n (i := 0) rfl rfl rfl ?_
  refine r_gR (i := 1) (ci := 11) (kf := 3) rfl (Nat.le_of_ble_eq_true rfl) wF_Joy_35 rfl rfl fun x1 => ?_
  refine r_VB0 (i := 2) (k2 := 0) (n2 := 0) ok_Vil_isNone wM_Joy_208 (c_Vil_isNone) (fun _ e => fw_ckb e) (Nat.le_of_ble_eq_true rfl) (Nat.le_of_ble_eq_true rfl) (Nat.le_of_ble_eq_true rfl) (Nat.le_of_ble_eq_true rfl) rfl rfl fun x4 => ?_
  refine r_ifeqB (i := 3) (tgt := 12) rfl rfl rfl ?_ ?_
  · refine r_aload_n (i := 6) rfl rfl rfl ?_
    refine r_gR (i := 7) (ci := 11) (kf := 4) rfl (Nat.le_of_ble_eq_true rfl) wF_Joy_39 rfl rfl fun x13 => ?_
    refine r_aload_n (i := 8) rfl rfl rfl ?_
    refine r_gR (i := 9) (ci := 11) (kf := 3) rfl (Nat.le_of_ble_eq_true rfl) wF_Joy_35 rfl rfl fun x17 => ?_
    refine r_VV1 (i := 10) (k2 := 0) (n2 := 0) ok_Vil_take wM_Joy_126 (c_Vil_take F) (fun _ e => fw_ckb e) (Nat.le_of_ble_eq_true rfl) (Nat.le_of_ble_eq_true rfl) (Nat.le_of_ble_eq_true rfl) (Nat.le_of_ble_eq_true rfl) rfl rfl fun h20 => ?_
    refine r_aload_n (i := 11) rfl rfl rfl ?_
    refine r_iconst (i := 12) (1 : Int32) kc_iconst_1 rfl rfl ?_
    refine r_pB (y := true) (i := 13) (ci := 11) (kf := 5) rfl (Nat.le_of_ble_eq_true rfl) wF_Joy_134 rfl (tyX11_ok 5 (Nat.le_of_ble_eq_true rfl)) rfl rfl fun h25 => ?_
    refine r_aload_n (i := 14) rfl rfl rfl ?_
    refine r_gR (i := 15) (ci := 11) (kf := 3) rfl (Nat.le_of_ble_eq_true rfl) wF_Joy_35 rfl rfl fun x29 => ?_
    refine r_gI (i := 16) (ci := 7) (kf := 12) rfl (Nat.le_of_ble_eq_true rfl) wF_Joy_238 rfl rfl fun x32 => ?_
    exact r_retI (i := 17) rfl rfl rfl rfl
  · refine r_iconst (i := 4) (-1 : Int32) kc_iconst_m1 rfl rfl ?_
    exact r_retI (i := 5) rfl rfl rfl rfl
-- Joy_back
def s_Joy_back (F : Nat) (h : fw_H) (v0 : Option Nat) : Option (Int32 × fw_H) :=
(f_ck h v0 11).bind fun _ =>
(f_gB h v0 11 5).bind fun x1 =>
if x1 = true then ((f_gR h v0 11 3).bind fun x10 =>
(f_gR h v0 11 4).bind fun x14 =>
(s_Vil_take F h x10 x14).bind fun h17 =>
(f_gR h17 v0 11 10).bind fun x21 =>
(s_Acts_clear h17 x21).bind fun h24 =>
(f_gR h24 v0 11 3).bind fun x28 =>
(f_gI h24 x28 7 12).bind fun x31 =>
some (x31, h24)) else
some ((-1 : Int32), h)
theorem c_Joy_back {G : fw_G} (F : Nat) {h : fw_H} {v0 : Option Nat} : fw_Call G m_Joy_back fw_wI 2 0 0 [fw_r v0] h (s_Joy_back F h v0) := by
  refine fw_Call.of ok_Joy_back.1 (Nat.le_of_ble_eq_true rfl) [(0, some (fw_r v0))] rfl ?_
  refine r_ck ?_
  refine r_aload_n (i := 0) rfl rfl rfl ?_
  refine r_gB (i := 1) (ci := 11) (kf := 5) rfl (Nat.le_of_ble_eq_true rfl) wF_Joy_134 rfl rfl fun x1 => ?_
  refine r_ifneB (i := 2) (tgt := 9) rfl rfl rfl ?_ ?_
  · refine r_aload_n (i := 5) rfl rfl rfl ?_
    refine r_gR (i := 6) (ci := 11) (kf := 3) rfl (Nat.le_of_ble_eq_true rfl) wF_Joy_35 rfl rfl fun x10 => ?_
    refine r_aload_n (i := 7) rfl rfl rfl ?_
    refine r_gR (i := 8) (ci := 11) (kf := 4) rfl (Nat.le_of_ble_eq_true rfl) wF_Joy_39 rfl rfl fun x14 => ?_
    refine r_VV1 (i := 9) (k2 := 0) (n2 := 0) ok_Vil_take wM_Joy_126 (c_Vil_take F) (fun _ e => fw_ckb e) (Nat.le_of_ble_eq_true rfl) (Nat.le_of_ble_eq_true rfl) (Nat.le_of_ble_eq_true rfl) (Nat.le_of_ble_eq_true rfl) rfl rfl fun h17 => ?_
    refine r_aload_n (i := 10) rfl rfl rfl ?_
    refine r_gR (i := 11) (ci := 11) (kf := 10) rfl (Nat.le_of_ble_eq_true rfl) wF_Joy_60 rfl rfl fun x21 => ?_
    refine r_VV0 (i := 12) (k2 := 0) (n2 := 0) ok_Acts_clear wM_Joy_130 (c_Acts_clear) (fun _ e => fw_ckb e) (Nat.le_of_ble_eq_true rfl) (Nat.le_of_ble_eq_true rfl) (Nat.le_of_ble_eq_true rfl) (Nat.le_of_ble_eq_true rfl) rfl rfl fun h24 => ?_
    refine r_aload_n (i := 13) rfl rfl rfl ?_
    refine r_gR (i := 14) (ci := 11) (kf := 3) rfl (Nat.le_of_ble_eq_true rfl) wF_Joy_35 rfl rfl fun x28 => ?_
    refine r_gI (i := 15) (ci := 7) (kf := 12) rfl (Nat.le_of_ble_eq_true rfl) wF_Joy_238 rfl rfl fun x31 => ?_
    exact r_retI (i := 16) rfl rfl rfl rfl
  · refine r_iconst (i := 3) (-1 : Int32) kc_iconst_m1 rfl rfl ?_
    exact r_retI (i := 4) rfl rfl rfl rfl
