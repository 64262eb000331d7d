-- Joy_count
def s_Joy_count (F : Nat) (h : fw_H) (v0 : Option Nat) (v1 : Int32) : Option Int32 :=
(f_ck h v0 11).bind fun _ =>
if v1 = (0 : Int32) then ((f_gR h v0 11 3).bind fun x77 =>
(f_gI h x77 7 0).bind fun x80 =>
some x80) else
if v1 = (1 : Int32) then ((f_gR h v0 11 3).bind fun x85 =>
(f_gI h x85 7 1).bind fun x88 =>
some x88) else
if v1 = (2 : Int32) then ((f_gI h v0 11 8).bind fun x93 =>
some x93) else
if v1 = (3 : Int32) then ((f_gR h v0 11 0).bind fun x98 =>
(s_Tape_size h x98).bind fun x101 =>
some x101) else
if v1 = (4 : Int32) then ((f_gI h v0 11 9).bind fun x106 =>
some x106) else
if v1 = (5 : Int32) then ((f_gR h v0 11 3).bind fun x111 =>
(f_gI h x111 7 12).bind fun x114 =>
some x114) else
if v1 = (6 : Int32) then ((f_gR h v0 11 3).bind fun x119 =>
(f_gI h x119 7 10).bind fun x122 =>
some x122) else
if v1 = (7 : Int32) then ((f_gR h v0 11 3).bind fun x127 =>
(f_gI h x127 7 11).bind fun x130 =>
some x130) else
if v1 = (8 : Int32) then ((f_gR h v0 11 3).bind fun x135 =>
(f_gB h x135 7 8).bind fun x138 =>
(s_Joy_bit x138).bind fun x141 =>
some x141) else
if v1 = (9 : Int32) then ((f_gR h v0 11 3).bind fun x146 =>
(f_gB h x146 7 9).bind fun x149 =>
(s_Joy_bit x149).bind fun x152 =>
some x152) else
if v1 = (10 : Int32) then ((f_gR h v0 11 3).bind fun x157 =>
(s_Vil_laughsTogether F h x157).bind fun x160 =>
some x160) else
if v1 = (11 : Int32) then ((f_gI h v0 11 11).bind fun x165 =>
some x165) else
if v1 = (12 : Int32) then ((f_gR h v0 11 15).bind fun x170 =>
(s_Seen_size h x170).bind fun x173 =>
some x173) else
if v1 = (13 : Int32) then ((f_gR h v0 11 3).bind fun x178 =>
(s_Vil_logLength h x178).bind fun x181 =>
some x181) else
if v1 = (14 : Int32) then ((f_gR h v0 11 10).bind fun x186 =>
(s_Acts_size h x186).bind fun x189 =>
some x189) else
some (-1000000 : Int32)
theorem c_Joy_count {G : fw_G} (F : Nat) {h : fw_H} {v0 : Option Nat} {v1 : Int32} : fw_Call G m_Joy_count (fw_eI h) 2 0 0 [fw_r v0, fw_i v1] h (s_Joy_count F h v0 v1) := by
  refine fw_Call.of ok_Joy_count.1 (Nat.le_of_ble_eq_true rfl) [(0, some (fw_r v0)), (1, some (fw_i v1))] rfl ?_
  refine r_ck ?_
  refine r_iload_n (i := 0) rfl rfl rfl ?_
  refine r_split (fun e1_0 => ?_) (fun n1_0 => ?_)
  · refine r_tinK (i := 1) (tgt := 76) (len := 75) (v := (0 : Int32)) (off := 75) e1_0 rfl rfl (by decide) (by decide) rfl ?_
    refine r_aload_n (i := 2) rfl rfl rfl ?_
    refine r_gR (i := 3) (ci := 11) (kf := 3) rfl (Nat.le_of_ble_eq_true rfl) wF_Joy_35 rfl rfl fun x77 => ?_
    refine r_gI (i := 4) (ci := 7) (kf := 0) rfl (Nat.le_of_ble_eq_true rfl) wF_Joy_138 rfl rfl fun x80 => ?_
    exact r_retI (i := 5) rfl rfl rfl rfl
  · refine r_split (fun e1_1 => ?_) (fun n1_1 => ?_)
    · refine r_tinK (i := 1) (tgt := 84) (len := 75) (v := (1 : Int32)) (off := 83) e1_1 rfl rfl (by decide) (by decide) rfl ?_
      refine r_aload_n (i := 6) rfl rfl rfl ?_
      refine r_gR (i := 7) (ci := 11) (kf := 3) rfl (Nat.le_of_ble_eq_true rfl) wF_Joy_35 rfl rfl fun x85 => ?_
      refine r_gI (i := 8) (ci := 7) (kf := 1) rfl (Nat.le_of_ble_eq_true rfl) wF_Joy_343 rfl rfl fun x88 => ?_
      exact r_retI (i := 9) rfl rfl rfl rfl
    · refine r_split (fun e1_2 => ?_) (fun n1_2 => ?_)
      · refine r_tinK (i := 1) (tgt := 92) (len := 75) (v := (2 : Int32)) (off := 91) e1_2 rfl rfl (by decide) (by decide) rfl ?_
        refine r_aload_n (i := 10) rfl rfl rfl ?_
        refine r_gI (i := 11) (ci := 11) (kf := 8) rfl (Nat.le_of_ble_eq_true rfl) wF_Joy_117 rfl rfl fun x93 => ?_
        exact r_retI (i := 12) rfl rfl rfl rfl
      · refine r_split (fun e1_3 => ?_) (fun n1_3 => ?_)
        · refine r_tinK (i := 1) (tgt := 97) (len := 75) (v := (3 : Int32)) (off := 96) e1_3 rfl rfl (by decide) (by decide) rfl ?_
          refine r_aload_n (i := 13) rfl rfl rfl ?_
          refine r_gR (i := 14) (ci := 11) (kf := 0) rfl (Nat.le_of_ble_eq_true rfl) wF_Joy_10 rfl rfl fun x98 => ?_
          refine r_VI0 (i := 15) (k2 := 0) (n2 := 0) ok_Tape_size wM_Joy_98 (c_Tape_size) (fun _ e => fw_ckb e) (Nat.le_of_ble_eq_true rfl) (Nat.le_of_ble_eq_true rfl) (Nat.le_of_ble_eq_true rfl) (Nat.le_of_ble_eq_true rfl) rfl rfl fun x101 => ?_
          exact r_retI (i := 16) rfl rfl rfl rfl
        · refine r_split (fun e1_4 => ?_) (fun n1_4 => ?_)
          · refine r_tinK (i := 1) (tgt := 105) (len := 75) (v := (4 : Int32)) (off := 104) e1_4 rfl rfl (by decide) (by decide) rfl ?_
            refine r_aload_n (i := 17) rfl rfl rfl ?_
            refine r_gI (i := 18) (ci := 11) (kf := 9) rfl (Nat.le_of_ble_eq_true rfl) wF_Joy_53 rfl rfl fun x106 => ?_
            exact r_retI (i := 19) rfl rfl rfl rfl
          · refine r_split (fun e1_5 => ?_) (fun n1_5 => ?_)
            · refine r_tinK (i := 1) (tgt := 110) (len := 75) (v := (5 : Int32)) (off := 109) e1_5 rfl rfl (by decide) (by decide) rfl ?_
              refine r_aload_n (i := 20) rfl rfl rfl ?_
              refine r_gR (i := 21) (ci := 11) (kf := 3) rfl (Nat.le_of_ble_eq_true rfl) wF_Joy_35 rfl rfl fun x111 => ?_
              refine r_gI (i := 22) (ci := 7) (kf := 12) rfl (Nat.le_of_ble_eq_true rfl) wF_Joy_238 rfl rfl fun x114 => ?_
              exact r_retI (i := 23) rfl rfl rfl rfl
            · refine r_split (fun e1_6 => ?_) (fun n1_6 => ?_)
              · refine r_tinK (i := 1) (tgt := 118) (len := 75) (v := (6 : Int32)) (off := 117) e1_6 rfl rfl (by decide) (by decide) rfl ?_
                refine r_aload_n (i := 24) rfl rfl rfl ?_
                refine r_gR (i := 25) (ci := 11) (kf := 3) rfl (Nat.le_of_ble_eq_true rfl) wF_Joy_35 rfl rfl fun x119 => ?_
                refine r_gI (i := 26) (ci := 7) (kf := 10) rfl (Nat.le_of_ble_eq_true rfl) wF_Joy_222 rfl rfl fun x122 => ?_
                exact r_retI (i := 27) rfl rfl rfl rfl
              · refine r_split (fun e1_7 => ?_) (fun n1_7 => ?_)
                · refine r_tinK (i := 1) (tgt := 126) (len := 75) (v := (7 : Int32)) (off := 125) e1_7 rfl rfl (by decide) (by decide) rfl ?_
                  refine r_aload_n (i := 28) rfl rfl rfl ?_
                  refine r_gR (i := 29) (ci := 11) (kf := 3) rfl (Nat.le_of_ble_eq_true rfl) wF_Joy_35 rfl rfl fun x127 => ?_
                  refine r_gI (i := 30) (ci := 7) (kf := 11) rfl (Nat.le_of_ble_eq_true rfl) wF_Joy_228 rfl rfl fun x130 => ?_
                  exact r_retI (i := 31) rfl rfl rfl rfl
                · refine r_split (fun e1_8 => ?_) (fun n1_8 => ?_)
                  · refine r_tinK (i := 1) (tgt := 134) (len := 75) (v := (8 : Int32)) (off := 133) e1_8 rfl rfl (by decide) (by decide) rfl ?_
                    refine r_aload_n (i := 32) rfl rfl rfl ?_
                    refine r_gR (i := 33) (ci := 11) (kf := 3) rfl (Nat.le_of_ble_eq_true rfl) wF_Joy_35 rfl rfl fun x135 => ?_
                    refine r_gB (i := 34) (ci := 7) (kf := 8) rfl (Nat.le_of_ble_eq_true rfl) wF_Joy_212 rfl rfl fun x138 => ?_
                    refine r_SI1 (i := 35) (k2 := 0) (n2 := 0) ok_Joy_bit wM_Joy_165 (c_Joy_bit) (Nat.le_of_ble_eq_true rfl) (Nat.le_of_ble_eq_true rfl) (Nat.le_of_ble_eq_true rfl) (Nat.le_of_ble_eq_true rfl) rfl rfl fun x141 => ?_
                    exact r_retI (i := 36) rfl rfl rfl rfl
                  · refine r_split (fun e1_9 => ?_) (fun n1_9 => ?_)
                    · refine r_tinK (i := 1) (tgt := 145) (len := 75) (v := (9 : Int32)) (off := 144) e1_9 rfl rfl (by decide) (by decide) rfl ?_
                      refine r_aload_n (i := 37) rfl rfl rfl ?_
                      refine r_gR (i := 38) (ci := 11) (kf := 3) rfl (Nat.le_of_ble_eq_true rfl) wF_Joy_35 rfl rfl fun x146 => ?_
                      refine r_gB (i := 39) (ci := 7) (kf := 9) rfl (Nat.le_of_ble_eq_true rfl) wF_Joy_215 rfl rfl fun x149 => ?_
                      refine r_SI1 (i := 40) (k2 := 0) (n2 := 0) ok_Joy_bit wM_Joy_165 (c_Joy_bit) (Nat.le_of_ble_eq_true rfl) (Nat.le_of_ble_eq_true rfl) (Nat.le_of_ble_eq_true rfl) (Nat.le_of_ble_eq_true rfl) rfl rfl fun x152 => ?_
                      exact r_retI (i := 41) rfl rfl rfl rfl
                    · refine r_split (fun e1_10 => ?_) (fun n1_10 => ?_)
                      · refine r_tinK (i := 1) (tgt := 156) (len := 75) (v := (10 : Int32)) (off := 155) e1_10 rfl rfl (by decide) (by decide) rfl ?_
                        refine r_aload_n (i := 42) rfl rfl rfl ?_
                        refine r_gR (i := 43) (ci := 11) (kf := 3) rfl (Nat.le_of_ble_eq_true rfl) wF_Joy_35 rfl rfl fun x157 => ?_
                        refine r_VI0 (i := 44) (k2 := 0) (n2 := 0) ok_Vil_laughsTogether wM_Joy_346 (c_Vil_laughsTogether F) (fun _ e => fw_ckb e) (Nat.le_of_ble_eq_true rfl) (Nat.le_of_ble_eq_true rfl) (Nat.le_of_ble_eq_true rfl) (Nat.le_of_ble_eq_true rfl) rfl rfl fun x160 => ?_
                        exact r_retI (i := 45) rfl rfl rfl rfl
                      · refine r_split (fun e1_11 => ?_) (fun n1_11 => ?_)
                        · refine r_tinK (i := 1) (tgt := 164) (len := 75) (v := (11 : Int32)) (off := 163) e1_11 rfl rfl (by decide) (by decide) rfl ?_
                          refine r_aload_n (i := 46) rfl rfl rfl ?_
                          refine r_gI (i := 47) (ci := 11) (kf := 11) rfl (Nat.le_of_ble_eq_true rfl) wF_Joy_235 rfl rfl fun x165 => ?_
                          exact r_retI (i := 48) rfl rfl rfl rfl
                        · refine r_split (fun e1_12 => ?_) (fun n1_12 => ?_)
                          · refine r_tinK (i := 1) (tgt := 169) (len := 75) (v := (12 : Int32)) (off := 168) e1_12 rfl rfl (by decide) (by decide) rfl ?_
                            refine r_aload_n (i := 49) rfl rfl rfl ?_
                            refine r_gR (i := 50) (ci := 11) (kf := 15) rfl (Nat.le_of_ble_eq_true rfl) wF_Joy_90 rfl rfl fun x170 => ?_
                            refine r_VI0 (i := 51) (k2 := 0) (n2 := 0) ok_Seen_size wM_Joy_349 (c_Seen_size) (fun _ e => fw_ckb e) (Nat.le_of_ble_eq_true rfl) (Nat.le_of_ble_eq_true rfl) (Nat.le_of_ble_eq_true rfl) (Nat.le_of_ble_eq_true rfl) rfl rfl fun x173 => ?_
                            exact r_retI (i := 52) rfl rfl rfl rfl
                          · refine r_split (fun e1_13 => ?_) (fun n1_13 => ?_)
                            · refine r_tinK (i := 1) (tgt := 177) (len := 75) (v := (13 : Int32)) (off := 176) e1_13 rfl rfl (by decide) (by decide) rfl ?_
                              refine r_aload_n (i := 53) rfl rfl rfl ?_
                              refine r_gR (i := 54) (ci := 11) (kf := 3) rfl (Nat.le_of_ble_eq_true rfl) wF_Joy_35 rfl rfl fun x178 => ?_
                              refine r_VI0 (i := 55) (k2 := 0) (n2 := 0) ok_Vil_logLength wM_Joy_350 (c_Vil_logLength) (fun _ e => fw_ckb e) (Nat.le_of_ble_eq_true rfl) (Nat.le_of_ble_eq_true rfl) (Nat.le_of_ble_eq_true rfl) (Nat.le_of_ble_eq_true rfl) rfl rfl fun x181 => ?_
                              exact r_retI (i := 56) rfl rfl rfl rfl
                            · refine r_split (fun e1_14 => ?_) (fun n1_14 => ?_)
                              · refine r_tinK (i := 1) (tgt := 185) (len := 75) (v := (14 : Int32)) (off := 184) e1_14 rfl rfl (by decide) (by decide) rfl ?_
                                refine r_aload_n (i := 57) rfl rfl rfl ?_
                                refine r_gR (i := 58) (ci := 11) (kf := 10) rfl (Nat.le_of_ble_eq_true rfl) wF_Joy_60 rfl rfl fun x186 => ?_
                                refine r_VI0 (i := 59) (k2 := 0) (n2 := 0) ok_Acts_size wM_Joy_353 (c_Acts_size) (fun _ e => fw_ckb e) (Nat.le_of_ble_eq_true rfl) (Nat.le_of_ble_eq_true rfl) (Nat.le_of_ble_eq_true rfl) (Nat.le_of_ble_eq_true rfl) rfl rfl fun x189 => ?_
                                exact r_retI (i := 60) rfl rfl rfl rfl
                              · refine r_tout (i := 1) (tgt := 193) (len := 75) rfl rfl (by have m0 := fw_ni n1_0 (z := 0) (by decide); have m1 := fw_ni n1_1 (z := 1) (by decide); have m2 := fw_ni n1_2 (z := 2) (by decide); have m3 := fw_ni n1_3 (z := 3) (by decide); have m4 := fw_ni n1_4 (z := 4) (by decide); have m5 := fw_ni n1_5 (z := 5) (by decide); have m6 := fw_ni n1_6 (z := 6) (by decide); have m7 := fw_ni n1_7 (z := 7) (by decide); have m8 := fw_ni n1_8 (z := 8) (by decide); have m9 := fw_ni n1_9 (z := 9) (by decide); have m10 := fw_ni n1_10 (z := 10) (by decide); have m11 := fw_ni n1_11 (z := 11) (by decide); have m12 := fw_ni n1_12 (z := 12) (by decide); have m13 := fw_ni n1_13 (z := 13) (by decide); have m14 := fw_ni n1_14 (z := 14) (by decide); omega) rfl ?_
                                refine r_ldc (i := 61) wK_Joy_197 rfl rfl ?_
                                exact r_retI (i := 62) rfl rfl rfl rfl
-- Mod_in
def s_Mod_in (v0 : Int32) (v1 : Int32) (v2 : Int32) : Option Bool :=
if v0 < v1 then (some false) else
if v2 < v0 then (some false) else
some true
theorem c_Mod_in {G : fw_G} {h : fw_H} {v0 : Int32} {v1 : Int32} {v2 : Int32} : fw_Call G m_Mod_in (fw_eB h) 0 0 0 [fw_i v0, fw_i v1, fw_i v2] h (s_Mod_in v0 v1 v2) := by
  refine fw_Call.of ok_Mod_in.1 (Nat.le_of_ble_eq_true rfl) [(0, some (fw_i v0)), (1, some (fw_i v1)), (2, some (fw_i v2))] rfl ?_
  refine r_iload_n (i := 0) rfl rfl rfl ?_
  refine r_iload_n (i := 1) rfl rfl rfl ?_
  refine r_icmp_lt (i := 2) (tgt := 14) rfl rfl rfl ?_ ?_
  · refine r_iconst (i := 8) (0 : Int32) kc_iconst_0 rfl rfl ?_
    exact r_retB (x := false) (i := 9) rfl rfl rfl rfl
  · refine r_iload_n (i := 3) rfl rfl rfl ?_
    refine r_iload_n (i := 4) rfl rfl rfl ?_
    refine r_icmp_gt (i := 5) (tgt := 14) rfl rfl rfl ?_ ?_
    · refine r_iconst (i := 8) (0 : Int32) kc_iconst_0 rfl rfl ?_
      exact r_retB (x := false) (i := 9) rfl rfl rfl rfl
    · refine r_iconst (i := 6) (1 : Int32) kc_iconst_1 rfl rfl ?_
      refine r_goto (i := 7) (tgt := 15) rfl rfl rfl ?_
      exact r_retB (x := true) (i := 9) rfl rfl rfl rfl
-- Mod_has
def s_Mod_has (v0 : Int32) (v1 : Int32) : Option Bool :=
if ¬ ((v0 >>> (v1 &&& 31)) &&& (1 : Int32)) = (1 : Int32) then (some false) else
some true
theorem c_Mod_has {G : fw_G} {h : fw_H} {v0 : Int32} {v1 : Int32} : fw_Call G m_Mod_has (fw_eB h) 0 0 0 [fw_i v0, fw_i v1] h (s_Mod_has v0 v1) := by
  refine fw_Call.of ok_Mod_has.1 (Nat.le_of_ble_eq_true rfl) [(0, some (fw_i v0)), (1, some (fw_i v1))] rfl ?_
  refine r_iload_n (i := 0) rfl rfl rfl ?_
  refine r_iload_n (i := 1) rfl rfl rfl ?_
  refine r_ishr (i := 2) rfl rfl ?_
  refine r_iconst (i := 3) (1 : Int32) kc_iconst_1 rfl rfl ?_
  refine r_iand (i := 4) rfl rfl ?_
  refine r_iconst (i := 5) (1 : Int32) kc_iconst_1 rfl rfl ?_
  refine r_icmp_ne (i := 6) (tgt := 13) rfl rfl rfl ?_ ?_
  · refine r_iconst (i := 9) (0 : Int32) kc_iconst_0 rfl rfl ?_
    exact r_retB (x := false) (i := 10) rfl rfl rfl rfl
  · refine r_iconst (i := 7) (1 : Int32) kc_iconst_1 rfl rfl ?_
    refine r_goto (i := 8) (tgt := 14) rfl rfl rfl ?_
    exact r_retB (x := true) (i := 10) rfl rfl rfl rfl
-- Mod_init
def s_Mod_init (h : fw_H) (v0 : Option Nat) : Option fw_H :=
fw_new h (fw_I 240 (fun _ => 0)) fun q8 h8 =>
(f_pR h8 v0 12 1 q8).bind fun h10 =>
fw_new h10 (fw_I 2600 (fun _ => 0)) fun q17 h17 =>
(f_pR h17 v0 12 6 q17).bind fun h19 =>
fw_new h19 (fw_I 2600 (fun _ => 0)) fun q26 h26 =>
(f_pR h26 v0 12 7 q26).bind fun h28 =>
fw_new h28 (fw_I 5 (fun _ => 0)) fun q33 h33 =>
(f_pR h33 v0 12 8 q33).bind fun h35 =>
fw_new h35 (fw_I 5 (fun _ => 0)) fun q40 h40 =>
(f_pR h40 v0 12 9 q40).bind fun h42 =>
fw_new h42 (fw_I 700 (fun _ => 0)) fun q49 h49 =>
(f_pR h49 v0 12 10 q49).bind fun h51 =>
fw_new h51 (fw_I 700 (fun _ => 0)) fun q58 h58 =>
(f_pR h58 v0 12 11 q58).bind fun h60 =>
fw_new h60 (fw_I 700 (fun _ => 0)) fun q67 h67 =>
(f_pR h67 v0 12 12 q67).bind fun h69 =>
fw_new h69 (fw_I 8 (fun _ => 0)) fun q75 h75 =>
(f_pR h75 v0 12 15 q75).bind fun h77 =>
fw_new h77 (fw_I 80 (fun _ => 0)) fun q83 h83 =>
(f_pR h83 v0 12 16 q83).bind fun h85 =>
fw_new h85 (fw_I 3 (fun _ => 0)) fun q90 h90 =>
(f_pR h90 v0 12 17 q90).bind fun h92 =>
fw_new h92 (fw_I 72 (fun _ => 0)) fun q98 h98 =>
(f_pR h98 v0 12 18 q98).bind fun h100 =>
fw_new h100 (fw_I 48 (fun _ => 0)) fun q106 h106 =>
(f_pR h106 v0 12 19 q106).bind fun h108 =>
fw_new h108 (fw_I 72 (fun _ => 0)) fun q114 h114 =>
(f_pR h114 v0 12 22 q114).bind fun h116 =>
fw_new h116 (fw_I 48 (fun _ => 0)) fun q122 h122 =>
(f_pR h122 v0 12 23 q122).bind fun h124 =>
fw_new h124 (fw_I 118 (fun _ => 0)) fun q130 h130 =>
(f_pR h130 v0 12 26 q130).bind fun h132 =>
fw_new h132 (fw_I 12 (fun _ => 0)) fun q138 h138 =>
(f_pR h138 v0 12 27 q138).bind fun h140 =>
(f_pI h140 v0 12 28 (-1 : Int32)).bind fun h145 =>
fw_new h145 (fw_I 4720 (fun _ => 0)) fun q152 h152 =>
(f_pR h152 v0 12 30 q152).bind fun h154 =>
fw_new h154 (fw_I 3744 (fun _ => 0)) fun q161 h161 =>
(f_pR h161 v0 12 35 q161).bind fun h163 =>
fw_new h163 (fw_I 118 (fun _ => 0)) fun q169 h169 =>
(f_pR h169 v0 12 40 q169).bind fun h171 =>
fw_new h171 (fw_I 156 (fun _ => 0)) fun q178 h178 =>
(f_pR h178 v0 12 41 q178).bind fun h180 =>
fw_new h180 (fw_I 156 (fun _ => 0)) fun q187 h187 =>
(f_pR h187 v0 12 42 q187).bind fun h189 =>
fw_new h189 (fw_J 156 (fun _ => 0)) fun q196 h196 =>
(f_pR h196 v0 12 43 q196).bind fun h198 =>
fw_new h198 (fw_J 156 (fun _ => 0)) fun q205 h205 =>
(f_pR h205 v0 12 44 q205).bind fun h207 =>
fw_new h207 (fw_I 12 (fun _ => 0)) fun q213 h213 =>
(f_pR h213 v0 12 45 q213).bind fun h215 =>
fw_new h215 (fw_I 12 (fun _ => 0)) fun q221 h221 =>
(f_pR h221 v0 12 46 q221).bind fun h223 =>
fw_new h223 (fw_I 118 (fun _ => 0)) fun q229 h229 =>
(f_pR h229 v0 12 48 q229).bind fun h231 =>
some h231
theorem c_Mod_init {G : fw_G} {h : fw_H} {v0 : Option Nat} (hv0 : v0.isSome = true) : fw_Call G m_Mod_init fw_eV 1 27 17359 [fw_r v0] h (s_Mod_init h v0) := by
  refine fw_Call.of ok_Mod_init.1 (Nat.le_of_ble_eq_true rfl) [(0, some (fw_r v0))] rfl ?_
  refine r_aload_n (i := 0) rfl rfl rfl ?_
  refine r_obji (i := 1) hv0 (Nat.le_of_ble_eq_true rfl) (Nat.le_of_ble_eq_true rfl) wM_Mod_3 wO_1 wO_2 rfl rfl ?_
  refine r_aload_n (i := 2) rfl rfl rfl ?_
  refine r_sipush (i := 3) (240 : Int32) kc_sipush_240 rfl rfl ?_
  refine r_newIN (i := 4) (k2 := 26) (n2 := 17119) (N := 240) (by decide) (by decide) (Nat.le_of_ble_eq_true rfl) (Nat.le_of_ble_eq_true rfl) (Nat.le_of_ble_eq_true rfl) wA_int rfl rfl fun q8 h8 => ?_
  refine r_pRF (i := 5) (ci := 12) (kf := 1) rfl (Nat.le_of_ble_eq_true rfl) wF_Mod_9 rfl rfl rfl ⟨_, (tyX12_ok 1 (Nat.le_of_ble_eq_true rfl)), Or.inr ⟨_, rfl⟩⟩ rfl rfl fun h10 => ?_
  refine r_aload_n (i := 6) rfl rfl rfl ?_
  refine r_sipush (i := 7) (2600 : Int32) kc_sipush_2600 rfl rfl ?_
  refine r_newIN (i := 8) (k2 := 25) (n2 := 14519) (N := 2600) (by decide) (by decide) (Nat.le_of_ble_eq_true rfl) (Nat.le_of_ble_eq_true rfl) (Nat.le_of_ble_eq_true rfl) wA_int rfl rfl fun q17 h17 => ?_
  refine r_pRF (i := 9) (ci := 12) (kf := 6) rfl (Nat.le_of_ble_eq_true rfl) wF_Mod_13 rfl rfl rfl ⟨_, (tyX12_ok 6 (Nat.le_of_ble_eq_true rfl)), Or.inr ⟨_, rfl⟩⟩ rfl rfl fun h19 => ?_
  refine r_aload_n (i := 10) rfl rfl rfl ?_
  refine r_sipush (i := 11) (2600 : Int32) kc_sipush_2600 rfl rfl ?_
  refine r_newIN (i := 12) (k2 := 24) (n2 := 11919) (N := 2600) (by decide) (by decide) (Nat.le_of_ble_eq_true rfl) (Nat.le_of_ble_eq_true rfl) (Nat.le_of_ble_eq_true rfl) wA_int rfl rfl fun q26 h26 => ?_
  refine r_pRF (i := 13) (ci := 12) (kf := 7) rfl (Nat.le_of_ble_eq_true rfl) wF_Mod_16 rfl rfl rfl ⟨_, (tyX12_ok 7 (Nat.le_of_ble_eq_true rfl)), Or.inr ⟨_, rfl⟩⟩ rfl rfl fun h28 => ?_
  refine r_aload_n (i := 14) rfl rfl rfl ?_
  refine r_iconst (i := 15) (5 : Int32) kc_iconst_5 rfl rfl ?_
  refine r_newIN (i := 16) (k2 := 23) (n2 := 11914) (N := 5) (by decide) (by decide) (Nat.le_of_ble_eq_true rfl) (Nat.le_of_ble_eq_true rfl) (Nat.le_of_ble_eq_true rfl) wA_int rfl rfl fun q33 h33 => ?_
  refine r_pRF (i := 17) (ci := 12) (kf := 8) rfl (Nat.le_of_ble_eq_true rfl) wF_Mod_19 rfl rfl rfl ⟨_, (tyX12_ok 8 (Nat.le_of_ble_eq_true rfl)), Or.inr ⟨_, rfl⟩⟩ rfl rfl fun h35 => ?_
  refine r_aload_n (i := 18) rfl rfl rfl ?_
  refine r_iconst (i := 19) (5 : Int32) kc_iconst_5 rfl rfl ?_
  refine r_newIN (i := 20) (k2 := 22) (n2 := 11909) (N := 5) (by decide) (by decide) (Nat.le_of_ble_eq_true rfl) (Nat.le_of_ble_eq_true rfl) (Nat.le_of_ble_eq_true rfl) wA_int rfl rfl fun q40 h40 => ?_
  refine r_pRF (i := 21) (ci := 12) (kf := 9) rfl (Nat.le_of_ble_eq_true rfl) wF_Mod_22 rfl rfl rfl ⟨_, (tyX12_ok 9 (Nat.le_of_ble_eq_true rfl)), Or.inr ⟨_, rfl⟩⟩ rfl rfl fun h42 => ?_
  refine r_aload_n (i := 22) rfl rfl rfl ?_
  refine r_sipush (i := 23) (700 : Int32) kc_sipush_700 rfl rfl ?_
  refine r_newIN (i := 24) (k2 := 21) (n2 := 11209) (N := 700) (by decide) (by decide) (Nat.le_of_ble_eq_true rfl) (Nat.le_of_ble_eq_true rfl) (Nat.le_of_ble_eq_true rfl) wA_int rfl rfl fun q49 h49 => ?_
  refine r_pRF (i := 25) (ci := 12) (kf := 10) rfl (Nat.le_of_ble_eq_true rfl) wF_Mod_25 rfl rfl rfl ⟨_, (tyX12_ok 10 (Nat.le_of_ble_eq_true rfl)), Or.inr ⟨_, rfl⟩⟩ rfl rfl fun h51 => ?_
  refine r_aload_n (i := 26) rfl rfl rfl ?_
  refine r_sipush (i := 27) (700 : Int32) kc_sipush_700 rfl rfl ?_
  refine r_newIN (i := 28) (k2 := 20) (n2 := 10509) (N := 700) (by decide) (by decide) (Nat.le_of_ble_eq_true rfl) (Nat.le_of_ble_eq_true rfl) (Nat.le_of_ble_eq_true rfl) wA_int rfl rfl fun q58 h58 => ?_
  refine r_pRF (i := 29) (ci := 12) (kf := 11) rfl (Nat.le_of_ble_eq_true rfl) wF_Mod_28 rfl rfl rfl ⟨_, (tyX12_ok 11 (Nat.le_of_ble_eq_true rfl)), Or.inr ⟨_, rfl⟩⟩ rfl rfl fun h60 => ?_
  refine r_aload_n (i := 30) rfl rfl rfl ?_
  refine r_sipush (i := 31) (700 : Int32) kc_sipush_700 rfl rfl ?_
  refine r_newIN (i := 32) (k2 := 19) (n2 := 9809) (N := 700) (by decide) (by decide) (Nat.le_of_ble_eq_true rfl) (Nat.le_of_ble_eq_true rfl) (Nat.le_of_ble_eq_true rfl) wA_int rfl rfl fun q67 h67 => ?_
  refine r_pRF (i := 33) (ci := 12) (kf := 12) rfl (Nat.le_of_ble_eq_true rfl) wF_Mod_31 rfl rfl rfl ⟨_, (tyX12_ok 12 (Nat.le_of_ble_eq_true rfl)), Or.inr ⟨_, rfl⟩⟩ rfl rfl fun h69 => ?_
  refine r_aload_n (i := 34) rfl rfl rfl ?_
  refine r_bipush (i := 35) (8 : Int32) kc_bipush_8 rfl rfl ?_
  refine r_newIN (i := 36) (k2 := 18) (n2 := 9801) (N := 8) (by decide) (by decide) (Nat.le_of_ble_eq_true rfl) (Nat.le_of_ble_eq_true rfl) (Nat.le_of_ble_eq_true rfl) wA_int rfl rfl fun q75 h75 => ?_
  refine r_pRF (i := 37) (ci := 12) (kf := 15) rfl (Nat.le_of_ble_eq_true rfl) wF_Mod_34 rfl rfl rfl ⟨_, (tyX12_ok 15 (Nat.le_of_ble_eq_true rfl)), Or.inr ⟨_, rfl⟩⟩ rfl rfl fun h77 => ?_
  refine r_aload_n (i := 38) rfl rfl rfl ?_
  refine r_bipush (i := 39) (80 : Int32) kc_bipush_80 rfl rfl ?_
  refine r_newIN (i := 40) (k2 := 17) (n2 := 9721) (N := 80) (by decide) (by decide) (Nat.le_of_ble_eq_true rfl) (Nat.le_of_ble_eq_true rfl) (Nat.le_of_ble_eq_true rfl) wA_int rfl rfl fun q83 h83 => ?_
  refine r_pRF (i := 41) (ci := 12) (kf := 16) rfl (Nat.le_of_ble_eq_true rfl) wF_Mod_37 rfl rfl rfl ⟨_, (tyX12_ok 16 (Nat.le_of_ble_eq_true rfl)), Or.inr ⟨_, rfl⟩⟩ rfl rfl fun h85 => ?_
  refine r_aload_n (i := 42) rfl rfl rfl ?_
  refine r_iconst (i := 43) (3 : Int32) kc_iconst_3 rfl rfl ?_
  refine r_newIN (i := 44) (k2 := 16) (n2 := 9718) (N := 3) (by decide) (by decide) (Nat.le_of_ble_eq_true rfl) (Nat.le_of_ble_eq_true rfl) (Nat.le_of_ble_eq_true rfl) wA_int rfl rfl fun q90 h90 => ?_
  refine r_pRF (i := 45) (ci := 12) (kf := 17) rfl (Nat.le_of_ble_eq_true rfl) wF_Mod_40 rfl rfl rfl ⟨_, (tyX12_ok 17 (Nat.le_of_ble_eq_true rfl)), Or.inr ⟨_, rfl⟩⟩ rfl rfl fun h92 => ?_
  refine r_aload_n (i := 46) rfl rfl rfl ?_
  refine r_bipush (i := 47) (72 : Int32) kc_bipush_72 rfl rfl ?_
  refine r_newIN (i := 48) (k2 := 15) (n2 := 9646) (N := 72) (by decide) (by decide) (Nat.le_of_ble_eq_true rfl) (Nat.le_of_ble_eq_true rfl) (Nat.le_of_ble_eq_true rfl) wA_int rfl rfl fun q98 h98 => ?_
  refine r_pRF (i := 49) (ci := 12) (kf := 18) rfl (Nat.le_of_ble_eq_true rfl) wF_Mod_43 rfl rfl rfl ⟨_, (tyX12_ok 18 (Nat.le_of_ble_eq_true rfl)), Or.inr ⟨_, rfl⟩⟩ rfl rfl fun h100 => ?_
  refine r_aload_n (i := 50) rfl rfl rfl ?_
  refine r_bipush (i := 51) (48 : Int32) kc_bipush_48 rfl rfl ?_
  refine r_newIN (i := 52) (k2 := 14) (n2 := 9598) (N := 48) (by decide) (by decide) (Nat.le_of_ble_eq_true rfl) (Nat.le_of_ble_eq_true rfl) (Nat.le_of_ble_eq_true rfl) wA_int rfl rfl fun q106 h106 => ?_
  refine r_pRF (i := 53) (ci := 12) (kf := 19) rfl (Nat.le_of_ble_eq_true rfl) wF_Mod_46 rfl rfl rfl ⟨_, (tyX12_ok 19 (Nat.le_of_ble_eq_true rfl)), Or.inr ⟨_, rfl⟩⟩ rfl rfl fun h108 => ?_
  refine r_aload_n (i := 54) rfl rfl rfl ?_
  refine r_bipush (i := 55) (72 : Int32) kc_bipush_72 rfl rfl ?_
  refine r_newIN (i := 56) (k2 := 13) (n2 := 9526) (N := 72) (by decide) (by decide) (Nat.le_of_ble_eq_true rfl) (Nat.le_of_ble_eq_true rfl) (Nat.le_of_ble_eq_true rfl) wA_int rfl rfl fun q114 h114 => ?_
  refine r_pRF (i := 57) (ci := 12) (kf := 22) rfl (Nat.le_of_ble_eq_true rfl) wF_Mod_49 rfl rfl rfl ⟨_, (tyX12_ok 22 (Nat.le_of_ble_eq_true rfl)), Or.inr ⟨_, rfl⟩⟩ rfl rfl fun h116 => ?_
  refine r_aload_n (i := 58) rfl rfl rfl ?_
  refine r_bipush (i := 59) (48 : Int32) kc_bipush_48 rfl rfl ?_
  refine r_newIN (i := 60) (k2 := 12) (n2 := 9478) (N := 48) (by decide) (by decide) (Nat.le_of_ble_eq_true rfl) (Nat.le_of_ble_eq_true rfl) (Nat.le_of_ble_eq_true rfl) wA_int rfl rfl fun q122 h122 => ?_
  refine r_pRF (i := 61) (ci := 12) (kf := 23) rfl (Nat.le_of_ble_eq_true rfl) wF_Mod_52 rfl rfl rfl ⟨_, (tyX12_ok 23 (Nat.le_of_ble_eq_true rfl)), Or.inr ⟨_, rfl⟩⟩ rfl rfl fun h124 => ?_
  refine r_aload_n (i := 62) rfl rfl rfl ?_
  refine r_bipush (i := 63) (118 : Int32) kc_bipush_118 rfl rfl ?_
  refine r_newIN (i := 64) (k2 := 11) (n2 := 9360) (N := 118) (by decide) (by decide) (Nat.le_of_ble_eq_true rfl) (Nat.le_of_ble_eq_true rfl) (Nat.le_of_ble_eq_true rfl) wA_int rfl rfl fun q130 h130 => ?_
  refine r_pRF (i := 65) (ci := 12) (kf := 26) rfl (Nat.le_of_ble_eq_true rfl) wF_Mod_55 rfl rfl rfl ⟨_, (tyX12_ok 26 (Nat.le_of_ble_eq_true rfl)), Or.inr ⟨_, rfl⟩⟩ rfl rfl fun h132 => ?_
  refine r_aload_n (i := 66) rfl rfl rfl ?_
  refine r_bipush (i := 67) (12 : Int32) kc_bipush_12 rfl rfl ?_
  refine r_newIN (i := 68) (k2 := 10) (n2 := 9348) (N := 12) (by decide) (by decide) (Nat.le_of_ble_eq_true rfl) (Nat.le_of_ble_eq_true rfl) (Nat.le_of_ble_eq_true rfl) wA_int rfl rfl fun q138 h138 => ?_
  refine r_pRF (i := 69) (ci := 12) (kf := 27) rfl (Nat.le_of_ble_eq_true rfl) wF_Mod_58 rfl rfl rfl ⟨_, (tyX12_ok 27 (Nat.le_of_ble_eq_true rfl)), Or.inr ⟨_, rfl⟩⟩ rfl rfl fun h140 => ?_
  refine r_aload_n (i := 70) rfl rfl rfl ?_
  refine r_iconst (i := 71) (-1 : Int32) kc_iconst_m1 rfl rfl ?_
  refine r_pI (i := 72) (ci := 12) (kf := 28) rfl (Nat.le_of_ble_eq_true rfl) wF_Mod_61 rfl (tyX12_ok 28 (Nat.le_of_ble_eq_true rfl)) rfl rfl fun h145 => ?_
  refine r_aload_n (i := 73) rfl rfl rfl ?_
  refine r_sipush (i := 74) (4720 : Int32) kc_sipush_4720 rfl rfl ?_
  refine r_newIN (i := 75) (k2 := 9) (n2 := 4628) (N := 4720) (by decide) (by decide) (Nat.le_of_ble_eq_true rfl) (Nat.le_of_ble_eq_true rfl) (Nat.le_of_ble_eq_true rfl) wA_int rfl rfl fun q152 h152 => ?_
  refine r_pRF (i := 76) (ci := 12) (kf := 30) rfl (Nat.le_of_ble_eq_true rfl) wF_Mod_65 rfl rfl rfl ⟨_, (tyX12_ok 30 (Nat.le_of_ble_eq_true rfl)), Or.inr ⟨_, rfl⟩⟩ rfl rfl fun h154 => ?_
  refine r_aload_n (i := 77) rfl rfl rfl ?_
  refine r_sipush (i := 78) (3744 : Int32) kc_sipush_3744 rfl rfl ?_
  refine r_newIN (i := 79) (k2 := 8) (n2 := 884) (N := 3744) (by decide) (by decide) (Nat.le_of_ble_eq_true rfl) (Nat.le_of_ble_eq_true rfl) (Nat.le_of_ble_eq_true rfl) wA_int rfl rfl fun q161 h161 => ?_
  refine r_pRF (i := 80) (ci := 12) (kf := 35) rfl (Nat.le_of_ble_eq_true rfl) wF_Mod_68 rfl rfl rfl ⟨_, (tyX12_ok 35 (Nat.le_of_ble_eq_true rfl)), Or.inr ⟨_, rfl⟩⟩ rfl rfl fun h163 => ?_
  refine r_aload_n (i := 81) rfl rfl rfl ?_
  refine r_bipush (i := 82) (118 : Int32) kc_bipush_118 rfl rfl ?_
  refine r_newIN (i := 83) (k2 := 7) (n2 := 766) (N := 118) (by decide) (by decide) (Nat.le_of_ble_eq_true rfl) (Nat.le_of_ble_eq_true rfl) (Nat.le_of_ble_eq_true rfl) wA_int rfl rfl fun q169 h169 => ?_
  refine r_pRF (i := 84) (ci := 12) (kf := 40) rfl (Nat.le_of_ble_eq_true rfl) wF_Mod_71 rfl rfl rfl ⟨_, (tyX12_ok 40 (Nat.le_of_ble_eq_true rfl)), Or.inr ⟨_, rfl⟩⟩ rfl rfl fun h171 => ?_
  refine r_aload_n (i := 85) rfl rfl rfl ?_
  refine r_sipush (i := 86) (156 : Int32) kc_sipush_156 rfl rfl ?_
  refine r_newIN (i := 87) (k2 := 6) (n2 := 610) (N := 156) (by decide) (by decide) (Nat.le_of_ble_eq_true rfl) (Nat.le_of_ble_eq_true rfl) (Nat.le_of_ble_eq_true rfl) wA_int rfl rfl fun q178 h178 => ?_
  refine r_pRF (i := 88) (ci := 12) (kf := 41) rfl (Nat.le_of_ble_eq_true rfl) wF_Mod_74 rfl rfl rfl ⟨_, (tyX12_ok 41 (Nat.le_of_ble_eq_true rfl)), Or.inr ⟨_, rfl⟩⟩ rfl rfl fun h180 => ?_
  refine r_aload_n (i := 89) rfl rfl rfl ?_
  refine r_sipush (i := 90) (156 : Int32) kc_sipush_156 rfl rfl ?_
  refine r_newIN (i := 91) (k2 := 5) (n2 := 454) (N := 156) (by decide) (by decide) (Nat.le_of_ble_eq_true rfl) (Nat.le_of_ble_eq_true rfl) (Nat.le_of_ble_eq_true rfl) wA_int rfl rfl fun q187 h187 => ?_
  refine r_pRF (i := 92) (ci := 12) (kf := 42) rfl (Nat.le_of_ble_eq_true rfl) wF_Mod_77 rfl rfl rfl ⟨_, (tyX12_ok 42 (Nat.le_of_ble_eq_true rfl)), Or.inr ⟨_, rfl⟩⟩ rfl rfl fun h189 => ?_
  refine r_aload_n (i := 93) rfl rfl rfl ?_
  refine r_sipush (i := 94) (156 : Int32) kc_sipush_156 rfl rfl ?_
  refine r_newJN (i := 95) (k2 := 4) (n2 := 298) (N := 156) (by decide) (by decide) (Nat.le_of_ble_eq_true rfl) (Nat.le_of_ble_eq_true rfl) (Nat.le_of_ble_eq_true rfl) wA_long rfl rfl fun q196 h196 => ?_
  refine r_pRF (i := 96) (ci := 12) (kf := 43) rfl (Nat.le_of_ble_eq_true rfl) wF_Mod_80 rfl rfl rfl ⟨_, (tyX12_ok 43 (Nat.le_of_ble_eq_true rfl)), Or.inr ⟨_, rfl⟩⟩ rfl rfl fun h198 => ?_
  refine r_aload_n (i := 97) rfl rfl rfl ?_
  refine r_sipush (i := 98) (156 : Int32) kc_sipush_156 rfl rfl ?_
  refine r_newJN (i := 99) (k2 := 3) (n2 := 142) (N := 156) (by decide) (by decide) (Nat.le_of_ble_eq_true rfl) (Nat.le_of_ble_eq_true rfl) (Nat.le_of_ble_eq_true rfl) wA_long rfl rfl fun q205 h205 => ?_
  refine r_pRF (i := 100) (ci := 12) (kf := 44) rfl (Nat.le_of_ble_eq_true rfl) wF_Mod_84 rfl rfl rfl ⟨_, (tyX12_ok 44 (Nat.le_of_ble_eq_true rfl)), Or.inr ⟨_, rfl⟩⟩ rfl rfl fun h207 => ?_
  refine r_aload_n (i := 101) rfl rfl rfl ?_
  refine r_bipush (i := 102) (12 : Int32) kc_bipush_12 rfl rfl ?_
  refine r_newIN (i := 103) (k2 := 2) (n2 := 130) (N := 12) (by decide) (by decide) (Nat.le_of_ble_eq_true rfl) (Nat.le_of_ble_eq_true rfl) (Nat.le_of_ble_eq_true rfl) wA_int rfl rfl fun q213 h213 => ?_
  refine r_pRF (i := 104) (ci := 12) (kf := 45) rfl (Nat.le_of_ble_eq_true rfl) wF_Mod_87 rfl rfl rfl ⟨_, (tyX12_ok 45 (Nat.le_of_ble_eq_true rfl)), Or.inr ⟨_, rfl⟩⟩ rfl rfl fun h215 => ?_
  refine r_aload_n (i := 105) rfl rfl rfl ?_
  refine r_bipush (i := 106) (12 : Int32) kc_bipush_12 rfl rfl ?_
  refine r_newIN (i := 107) (k2 := 1) (n2 := 118) (N := 12) (by decide) (by decide) (Nat.le_of_ble_eq_true rfl) (Nat.le_of_ble_eq_true rfl) (Nat.le_of_ble_eq_true rfl) wA_int rfl rfl fun q221 h221 => ?_
  refine r_pRF (i := 108) (ci := 12) (kf := 46) rfl (Nat.le_of_ble_eq_true rfl) wF_Mod_90 rfl rfl rfl ⟨_, (tyX12_ok 46 (Nat.le_of_ble_eq_true rfl)), Or.inr ⟨_, rfl⟩⟩ rfl rfl fun h223 => ?_
  refine r_aload_n (i := 109) rfl rfl rfl ?_
  refine r_bipush (i := 110) (118 : Int32) kc_bipush_118 rfl rfl ?_
  refine r_newIN (i := 111) (k2 := 0) (n2 := 0) (N := 118) (by decide) (by decide) (Nat.le_of_ble_eq_true rfl) (Nat.le_of_ble_eq_true rfl) (Nat.le_of_ble_eq_true rfl) wA_int rfl rfl fun q229 h229 => ?_
  refine r_pRF (i := 112) (ci := 12) (kf := 48) rfl (Nat.le_of_ble_eq_true rfl) wF_Mod_93 rfl rfl rfl ⟨_, (tyX12_ok 48 (Nat.le_of_ble_eq_true rfl)), Or.inr ⟨_, rfl⟩⟩ rfl rfl fun h231 => ?_
  exact r_retV (i := 113) rfl rfl rfl rfl
-- Mod_thrown
def s_Mod_thrown (h : fw_H) (v0 : Option Nat) : Option Int32 :=
(f_ck h v0 12).bind fun _ =>
(f_gI h v0 12 0).bind fun x1 =>
some x1
theorem c_Mod_thrown {G : fw_G} {h : fw_H} {v0 : Option Nat} : fw_Call G m_Mod_thrown (fw_eI h) 0 0 0 [fw_r v0] h (s_Mod_thrown h v0) := by
  refine fw_Call.of ok_Mod_thrown.1 (Nat.le_of_ble_eq_true rfl) [(0, some (fw_r v0))] rfl ?_
  refine r_ck ?_
  refine r_aload_n (i := 0) rfl rfl rfl ?_
  refine r_gI (i := 1) (ci := 12) (kf := 0) rfl (Nat.le_of_ble_eq_true rfl) wF_Mod_96 rfl rfl fun x1 => ?_
  exact r_retI (i := 2) rfl rfl rfl rfl
-- Mod_byteOf
def s_Mod_byteOf (v0 : Int32) (v1 : Int32) (v2 : Int32) (v3 : Int32) (v4 : Int32) (v5 : Int32) : Option Int32 :=
if (4 : Int32) ≤ v5 then (if (8 : Int32) ≤ v5 then (if (12 : Int32) ≤ v5 then (if (16 : Int32) ≤ v5 then ((f_irem v5 (4 : Int32)).bind fun x56 =>
some ((v4 >>> (((24 : Int32) - ((8 : Int32) * x56)) &&& 31)) &&& (255 : Int32))) else
(f_irem v5 (4 : Int32)).bind fun x56 =>
some ((v3 >>> (((24 : Int32) - ((8 : Int32) * x56)) &&& 31)) &&& (255 : Int32))) else
(f_irem v5 (4 : Int32)).bind fun x56 =>
some ((v2 >>> (((24 : Int32) - ((8 : Int32) * x56)) &&& 31)) &&& (255 : Int32))) else
(f_irem v5 (4 : Int32)).bind fun x56 =>
some ((v1 >>> (((24 : Int32) - ((8 : Int32) * x56)) &&& 31)) &&& (255 : Int32))) else
(f_irem v5 (4 : Int32)).bind fun x56 =>
some ((v0 >>> (((24 : Int32) - ((8 : Int32) * x56)) &&& 31)) &&& (255 : Int32))
theorem c_Mod_byteOf {G : fw_G} {h : fw_H} {v0 : Int32} {v1 : Int32} {v2 : Int32} {v3 : Int32} {v4 : Int32} {v5 : Int32} : fw_Call G m_Mod_byteOf (fw_eI h) 0 0 0 [fw_i v0, fw_i v1, fw_i v2, fw_i v3, fw_i v4, fw_i v5] h (s_Mod_byteOf v0 v1 v2 v3 v4 v5) := by
  refine fw_Call.of ok_Mod_byteOf.1 (Nat.le_of_ble_eq_true rfl) [(0, some (fw_i v0)), (1, some (fw_i v1)), (2, some (fw_i v2)), (3, some (fw_i v3)), (4, some (fw_i v4)), (5, some (fw_i v5))] rfl ?_
  refine r_iload (i := 0) rfl rfl rfl ?_
  refine r_iconst (i := 1) (4 : Int32) kc_iconst_4 rfl rfl ?_
  refine r_icmp_ge (i := 2) (tgt := 10) rfl rfl rfl ?_ ?_
  · refine r_iload (i := 5) rfl rfl rfl ?_
    refine r_bipush (i := 6) (8 : Int32) kc_bipush_8 rfl rfl ?_
    refine r_icmp_ge (i := 7) (tgt := 21) rfl rfl rfl ?_ ?_
    · refine r_iload (i := 10) rfl rfl rfl ?_
      refine r_bipush (i := 11) (12 : Int32) kc_bipush_12 rfl rfl ?_
      refine r_icmp_ge (i := 12) (tgt := 32) rfl rfl rfl ?_ ?_
      · refine r_iload (i := 15) rfl rfl rfl ?_
        refine r_bipush (i := 16) (16 : Int32) kc_bipush_16 rfl rfl ?_
        refine r_icmp_ge (i := 17) (tgt := 43) rfl rfl rfl ?_ ?_
        · refine r_iload (i := 20) rfl rfl rfl ?_
          refine r_istore (i := 21) rfl rfl (Nat.le_of_ble_eq_true rfl) rfl ?_
          refine r_iload (i := 22) rfl rfl rfl ?_
          refine r_bipush (i := 23) (24 : Int32) kc_bipush_24 rfl rfl ?_
          refine r_bipush (i := 24) (8 : Int32) kc_bipush_8 rfl rfl ?_
          refine r_iload (i := 25) rfl rfl rfl ?_
          refine r_iconst (i := 26) (4 : Int32) kc_iconst_4 rfl rfl ?_
          refine r_iremN (i := 27) rfl rfl fun x56 => ?_
          refine r_imul (i := 28) rfl rfl ?_
          refine r_isub (i := 29) rfl rfl ?_
          refine r_ishr (i := 30) rfl rfl ?_
          refine r_sipush (i := 31) (255 : Int32) kc_sipush_255 rfl rfl ?_
          refine r_iand (i := 32) rfl rfl ?_
          exact r_retI (i := 33) rfl rfl rfl rfl
        · refine r_iload_n (i := 18) rfl rfl rfl ?_
          refine r_goto (i := 19) (tgt := 45) rfl rfl rfl ?_
          refine r_istore (i := 21) rfl rfl (Nat.le_of_ble_eq_true rfl) rfl ?_
          refine r_iload (i := 22) rfl rfl rfl ?_
          refine r_bipush (i := 23) (24 : Int32) kc_bipush_24 rfl rfl ?_
          refine r_bipush (i := 24) (8 : Int32) kc_bipush_8 rfl rfl ?_
          refine r_iload (i := 25) rfl rfl rfl ?_
          refine r_iconst (i := 26) (4 : Int32) kc_iconst_4 rfl rfl ?_
          refine r_iremN (i := 27) rfl rfl fun x56 => ?_
          refine r_imul (i := 28) rfl rfl ?_
          refine r_isub (i := 29) rfl rfl ?_
          refine r_ishr (i := 30) rfl rfl ?_
          refine r_sipush (i := 31) (255 : Int32) kc_sipush_255 rfl rfl ?_
          refine r_iand (i := 32) rfl rfl ?_
          exact r_retI (i := 33) rfl rfl rfl rfl
      · refine r_iload_n (i := 13) rfl rfl rfl ?_
        refine r_goto (i := 14) (tgt := 45) rfl rfl rfl ?_
        refine r_istore (i := 21) rfl rfl (Nat.le_of_ble_eq_true rfl) rfl ?_
        refine r_iload (i := 22) rfl rfl rfl ?_
        refine r_bipush (i := 23) (24 : Int32) kc_bipush_24 rfl rfl ?_
        refine r_bipush (i := 24) (8 : Int32) kc_bipush_8 rfl rfl ?_
        refine r_iload (i := 25) rfl rfl rfl ?_
        refine r_iconst (i := 26) (4 : Int32) kc_iconst_4 rfl rfl ?_
        refine r_iremN (i := 27) rfl rfl fun x56 => ?_
        refine r_imul (i := 28) rfl rfl ?_
        refine r_isub (i := 29) rfl rfl ?_
        refine r_ishr (i := 30) rfl rfl ?_
        refine r_sipush (i := 31) (255 : Int32) kc_sipush_255 rfl rfl ?_
        refine r_iand (i := 32) rfl rfl ?_
        exact r_retI (i := 33) rfl rfl rfl rfl
    · refine r_iload_n (i := 8) rfl rfl rfl ?_
      refine r_goto (i := 9) (tgt := 45) rfl rfl rfl ?_
      refine r_istore (i := 21) rfl rfl (Nat.le_of_ble_eq_true rfl) rfl ?_
      refine r_iload (i := 22) rfl rfl rfl ?_
      refine r_bipush (i := 23) (24 : Int32) kc_bipush_24 rfl rfl ?_
      refine r_bipush (i := 24) (8 : Int32) kc_bipush_8 rfl rfl ?_
      refine r_iload (i := 25) rfl rfl rfl ?_
      refine r_iconst (i := 26) (4 : Int32) kc_iconst_4 rfl rfl ?_
      refine r_iremN (i := 27) rfl rfl fun x56 => ?_
      refine r_imul (i := 28) rfl rfl ?_
      refine r_isub (i := 29) rfl rfl ?_
      refine r_ishr (i := 30) rfl rfl ?_
      refine r_sipush (i := 31) (255 : Int32) kc_sipush_255 rfl rfl ?_
      refine r_iand (i := 32) rfl rfl ?_
      exact r_retI (i := 33) rfl rfl rfl rfl
  · refine r_iload_n (i := 3) rfl rfl rfl ?_
    refine r_goto (i := 4) (tgt := 45) rfl rfl rfl ?_
    refine r_istore (i := 21) rfl rfl (Nat.le_of_ble_eq_true rfl) rfl ?_
    refine r_iload (i := 22) rfl rfl rfl ?_
    refine r_bipush (i := 23) (24 : Int32) kc_bipush_24 rfl rfl ?_
    refine r_bipush (i := 24) (8 : Int32) kc_bipush_8 rfl rfl ?_
    refine r_iload (i := 25) rfl rfl rfl ?_
    refine r_iconst (i := 26) (4 : Int32) kc_iconst_4 rfl rfl ?_
    refine r_iremN (i := 27) rfl rfl fun x56 => ?_
    refine r_imul (i := 28) rfl rfl ?_
    refine r_isub (i := 29) rfl rfl ?_
    refine r_ishr (i := 30) rfl rfl ?_
    refine r_sipush (i := 31) (255 : Int32) kc_sipush_255 rfl rfl ?_
    refine r_iand (i := 32) rfl rfl ?_
    exact r_retI (i := 33) rfl rfl rfl rfl
-- Mod_feed
def l_Mod_feed_6 (v1 : Int32) (v2 : Int32) (v3 : Int32) (v4 : Int32) (v5 : Int32) (K44 : Int32 → Option (Int32 × fw_H)) : Nat → Int32 → Int32 → Option (Int32 × fw_H)
  | 0, _, _ => none
  | nn + 1, a6_6, a6_7 =>
    if (20 : Int32) ≤ a6_7 then (K44 a6_6) else
    (s_Mod_byteOf v1 v2 v3 v4 v5 a6_7).bind fun x24 =>
    if x24 = (0 : Int32) then (l_Mod_feed_6 v1 v2 v3 v4 v5 K44 nn (a6_6 + (0 : Int32)) (a6_7 + (1 : Int32))) else
    l_Mod_feed_6 v1 v2 v3 v4 v5 K44 nn (a6_6 + (1 : Int32)) (a6_7 + (1 : Int32))
theorem cl_Mod_feed_6 {G : fw_G} {h : fw_H} {v0 : Option Nat} {v1 : Int32} {v2 : Int32} {v3 : Int32} {v4 : Int32} {v5 : Int32} {K44 : Int32 → Option (Int32 × fw_H)} (hK44 : ∀ (e44_6 : Int32), fw_R G m_Mod_feed fw_wI 1 0 0 44 [(0, some (fw_r v0)), (1, some (fw_i v1)), (2, some (fw_i v2)), (3, some (fw_i v3)), (4, some (fw_i v4)), (5, some (fw_i v5)), (6, some (fw_i e44_6))] [] h (K44 e44_6)) : ∀ (nn : Nat) (a6_6 : Int32) (a6_7 : Int32), fw_R G m_Mod_feed fw_wI 1 0 0 6 [(0, some (fw_r v0)), (1, some (fw_i v1)), (2, some (fw_i v2)), (3, some (fw_i v3)), (4, some (fw_i v4)), (5, some (fw_i v5)), (6, some (fw_i a6_6)), (7, some (fw_i a6_7))] [] h (l_Mod_feed_6 v1 v2 v3 v4 v5 K44 nn a6_6 a6_7) := by
  intro nn
  induction nn with
  | zero => intros; exact r_none
  | succ nn ih =>
    intro a6_6 a6_7
    rw [l_Mod_feed_6]
    refine r_iload (i := 4) rfl rfl rfl ?_
    refine r_bipush (i := 5) (20 : Int32) kc_bipush_20 rfl rfl ?_
    refine r_icmp_ge (i := 6) (tgt := 44) rfl rfl rfl ?_ ?_
    · exact r_lv (fw_sub1 rfl (fw_sub1 rfl (fw_sub1 rfl (fw_sub1 rfl (fw_sub1 rfl (fw_sub1 rfl (fw_sub1 rfl fw_sub0))))))) (hK44 a6_6)
    · refine r_iload (i := 7) rfl rfl rfl ?_
      refine r_iload_n (i := 8) rfl rfl rfl ?_
      refine r_iload_n (i := 9) rfl rfl rfl ?_
      refine r_iload_n (i := 10) rfl rfl rfl ?_
      refine r_iload (i := 11) rfl rfl rfl ?_
      refine r_iload (i := 12) rfl rfl rfl ?_
      refine r_iload (i := 13) rfl rfl rfl ?_
      refine r_SI6 (i := 14) (k2 := 0) (n2 := 0) ok_Mod_byteOf wM_Mod_99 (c_Mod_byteOf) (Nat.le_of_ble_eq_true rfl) (Nat.le_of_ble_eq_true rfl) (Nat.le_of_ble_eq_true rfl) (Nat.le_of_ble_eq_true rfl) rfl rfl fun x24 => ?_
      refine r_if_eq (i := 15) (tgt := 34) rfl rfl rfl ?_ ?_
      · refine r_iconst (i := 18) (0 : Int32) kc_iconst_0 rfl rfl ?_
        refine r_iadd (i := 19) rfl rfl ?_
        refine r_istore (i := 20) rfl rfl (Nat.le_of_ble_eq_true rfl) rfl ?_
        refine r_iinc (i := 21) (1 : Int32) kc_iconst_1 rfl rfl rfl (Nat.le_of_ble_eq_true rfl) ?_
        refine r_goto (i := 22) (tgt := 6) rfl rfl rfl ?_
        exact r_lv (fw_sub1 rfl (fw_sub1 rfl (fw_sub1 rfl (fw_sub1 rfl (fw_sub1 rfl (fw_sub1 rfl (fw_sub1 rfl (fw_sub1 rfl fw_sub0)))))))) (ih (a6_6 + (0 : Int32)) (a6_7 + (1 : Int32)))
      · refine r_iconst (i := 16) (1 : Int32) kc_iconst_1 rfl rfl ?_
        refine r_goto (i := 17) (tgt := 35) rfl rfl rfl ?_
        refine r_iadd (i := 19) rfl rfl ?_
        refine r_istore (i := 20) rfl rfl (Nat.le_of_ble_eq_true rfl) rfl ?_
        refine r_iinc (i := 21) (1 : Int32) kc_iconst_1 rfl rfl rfl (Nat.le_of_ble_eq_true rfl) ?_
        refine r_goto (i := 22) (tgt := 6) rfl rfl rfl ?_
        exact r_lv (fw_sub1 rfl (fw_sub1 rfl (fw_sub1 rfl (fw_sub1 rfl (fw_sub1 rfl (fw_sub1 rfl (fw_sub1 rfl (fw_sub1 rfl fw_sub0)))))))) (ih (a6_6 + (1 : Int32)) (a6_7 + (1 : Int32)))
def l_Mod_feed_62 (v0 : Option Nat) (v1 : Int32) (v2 : Int32) (v3 : Int32) (v4 : Int32) (v5 : Int32) : Nat → Int32 → fw_H → Option (Int32 × fw_H)
  | 0, _, _ => none
  | nn + 1, a62_7, g62 =>
    if (20 : Int32) ≤ a62_7 then ((f_gI g62 v0 12 2).bind fun x116 =>
    some (x116, g62)) else
    (s_Mod_byteOf v1 v2 v3 v4 v5 a62_7).bind fun x78 =>
    if x78 = (0 : Int32) then (l_Mod_feed_62 v0 v1 v2 v3 v4 v5 nn (a62_7 + (1 : Int32)) g62) else
    (f_gR g62 v0 12 1).bind fun x89 =>
    (f_gI g62 v0 12 2).bind fun x93 =>
    (f_sI g62 x89 x93 x78).bind fun h98 =>
    (f_gI h98 v0 12 2).bind fun x101 =>
    (f_pI h98 v0 12 2 (x101 + (1 : Int32))).bind fun h106 =>
    l_Mod_feed_62 v0 v1 v2 v3 v4 v5 nn (a62_7 + (1 : Int32)) h106
theorem cl_Mod_feed_62 {G : fw_G} {v0 : Option Nat} {v1 : Int32} {v2 : Int32} {v3 : Int32} {v4 : Int32} {v5 : Int32} : ∀ (nn : Nat) (a62_7 : Int32) (g62 : fw_H), fw_R G m_Mod_feed fw_wI 1 0 0 62 [(0, some (fw_r v0)), (1, some (fw_i v1)), (2, some (fw_i v2)), (3, some (fw_i v3)), (4, some (fw_i v4)), (5, some (fw_i v5)), (7, some (fw_i a62_7))] [] g62 (l_Mod_feed_62 v0 v1 v2 v3 v4 v5 nn a62_7 g62) := by
  intro nn
  induction nn with
  | zero => intros; exact r_none
  | succ nn ih =>
    intro a62_7 g62
    rw [l_Mod_feed_62]
    refine r_iload (i := 33) rfl rfl rfl ?_
    refine r_bipush (i := 34) (20 : Int32) kc_bipush_20 rfl rfl ?_
    refine r_icmp_ge (i := 35) (tgt := 115) rfl rfl rfl ?_ ?_
    · refine r_aload_n (i := 60) rfl rfl rfl ?_
      refine r_gI (i := 61) (ci := 12) (kf := 2) rfl (Nat.le_of_ble_eq_true rfl) wF_Mod_103 rfl rfl fun x116 => ?_
      exact r_retI (i := 62) rfl rfl rfl rfl
    · refine r_iload_n (i := 36) rfl rfl rfl ?_
      refine r_iload_n (i := 37) rfl rfl rfl ?_
      refine r_iload_n (i := 38) rfl rfl rfl ?_
      refine r_iload (i := 39) rfl rfl rfl ?_
      refine r_iload (i := 40) rfl rfl rfl ?_
      refine r_iload (i := 41) rfl rfl rfl ?_
      refine r_SI6 (i := 42) (k2 := 0) (n2 := 0) ok_Mod_byteOf wM_Mod_99 (c_Mod_byteOf) (Nat.le_of_ble_eq_true rfl) (Nat.le_of_ble_eq_true rfl) (Nat.le_of_ble_eq_true rfl) (Nat.le_of_ble_eq_true rfl) rfl rfl fun x78 => ?_
      refine r_istore (i := 43) rfl rfl (Nat.le_of_ble_eq_true rfl) rfl ?_
      refine r_iload (i := 44) rfl rfl rfl ?_
      refine r_if_eq (i := 45) (tgt := 109) rfl rfl rfl ?_ ?_
      · refine r_iinc (i := 58) (1 : Int32) kc_iconst_1 rfl rfl rfl (Nat.le_of_ble_eq_true rfl) ?_
        refine r_goto (i := 59) (tgt := 62) rfl rfl rfl ?_
        exact r_lv (fw_sub1 rfl (fw_sub1 rfl (fw_sub1 rfl (fw_sub1 rfl (fw_sub1 rfl (fw_sub1 rfl (fw_sub1 rfl fw_sub0))))))) (ih (a62_7 + (1 : Int32)) g62)
      · refine r_aload_n (i := 46) rfl rfl rfl ?_
        refine r_gR (i := 47) (ci := 12) (kf := 1) rfl (Nat.le_of_ble_eq_true rfl) wF_Mod_9 rfl rfl fun x89 => ?_
        refine r_aload_n (i := 48) rfl rfl rfl ?_
        refine r_gI (i := 49) (ci := 12) (kf := 2) rfl (Nat.le_of_ble_eq_true rfl) wF_Mod_103 rfl rfl fun x93 => ?_
        refine r_iload (i := 50) rfl rfl rfl ?_
        refine r_sI (i := 51) rfl rfl fun h98 => ?_
        refine r_aload_n (i := 52) rfl rfl rfl ?_
        refine r_dup_r (i := 53) rfl rfl ?_
        refine r_gI (i := 54) (ci := 12) (kf := 2) rfl (Nat.le_of_ble_eq_true rfl) wF_Mod_103 rfl rfl fun x101 => ?_
        refine r_iconst (i := 55) (1 : Int32) kc_iconst_1 rfl rfl ?_
        refine r_iadd (i := 56) rfl rfl ?_
        refine r_pI (i := 57) (ci := 12) (kf := 2) rfl (Nat.le_of_ble_eq_true rfl) wF_Mod_103 rfl (tyX12_ok 2 (Nat.le_of_ble_eq_true rfl)) rfl rfl fun h106 => ?_
        refine r_iinc (i := 58) (1 : Int32) kc_iconst_1 rfl rfl rfl (Nat.le_of_ble_eq_true rfl) ?_
        refine r_goto (i := 59) (tgt := 62) rfl rfl rfl ?_
        exact r_lv (fw_sub1 rfl (fw_sub1 rfl (fw_sub1 rfl (fw_sub1 rfl (fw_sub1 rfl (fw_sub1 rfl (fw_sub1 rfl fw_sub0))))))) (ih (a62_7 + (1 : Int32)) h106)
def s_Mod_feed (F : Nat) (h : fw_H) (v0 : Option Nat) (v1 : Int32) (v2 : Int32) (v3 : Int32) (v4 : Int32) (v5 : Int32) : Option (Int32 × fw_H) :=
(f_ck h v0 12).bind fun _ =>
l_Mod_feed_6 v1 v2 v3 v4 v5 (fun e44_6 =>
(f_gI h v0 12 2).bind fun x45 =>
if (x45 + e44_6) ≤ (240 : Int32) then (l_Mod_feed_62 v0 v1 v2 v3 v4 v5 F (0 : Int32) h) else
some ((-1 : Int32), h)) F (0 : Int32) (0 : Int32)
theorem c_Mod_feed {G : fw_G} (F : Nat) {h : fw_H} {v0 : Option Nat} {v1 : Int32} {v2 : Int32} {v3 : Int32} {v4 : Int32} {v5 : Int32} : fw_Call G m_Mod_feed fw_wI 1 0 0 [fw_r v0, fw_i v1, fw_i v2, fw_i v3, fw_i v4, fw_i v5] h (s_Mod_feed F h v0 v1 v2 v3 v4 v5) := by
  refine fw_Call.of ok_Mod_feed.1 (Nat.le_of_ble_eq_true rfl) [(0, some (fw_r v0)), (1, some (fw_i v1)), (2, some (fw_i v2)), (3, some (fw_i v3)), (4, some (fw_i v4)), (5, some (fw_i v5))] rfl ?_
  refine r_ck ?_
  refine r_iconst (i := 0) (0 : Int32) kc_iconst_0 rfl rfl ?_
  refine r_istore (i := 1) rfl rfl (Nat.le_of_ble_eq_true rfl) rfl ?_
  refine r_iconst (i := 2) (0 : Int32) kc_iconst_0 rfl rfl ?_
  refine r_istore (i := 3) rfl rfl (Nat.le_of_ble_eq_true rfl) rfl ?_
  refine r_lv (fw_sub1 rfl (fw_sub1 rfl (fw_sub1 rfl (fw_sub1 rfl (fw_sub1 rfl (fw_sub1 rfl (fw_sub1 rfl (fw_sub1 rfl fw_sub0)))))))) (cl_Mod_feed_6 ?_ F _ _)
  · intro e44_6
    refine r_aload_n (i := 23) rfl rfl rfl ?_
    refine r_gI (i := 24) (ci := 12) (kf := 2) rfl (Nat.le_of_ble_eq_true rfl) wF_Mod_103 rfl rfl fun x45 => ?_
    refine r_iload (i := 25) rfl rfl rfl ?_
    refine r_iadd (i := 26) rfl rfl ?_
    refine r_sipush (i := 27) (240 : Int32) kc_sipush_240 rfl rfl ?_
    refine r_icmp_le (i := 28) (tgt := 59) rfl rfl rfl ?_ ?_
    · refine r_iconst (i := 31) (0 : Int32) kc_iconst_0 rfl rfl ?_
      refine r_istore (i := 32) rfl rfl (Nat.le_of_ble_eq_true rfl) rfl ?_
      refine r_lv (fw_sub1 rfl (fw_sub1 rfl (fw_sub1 rfl (fw_sub1 rfl (fw_sub1 rfl (fw_sub1 rfl (fw_sub1 rfl fw_sub0))))))) (cl_Mod_feed_62 F _ _)
    · refine r_iconst (i := 29) (-1 : Int32) kc_iconst_m1 rfl rfl ?_
      exact r_retI (i := 30) rfl rfl rfl rfl
-- Mod_end
def s_Mod_end (h : fw_H) (v0 : Option Nat) (v1 : Int32) : Option (Bool × fw_H) :=
(f_ck h v0 12).bind fun _ =>
if v1 < (0 : Int32) then (some (false, h)) else
(f_gI h v0 12 2).bind fun x6 =>
if v1 ≤ x6 then ((f_pI h v0 12 2 v1).bind fun h16 =>
some (true, h16)) else
some (false, h)
theorem c_Mod_end {G : fw_G} {h : fw_H} {v0 : Option Nat} {v1 : Int32} : fw_Call G m_Mod_end fw_wB 0 0 0 [fw_r v0, fw_i v1] h (s_Mod_end h v0 v1) := by
  refine fw_Call.of ok_Mod_end.1 (Nat.le_of_ble_eq_true rfl) [(0, some (fw_r v0)), (1, some (fw_i v1))] rfl ?_
  refine r_ck ?_
  refine r_iload_n (i := 0) rfl rfl rfl ?_
  refine r_if_lt (i := 1) (tgt := 12) rfl rfl rfl ?_ ?_
  · refine r_iconst (i := 6) (0 : Int32) kc_iconst_0 rfl rfl ?_
    exact r_retB (x := false) (i := 7) rfl rfl rfl rfl
  · refine r_iload_n (i := 2) rfl rfl rfl ?_
    refine r_aload_n (i := 3) rfl rfl rfl ?_
    refine r_gI (i := 4) (ci := 12) (kf := 2) rfl (Nat.le_of_ble_eq_true rfl) wF_Mod_103 rfl rfl fun x6 => ?_
    refine r_icmp_le (i := 5) (tgt := 14) rfl rfl rfl ?_ ?_
    · refine r_aload_n (i := 8) rfl rfl rfl ?_
      refine r_iload_n (i := 9) rfl rfl rfl ?_
      refine r_pI (i := 10) (ci := 12) (kf := 2) rfl (Nat.le_of_ble_eq_true rfl) wF_Mod_103 rfl (tyX12_ok 2 (Nat.le_of_ble_eq_true rfl)) rfl rfl fun h16 => ?_
      refine r_iconst (i := 11) (1 : Int32) kc_iconst_1 rfl rfl ?_
      exact r_retB (x := true) (i := 12) rfl rfl rfl rfl
    · refine r_iconst (i := 6) (0 : Int32) kc_iconst_0 rfl rfl ?_
      exact r_retB (x := false) (i := 7) rfl rfl rfl rfl
-- Mod_here
def s_Mod_here (h : fw_H) (v0 : Option Nat) : Option Int32 :=
(f_ck h v0 12).bind fun _ =>
(f_gI h v0 12 3).bind fun x1 =>
(f_gI h v0 12 2).bind fun x5 =>
if x5 ≤ x1 then (some (-1 : Int32)) else
(f_gR h v0 12 1).bind fun x12 =>
(f_gI h v0 12 3).bind fun x16 =>
(f_aI h x12 x16).bind fun x19 =>
some x19
theorem c_Mod_here {G : fw_G} {h : fw_H} {v0 : Option Nat} : fw_Call G m_Mod_here (fw_eI h) 0 0 0 [fw_r v0] h (s_Mod_here h v0) := by
  refine fw_Call.of ok_Mod_here.1 (Nat.le_of_ble_eq_true rfl) [(0, some (fw_r v0))] rfl ?_
  refine r_ck ?_
  refine r_aload_n (i := 0) rfl rfl rfl ?_
  refine r_gI (i := 1) (ci := 12) (kf := 3) rfl (Nat.le_of_ble_eq_true rfl) wF_Mod_106 rfl rfl fun x1 => ?_
  refine r_aload_n (i := 2) rfl rfl rfl ?_
  refine r_gI (i := 3) (ci := 12) (kf := 2) rfl (Nat.le_of_ble_eq_true rfl) wF_Mod_103 rfl rfl fun x5 => ?_
  refine r_icmp_ge (i := 4) (tgt := 23) rfl rfl rfl ?_ ?_
  · refine r_iconst (i := 11) (-1 : Int32) kc_iconst_m1 rfl rfl ?_
    exact r_retI (i := 12) rfl rfl rfl rfl
  · refine r_aload_n (i := 5) rfl rfl rfl ?_
    refine r_gR (i := 6) (ci := 12) (kf := 1) rfl (Nat.le_of_ble_eq_true rfl) wF_Mod_9 rfl rfl fun x12 => ?_
    refine r_aload_n (i := 7) rfl rfl rfl ?_
    refine r_gI (i := 8) (ci := 12) (kf := 3) rfl (Nat.le_of_ble_eq_true rfl) wF_Mod_106 rfl rfl fun x16 => ?_
    refine r_aI (i := 9) rfl rfl fun x19 => ?_
    refine r_goto (i := 10) (tgt := 24) rfl rfl rfl ?_
    exact r_retI (i := 12) rfl rfl rfl rfl
-- Mod_look
def l_Mod_look_0 (v0 : Option Nat) (K22 : fw_H → Option (Int32 × fw_H)) : Nat → fw_H → Option (Int32 × fw_H)
  | 0, _ => none
  | nn + 1, g0 =>
    (s_Mod_here g0 v0).bind fun x1 =>
    if ¬ x1 = (32 : Int32) then (K22 g0) else
    (f_gI g0 v0 12 3).bind fun x11 =>
    (f_pI g0 v0 12 3 (x11 + (1 : Int32))).bind fun h16 =>
    l_Mod_look_0 v0 K22 nn h16
theorem cl_Mod_look_0 {G : fw_G} {v0 : Option Nat} {K22 : fw_H → Option (Int32 × fw_H)} (hK22 : ∀ (he22 : fw_H), fw_R G m_Mod_look fw_wI 1 0 0 22 [(0, some (fw_r v0))] [] he22 (K22 he22)) : ∀ (nn : Nat) (g0 : fw_H), fw_R G m_Mod_look fw_wI 1 0 0 0 [(0, some (fw_r v0))] [] g0 (l_Mod_look_0 v0 K22 nn g0) := by
  intro nn
  induction nn with
  | zero => intros; exact r_none
  | succ nn ih =>
    intro g0
    rw [l_Mod_look_0]
    refine r_aload_n (i := 0) rfl rfl rfl ?_
    refine r_VI0 (i := 1) (k2 := 0) (n2 := 0) ok_Mod_here wM_Mod_109 (c_Mod_here) (fun _ e => fw_ckb e) (Nat.le_of_ble_eq_true rfl) (Nat.le_of_ble_eq_true rfl) (Nat.le_of_ble_eq_true rfl) (Nat.le_of_ble_eq_true rfl) rfl rfl fun x1 => ?_
    refine r_bipush (i := 2) (32 : Int32) kc_bipush_32 rfl rfl ?_
    refine r_icmp_ne (i := 3) (tgt := 22) rfl rfl rfl ?_ ?_
    · exact r_lv (fw_sub1 rfl fw_sub0) (hK22 g0)
    · refine r_aload_n (i := 4) rfl rfl rfl ?_
      refine r_dup_r (i := 5) rfl rfl ?_
      refine r_gI (i := 6) (ci := 12) (kf := 3) rfl (Nat.le_of_ble_eq_true rfl) wF_Mod_106 rfl rfl fun x11 => ?_
      refine r_iconst (i := 7) (1 : Int32) kc_iconst_1 rfl rfl ?_
      refine r_iadd (i := 8) rfl rfl ?_
      refine r_pI (i := 9) (ci := 12) (kf := 3) rfl (Nat.le_of_ble_eq_true rfl) wF_Mod_106 rfl (tyX12_ok 3 (Nat.le_of_ble_eq_true rfl)) rfl rfl fun h16 => ?_
      refine r_goto (i := 10) (tgt := 0) rfl rfl rfl ?_
      exact r_lv (fw_sub1 rfl fw_sub0) (ih h16)
def s_Mod_look (F : Nat) (h : fw_H) (v0 : Option Nat) : Option (Int32 × fw_H) :=
(f_ck h v0 12).bind fun _ =>
l_Mod_look_0 v0 (fun he22 =>
(s_Mod_here he22 v0).bind fun x23 =>
some (x23, he22)) F h
theorem c_Mod_look {G : fw_G} (F : Nat) {h : fw_H} {v0 : Option Nat} : fw_Call G m_Mod_look fw_wI 1 0 0 [fw_r v0] h (s_Mod_look F h v0) := by
  refine fw_Call.of ok_Mod_look.1 (Nat.le_of_ble_eq_true rfl) [(0, some (fw_r v0))] rfl ?_
  refine r_ck ?_
  refine r_lv (fw_sub1 rfl fw_sub0) (cl_Mod_look_0 ?_ F _)
  · intro he22
    refine r_aload_n (i := 11) rfl rfl rfl ?_
    refine r_VI0 (i := 12) (k2 := 0) (n2 := 0) ok_Mod_here wM_Mod_109 (c_Mod_here) (fun _ e => fw_ckb e) (Nat.le_of_ble_eq_true rfl) (Nat.le_of_ble_eq_true rfl) (Nat.le_of_ble_eq_true rfl) (Nat.le_of_ble_eq_true rfl) rfl rfl fun x23 => ?_
    exact r_retI (i := 13) rfl rfl rfl rfl
-- Mod_bad
def s_Mod_bad (h : fw_H) (v0 : Option Nat) : Option fw_H :=
(f_ck h v0 12).bind fun _ =>
(f_gI h v0 12 4).bind fun x2 =>
if ¬ x2 = (-1 : Int32) then ((f_gI h v0 12 4).bind fun x17 =>
(f_pI h v0 12 4 x17).bind fun h20 =>
some h20) else
(f_gI h v0 12 3).bind fun x10 =>
(f_pI h v0 12 4 x10).bind fun h20 =>
some h20
theorem c_Mod_bad {G : fw_G} {h : fw_H} {v0 : Option Nat} : fw_Call G m_Mod_bad fw_eV 0 0 0 [fw_r v0] h (s_Mod_bad h v0) := by
  refine fw_Call.of ok_Mod_bad.1 (Nat.le_of_ble_eq_true rfl) [(0, some (fw_r v0))] rfl ?_
  refine r_ck ?_
  refine r_aload_n (i := 0) rfl rfl rfl ?_
  refine r_aload_n (i := 1) rfl rfl rfl ?_
  refine r_gI (i := 2) (ci := 12) (kf := 4) rfl (Nat.le_of_ble_eq_true rfl) wF_Mod_113 rfl rfl fun x2 => ?_
  refine r_iconst (i := 3) (-1 : Int32) kc_iconst_m1 rfl rfl ?_
  refine r_icmp_ne (i := 4) (tgt := 16) rfl rfl rfl ?_ ?_
  · refine r_aload_n (i := 8) rfl rfl rfl ?_
    refine r_gI (i := 9) (ci := 12) (kf := 4) rfl (Nat.le_of_ble_eq_true rfl) wF_Mod_113 rfl rfl fun x17 => ?_
    refine r_pI (i := 10) (ci := 12) (kf := 4) rfl (Nat.le_of_ble_eq_true rfl) wF_Mod_113 rfl (tyX12_ok 4 (Nat.le_of_ble_eq_true rfl)) rfl rfl fun h20 => ?_
    exact r_retV (i := 11) rfl rfl rfl rfl
  · refine r_aload_n (i := 5) rfl rfl rfl ?_
    refine r_gI (i := 6) (ci := 12) (kf := 3) rfl (Nat.le_of_ble_eq_true rfl) wF_Mod_106 rfl rfl fun x10 => ?_
    refine r_goto (i := 7) (tgt := 20) rfl rfl rfl ?_
    refine r_pI (i := 10) (ci := 12) (kf := 4) rfl (Nat.le_of_ble_eq_true rfl) wF_Mod_113 rfl (tyX12_ok 4 (Nat.le_of_ble_eq_true rfl)) rfl rfl fun h20 => ?_
    exact r_retV (i := 11) rfl rfl rfl rfl
-- Mod_isDigit
def s_Mod_isDigit (v0 : Int32) : Option Bool :=
if v0 < (48 : Int32) then (some false) else
if (57 : Int32) < v0 then (some false) else
some true
theorem c_Mod_isDigit {G : fw_G} {h : fw_H} {v0 : Int32} : fw_Call G m_Mod_isDigit (fw_eB h) 0 0 0 [fw_i v0] h (s_Mod_isDigit v0) := by
  refine fw_Call.of ok_Mod_isDigit.1 (Nat.le_of_ble_eq_true rfl) [(0, some (fw_i v0))] rfl ?_
  refine r_iload_n (i := 0) rfl rfl rfl ?_
  refine r_bipush (i := 1) (48 : Int32) kc_bipush_48 rfl rfl ?_
  refine r_icmp_lt (i := 2) (tgt := 16) rfl rfl rfl ?_ ?_
  · refine r_iconst (i := 8) (0 : Int32) kc_iconst_0 rfl rfl ?_
    exact r_retB (x := false) (i := 9) rfl rfl rfl rfl
  · refine r_iload_n (i := 3) rfl rfl rfl ?_
    refine r_bipush (i := 4) (57 : Int32) kc_bipush_57 rfl rfl ?_
    refine r_icmp_gt (i := 5) (tgt := 16) rfl rfl rfl ?_ ?_
    · refine r_iconst (i := 8) (0 : Int32) kc_iconst_0 rfl rfl ?_
      exact r_retB (x := false) (i := 9) rfl rfl rfl rfl
    · refine r_iconst (i := 6) (1 : Int32) kc_iconst_1 rfl rfl ?_
      refine r_goto (i := 7) (tgt := 17) rfl rfl rfl ?_
      exact r_retB (x := true) (i := 9) rfl rfl rfl rfl
-- Mod_put
def s_Mod_put (h : fw_H) (v0 : Option Nat) (v1 : Int32) (v2 : Int32) : Option fw_H :=
(f_ck h v0 12).bind fun _ =>
(f_gR h v0 12 6).bind fun x1 =>
(f_gI h v0 12 14).bind fun x8 =>
(f_gR h v0 12 8).bind fun x13 =>
(f_gI h v0 12 14).bind fun x17 =>
(f_aI h x13 x17).bind fun x20 =>
(f_sI h x1 (((520 : Int32) * x8) + x20) v1).bind fun h23 =>
(f_gR h23 v0 12 7).bind fun x25 =>
(f_gI h23 v0 12 14).bind fun x32 =>
(f_gR h23 v0 12 8).bind fun x37 =>
(f_gI h23 v0 12 14).bind fun x41 =>
(f_aI h23 x37 x41).bind fun x44 =>
(f_sI h23 x25 (((520 : Int32) * x32) + x44) v2).bind fun h47 =>
(f_gR h47 v0 12 8).bind fun x49 =>
(f_gI h47 v0 12 14).bind fun x53 =>
(f_aI h47 x49 x53).bind fun x57 =>
(f_sI h47 x49 x53 (x57 + (1 : Int32))).bind fun h60 =>
some h60
theorem c_Mod_put {G : fw_G} {h : fw_H} {v0 : Option Nat} {v1 : Int32} {v2 : Int32} : fw_Call G m_Mod_put fw_eV 0 0 0 [fw_r v0, fw_i v1, fw_i v2] h (s_Mod_put h v0 v1 v2) := by
  refine fw_Call.of ok_Mod_put.1 (Nat.le_of_ble_eq_true rfl) [(0, some (fw_r v0)), (1, some (fw_i v1)), (2, some (fw_i v2))] rfl ?_
  refine r_ck ?_
  refine r_aload_n (i := 0) rfl rfl rfl ?_
  refine r_gR (i := 1) (ci := 12) (kf := 6) rfl (Nat.le_of_ble_eq_true rfl) wF_Mod_13 rfl rfl fun x1 => ?_
  refine r_sipush (i := 2) (520 : Int32) kc_sipush_520 rfl rfl ?_
  refine r_aload_n (i := 3) rfl rfl rfl ?_
  refine r_gI (i := 4) (ci := 12) (kf := 14) rfl (Nat.le_of_ble_eq_true rfl) wF_Mod_116 rfl rfl fun x8 => ?_
  refine r_imul (i := 5) rfl rfl ?_
  refine r_aload_n (i := 6) rfl rfl rfl ?_
  refine r_gR (i := 7) (ci := 12) (kf := 8) rfl (Nat.le_of_ble_eq_true rfl) wF_Mod_19 rfl rfl fun x13 => ?_
  refine r_aload_n (i := 8) rfl rfl rfl ?_
  refine r_gI (i := 9) (ci := 12) (kf := 14) rfl (Nat.le_of_ble_eq_true rfl) wF_Mod_116 rfl rfl fun x17 => ?_
  refine r_aI (i := 10) rfl rfl fun x20 => ?_
  refine r_iadd (i := 11) rfl rfl ?_
  refine r_iload_n (i := 12) rfl rfl rfl ?_
  refine r_sI (i := 13) rfl rfl fun h23 => ?_
  refine r_aload_n (i := 14) rfl rfl rfl ?_
  refine r_gR (i := 15) (ci := 12) (kf := 7) rfl (Nat.le_of_ble_eq_true rfl) wF_Mod_16 rfl rfl fun x25 => ?_
  refine r_sipush (i := 16) (520 : Int32) kc_sipush_520 rfl rfl ?_
  refine r_aload_n (i := 17) rfl rfl rfl ?_
  refine r_gI (i := 18) (ci := 12) (kf := 14) rfl (Nat.le_of_ble_eq_true rfl) wF_Mod_116 rfl rfl fun x32 => ?_
  refine r_imul (i := 19) rfl rfl ?_
  refine r_aload_n (i := 20) rfl rfl rfl ?_
  refine r_gR (i := 21) (ci := 12) (kf := 8) rfl (Nat.le_of_ble_eq_true rfl) wF_Mod_19 rfl rfl fun x37 => ?_
  refine r_aload_n (i := 22) rfl rfl rfl ?_
  refine r_gI (i := 23) (ci := 12) (kf := 14) rfl (Nat.le_of_ble_eq_true rfl) wF_Mod_116 rfl rfl fun x41 => ?_
  refine r_aI (i := 24) rfl rfl fun x44 => ?_
  refine r_iadd (i := 25) rfl rfl ?_
  refine r_iload_n (i := 26) rfl rfl rfl ?_
  refine r_sI (i := 27) rfl rfl fun h47 => ?_
  refine r_aload_n (i := 28) rfl rfl rfl ?_
  refine r_gR (i := 29) (ci := 12) (kf := 8) rfl (Nat.le_of_ble_eq_true rfl) wF_Mod_19 rfl rfl fun x49 => ?_
  refine r_aload_n (i := 30) rfl rfl rfl ?_
  refine r_gI (i := 31) (ci := 12) (kf := 14) rfl (Nat.le_of_ble_eq_true rfl) wF_Mod_116 rfl rfl fun x53 => ?_
  refine r_dup2 (i := 32) rfl rfl ?_
  refine r_aI (i := 33) rfl rfl fun x57 => ?_
  refine r_iconst (i := 34) (1 : Int32) kc_iconst_1 rfl rfl ?_
  refine r_iadd (i := 35) rfl rfl ?_
  refine r_sI (i := 36) rfl rfl fun h60 => ?_
  exact r_retV (i := 37) rfl rfl rfl rfl
-- Mod_letterOf
def s_Mod_letterOf (v0 : Int32) : Option Int32 :=
if ¬ v0 = (119 : Int32) then (if ¬ v0 = (101 : Int32) then (if ¬ v0 = (112 : Int32) then (if ¬ v0 = (107 : Int32) then (if ¬ v0 = (116 : Int32) then (if ¬ v0 = (98 : Int32) then (if ¬ v0 = (117 : Int32) then (if ¬ v0 = (104 : Int32) then (some (-1 : Int32)) else
some (7 : Int32)) else
some (6 : Int32)) else
some (5 : Int32)) else
some (4 : Int32)) else
some (3 : Int32)) else
some (2 : Int32)) else
some (1 : Int32)) else
some (0 : Int32)
theorem c_Mod_letterOf {G : fw_G} {h : fw_H} {v0 : Int32} : fw_Call G m_Mod_letterOf (fw_eI h) 0 0 0 [fw_i v0] h (s_Mod_letterOf v0) := by
  refine fw_Call.of ok_Mod_letterOf.1 (Nat.le_of_ble_eq_true rfl) [(0, some (fw_i v0))] rfl ?_
  refine r_iload_n (i := 0) rfl rfl rfl ?_
  refine r_bipush (i := 1) (119 : Int32) kc_bipush_119 rfl rfl ?_
  refine r_icmp_ne (i := 2) (tgt := 10) rfl rfl rfl ?_ ?_
  · refine r_iload_n (i := 5) rfl rfl rfl ?_
    refine r_bipush (i := 6) (101 : Int32) kc_bipush_101 rfl rfl ?_
    refine r_icmp_ne (i := 7) (tgt := 20) rfl rfl rfl ?_ ?_
    · refine r_iload_n (i := 10) rfl rfl rfl ?_
      refine r_bipush (i := 11) (112 : Int32) kc_bipush_112 rfl rfl ?_
      refine r_icmp_ne (i := 12) (tgt := 30) rfl rfl rfl ?_ ?_
      · refine r_iload_n (i := 15) rfl rfl rfl ?_
        refine r_bipush (i := 16) (107 : Int32) kc_bipush_107 rfl rfl ?_
        refine r_icmp_ne (i := 17) (tgt := 40) rfl rfl rfl ?_ ?_
        · refine r_iload_n (i := 20) rfl rfl rfl ?_
          refine r_bipush (i := 21) (116 : Int32) kc_bipush_116 rfl rfl ?_
          refine r_icmp_ne (i := 22) (tgt := 50) rfl rfl rfl ?_ ?_
          · refine r_iload_n (i := 25) rfl rfl rfl ?_
            refine r_bipush (i := 26) (98 : Int32) kc_bipush_98 rfl rfl ?_
            refine r_icmp_ne (i := 27) (tgt := 60) rfl rfl rfl ?_ ?_
            · refine r_iload_n (i := 30) rfl rfl rfl ?_
              refine r_bipush (i := 31) (117 : Int32) kc_bipush_117 rfl rfl ?_
              refine r_icmp_ne (i := 32) (tgt := 71) rfl rfl rfl ?_ ?_
              · refine r_iload_n (i := 35) rfl rfl rfl ?_
                refine r_bipush (i := 36) (104 : Int32) kc_bipush_104 rfl rfl ?_
                refine r_icmp_ne (i := 37) (tgt := 82) rfl rfl rfl ?_ ?_
                · refine r_iconst (i := 40) (-1 : Int32) kc_iconst_m1 rfl rfl ?_
                  exact r_retI (i := 41) rfl rfl rfl rfl
                · refine r_bipush (i := 38) (7 : Int32) kc_bipush_7 rfl rfl ?_
                  refine r_goto (i := 39) (tgt := 83) rfl rfl rfl ?_
                  exact r_retI (i := 41) rfl rfl rfl rfl
              · refine r_bipush (i := 33) (6 : Int32) kc_bipush_6 rfl rfl ?_
                refine r_goto (i := 34) (tgt := 83) rfl rfl rfl ?_
                exact r_retI (i := 41) rfl rfl rfl rfl
            · refine r_iconst (i := 28) (5 : Int32) kc_iconst_5 rfl rfl ?_
              refine r_goto (i := 29) (tgt := 83) rfl rfl rfl ?_
              exact r_retI (i := 41) rfl rfl rfl rfl
          · refine r_iconst (i := 23) (4 : Int32) kc_iconst_4 rfl rfl ?_
            refine r_goto (i := 24) (tgt := 83) rfl rfl rfl ?_
            exact r_retI (i := 41) rfl rfl rfl rfl
        · refine r_iconst (i := 18) (3 : Int32) kc_iconst_3 rfl rfl ?_
          refine r_goto (i := 19) (tgt := 83) rfl rfl rfl ?_
          exact r_retI (i := 41) rfl rfl rfl rfl
      · refine r_iconst (i := 13) (2 : Int32) kc_iconst_2 rfl rfl ?_
        refine r_goto (i := 14) (tgt := 83) rfl rfl rfl ?_
        exact r_retI (i := 41) rfl rfl rfl rfl
    · refine r_iconst (i := 8) (1 : Int32) kc_iconst_1 rfl rfl ?_
      refine r_goto (i := 9) (tgt := 83) rfl rfl rfl ?_
      exact r_retI (i := 41) rfl rfl rfl rfl
  · refine r_iconst (i := 3) (0 : Int32) kc_iconst_0 rfl rfl ?_
    refine r_goto (i := 4) (tgt := 83) rfl rfl rfl ?_
    exact r_retI (i := 41) rfl rfl rfl rfl
-- Mod_opens
def s_Mod_opens (h : fw_H) (v0 : Option Nat) : Option fw_H :=
(f_ck h v0 12).bind fun _ =>
(f_gI h v0 12 5).bind fun x1 =>
if ¬ x1 = (6 : Int32) then ((f_gI h v0 12 5).bind fun x15 =>
(f_pI h v0 12 5 (x15 + (1 : Int32))).bind fun h20 =>
(f_gI h20 v0 12 3).bind fun x25 =>
(f_pI h20 v0 12 3 (x25 + (1 : Int32))).bind fun h30 =>
some h30) else
(s_Mod_bad h v0).bind fun h10 =>
(f_gI h10 v0 12 5).bind fun x15 =>
(f_pI h10 v0 12 5 (x15 + (1 : Int32))).bind fun h20 =>
(f_gI h20 v0 12 3).bind fun x25 =>
(f_pI h20 v0 12 3 (x25 + (1 : Int32))).bind fun h30 =>
some h30
theorem c_Mod_opens {G : fw_G} {h : fw_H} {v0 : Option Nat} : fw_Call G m_Mod_opens fw_eV 1 0 0 [fw_r v0] h (s_Mod_opens h v0) := by
  refine fw_Call.of ok_Mod_opens.1 (Nat.le_of_ble_eq_true rfl) [(0, some (fw_r v0))] rfl ?_
  refine r_ck ?_
  refine r_aload_n (i := 0) rfl rfl rfl ?_
  refine r_gI (i := 1) (ci := 12) (kf := 5) rfl (Nat.le_of_ble_eq_true rfl) wF_Mod_119 rfl rfl fun x1 => ?_
  refine r_bipush (i := 2) (6 : Int32) kc_bipush_6 rfl rfl ?_
  refine r_icmp_ne (i := 3) (tgt := 13) rfl rfl rfl ?_ ?_
  · refine r_aload_n (i := 6) rfl rfl rfl ?_
    refine r_dup_r (i := 7) rfl rfl ?_
    refine r_gI (i := 8) (ci := 12) (kf := 5) rfl (Nat.le_of_ble_eq_true rfl) wF_Mod_119 rfl rfl fun x15 => ?_
    refine r_iconst (i := 9) (1 : Int32) kc_iconst_1 rfl rfl ?_
    refine r_iadd (i := 10) rfl rfl ?_
    refine r_pI (i := 11) (ci := 12) (kf := 5) rfl (Nat.le_of_ble_eq_true rfl) wF_Mod_119 rfl (tyX12_ok 5 (Nat.le_of_ble_eq_true rfl)) rfl rfl fun h20 => ?_
    refine r_aload_n (i := 12) rfl rfl rfl ?_
    refine r_dup_r (i := 13) rfl rfl ?_
    refine r_gI (i := 14) (ci := 12) (kf := 3) rfl (Nat.le_of_ble_eq_true rfl) wF_Mod_106 rfl rfl fun x25 => ?_
    refine r_iconst (i := 15) (1 : Int32) kc_iconst_1 rfl rfl ?_
    refine r_iadd (i := 16) rfl rfl ?_
    refine r_pI (i := 17) (ci := 12) (kf := 3) rfl (Nat.le_of_ble_eq_true rfl) wF_Mod_106 rfl (tyX12_ok 3 (Nat.le_of_ble_eq_true rfl)) rfl rfl fun h30 => ?_
    exact r_retV (i := 18) rfl rfl rfl rfl
  · refine r_aload_n (i := 4) rfl rfl rfl ?_
    refine r_VV0 (i := 5) (k2 := 0) (n2 := 0) ok_Mod_bad wM_Mod_122 (c_Mod_bad) (fun _ e => fw_ckb e) (Nat.le_of_ble_eq_true rfl) (Nat.le_of_ble_eq_true rfl) (Nat.le_of_ble_eq_true rfl) (Nat.le_of_ble_eq_true rfl) rfl rfl fun h10 => ?_
    refine r_aload_n (i := 6) rfl rfl rfl ?_
    refine r_dup_r (i := 7) rfl rfl ?_
    refine r_gI (i := 8) (ci := 12) (kf := 5) rfl (Nat.le_of_ble_eq_true rfl) wF_Mod_119 rfl rfl fun x15 => ?_
    refine r_iconst (i := 9) (1 : Int32) kc_iconst_1 rfl rfl ?_
    refine r_iadd (i := 10) rfl rfl ?_
    refine r_pI (i := 11) (ci := 12) (kf := 5) rfl (Nat.le_of_ble_eq_true rfl) wF_Mod_119 rfl (tyX12_ok 5 (Nat.le_of_ble_eq_true rfl)) rfl rfl fun h20 => ?_
    refine r_aload_n (i := 12) rfl rfl rfl ?_
    refine r_dup_r (i := 13) rfl rfl ?_
    refine r_gI (i := 14) (ci := 12) (kf := 3) rfl (Nat.le_of_ble_eq_true rfl) wF_Mod_106 rfl rfl fun x25 => ?_
    refine r_iconst (i := 15) (1 : Int32) kc_iconst_1 rfl rfl ?_
    refine r_iadd (i := 16) rfl rfl ?_
    refine r_pI (i := 17) (ci := 12) (kf := 3) rfl (Nat.le_of_ble_eq_true rfl) wF_Mod_106 rfl (tyX12_ok 3 (Nat.le_of_ble_eq_true rfl)) rfl rfl fun h30 => ?_
    exact r_retV (i := 18) rfl rfl rfl rfl
-- Mod_closes
def s_Mod_closes (F : Nat) (h : fw_H) (v0 : Option Nat) (v1 : Int32) : Option fw_H :=
(f_ck h v0 12).bind fun _ =>
(f_gI h v0 12 4).bind fun x1 =>
if ¬ x1 = (-1 : Int32) then ((f_gI h v0 12 3).bind fun x22 =>
(f_pI h v0 12 3 (x22 + (1 : Int32))).bind fun h27 =>
(f_gI h27 v0 12 5).bind fun x32 =>
(f_pI h27 v0 12 5 (x32 - (1 : Int32))).bind fun h37 =>
some h37) else
(s_Mod_look F h v0).bind fun x9 =>
if x9.1 = v1 then ((f_gI x9.2 v0 12 3).bind fun x22 =>
(f_pI x9.2 v0 12 3 (x22 + (1 : Int32))).bind fun h27 =>
(f_gI h27 v0 12 5).bind fun x32 =>
(f_pI h27 v0 12 5 (x32 - (1 : Int32))).bind fun h37 =>
some h37) else
(s_Mod_bad x9.2 v0).bind fun h17 =>
(f_gI h17 v0 12 3).bind fun x22 =>
(f_pI h17 v0 12 3 (x22 + (1 : Int32))).bind fun h27 =>
(f_gI h27 v0 12 5).bind fun x32 =>
(f_pI h27 v0 12 5 (x32 - (1 : Int32))).bind fun h37 =>
some h37
theorem c_Mod_closes {G : fw_G} (F : Nat) {h : fw_H} {v0 : Option Nat} {v1 : Int32} : fw_Call G m_Mod_closes fw_eV 2 0 0 [fw_r v0, fw_i v1] h (s_Mod_closes F h v0 v1) := by
  refine fw_Call.of ok_Mod_closes.1 (Nat.le_of_ble_eq_true rfl) [(0, some (fw_r v0)), (1, some (fw_i v1))] rfl ?_
  refine r_ck ?_
  refine r_aload_n (i := 0) rfl rfl rfl ?_
  refine r_gI (i := 1) (ci := 12) (kf := 4) rfl (Nat.le_of_ble_eq_true rfl) wF_Mod_113 rfl rfl fun x1 => ?_
  refine r_iconst (i := 2) (-1 : Int32) kc_iconst_m1 rfl rfl ?_
  refine r_icmp_ne (i := 3) (tgt := 20) rfl rfl rfl ?_ ?_
  · refine r_aload_n (i := 10) rfl rfl rfl ?_
    refine r_dup_r (i := 11) rfl rfl ?_
    refine r_gI (i := 12) (ci := 12) (kf := 3) rfl (Nat.le_of_ble_eq_true rfl) wF_Mod_106 rfl rfl fun x22 => ?_
    refine r_iconst (i := 13) (1 : Int32) kc_iconst_1 rfl rfl ?_
    refine r_iadd (i := 14) rfl rfl ?_
    refine r_pI (i := 15) (ci := 12) (kf := 3) rfl (Nat.le_of_ble_eq_true rfl) wF_Mod_106 rfl (tyX12_ok 3 (Nat.le_of_ble_eq_true rfl)) rfl rfl fun h27 => ?_
    refine r_aload_n (i := 16) rfl rfl rfl ?_
    refine r_dup_r (i := 17) rfl rfl ?_
    refine r_gI (i := 18) (ci := 12) (kf := 5) rfl (Nat.le_of_ble_eq_true rfl) wF_Mod_119 rfl rfl fun x32 => ?_
    refine r_iconst (i := 19) (1 : Int32) kc_iconst_1 rfl rfl ?_
    refine r_isub (i := 20) rfl rfl ?_
    refine r_pI (i := 21) (ci := 12) (kf := 5) rfl (Nat.le_of_ble_eq_true rfl) wF_Mod_119 rfl (tyX12_ok 5 (Nat.le_of_ble_eq_true rfl)) rfl rfl fun h37 => ?_
    exact r_retV (i := 22) rfl rfl rfl rfl
  · refine r_aload_n (i := 4) rfl rfl rfl ?_
    refine r_VwI0 (i := 5) (k2 := 0) (n2 := 0) ok_Mod_look wM_Mod_125 (c_Mod_look F) (fun _ e => fw_ckb e) (Nat.le_of_ble_eq_true rfl) (Nat.le_of_ble_eq_true rfl) (Nat.le_of_ble_eq_true rfl) (Nat.le_of_ble_eq_true rfl) rfl rfl fun x9 => ?_
    refine r_iload_n (i := 6) rfl rfl rfl ?_
    refine r_icmp_eq (i := 7) (tgt := 20) rfl rfl rfl ?_ ?_
    · refine r_aload_n (i := 10) rfl rfl rfl ?_
      refine r_dup_r (i := 11) rfl rfl ?_
      refine r_gI (i := 12) (ci := 12) (kf := 3) rfl (Nat.le_of_ble_eq_true rfl) wF_Mod_106 rfl rfl fun x22 => ?_
      refine r_iconst (i := 13) (1 : Int32) kc_iconst_1 rfl rfl ?_
      refine r_iadd (i := 14) rfl rfl ?_
      refine r_pI (i := 15) (ci := 12) (kf := 3) rfl (Nat.le_of_ble_eq_true rfl) wF_Mod_106 rfl (tyX12_ok 3 (Nat.le_of_ble_eq_true rfl)) rfl rfl fun h27 => ?_
      refine r_aload_n (i := 16) rfl rfl rfl ?_
      refine r_dup_r (i := 17) rfl rfl ?_
      refine r_gI (i := 18) (ci := 12) (kf := 5) rfl (Nat.le_of_ble_eq_true rfl) wF_Mod_119 rfl rfl fun x32 => ?_
      refine r_iconst (i := 19) (1 : Int32) kc_iconst_1 rfl rfl ?_
      refine r_isub (i := 20) rfl rfl ?_
      refine r_pI (i := 21) (ci := 12) (kf := 5) rfl (Nat.le_of_ble_eq_true rfl) wF_Mod_119 rfl (tyX12_ok 5 (Nat.le_of_ble_eq_true rfl)) rfl rfl fun h37 => ?_
      exact r_retV (i := 22) rfl rfl rfl rfl
    · refine r_aload_n (i := 8) rfl rfl rfl ?_
      refine r_VV0 (i := 9) (k2 := 0) (n2 := 0) ok_Mod_bad wM_Mod_122 (c_Mod_bad) (fun _ e => fw_ckb e) (Nat.le_of_ble_eq_true rfl) (Nat.le_of_ble_eq_true rfl) (Nat.le_of_ble_eq_true rfl) (Nat.le_of_ble_eq_true rfl) rfl rfl fun h17 => ?_
      refine r_aload_n (i := 10) rfl rfl rfl ?_
      refine r_dup_r (i := 11) rfl rfl ?_
      refine r_gI (i := 12) (ci := 12) (kf := 3) rfl (Nat.le_of_ble_eq_true rfl) wF_Mod_106 rfl rfl fun x22 => ?_
      refine r_iconst (i := 13) (1 : Int32) kc_iconst_1 rfl rfl ?_
      refine r_iadd (i := 14) rfl rfl ?_
      refine r_pI (i := 15) (ci := 12) (kf := 3) rfl (Nat.le_of_ble_eq_true rfl) wF_Mod_106 rfl (tyX12_ok 3 (Nat.le_of_ble_eq_true rfl)) rfl rfl fun h27 => ?_
      refine r_aload_n (i := 16) rfl rfl rfl ?_
      refine r_dup_r (i := 17) rfl rfl ?_
      refine r_gI (i := 18) (ci := 12) (kf := 5) rfl (Nat.le_of_ble_eq_true rfl) wF_Mod_119 rfl rfl fun x32 => ?_
      refine r_iconst (i := 19) (1 : Int32) kc_iconst_1 rfl rfl ?_
      refine r_isub (i := 20) rfl rfl ?_
      refine r_pI (i := 21) (ci := 12) (kf := 5) rfl (Nat.le_of_ble_eq_true rfl) wF_Mod_119 rfl (tyX12_ok 5 (Nat.le_of_ble_eq_true rfl)) rfl rfl fun h37 => ?_
      exact r_retV (i := 22) rfl rfl rfl rfl
-- Mod_plainNumber
def l_Mod_plainNumber_4 (v0 : Option Nat) (K48 : Int32 → fw_H → Option (Int32 × fw_H)) : Nat → Int32 → Int32 → fw_H → Option (Int32 × fw_H)
  | 0, _, _, _ => none
  | nn + 1, a4_1, a4_2, g4 =>
    if (4 : Int32) ≤ a4_2 then (K48 a4_1 g4) else
    (s_Mod_here g4 v0).bind fun x10 =>
    (s_Mod_isDigit x10).bind fun x13 =>
    if x13 = true then ((s_Mod_here g4 v0).bind fun x24 =>
    (f_gI g4 v0 12 3).bind fun x34 =>
    (f_pI g4 v0 12 3 (x34 + (1 : Int32))).bind fun h39 =>
    l_Mod_plainNumber_4 v0 K48 nn ((((10 : Int32) * a4_1) + x24) - (48 : Int32)) (a4_2 + (1 : Int32)) h39) else
    K48 a4_1 g4
theorem cl_Mod_plainNumber_4 {G : fw_G} {v0 : Option Nat} {K48 : Int32 → fw_H → Option (Int32 × fw_H)} (hK48 : ∀ (e48_1 : Int32) (he48 : fw_H), fw_R G m_Mod_plainNumber fw_wI 1 0 0 48 [(0, some (fw_r v0)), (1, some (fw_i e48_1))] [] he48 (K48 e48_1 he48)) : ∀ (nn : Nat) (a4_1 : Int32) (a4_2 : Int32) (g4 : fw_H), fw_R G m_Mod_plainNumber fw_wI 1 0 0 4 [(0, some (fw_r v0)), (1, some (fw_i a4_1)), (2, some (fw_i a4_2))] [] g4 (l_Mod_plainNumber_4 v0 K48 nn a4_1 a4_2 g4) := by
  intro nn
  induction nn with
  | zero => intros; exact r_none
  | succ nn ih =>
    intro a4_1 a4_2 g4
    rw [l_Mod_plainNumber_4]
    refine r_iload_n (i := 4) rfl rfl rfl ?_
    refine r_iconst (i := 5) (4 : Int32) kc_iconst_4 rfl rfl ?_
    refine r_icmp_ge (i := 6) (tgt := 48) rfl rfl rfl ?_ ?_
    · exact r_lv (fw_sub1 rfl (fw_sub1 rfl fw_sub0)) (hK48 a4_1 g4)
    · refine r_aload_n (i := 7) rfl rfl rfl ?_
      refine r_VI0 (i := 8) (k2 := 0) (n2 := 0) ok_Mod_here wM_Mod_109 (c_Mod_here) (fun _ e => fw_ckb e) (Nat.le_of_ble_eq_true rfl) (Nat.le_of_ble_eq_true rfl) (Nat.le_of_ble_eq_true rfl) (Nat.le_of_ble_eq_true rfl) rfl rfl fun x10 => ?_
      refine r_SB1 (i := 9) (k2 := 0) (n2 := 0) ok_Mod_isDigit wM_Mod_128 (c_Mod_isDigit) (Nat.le_of_ble_eq_true rfl) (Nat.le_of_ble_eq_true rfl) (Nat.le_of_ble_eq_true rfl) (Nat.le_of_ble_eq_true rfl) rfl rfl fun x13 => ?_
      refine r_ifeqB (i := 10) (tgt := 48) rfl rfl rfl ?_ ?_
      · exact r_lv (fw_sub1 rfl (fw_sub1 rfl fw_sub0)) (hK48 a4_1 g4)
      · refine r_bipush (i := 11) (10 : Int32) kc_bipush_10 rfl rfl ?_
        refine r_iload_n (i := 12) rfl rfl rfl ?_
        refine r_imul (i := 13) rfl rfl ?_
        refine r_aload_n (i := 14) rfl rfl rfl ?_
        refine r_VI0 (i := 15) (k2 := 0) (n2 := 0) ok_Mod_here wM_Mod_109 (c_Mod_here) (fun _ e => fw_ckb e) (Nat.le_of_ble_eq_true rfl) (Nat.le_of_ble_eq_true rfl) (Nat.le_of_ble_eq_true rfl) (Nat.le_of_ble_eq_true rfl) rfl rfl fun x24 => ?_
        refine r_iadd (i := 16) rfl rfl ?_
        refine r_bipush (i := 17) (48 : Int32) kc_bipush_48 rfl rfl ?_
        refine r_isub (i := 18) rfl rfl ?_
        refine r_istore_n (i := 19) rfl rfl (Nat.le_of_ble_eq_true rfl) rfl ?_
        refine r_aload_n (i := 20) rfl rfl rfl ?_
        refine r_dup_r (i := 21) rfl rfl ?_
        refine r_gI (i := 22) (ci := 12) (kf := 3) rfl (Nat.le_of_ble_eq_true rfl) wF_Mod_106 rfl rfl fun x34 => ?_
        refine r_iconst (i := 23) (1 : Int32) kc_iconst_1 rfl rfl ?_
        refine r_iadd (i := 24) rfl rfl ?_
        refine r_pI (i := 25) (ci := 12) (kf := 3) rfl (Nat.le_of_ble_eq_true rfl) wF_Mod_106 rfl (tyX12_ok 3 (Nat.le_of_ble_eq_true rfl)) rfl rfl fun h39 => ?_
        refine r_iinc (i := 26) (1 : Int32) kc_iconst_1 rfl rfl rfl (Nat.le_of_ble_eq_true rfl) ?_
        refine r_goto (i := 27) (tgt := 4) rfl rfl rfl ?_
        exact r_lv (fw_sub1 rfl (fw_sub1 rfl (fw_sub1 rfl fw_sub0))) (ih ((((10 : Int32) * a4_1) + x24) - (48 : Int32)) (a4_2 + (1 : Int32)) h39)
def s_Mod_plainNumber (F : Nat) (h : fw_H) (v0 : Option Nat) : Option (Int32 × fw_H) :=
(f_ck h v0 12).bind fun _ =>
l_Mod_plainNumber_4 v0 (fun e48_1 he48 =>
(s_Mod_here he48 v0).bind fun x49 =>
(s_Mod_isDigit x49).bind fun x52 =>
if x52 = true then ((s_Mod_bad he48 v0).bind fun h59 =>
some (e48_1, h59)) else
some (e48_1, he48)) F (0 : Int32) (0 : Int32) h
theorem c_Mod_plainNumber {G : fw_G} (F : Nat) {h : fw_H} {v0 : Option Nat} : fw_Call G m_Mod_plainNumber fw_wI 1 0 0 [fw_r v0] h (s_Mod_plainNumber F h v0) := by
  refine fw_Call.of ok_Mod_plainNumber.1 (Nat.le_of_ble_eq_true rfl) [(0, some (fw_r v0))] rfl ?_
  refine r_ck ?_
  refine r_iconst (i := 0) (0 : Int32) kc_iconst_0 rfl rfl ?_
  refine r_istore_n (i := 1) rfl rfl (Nat.le_of_ble_eq_true rfl) rfl ?_
  refine r_iconst (i := 2) (0 : Int32) kc_iconst_0 rfl rfl ?_
  refine r_istore_n (i := 3) rfl rfl (Nat.le_of_ble_eq_true rfl) rfl ?_
  refine r_lv (fw_sub1 rfl (fw_sub1 rfl (fw_sub1 rfl fw_sub0))) (cl_Mod_plainNumber_4 ?_ F _ _ _)
  · intro e48_1 he48
    refine r_aload_n (i := 28) rfl rfl rfl ?_
    refine r_VI0 (i := 29) (k2 := 0) (n2 := 0) ok_Mod_here wM_Mod_109 (c_Mod_here) (fun _ e => fw_ckb e) (Nat.le_of_ble_eq_true rfl) (Nat.le_of_ble_eq_true rfl) (Nat.le_of_ble_eq_true rfl) (Nat.le_of_ble_eq_true rfl) rfl rfl fun x49 => ?_
    refine r_SB1 (i := 30) (k2 := 0) (n2 := 0) ok_Mod_isDigit wM_Mod_128 (c_Mod_isDigit) (Nat.le_of_ble_eq_true rfl) (Nat.le_of_ble_eq_true rfl) (Nat.le_of_ble_eq_true rfl) (Nat.le_of_ble_eq_true rfl) rfl rfl fun x52 => ?_
    refine r_ifeqB (i := 31) (tgt := 62) rfl rfl rfl ?_ ?_
    · refine r_iload_n (i := 34) rfl rfl rfl ?_
      exact r_retI (i := 35) rfl rfl rfl rfl
    · refine r_aload_n (i := 32) rfl rfl rfl ?_
      refine r_VV0 (i := 33) (k2 := 0) (n2 := 0) ok_Mod_bad wM_Mod_122 (c_Mod_bad) (fun _ e => fw_ckb e) (Nat.le_of_ble_eq_true rfl) (Nat.le_of_ble_eq_true rfl) (Nat.le_of_ble_eq_true rfl) (Nat.le_of_ble_eq_true rfl) rfl rfl fun h59 => ?_
      refine r_iload_n (i := 34) rfl rfl rfl ?_
      exact r_retI (i := 35) rfl rfl rfl rfl
-- Mod_atom, Mod_sum, Mod_term
def b_Mod_atom (F : Nat) (g : Nat → fw_H → Option Nat → Option fw_H) (h : fw_H) (v0 : Option Nat) : Option fw_H :=
(f_ck h v0 12).bind fun _ =>
(s_Mod_look F h v0).bind fun x1 =>
(s_Mod_isDigit x1.1).bind fun x6 =>
if x6 = true then ((s_Mod_plainNumber F x1.2 v0).bind fun x15 =>
(s_Mod_put x15.2 v0 (0 : Int32) x15.1).bind fun h18 =>
some h18) else
(s_Mod_letterOf x1.1).bind fun x25 =>
if x25 = (-1 : Int32) then (if ¬ x1.1 = (91 : Int32) then ((s_Mod_bad x1.2 v0).bind fun h86 =>
some h86) else
(s_Mod_opens x1.2 v0).bind fun h61 =>
(f_gI h61 v0 12 4).bind fun x65 =>
if ¬ x65 = (-1 : Int32) then (some h61) else
(g 1 h61 v0).bind fun h73 =>
(s_Mod_closes F h73 v0 (93 : Int32)).bind fun h79 =>
some h79) else
(f_gI x1.2 v0 12 3).bind fun x34 =>
(f_pI x1.2 v0 12 3 (x34 + (1 : Int32))).bind fun h39 =>
(s_Mod_letterOf x1.1).bind fun x45 =>
(s_Mod_put h39 v0 (1 : Int32) x45).bind fun h48 =>
some h48
theorem cb_Mod_atom {G : fw_G} {F : Nat} {g : Nat → fw_H → Option Nat → Option fw_H} {dd : Nat} (hdd : 3 ≤ dd) (hg0 : ∀ (h : fw_H) (v0 : Option Nat), fw_Call G m_Mod_atom fw_eV dd 0 0 [fw_r v0] h (g 0 h v0)) (hk0 : ∀ {h : fw_H} {v0 : Option Nat} {x : fw_H}, g 0 h v0 = some x → f_ck h v0 12 = some ()) (hg1 : ∀ (h : fw_H) (v0 : Option Nat), fw_Call G m_Mod_sum fw_eV dd 0 0 [fw_r v0] h (g 1 h v0)) (hk1 : ∀ {h : fw_H} {v0 : Option Nat} {x : fw_H}, g 1 h v0 = some x → f_ck h v0 12 = some ()) (hg2 : ∀ (h : fw_H) (v0 : Option Nat), fw_Call G m_Mod_term fw_eV dd 0 0 [fw_r v0] h (g 2 h v0)) (hk2 : ∀ {h : fw_H} {v0 : Option Nat} {x : fw_H}, g 2 h v0 = some x → f_ck h v0 12 = some ()) {h : fw_H} {v0 : Option Nat} : fw_Call G m_Mod_atom fw_eV (dd + 1) 0 0 [fw_r v0] h (b_Mod_atom F g h v0) := by
  refine fw_Call.of ok_Mod_atom.1 (Nat.le_of_ble_eq_true rfl) [(0, some (fw_r v0))] rfl ?_
  refine r_ck ?_
  refine r_aload_n (i := 0) rfl rfl rfl ?_
  refine r_VwI0 (i := 1) (k2 := 0) (n2 := 0) ok_Mod_look wM_Mod_125 (c_Mod_look F) (fun _ e => fw_ckb e) (by omega) (Nat.le_of_ble_eq_true rfl) (Nat.le_of_ble_eq_true rfl) (Nat.le_of_ble_eq_true rfl) rfl rfl fun x1 => ?_
  refine r_istore_n (i := 2) rfl rfl (Nat.le_of_ble_eq_true rfl) rfl ?_
  refine r_iload_n (i := 3) rfl rfl rfl ?_
  refine r_SB1 (i := 4) (k2 := 0) (n2 := 0) ok_Mod_isDigit wM_Mod_128 (c_Mod_isDigit) (by omega) (Nat.le_of_ble_eq_true rfl) (Nat.le_of_ble_eq_true rfl) (Nat.le_of_ble_eq_true rfl) rfl rfl fun x6 => ?_
  refine r_ifeqB (i := 5) (tgt := 24) rfl rfl rfl ?_ ?_
  · refine r_iload_n (i := 12) rfl rfl rfl ?_
    refine r_SI1 (i := 13) (k2 := 0) (n2 := 0) ok_Mod_letterOf wM_Mod_139 (c_Mod_letterOf) (by omega) (Nat.le_of_ble_eq_true rfl) (Nat.le_of_ble_eq_true rfl) (Nat.le_of_ble_eq_true rfl) rfl rfl fun x25 => ?_
    refine r_iconst (i := 14) (-1 : Int32) kc_iconst_m1 rfl rfl ?_
    refine r_icmp_eq (i := 15) (tgt := 54) rfl rfl rfl ?_ ?_
    · refine r_iload_n (i := 28) rfl rfl rfl ?_
      refine r_bipush (i := 29) (91 : Int32) kc_bipush_91 rfl rfl ?_
      refine r_icmp_ne (i := 30) (tgt := 85) rfl rfl rfl ?_ ?_
      · refine r_aload_n (i := 43) rfl rfl rfl ?_
        refine r_VV0 (i := 44) (k2 := 0) (n2 := 0) ok_Mod_bad wM_Mod_122 (c_Mod_bad) (fun _ e => fw_ckb e) (by omega) (Nat.le_of_ble_eq_true rfl) (Nat.le_of_ble_eq_true rfl) (Nat.le_of_ble_eq_true rfl) rfl rfl fun h86 => ?_
        exact r_retV (i := 45) rfl rfl rfl rfl
      · refine r_aload_n (i := 31) rfl rfl rfl ?_
        refine r_VV0 (i := 32) (k2 := 0) (n2 := 0) ok_Mod_opens wM_Mod_143 (c_Mod_opens) (fun _ e => fw_ckb e) (by omega) (Nat.le_of_ble_eq_true rfl) (Nat.le_of_ble_eq_true rfl) (Nat.le_of_ble_eq_true rfl) rfl rfl fun h61 => ?_
        refine r_aload_n (i := 33) rfl rfl rfl ?_
        refine r_gI (i := 34) (ci := 12) (kf := 4) rfl (Nat.le_of_ble_eq_true rfl) wF_Mod_113 rfl rfl fun x65 => ?_
        refine r_iconst (i := 35) (-1 : Int32) kc_iconst_m1 rfl rfl ?_
        refine r_icmp_ne (i := 36) (tgt := 89) rfl rfl rfl ?_ ?_
        · exact r_retV (i := 45) rfl rfl rfl rfl
        · refine r_aload_n (i := 37) rfl rfl rfl ?_
          refine r_VV0 (i := 38) (k2 := 0) (n2 := 0) ok_Mod_sum wM_Mod_146 (hg1 _ _) (fun _ e => hk1 e) (Nat.le_refl _) (Nat.le_of_ble_eq_true rfl) (Nat.le_of_ble_eq_true rfl) (Nat.le_of_ble_eq_true rfl) rfl rfl fun h73 => ?_
          refine r_aload_n (i := 39) rfl rfl rfl ?_
          refine r_bipush (i := 40) (93 : Int32) kc_bipush_93 rfl rfl ?_
          refine r_VV1 (i := 41) (k2 := 0) (n2 := 0) ok_Mod_closes wM_Mod_149 (c_Mod_closes F) (fun _ e => fw_ckb e) (by omega) (Nat.le_of_ble_eq_true rfl) (Nat.le_of_ble_eq_true rfl) (Nat.le_of_ble_eq_true rfl) rfl rfl fun h79 => ?_
          refine r_goto (i := 42) (tgt := 89) rfl rfl rfl ?_
          exact r_retV (i := 45) rfl rfl rfl rfl
    · refine r_aload_n (i := 16) rfl rfl rfl ?_
      refine r_dup_r (i := 17) rfl rfl ?_
      refine r_gI (i := 18) (ci := 12) (kf := 3) rfl (Nat.le_of_ble_eq_true rfl) wF_Mod_106 rfl rfl fun x34 => ?_
      refine r_iconst (i := 19) (1 : Int32) kc_iconst_1 rfl rfl ?_
      refine r_iadd (i := 20) rfl rfl ?_
      refine r_pI (i := 21) (ci := 12) (kf := 3) rfl (Nat.le_of_ble_eq_true rfl) wF_Mod_106 rfl (tyX12_ok 3 (Nat.le_of_ble_eq_true rfl)) rfl rfl fun h39 => ?_
      refine r_aload_n (i := 22) rfl rfl rfl ?_
      refine r_iconst (i := 23) (1 : Int32) kc_iconst_1 rfl rfl ?_
      refine r_iload_n (i := 24) rfl rfl rfl ?_
      refine r_SI1 (i := 25) (k2 := 0) (n2 := 0) ok_Mod_letterOf wM_Mod_139 (c_Mod_letterOf) (by omega) (Nat.le_of_ble_eq_true rfl) (Nat.le_of_ble_eq_true rfl) (Nat.le_of_ble_eq_true rfl) rfl rfl fun x45 => ?_
      refine r_VV2 (i := 26) (k2 := 0) (n2 := 0) ok_Mod_put wM_Mod_135 (c_Mod_put) (fun _ e => fw_ckb e) (by omega) (Nat.le_of_ble_eq_true rfl) (Nat.le_of_ble_eq_true rfl) (Nat.le_of_ble_eq_true rfl) rfl rfl fun h48 => ?_
      refine r_goto (i := 27) (tgt := 89) rfl rfl rfl ?_
      exact r_retV (i := 45) rfl rfl rfl rfl
  · refine r_aload_n (i := 6) rfl rfl rfl ?_
    refine r_iconst (i := 7) (0 : Int32) kc_iconst_0 rfl rfl ?_
    refine r_aload_n (i := 8) rfl rfl rfl ?_
    refine r_VwI0 (i := 9) (k2 := 0) (n2 := 0) ok_Mod_plainNumber wM_Mod_132 (c_Mod_plainNumber F) (fun _ e => fw_ckb e) (by omega) (Nat.le_of_ble_eq_true rfl) (Nat.le_of_ble_eq_true rfl) (Nat.le_of_ble_eq_true rfl) rfl rfl fun x15 => ?_
    refine r_VV2 (i := 10) (k2 := 0) (n2 := 0) ok_Mod_put wM_Mod_135 (c_Mod_put) (fun _ e => fw_ckb e) (by omega) (Nat.le_of_ble_eq_true rfl) (Nat.le_of_ble_eq_true rfl) (Nat.le_of_ble_eq_true rfl) rfl rfl fun h18 => ?_
    refine r_goto (i := 11) (tgt := 89) rfl rfl rfl ?_
    exact r_retV (i := 45) rfl rfl rfl rfl
def l_Mod_sum_21 (F : Nat) (g : Nat → fw_H → Option Nat → Option fw_H) (v0 : Option Nat) : Nat → Int32 → fw_H → Option fw_H
  | 0, _, _ => none
  | nn + 1, a21_1, g21 =>
    if a21_1 = (43 : Int32) then ((f_gI g21 v0 12 3).bind fun x35 =>
    (f_pI g21 v0 12 3 (x35 + (1 : Int32))).bind fun h40 =>
    (g 2 h40 v0).bind fun h44 =>
    if ¬ a21_1 = (43 : Int32) then ((s_Mod_put h44 v0 (3 : Int32) (0 : Int32)).bind fun h60 =>
    (f_gI h60 v0 12 4).bind fun x64 =>
    if ¬ x64 = (-1 : Int32) then (l_Mod_sum_21 F g v0 nn (-1 : Int32) h60) else
    (s_Mod_look F h60 v0).bind fun x72 =>
    l_Mod_sum_21 F g v0 nn x72.1 x72.2) else
    (s_Mod_put h44 v0 (2 : Int32) (0 : Int32)).bind fun h60 =>
    (f_gI h60 v0 12 4).bind fun x64 =>
    if ¬ x64 = (-1 : Int32) then (l_Mod_sum_21 F g v0 nn (-1 : Int32) h60) else
    (s_Mod_look F h60 v0).bind fun x72 =>
    l_Mod_sum_21 F g v0 nn x72.1 x72.2) else
    if ¬ a21_1 = (45 : Int32) then (some g21) else
    (f_gI g21 v0 12 3).bind fun x35 =>
    (f_pI g21 v0 12 3 (x35 + (1 : Int32))).bind fun h40 =>
    (g 2 h40 v0).bind fun h44 =>
    if ¬ a21_1 = (43 : Int32) then ((s_Mod_put h44 v0 (3 : Int32) (0 : Int32)).bind fun h60 =>
    (f_gI h60 v0 12 4).bind fun x64 =>
    if ¬ x64 = (-1 : Int32) then (l_Mod_sum_21 F g v0 nn (-1 : Int32) h60) else
    (s_Mod_look F h60 v0).bind fun x72 =>
    l_Mod_sum_21 F g v0 nn x72.1 x72.2) else
    (s_Mod_put h44 v0 (2 : Int32) (0 : Int32)).bind fun h60 =>
    (f_gI h60 v0 12 4).bind fun x64 =>
    if ¬ x64 = (-1 : Int32) then (l_Mod_sum_21 F g v0 nn (-1 : Int32) h60) else
    (s_Mod_look F h60 v0).bind fun x72 =>
    l_Mod_sum_21 F g v0 nn x72.1 x72.2
theorem cl_Mod_sum_21 {G : fw_G} {F : Nat} {g : Nat → fw_H → Option Nat → Option fw_H} {dd : Nat} {v0 : Option Nat} (hdd : 3 ≤ dd) (hg0 : ∀ (h : fw_H) (v0 : Option Nat), fw_Call G m_Mod_atom fw_eV dd 0 0 [fw_r v0] h (g 0 h v0)) (hk0 : ∀ {h : fw_H} {v0 : Option Nat} {x : fw_H}, g 0 h v0 = some x → f_ck h v0 12 = some ()) (hg1 : ∀ (h : fw_H) (v0 : Option Nat), fw_Call G m_Mod_sum fw_eV dd 0 0 [fw_r v0] h (g 1 h v0)) (hk1 : ∀ {h : fw_H} {v0 : Option Nat} {x : fw_H}, g 1 h v0 = some x → f_ck h v0 12 = some ()) (hg2 : ∀ (h : fw_H) (v0 : Option Nat), fw_Call G m_Mod_term fw_eV dd 0 0 [fw_r v0] h (g 2 h v0)) (hk2 : ∀ {h : fw_H} {v0 : Option Nat} {x : fw_H}, g 2 h v0 = some x → f_ck h v0 12 = some ()) : ∀ (nn : Nat) (a21_1 : Int32) (g21 : fw_H), fw_R G m_Mod_sum fw_eV (dd + 1) 0 0 21 [(0, some (fw_r v0)), (1, some (fw_i a21_1))] [] g21 (l_Mod_sum_21 F g v0 nn a21_1 g21) := by
  intro nn
  induction nn with
  | zero => intros; exact r_none
  | succ nn ih =>
    intro a21_1 g21
    rw [l_Mod_sum_21]
    refine r_iload_n (i := 11) rfl rfl rfl ?_
    refine r_bipush (i := 12) (43 : Int32) kc_bipush_43 rfl rfl ?_
    refine r_icmp_eq (i := 13) (tgt := 33) rfl rfl rfl ?_ ?_
    · refine r_aload_n (i := 17) rfl rfl rfl ?_
      refine r_dup_r (i := 18) rfl rfl ?_
      refine r_gI (i := 19) (ci := 12) (kf := 3) rfl (Nat.le_of_ble_eq_true rfl) wF_Mod_106 rfl rfl fun x35 => ?_
      refine r_iconst (i := 20) (1 : Int32) kc_iconst_1 rfl rfl ?_
      refine r_iadd (i := 21) rfl rfl ?_
      refine r_pI (i := 22) (ci := 12) (kf := 3) rfl (Nat.le_of_ble_eq_true rfl) wF_Mod_106 rfl (tyX12_ok 3 (Nat.le_of_ble_eq_true rfl)) rfl rfl fun h40 => ?_
      refine r_aload_n (i := 23) rfl rfl rfl ?_
      refine r_VV0 (i := 24) (k2 := 0) (n2 := 0) ok_Mod_term wM_Mod_156 (hg2 _ _) (fun _ e => hk2 e) (Nat.le_refl _) (Nat.le_of_ble_eq_true rfl) (Nat.le_of_ble_eq_true rfl) (Nat.le_of_ble_eq_true rfl) rfl rfl fun h44 => ?_
      refine r_aload_n (i := 25) rfl rfl rfl ?_
      refine r_iload_n (i := 26) rfl rfl rfl ?_
      refine r_bipush (i := 27) (43 : Int32) kc_bipush_43 rfl rfl ?_
      refine r_icmp_ne (i := 28) (tgt := 58) rfl rfl rfl ?_ ?_
      · refine r_iconst (i := 31) (3 : Int32) kc_iconst_3 rfl rfl ?_
        refine r_iconst (i := 32) (0 : Int32) kc_iconst_0 rfl rfl ?_
        refine r_VV2 (i := 33) (k2 := 0) (n2 := 0) ok_Mod_put wM_Mod_135 (c_Mod_put) (fun _ e => fw_ckb e) (by omega) (Nat.le_of_ble_eq_true rfl) (Nat.le_of_ble_eq_true rfl) (Nat.le_of_ble_eq_true rfl) rfl rfl fun h60 => ?_
        refine r_aload_n (i := 34) rfl rfl rfl ?_
        refine r_gI (i := 35) (ci := 12) (kf := 4) rfl (Nat.le_of_ble_eq_true rfl) wF_Mod_113 rfl rfl fun x64 => ?_
        refine r_iconst (i := 36) (-1 : Int32) kc_iconst_m1 rfl rfl ?_
        refine r_icmp_ne (i := 37) (tgt := 78) rfl rfl rfl ?_ ?_
        · refine r_iconst (i := 41) (-1 : Int32) kc_iconst_m1 rfl rfl ?_
          refine r_istore_n (i := 42) rfl rfl (Nat.le_of_ble_eq_true rfl) rfl ?_
          refine r_goto (i := 43) (tgt := 21) rfl rfl rfl ?_
          exact r_lv (fw_sub1 rfl (fw_sub1 rfl fw_sub0)) (ih (-1 : Int32) h60)
        · refine r_aload_n (i := 38) rfl rfl rfl ?_
          refine r_VwI0 (i := 39) (k2 := 0) (n2 := 0) ok_Mod_look wM_Mod_125 (c_Mod_look F) (fun _ e => fw_ckb e) (by omega) (Nat.le_of_ble_eq_true rfl) (Nat.le_of_ble_eq_true rfl) (Nat.le_of_ble_eq_true rfl) rfl rfl fun x72 => ?_
          refine r_goto (i := 40) (tgt := 79) rfl rfl rfl ?_
          refine r_istore_n (i := 42) rfl rfl (Nat.le_of_ble_eq_true rfl) rfl ?_
          refine r_goto (i := 43) (tgt := 21) rfl rfl rfl ?_
          exact r_lv (fw_sub1 rfl (fw_sub1 rfl fw_sub0)) (ih x72.1 x72.2)
      · refine r_iconst (i := 29) (2 : Int32) kc_iconst_2 rfl rfl ?_
        refine r_goto (i := 30) (tgt := 59) rfl rfl rfl ?_
        refine r_iconst (i := 32) (0 : Int32) kc_iconst_0 rfl rfl ?_
        refine r_VV2 (i := 33) (k2 := 0) (n2 := 0) ok_Mod_put wM_Mod_135 (c_Mod_put) (fun _ e => fw_ckb e) (by omega) (Nat.le_of_ble_eq_true rfl) (Nat.le_of_ble_eq_true rfl) (Nat.le_of_ble_eq_true rfl) rfl rfl fun h60 => ?_
        refine r_aload_n (i := 34) rfl rfl rfl ?_
        refine r_gI (i := 35) (ci := 12) (kf := 4) rfl (Nat.le_of_ble_eq_true rfl) wF_Mod_113 rfl rfl fun x64 => ?_
        refine r_iconst (i := 36) (-1 : Int32) kc_iconst_m1 rfl rfl ?_
        refine r_icmp_ne (i := 37) (tgt := 78) rfl rfl rfl ?_ ?_
        · refine r_iconst (i := 41) (-1 : Int32) kc_iconst_m1 rfl rfl ?_
          refine r_istore_n (i := 42) rfl rfl (Nat.le_of_ble_eq_true rfl) rfl ?_
          refine r_goto (i := 43) (tgt := 21) rfl rfl rfl ?_
          exact r_lv (fw_sub1 rfl (fw_sub1 rfl fw_sub0)) (ih (-1 : Int32) h60)
        · refine r_aload_n (i := 38) rfl rfl rfl ?_
          refine r_VwI0 (i := 39) (k2 := 0) (n2 := 0) ok_Mod_look wM_Mod_125 (c_Mod_look F) (fun _ e => fw_ckb e) (by omega) (Nat.le_of_ble_eq_true rfl) (Nat.le_of_ble_eq_true rfl) (Nat.le_of_ble_eq_true rfl) rfl rfl fun x72 => ?_
          refine r_goto (i := 40) (tgt := 79) rfl rfl rfl ?_
          refine r_istore_n (i := 42) rfl rfl (Nat.le_of_ble_eq_true rfl) rfl ?_
          refine r_goto (i := 43) (tgt := 21) rfl rfl rfl ?_
          exact r_lv (fw_sub1 rfl (fw_sub1 rfl fw_sub0)) (ih x72.1 x72.2)
    · refine r_iload_n (i := 14) rfl rfl rfl ?_
      refine r_bipush (i := 15) (45 : Int32) kc_bipush_45 rfl rfl ?_
      refine r_icmp_ne (i := 16) (tgt := 83) rfl rfl rfl ?_ ?_
      · exact r_retV (i := 44) rfl rfl rfl rfl
      · refine r_aload_n (i := 17) rfl rfl rfl ?_
        refine r_dup_r (i := 18) rfl rfl ?_
        refine r_gI (i := 19) (ci := 12) (kf := 3) rfl (Nat.le_of_ble_eq_true rfl) wF_Mod_106 rfl rfl fun x35 => ?_
        refine r_iconst (i := 20) (1 : Int32) kc_iconst_1 rfl rfl ?_
        refine r_iadd (i := 21) rfl rfl ?_
        refine r_pI (i := 22) (ci := 12) (kf := 3) rfl (Nat.le_of_ble_eq_true rfl) wF_Mod_106 rfl (tyX12_ok 3 (Nat.le_of_ble_eq_true rfl)) rfl rfl fun h40 => ?_
        refine r_aload_n (i := 23) rfl rfl rfl ?_
        refine r_VV0 (i := 24) (k2 := 0) (n2 := 0) ok_Mod_term wM_Mod_156 (hg2 _ _) (fun _ e => hk2 e) (Nat.le_refl _) (Nat.le_of_ble_eq_true rfl) (Nat.le_of_ble_eq_true rfl) (Nat.le_of_ble_eq_true rfl) rfl rfl fun h44 => ?_
        refine r_aload_n (i := 25) rfl rfl rfl ?_
        refine r_iload_n (i := 26) rfl rfl rfl ?_
        refine r_bipush (i := 27) (43 : Int32) kc_bipush_43 rfl rfl ?_
        refine r_icmp_ne (i := 28) (tgt := 58) rfl rfl rfl ?_ ?_
        · refine r_iconst (i := 31) (3 : Int32) kc_iconst_3 rfl rfl ?_
          refine r_iconst (i := 32) (0 : Int32) kc_iconst_0 rfl rfl ?_
          refine r_VV2 (i := 33) (k2 := 0) (n2 := 0) ok_Mod_put wM_Mod_135 (c_Mod_put) (fun _ e => fw_ckb e) (by omega) (Nat.le_of_ble_eq_true rfl) (Nat.le_of_ble_eq_true rfl) (Nat.le_of_ble_eq_true rfl) rfl rfl fun h60 => ?_
          refine r_aload_n (i := 34) rfl rfl rfl ?_
          refine r_gI (i := 35) (ci := 12) (kf := 4) rfl (Nat.le_of_ble_eq_true rfl) wF_Mod_113 rfl rfl fun x64 => ?_
          refine r_iconst (i := 36) (-1 : Int32) kc_iconst_m1 rfl rfl ?_
          refine r_icmp_ne (i := 37) (tgt := 78) rfl rfl rfl ?_ ?_
          · refine r_iconst (i := 41) (-1 : Int32) kc_iconst_m1 rfl rfl ?_
            refine r_istore_n (i := 42) rfl rfl (Nat.le_of_ble_eq_true rfl) rfl ?_
            refine r_goto (i := 43) (tgt := 21) rfl rfl rfl ?_
            exact r_lv (fw_sub1 rfl (fw_sub1 rfl fw_sub0)) (ih (-1 : Int32) h60)
          · refine r_aload_n (i := 38) rfl rfl rfl ?_
            refine r_VwI0 (i := 39) (k2 := 0) (n2 := 0) ok_Mod_look wM_Mod_125 (c_Mod_look F) (fun _ e => fw_ckb e) (by omega) (Nat.le_of_ble_eq_true rfl) (Nat.le_of_ble_eq_true rfl) (Nat.le_of_ble_eq_true rfl) rfl rfl fun x72 => ?_
            refine r_goto (i := 40) (tgt := 79) rfl rfl rfl ?_
            refine r_istore_n (i := 42) rfl rfl (Nat.le_of_ble_eq_true rfl) rfl ?_
            refine r_goto (i := 43) (tgt := 21) rfl rfl rfl ?_
            exact r_lv (fw_sub1 rfl (fw_sub1 rfl fw_sub0)) (ih x72.1 x72.2)
        · refine r_iconst (i := 29) (2 : Int32) kc_iconst_2 rfl rfl ?_
          refine r_goto (i := 30) (tgt := 59) rfl rfl rfl ?_
          refine r_iconst (i := 32) (0 : Int32) kc_iconst_0 rfl rfl ?_
          refine r_VV2 (i := 33) (k2 := 0) (n2 := 0) ok_Mod_put wM_Mod_135 (c_Mod_put) (fun _ e => fw_ckb e) (by omega) (Nat.le_of_ble_eq_true rfl) (Nat.le_of_ble_eq_true rfl) (Nat.le_of_ble_eq_true rfl) rfl rfl fun h60 => ?_
          refine r_aload_n (i := 34) rfl rfl rfl ?_
          refine r_gI (i := 35) (ci := 12) (kf := 4) rfl (Nat.le_of_ble_eq_true rfl) wF_Mod_113 rfl rfl fun x64 => ?_
          refine r_iconst (i := 36) (-1 : Int32) kc_iconst_m1 rfl rfl ?_
          refine r_icmp_ne (i := 37) (tgt := 78) rfl rfl rfl ?_ ?_
          · refine r_iconst (i := 41) (-1 : Int32) kc_iconst_m1 rfl rfl ?_
            refine r_istore_n (i := 42) rfl rfl (Nat.le_of_ble_eq_true rfl) rfl ?_
            refine r_goto (i := 43) (tgt := 21) rfl rfl rfl ?_
            exact r_lv (fw_sub1 rfl (fw_sub1 rfl fw_sub0)) (ih (-1 : Int32) h60)
          · refine r_aload_n (i := 38) rfl rfl rfl ?_
            refine r_VwI0 (i := 39) (k2 := 0) (n2 := 0) ok_Mod_look wM_Mod_125 (c_Mod_look F) (fun _ e => fw_ckb e) (by omega) (Nat.le_of_ble_eq_true rfl) (Nat.le_of_ble_eq_true rfl) (Nat.le_of_ble_eq_true rfl) rfl rfl fun x72 => ?_
            refine r_goto (i := 40) (tgt := 79) rfl rfl rfl ?_
            refine r_istore_n (i := 42) rfl rfl (Nat.le_of_ble_eq_true rfl) rfl ?_
            refine r_goto (i := 43) (tgt := 21) rfl rfl rfl ?_
            exact r_lv (fw_sub1 rfl (fw_sub1 rfl fw_sub0)) (ih x72.1 x72.2)
def b_Mod_sum (F : Nat) (g : Nat → fw_H → Option Nat → Option fw_H) (h : fw_H) (v0 : Option Nat) : Option fw_H :=
(f_ck h v0 12).bind fun _ =>
(g 2 h v0).bind fun h1 =>
(f_gI h1 v0 12 4).bind fun x5 =>
fw_jn (fun (t20_0 : Int32) (hj20 : fw_H) =>
l_Mod_sum_21 F g v0 F t20_0 hj20) fun J20 =>
if ¬ x5 = (-1 : Int32) then (J20 (-1 : Int32) h1) else
(s_Mod_look F h1 v0).bind fun x13 =>
J20 x13.1 x13.2
theorem cb_Mod_sum {G : fw_G} {F : Nat} {g : Nat → fw_H → Option Nat → Option fw_H} {dd : Nat} (hdd : 3 ≤ dd) (hg0 : ∀ (h : fw_H) (v0 : Option Nat), fw_Call G m_Mod_atom fw_eV dd 0 0 [fw_r v0] h (g 0 h v0)) (hk0 : ∀ {h : fw_H} {v0 : Option Nat} {x : fw_H}, g 0 h v0 = some x → f_ck h v0 12 = some ()) (hg1 : ∀ (h : fw_H) (v0 : Option Nat), fw_Call G m_Mod_sum fw_eV dd 0 0 [fw_r v0] h (g 1 h v0)) (hk1 : ∀ {h : fw_H} {v0 : Option Nat} {x : fw_H}, g 1 h v0 = some x → f_ck h v0 12 = some ()) (hg2 : ∀ (h : fw_H) (v0 : Option Nat), fw_Call G m_Mod_term fw_eV dd 0 0 [fw_r v0] h (g 2 h v0)) (hk2 : ∀ {h : fw_H} {v0 : Option Nat} {x : fw_H}, g 2 h v0 = some x → f_ck h v0 12 = some ()) {h : fw_H} {v0 : Option Nat} : fw_Call G m_Mod_sum fw_eV (dd + 1) 0 0 [fw_r v0] h (b_Mod_sum F g h v0) := by
  refine fw_Call.of ok_Mod_sum.1 (Nat.le_of_ble_eq_true rfl) [(0, some (fw_r v0))] rfl ?_
  refine r_ck ?_
  refine r_aload_n (i := 0) rfl rfl rfl ?_
  refine r_VV0 (i := 1) (k2 := 0) (n2 := 0) ok_Mod_term wM_Mod_156 (hg2 _ _) (fun _ e => hk2 e) (Nat.le_refl _) (Nat.le_of_ble_eq_true rfl) (Nat.le_of_ble_eq_true rfl) (Nat.le_of_ble_eq_true rfl) rfl rfl fun h1 => ?_
  refine r_aload_n (i := 2) rfl rfl rfl ?_
  refine r_gI (i := 3) (ci := 12) (kf := 4) rfl (Nat.le_of_ble_eq_true rfl) wF_Mod_113 rfl rfl fun x5 => ?_
  refine r_iconst (i := 4) (-1 : Int32) kc_iconst_m1 rfl rfl ?_
  refine r_join (P := fun J20 => ∀ (t20_0 : Int32) (hj20 : fw_H), fw_R G m_Mod_sum fw_eV (dd + 1) (0) (0) 20 [(0, some (fw_r v0))] [fw_i t20_0] hj20 (J20 t20_0 hj20)) ?_ (fun J20 hJ20 => ?_)
  · intro t20_0 hj20
    refine r_istore_n (i := 10) rfl rfl (Nat.le_of_ble_eq_true rfl) rfl ?_
    refine r_lv (fw_sub1 rfl (fw_sub1 rfl fw_sub0)) (cl_Mod_sum_21 hdd hg0 hk0 hg1 hk1 hg2 hk2 F _ _)
  · refine r_icmp_ne (i := 5) (tgt := 19) rfl rfl rfl ?_ ?_
    · refine r_iconst (i := 9) (-1 : Int32) kc_iconst_m1 rfl rfl ?_
      exact r_lv (fw_sub1 rfl fw_sub0) (hJ20 (-1 : Int32) h1)
    · refine r_aload_n (i := 6) rfl rfl rfl ?_
      refine r_VwI0 (i := 7) (k2 := 0) (n2 := 0) ok_Mod_look wM_Mod_125 (c_Mod_look F) (fun _ e => fw_ckb e) (by omega) (Nat.le_of_ble_eq_true rfl) (Nat.le_of_ble_eq_true rfl) (Nat.le_of_ble_eq_true rfl) rfl rfl fun x13 => ?_
      refine r_goto (i := 8) (tgt := 20) rfl rfl rfl ?_
      exact r_lv (fw_sub1 rfl fw_sub0) (hJ20 x13.1 x13.2)
def l_Mod_term_21 (F : Nat) (g : Nat → fw_H → Option Nat → Option fw_H) (v0 : Option Nat) : Nat → Int32 → fw_H → Option fw_H
  | 0, _, _ => none
  | nn + 1, a21_1, g21 =>
    if a21_1 = (42 : Int32) then ((f_gI g21 v0 12 3).bind fun x35 =>
    (f_pI g21 v0 12 3 (x35 + (1 : Int32))).bind fun h40 =>
    (g 0 h40 v0).bind fun h44 =>
    if ¬ a21_1 = (42 : Int32) then ((s_Mod_put h44 v0 (5 : Int32) (0 : Int32)).bind fun h60 =>
    (f_gI h60 v0 12 4).bind fun x64 =>
    if ¬ x64 = (-1 : Int32) then (l_Mod_term_21 F g v0 nn (-1 : Int32) h60) else
    (s_Mod_look F h60 v0).bind fun x72 =>
    l_Mod_term_21 F g v0 nn x72.1 x72.2) else
    (s_Mod_put h44 v0 (4 : Int32) (0 : Int32)).bind fun h60 =>
    (f_gI h60 v0 12 4).bind fun x64 =>
    if ¬ x64 = (-1 : Int32) then (l_Mod_term_21 F g v0 nn (-1 : Int32) h60) else
    (s_Mod_look F h60 v0).bind fun x72 =>
    l_Mod_term_21 F g v0 nn x72.1 x72.2) else
    if ¬ a21_1 = (47 : Int32) then (some g21) else
    (f_gI g21 v0 12 3).bind fun x35 =>
    (f_pI g21 v0 12 3 (x35 + (1 : Int32))).bind fun h40 =>
    (g 0 h40 v0).bind fun h44 =>
    if ¬ a21_1 = (42 : Int32) then ((s_Mod_put h44 v0 (5 : Int32) (0 : Int32)).bind fun h60 =>
    (f_gI h60 v0 12 4).bind fun x64 =>
    if ¬ x64 = (-1 : Int32) then (l_Mod_term_21 F g v0 nn (-1 : Int32) h60) else
    (s_Mod_look F h60 v0).bind fun x72 =>
    l_Mod_term_21 F g v0 nn x72.1 x72.2) else
    (s_Mod_put h44 v0 (4 : Int32) (0 : Int32)).bind fun h60 =>
    (f_gI h60 v0 12 4).bind fun x64 =>
    if ¬ x64 = (-1 : Int32) then (l_Mod_term_21 F g v0 nn (-1 : Int32) h60) else
    (s_Mod_look F h60 v0).bind fun x72 =>
    l_Mod_term_21 F g v0 nn x72.1 x72.2
theorem cl_Mod_term_21 {G : fw_G} {F : Nat} {g : Nat → fw_H → Option Nat → Option fw_H} {dd : Nat} {v0 : Option Nat} (hdd : 3 ≤ dd) (hg0 : ∀ (h : fw_H) (v0 : Option Nat), fw_Call G m_Mod_atom fw_eV dd 0 0 [fw_r v0] h (g 0 h v0)) (hk0 : ∀ {h : fw_H} {v0 : Option Nat} {x : fw_H}, g 0 h v0 = some x → f_ck h v0 12 = some ()) (hg1 : ∀ (h : fw_H) (v0 : Option Nat), fw_Call G m_Mod_sum fw_eV dd 0 0 [fw_r v0] h (g 1 h v0)) (hk1 : ∀ {h : fw_H} {v0 : Option Nat} {x : fw_H}, g 1 h v0 = some x → f_ck h v0 12 = some ()) (hg2 : ∀ (h : fw_H) (v0 : Option Nat), fw_Call G m_Mod_term fw_eV dd 0 0 [fw_r v0] h (g 2 h v0)) (hk2 : ∀ {h : fw_H} {v0 : Option Nat} {x : fw_H}, g 2 h v0 = some x → f_ck h v0 12 = some ()) : ∀ (nn : Nat) (a21_1 : Int32) (g21 : fw_H), fw_R G m_Mod_term fw_eV (dd + 1) 0 0 21 [(0, some (fw_r v0)), (1, some (fw_i a21_1))] [] g21 (l_Mod_term_21 F g v0 nn a21_1 g21) := by
  intro nn
  induction nn with
  | zero => intros; exact r_none
  | succ nn ih =>
    intro a21_1 g21
    rw [l_Mod_term_21]
    refine r_iload_n (i := 11) rfl rfl rfl ?_
    refine r_bipush (i := 12) (42 : Int32) kc_bipush_42 rfl rfl ?_
    refine r_icmp_eq (i := 13) (tgt := 33) rfl rfl rfl ?_ ?_
    · refine r_aload_n (i := 17) rfl rfl rfl ?_
      refine r_dup_r (i := 18) rfl rfl ?_
      refine r_gI (i := 19) (ci := 12) (kf := 3) rfl (Nat.le_of_ble_eq_true rfl) wF_Mod_106 rfl rfl fun x35 => ?_
      refine r_iconst (i := 20) (1 : Int32) kc_iconst_1 rfl rfl ?_
      refine r_iadd (i := 21) rfl rfl ?_
      refine r_pI (i := 22) (ci := 12) (kf := 3) rfl (Nat.le_of_ble_eq_true rfl) wF_Mod_106 rfl (tyX12_ok 3 (Nat.le_of_ble_eq_true rfl)) rfl rfl fun h40 => ?_
      refine r_aload_n (i := 23) rfl rfl rfl ?_
      refine r_VV0 (i := 24) (k2 := 0) (n2 := 0) ok_Mod_atom wM_Mod_153 (hg0 _ _) (fun _ e => hk0 e) (Nat.le_refl _) (Nat.le_of_ble_eq_true rfl) (Nat.le_of_ble_eq_true rfl) (Nat.le_of_ble_eq_true rfl) rfl rfl fun h44 => ?_
      refine r_aload_n (i := 25) rfl rfl rfl ?_
      refine r_iload_n (i := 26) rfl rfl rfl ?_
      refine r_bipush (i := 27) (42 : Int32) kc_bipush_42 rfl rfl ?_
      refine r_icmp_ne (i := 28) (tgt := 58) rfl rfl rfl ?_ ?_
      · refine r_iconst (i := 31) (5 : Int32) kc_iconst_5 rfl rfl ?_
        refine r_iconst (i := 32) (0 : Int32) kc_iconst_0 rfl rfl ?_
        refine r_VV2 (i := 33) (k2 := 0) (n2 := 0) ok_Mod_put wM_Mod_135 (c_Mod_put) (fun _ e => fw_ckb e) (by omega) (Nat.le_of_ble_eq_true rfl) (Nat.le_of_ble_eq_true rfl) (Nat.le_of_ble_eq_true rfl) rfl rfl fun h60 => ?_
        refine r_aload_n (i := 34) rfl rfl rfl ?_
        refine r_gI (i := 35) (ci := 12) (kf := 4) rfl (Nat.le_of_ble_eq_true rfl) wF_Mod_113 rfl rfl fun x64 => ?_
        refine r_iconst (i := 36) (-1 : Int32) kc_iconst_m1 rfl rfl ?_
        refine r_icmp_ne (i := 37) (tgt := 78) rfl rfl rfl ?_ ?_
        · refine r_iconst (i := 41) (-1 : Int32) kc_iconst_m1 rfl rfl ?_
          refine r_istore_n (i := 42) rfl rfl (Nat.le_of_ble_eq_true rfl) rfl ?_
          refine r_goto (i := 43) (tgt := 21) rfl rfl rfl ?_
          exact r_lv (fw_sub1 rfl (fw_sub1 rfl fw_sub0)) (ih (-1 : Int32) h60)
        · refine r_aload_n (i := 38) rfl rfl rfl ?_
          refine r_VwI0 (i := 39) (k2 := 0) (n2 := 0) ok_Mod_look wM_Mod_125 (c_Mod_look F) (fun _ e => fw_ckb e) (by omega) (Nat.le_of_ble_eq_true rfl) (Nat.le_of_ble_eq_true rfl) (Nat.le_of_ble_eq_true rfl) rfl rfl fun x72 => ?_
          refine r_goto (i := 40) (tgt := 79) rfl rfl rfl ?_
          refine r_istore_n (i := 42) rfl rfl (Nat.le_of_ble_eq_true rfl) rfl ?_
          refine r_goto (i := 43) (tgt := 21) rfl rfl rfl ?_
          exact r_lv (fw_sub1 rfl (fw_sub1 rfl fw_sub0)) (ih x72.1 x72.2)
      · refine r_iconst (i := 29) (4 : Int32) kc_iconst_4 rfl rfl ?_
        refine r_goto (i := 30) (tgt := 59) rfl rfl rfl ?_
        refine r_iconst (i := 32) (0 : Int32) kc_iconst_0 rfl rfl ?_
        refine r_VV2 (i := 33) (k2 := 0) (n2 := 0) ok_Mod_put wM_Mod_135 (c_Mod_put) (fun _ e => fw_ckb e) (by omega) (Nat.le_of_ble_eq_true rfl) (Nat.le_of_ble_eq_true rfl) (Nat.le_of_ble_eq_true rfl) rfl rfl fun h60 => ?_
        refine r_aload_n (i := 34) rfl rfl rfl ?_
        refine r_gI (i := 35) (ci := 12) (kf := 4) rfl (Nat.le_of_ble_eq_true rfl) wF_Mod_113 rfl rfl fun x64 => ?_
        refine r_iconst (i := 36) (-1 : Int32) kc_iconst_m1 rfl rfl ?_
        refine r_icmp_ne (i := 37) (tgt := 78) rfl rfl rfl ?_ ?_
        · refine r_iconst (i := 41) (-1 : Int32) kc_iconst_m1 rfl rfl ?_
          refine r_istore_n (i := 42) rfl rfl (Nat.le_of_ble_eq_true rfl) rfl ?_
          refine r_goto (i := 43) (tgt := 21) rfl rfl rfl ?_
          exact r_lv (fw_sub1 rfl (fw_sub1 rfl fw_sub0)) (ih (-1 : Int32) h60)
        · refine r_aload_n (i := 38) rfl rfl rfl ?_
          refine r_VwI0 (i := 39) (k2 := 0) (n2 := 0) ok_Mod_look wM_Mod_125 (c_Mod_look F) (fun _ e => fw_ckb e) (by omega) (Nat.le_of_ble_eq_true rfl) (Nat.le_of_ble_eq_true rfl) (Nat.le_of_ble_eq_true rfl) rfl rfl fun x72 => ?_
          refine r_goto (i := 40) (tgt := 79) rfl rfl rfl ?_
          refine r_istore_n (i := 42) rfl rfl (Nat.le_of_ble_eq_true rfl) rfl ?_
          refine r_goto (i := 43) (tgt := 21) rfl rfl rfl ?_
          exact r_lv (fw_sub1 rfl (fw_sub1 rfl fw_sub0)) (ih x72.1 x72.2)
    · refine r_iload_n (i := 14) rfl rfl rfl ?_
      refine r_bipush (i := 15) (47 : Int32) kc_bipush_47 rfl rfl ?_
      refine r_icmp_ne (i := 16) (tgt := 83) rfl rfl rfl ?_ ?_
      · exact r_retV (i := 44) rfl rfl rfl rfl
      · refine r_aload_n (i := 17) rfl rfl rfl ?_
        refine r_dup_r (i := 18) rfl rfl ?_
        refine r_gI (i := 19) (ci := 12) (kf := 3) rfl (Nat.le_of_ble_eq_true rfl) wF_Mod_106 rfl rfl fun x35 => ?_
        refine r_iconst (i := 20) (1 : Int32) kc_iconst_1 rfl rfl ?_
        refine r_iadd (i := 21) rfl rfl ?_
        refine r_pI (i := 22) (ci := 12) (kf := 3) rfl (Nat.le_of_ble_eq_true rfl) wF_Mod_106 rfl (tyX12_ok 3 (Nat.le_of_ble_eq_true rfl)) rfl rfl fun h40 => ?_
        refine r_aload_n (i := 23) rfl rfl rfl ?_
        refine r_VV0 (i := 24) (k2 := 0) (n2 := 0) ok_Mod_atom wM_Mod_153 (hg0 _ _) (fun _ e => hk0 e) (Nat.le_refl _) (Nat.le_of_ble_eq_true rfl) (Nat.le_of_ble_eq_true rfl) (Nat.le_of_ble_eq_true rfl) rfl rfl fun h44 => ?_
        refine r_aload_n (i := 25) rfl rfl rfl ?_
        refine r_iload_n (i := 26) rfl rfl rfl ?_
        refine r_bipush (i := 27) (42 : Int32) kc_bipush_42 rfl rfl ?_
        refine r_icmp_ne (i := 28) (tgt := 58) rfl rfl rfl ?_ ?_
        · refine r_iconst (i := 31) (5 : Int32) kc_iconst_5 rfl rfl ?_
          refine r_iconst (i := 32) (0 : Int32) kc_iconst_0 rfl rfl ?_
          refine r_VV2 (i := 33) (k2 := 0) (n2 := 0) ok_Mod_put wM_Mod_135 (c_Mod_put) (fun _ e => fw_ckb e) (by omega) (Nat.le_of_ble_eq_true rfl) (Nat.le_of_ble_eq_true rfl) (Nat.le_of_ble_eq_true rfl) rfl rfl fun h60 => ?_
          refine r_aload_n (i := 34) rfl rfl rfl ?_
          refine r_gI (i := 35) (ci := 12) (kf := 4) rfl (Nat.le_of_ble_eq_true rfl) wF_Mod_113 rfl rfl fun x64 => ?_
          refine r_iconst (i := 36) (-1 : Int32) kc_iconst_m1 rfl rfl ?_
          refine r_icmp_ne (i := 37) (tgt := 78) rfl rfl rfl ?_ ?_
          · refine r_iconst (i := 41) (-1 : Int32) kc_iconst_m1 rfl rfl ?_
            refine r_istore_n (i := 42) rfl rfl (Nat.le_of_ble_eq_true rfl) rfl ?_
            refine r_goto (i := 43) (tgt := 21) rfl rfl rfl ?_
            exact r_lv (fw_sub1 rfl (fw_sub1 rfl fw_sub0)) (ih (-1 : Int32) h60)
          · refine r_aload_n (i := 38) rfl rfl rfl ?_
            refine r_VwI0 (i := 39) (k2 := 0) (n2 := 0) ok_Mod_look wM_Mod_125 (c_Mod_look F) (fun _ e => fw_ckb e) (by omega) (Nat.le_of_ble_eq_true rfl) (Nat.le_of_ble_eq_true rfl) (Nat.le_of_ble_eq_true rfl) rfl rfl fun x72 => ?_
            refine r_goto (i := 40) (tgt := 79) rfl rfl rfl ?_
            refine r_istore_n (i := 42) rfl rfl (Nat.le_of_ble_eq_true rfl) rfl ?_
            refine r_goto (i := 43) (tgt := 21) rfl rfl rfl ?_
            exact r_lv (fw_sub1 rfl (fw_sub1 rfl fw_sub0)) (ih x72.1 x72.2)
        · refine r_iconst (i := 29) (4 : Int32) kc_iconst_4 rfl rfl ?_
          refine r_goto (i := 30) (tgt := 59) rfl rfl rfl ?_
          refine r_iconst (i := 32) (0 : Int32) kc_iconst_0 rfl rfl ?_
          refine r_VV2 (i := 33) (k2 := 0) (n2 := 0) ok_Mod_put wM_Mod_135 (c_Mod_put) (fun _ e => fw_ckb e) (by omega) (Nat.le_of_ble_eq_true rfl) (Nat.le_of_ble_eq_true rfl) (Nat.le_of_ble_eq_true rfl) rfl rfl fun h60 => ?_
          refine r_aload_n (i := 34) rfl rfl rfl ?_
          refine r_gI (i := 35) (ci := 12) (kf := 4) rfl (Nat.le_of_ble_eq_true rfl) wF_Mod_113 rfl rfl fun x64 => ?_
          refine r_iconst (i := 36) (-1 : Int32) kc_iconst_m1 rfl rfl ?_
          refine r_icmp_ne (i := 37) (tgt := 78) rfl rfl rfl ?_ ?_
          · refine r_iconst (i := 41) (-1 : Int32) kc_iconst_m1 rfl rfl ?_
            refine r_istore_n (i := 42) rfl rfl (Nat.le_of_ble_eq_true rfl) rfl ?_
            refine r_goto (i := 43) (tgt := 21) rfl rfl rfl ?_
            exact r_lv (fw_sub1 rfl (fw_sub1 rfl fw_sub0)) (ih (-1 : Int32) h60)
          · refine r_aload_n (i := 38) rfl rfl rfl ?_
            refine r_VwI0 (i := 39) (k2 := 0) (n2 := 0) ok_Mod_look wM_Mod_125 (c_Mod_look F) (fun _ e => fw_ckb e) (by omega) (Nat.le_of_ble_eq_true rfl) (Nat.le_of_ble_eq_true rfl) (Nat.le_of_ble_eq_true rfl) rfl rfl fun x72 => ?_
            refine r_goto (i := 40) (tgt := 79) rfl rfl rfl ?_
            refine r_istore_n (i := 42) rfl rfl (Nat.le_of_ble_eq_true rfl) rfl ?_
            refine r_goto (i := 43) (tgt := 21) rfl rfl rfl ?_
            exact r_lv (fw_sub1 rfl (fw_sub1 rfl fw_sub0)) (ih x72.1 x72.2)
def b_Mod_term (F : Nat) (g : Nat → fw_H → Option Nat → Option fw_H) (h : fw_H) (v0 : Option Nat) : Option fw_H :=
(f_ck h v0 12).bind fun _ =>
(g 0 h v0).bind fun h1 =>
(f_gI h1 v0 12 4).bind fun x5 =>
fw_jn (fun (t20_0 : Int32) (hj20 : fw_H) =>
l_Mod_term_21 F g v0 F t20_0 hj20) fun J20 =>
if ¬ x5 = (-1 : Int32) then (J20 (-1 : Int32) h1) else
(s_Mod_look F h1 v0).bind fun x13 =>
J20 x13.1 x13.2
theorem cb_Mod_term {G : fw_G} {F : Nat} {g : Nat → fw_H → Option Nat → Option fw_H} {dd : Nat} (hdd : 3 ≤ dd) (hg0 : ∀ (h : fw_H) (v0 : Option Nat), fw_Call G m_Mod_atom fw_eV dd 0 0 [fw_r v0] h (g 0 h v0)) (hk0 : ∀ {h : fw_H} {v0 : Option Nat} {x : fw_H}, g 0 h v0 = some x → f_ck h v0 12 = some ()) (hg1 : ∀ (h : fw_H) (v0 : Option Nat), fw_Call G m_Mod_sum fw_eV dd 0 0 [fw_r v0] h (g 1 h v0)) (hk1 : ∀ {h : fw_H} {v0 : Option Nat} {x : fw_H}, g 1 h v0 = some x → f_ck h v0 12 = some ()) (hg2 : ∀ (h : fw_H) (v0 : Option Nat), fw_Call G m_Mod_term fw_eV dd 0 0 [fw_r v0] h (g 2 h v0)) (hk2 : ∀ {h : fw_H} {v0 : Option Nat} {x : fw_H}, g 2 h v0 = some x → f_ck h v0 12 = some ()) {h : fw_H} {v0 : Option Nat} : fw_Call G m_Mod_term fw_eV (dd + 1) 0 0 [fw_r v0] h (b_Mod_term F g h v0) := by
  refine fw_Call.of ok_Mod_term.1 (Nat.le_of_ble_eq_true rfl) [(0, some (fw_r v0))] rfl ?_
  refine r_ck ?_
  refine r_aload_n (i := 0) rfl rfl rfl ?_
  refine r_VV0 (i := 1) (k2 := 0) (n2 := 0) ok_Mod_atom wM_Mod_153 (hg0 _ _) (fun _ e => hk0 e) (Nat.le_refl _) (Nat.le_of_ble_eq_true rfl) (Nat.le_of_ble_eq_true rfl) (Nat.le_of_ble_eq_true rfl) rfl rfl fun h1 => ?_
  refine r_aload_n (i := 2) rfl rfl rfl ?_
  refine r_gI (i := 3) (ci := 12) (kf := 4) rfl (Nat.le_of_ble_eq_true rfl) wF_Mod_113 rfl rfl fun x5 => ?_
  refine r_iconst (i := 4) (-1 : Int32) kc_iconst_m1 rfl rfl ?_
  refine r_join (P := fun J20 => ∀ (t20_0 : Int32) (hj20 : fw_H), fw_R G m_Mod_term fw_eV (dd + 1) (0) (0) 20 [(0, some (fw_r v0))] [fw_i t20_0] hj20 (J20 t20_0 hj20)) ?_ (fun J20 hJ20 => ?_)
  · intro t20_0 hj20
    refine r_istore_n (i := 10) rfl rfl (Nat.le_of_ble_eq_true rfl) rfl ?_
    refine r_lv (fw_sub1 rfl (fw_sub1 rfl fw_sub0)) (cl_Mod_term_21 hdd hg0 hk0 hg1 hk1 hg2 hk2 F _ _)
  · refine r_icmp_ne (i := 5) (tgt := 19) rfl rfl rfl ?_ ?_
    · refine r_iconst (i := 9) (-1 : Int32) kc_iconst_m1 rfl rfl ?_
      exact r_lv (fw_sub1 rfl fw_sub0) (hJ20 (-1 : Int32) h1)
    · refine r_aload_n (i := 6) rfl rfl rfl ?_
      refine r_VwI0 (i := 7) (k2 := 0) (n2 := 0) ok_Mod_look wM_Mod_125 (c_Mod_look F) (fun _ e => fw_ckb e) (by omega) (Nat.le_of_ble_eq_true rfl) (Nat.le_of_ble_eq_true rfl) (Nat.le_of_ble_eq_true rfl) rfl rfl fun x13 => ?_
      refine r_goto (i := 8) (tgt := 20) rfl rfl rfl ?_
      exact r_lv (fw_sub1 rfl fw_sub0) (hJ20 x13.1 x13.2)
def gr_Mod_atom (F : Nat) : Nat → Nat → fw_H → Option Nat → Option fw_H
  | 0, _, _, _ => none
  | D + 1, sel, h, v0 => if sel = 0 then b_Mod_atom F (gr_Mod_atom F D) h v0 else if sel = 1 then b_Mod_sum F (gr_Mod_atom F D) h v0 else b_Mod_term F (gr_Mod_atom F D) h v0
theorem kgr_Mod_atom {F D sel : Nat} {h : fw_H} {v0 : Option Nat} {x : fw_H} (e : gr_Mod_atom F D sel h v0 = some x) : f_ck h v0 12 = some () := by
  cases D with
  | zero => cases e
  | succ D =>
    rw [gr_Mod_atom] at e
    by_cases c0 : sel = 0
    · rw [if_pos c0] at e; exact fw_ckb e
    rw [if_neg c0] at e
    by_cases c1 : sel = 1
    · rw [if_pos c1] at e; exact fw_ckb e
    rw [if_neg c1] at e
    exact fw_ckb e
theorem cgr_Mod_atom {G : fw_G} (F : Nat) : ∀ D : Nat, (∀ (h : fw_H) (v0 : Option Nat), fw_Call G m_Mod_atom fw_eV (3 + D) 0 0 [fw_r v0] h (gr_Mod_atom F D 0 h v0)) ∧ (∀ (h : fw_H) (v0 : Option Nat), fw_Call G m_Mod_sum fw_eV (3 + D) 0 0 [fw_r v0] h (gr_Mod_atom F D 1 h v0)) ∧ (∀ (h : fw_H) (v0 : Option Nat), fw_Call G m_Mod_term fw_eV (3 + D) 0 0 [fw_r v0] h (gr_Mod_atom F D 2 h v0)) := by
  intro D
  induction D with
  | zero => exact ⟨fun _ _ _ hr => (by cases hr), fun _ _ _ hr => (by cases hr), fun _ _ _ hr => by cases hr⟩
  | succ D ih =>
    refine ⟨?_, ?_, ?_⟩
    · intro h v0
      exact cb_Mod_atom (F := F) (g := gr_Mod_atom F D) (dd := 3 + D) (by omega) (ih.1) kgr_Mod_atom (ih.2.1) kgr_Mod_atom (ih.2.2) kgr_Mod_atom
    · intro h v0
      exact cb_Mod_sum (F := F) (g := gr_Mod_atom F D) (dd := 3 + D) (by omega) (ih.1) kgr_Mod_atom (ih.2.1) kgr_Mod_atom (ih.2.2) kgr_Mod_atom
    · intro h v0
      exact cb_Mod_term (F := F) (g := gr_Mod_atom F D) (dd := 3 + D) (by omega) (ih.1) kgr_Mod_atom (ih.2.1) kgr_Mod_atom (ih.2.2) kgr_Mod_atom
def s_Mod_atom (F : Nat) (h : fw_H) (v0 : Option Nat) : Option fw_H := gr_Mod_atom F 80 0 h v0
theorem ck_Mod_atom {F : Nat} {h : fw_H} {v0 : Option Nat} {x : fw_H} (e : s_Mod_atom F h v0 = some x) : f_ck h v0 12 = some () := kgr_Mod_atom e
theorem c_Mod_atom {G : fw_G} (F : Nat) {h : fw_H} {v0 : Option Nat} : fw_Call G m_Mod_atom fw_eV 83 0 0 [fw_r v0] h (s_Mod_atom F h v0) := (cgr_Mod_atom F 80).1 _ _
def s_Mod_sum (F : Nat) (h : fw_H) (v0 : Option Nat) : Option fw_H := gr_Mod_atom F 80 1 h v0
theorem ck_Mod_sum {F : Nat} {h : fw_H} {v0 : Option Nat} {x : fw_H} (e : s_Mod_sum F h v0 = some x) : f_ck h v0 12 = some () := kgr_Mod_atom e
theorem c_Mod_sum {G : fw_G} (F : Nat) {h : fw_H} {v0 : Option Nat} : fw_Call G m_Mod_sum fw_eV 83 0 0 [fw_r v0] h (s_Mod_sum F h v0) := (cgr_Mod_atom F 80).2.1 _ _
def s_Mod_term (F : Nat) (h : fw_H) (v0 : Option Nat) : Option fw_H := gr_Mod_atom F 80 2 h v0
theorem ck_Mod_term {F : Nat} {h : fw_H} {v0 : Option Nat} {x : fw_H} (e : s_Mod_term F h v0 = some x) : f_ck h v0 12 = some () := kgr_Mod_atom e
theorem c_Mod_term {G : fw_G} (F : Nat) {h : fw_H} {v0 : Option Nat} : fw_Call G m_Mod_term fw_eV 83 0 0 [fw_r v0] h (s_Mod_term F h v0) := (cgr_Mod_atom F 80).2.2 _ _
-- Mod_isSign
def s_Mod_isSign (v0 : Int32) : Option Bool :=
if v0 = (61 : Int32) then (some true) else
if v0 = (60 : Int32) then (some true) else
if ¬ v0 = (62 : Int32) then (some false) else
some true
theorem c_Mod_isSign {G : fw_G} {h : fw_H} {v0 : Int32} : fw_Call G m_Mod_isSign (fw_eB h) 0 0 0 [fw_i v0] h (s_Mod_isSign v0) := by
  refine fw_Call.of ok_Mod_isSign.1 (Nat.le_of_ble_eq_true rfl) [(0, some (fw_i v0))] rfl ?_
  refine r_iload_n (i := 0) rfl rfl rfl ?_
  refine r_bipush (i := 1) (61 : Int32) kc_bipush_61 rfl rfl ?_
  refine r_icmp_eq (i := 2) (tgt := 18) rfl rfl rfl ?_ ?_
  · refine r_iconst (i := 9) (1 : Int32) kc_iconst_1 rfl rfl ?_
    refine r_goto (i := 10) (tgt := 23) rfl rfl rfl ?_
    exact r_retB (x := true) (i := 12) rfl rfl rfl rfl
  · refine r_iload_n (i := 3) rfl rfl rfl ?_
    refine r_bipush (i := 4) (60 : Int32) kc_bipush_60 rfl rfl ?_
    refine r_icmp_eq (i := 5) (tgt := 18) rfl rfl rfl ?_ ?_
    · refine r_iconst (i := 9) (1 : Int32) kc_iconst_1 rfl rfl ?_
      refine r_goto (i := 10) (tgt := 23) rfl rfl rfl ?_
      exact r_retB (x := true) (i := 12) rfl rfl rfl rfl
    · refine r_iload_n (i := 6) rfl rfl rfl ?_
      refine r_bipush (i := 7) (62 : Int32) kc_bipush_62 rfl rfl ?_
      refine r_icmp_ne (i := 8) (tgt := 22) rfl rfl rfl ?_ ?_
      · refine r_iconst (i := 11) (0 : Int32) kc_iconst_0 rfl rfl ?_
        exact r_retB (x := false) (i := 12) rfl rfl rfl rfl
      · refine r_iconst (i := 9) (1 : Int32) kc_iconst_1 rfl rfl ?_
        refine r_goto (i := 10) (tgt := 23) rfl rfl rfl ?_
        exact r_retB (x := true) (i := 12) rfl rfl rfl rfl
-- Mod_compare
def s_Mod_compare (F : Nat) (h : fw_H) (v0 : Option Nat) : Option fw_H :=
(f_ck h v0 12).bind fun _ =>
(f_gI h v0 12 4).bind fun x1 =>
fw_jn (fun (t16_0 : Int32) (hj16 : fw_H) =>
(s_Mod_isSign t16_0).bind fun x18 =>
if x18 = true then ((f_gI hj16 v0 12 3).bind fun x31 =>
(f_pI hj16 v0 12 3 (x31 + (1 : Int32))).bind fun h36 =>
(s_Mod_sum F h36 v0).bind fun h40 =>
if ¬ t16_0 = (61 : Int32) then (if ¬ t16_0 = (60 : Int32) then ((s_Mod_put h40 v0 (8 : Int32) (0 : Int32)).bind fun h69 =>
some h69) else
(s_Mod_put h40 v0 (7 : Int32) (0 : Int32)).bind fun h69 =>
some h69) else
(s_Mod_put h40 v0 (6 : Int32) (0 : Int32)).bind fun h69 =>
some h69) else
(s_Mod_bad hj16 v0).bind fun h25 =>
some h25) fun J16 =>
if ¬ x1 = (-1 : Int32) then (J16 (-1 : Int32) h) else
(s_Mod_look F h v0).bind fun x9 =>
J16 x9.1 x9.2
theorem c_Mod_compare {G : fw_G} (F : Nat) {h : fw_H} {v0 : Option Nat} : fw_Call G m_Mod_compare fw_eV 84 0 0 [fw_r v0] h (s_Mod_compare F h v0) := by
  refine fw_Call.of ok_Mod_compare.1 (Nat.le_of_ble_eq_true rfl) [(0, some (fw_r v0))] rfl ?_
  refine r_ck ?_
  refine r_aload_n (i := 0) rfl rfl rfl ?_
  refine r_gI (i := 1) (ci := 12) (kf := 4) rfl (Nat.le_of_ble_eq_true rfl) wF_Mod_113 rfl rfl fun x1 => ?_
  refine r_iconst (i := 2) (-1 : Int32) kc_iconst_m1 rfl rfl ?_
  refine r_join (P := fun J16 => ∀ (t16_0 : Int32) (hj16 : fw_H), fw_R G m_Mod_compare fw_eV 84 (0) (0) 16 [(0, some (fw_r v0))] [fw_i t16_0] hj16 (J16 t16_0 hj16)) ?_ (fun J16 hJ16 => ?_)
  · intro t16_0 hj16
    refine r_istore_n (i := 8) rfl rfl (Nat.le_of_ble_eq_true rfl) rfl ?_
    refine r_iload_n (i := 9) rfl rfl rfl ?_
    refine r_SB1 (i := 10) (k2 := 0) (n2 := 0) ok_Mod_isSign wM_Mod_159 (c_Mod_isSign) (Nat.le_of_ble_eq_true rfl) (Nat.le_of_ble_eq_true rfl) (Nat.le_of_ble_eq_true rfl) (Nat.le_of_ble_eq_true rfl) rfl rfl fun x18 => ?_
    refine r_ifneB (i := 11) (tgt := 29) rfl rfl rfl ?_ ?_
    · refine r_aload_n (i := 15) rfl rfl rfl ?_
      refine r_dup_r (i := 16) rfl rfl ?_
      refine r_gI (i := 17) (ci := 12) (kf := 3) rfl (Nat.le_of_ble_eq_true rfl) wF_Mod_106 rfl rfl fun x31 => ?_
      refine r_iconst (i := 18) (1 : Int32) kc_iconst_1 rfl rfl ?_
      refine r_iadd (i := 19) rfl rfl ?_
      refine r_pI (i := 20) (ci := 12) (kf := 3) rfl (Nat.le_of_ble_eq_true rfl) wF_Mod_106 rfl (tyX12_ok 3 (Nat.le_of_ble_eq_true rfl)) rfl rfl fun h36 => ?_
      refine r_aload_n (i := 21) rfl rfl rfl ?_
      refine r_VV0 (i := 22) (k2 := 0) (n2 := 0) ok_Mod_sum wM_Mod_146 (c_Mod_sum F) (fun _ e => ck_Mod_sum e) (Nat.le_of_ble_eq_true rfl) (Nat.le_of_ble_eq_true rfl) (Nat.le_of_ble_eq_true rfl) (Nat.le_of_ble_eq_true rfl) rfl rfl fun h40 => ?_
      refine r_aload_n (i := 23) rfl rfl rfl ?_
      refine r_iload_n (i := 24) rfl rfl rfl ?_
      refine r_bipush (i := 25) (61 : Int32) kc_bipush_61 rfl rfl ?_
      refine r_icmp_ne (i := 26) (tgt := 55) rfl rfl rfl ?_ ?_
      · refine r_iload_n (i := 29) rfl rfl rfl ?_
        refine r_bipush (i := 30) (60 : Int32) kc_bipush_60 rfl rfl ?_
        refine r_icmp_ne (i := 31) (tgt := 66) rfl rfl rfl ?_ ?_
        · refine r_bipush (i := 34) (8 : Int32) kc_bipush_8 rfl rfl ?_
          refine r_iconst (i := 35) (0 : Int32) kc_iconst_0 rfl rfl ?_
          refine r_VV2 (i := 36) (k2 := 0) (n2 := 0) ok_Mod_put wM_Mod_135 (c_Mod_put) (fun _ e => fw_ckb e) (Nat.le_of_ble_eq_true rfl) (Nat.le_of_ble_eq_true rfl) (Nat.le_of_ble_eq_true rfl) (Nat.le_of_ble_eq_true rfl) rfl rfl fun h69 => ?_
          exact r_retV (i := 37) rfl rfl rfl rfl
        · refine r_bipush (i := 32) (7 : Int32) kc_bipush_7 rfl rfl ?_
          refine r_goto (i := 33) (tgt := 68) rfl rfl rfl ?_
          refine r_iconst (i := 35) (0 : Int32) kc_iconst_0 rfl rfl ?_
          refine r_VV2 (i := 36) (k2 := 0) (n2 := 0) ok_Mod_put wM_Mod_135 (c_Mod_put) (fun _ e => fw_ckb e) (Nat.le_of_ble_eq_true rfl) (Nat.le_of_ble_eq_true rfl) (Nat.le_of_ble_eq_true rfl) (Nat.le_of_ble_eq_true rfl) rfl rfl fun h69 => ?_
          exact r_retV (i := 37) rfl rfl rfl rfl
      · refine r_bipush (i := 27) (6 : Int32) kc_bipush_6 rfl rfl ?_
        refine r_goto (i := 28) (tgt := 68) rfl rfl rfl ?_
        refine r_iconst (i := 35) (0 : Int32) kc_iconst_0 rfl rfl ?_
        refine r_VV2 (i := 36) (k2 := 0) (n2 := 0) ok_Mod_put wM_Mod_135 (c_Mod_put) (fun _ e => fw_ckb e) (Nat.le_of_ble_eq_true rfl) (Nat.le_of_ble_eq_true rfl) (Nat.le_of_ble_eq_true rfl) (Nat.le_of_ble_eq_true rfl) rfl rfl fun h69 => ?_
        exact r_retV (i := 37) rfl rfl rfl rfl
    · refine r_aload_n (i := 12) rfl rfl rfl ?_
      refine r_VV0 (i := 13) (k2 := 0) (n2 := 0) ok_Mod_bad wM_Mod_122 (c_Mod_bad) (fun _ e => fw_ckb e) (Nat.le_of_ble_eq_true rfl) (Nat.le_of_ble_eq_true rfl) (Nat.le_of_ble_eq_true rfl) (Nat.le_of_ble_eq_true rfl) rfl rfl fun h25 => ?_
      exact r_retV (i := 14) rfl rfl rfl rfl
  · refine r_icmp_ne (i := 3) (tgt := 15) rfl rfl rfl ?_ ?_
    · refine r_iconst (i := 7) (-1 : Int32) kc_iconst_m1 rfl rfl ?_
      exact r_lv (fw_sub1 rfl fw_sub0) (hJ16 (-1 : Int32) h)
    · refine r_aload_n (i := 4) rfl rfl rfl ?_
      refine r_VwI0 (i := 5) (k2 := 0) (n2 := 0) ok_Mod_look wM_Mod_125 (c_Mod_look F) (fun _ e => fw_ckb e) (Nat.le_of_ble_eq_true rfl) (Nat.le_of_ble_eq_true rfl) (Nat.le_of_ble_eq_true rfl) (Nat.le_of_ble_eq_true rfl) rfl rfl fun x9 => ?_
      refine r_goto (i := 6) (tgt := 16) rfl rfl rfl ?_
      exact r_lv (fw_sub1 rfl fw_sub0) (hJ16 x9.1 x9.2)
