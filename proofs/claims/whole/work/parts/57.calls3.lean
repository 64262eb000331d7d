-- CALLS (3): window, count, most, widows, log, house
section C3
variable {h g : fw_H} {n w p k m e F i t a : Nat} {T Wd f : Nat → Int32} {lw : Option (List q_C)} {x y : Int32}
theorem z_bitJ (b : Bool) : s_Joy_bit b = some (fw_b b) := by cases b <;> rfl
/-- window -/
theorem call_window (hR : w_R h) : ∃ v, s_Joy_window h (some 15) x y = some v ∧ s_Mod_window h (some 68) x y = some v := by
  obtain ⟨n, w, T, Wd, f, lw, p, hR⟩ := hR
  have hS := hR.1
  have hok := hR.ok
  obtain ⟨-, v2, v3, ⟨v4, v5, v6⟩, v7, v8⟩ := hR.2.1
  have hw16 := hok.2.1
  obtain ⟨-, w1, -, -, w2, ⟨o1, w3, w4, w5⟩, ⟨o2, w6, w7, w8⟩, -⟩ := v2
  have e1 : s_Joy_window h (some 15) x y = if v_in x w = true then (if y < (0 : Int32) then (some (-1 : Int32)) else if y ≤ (3 : Int32) then (if (2 : Int32) ≤ y then (if ¬ y = (2 : Int32) then ((f_gI h (some 29) 7 6).bind fun x56 => (s_Rows_has x56 x).bind fun x60 => (s_Joy_bit x60).bind fun x63 => some x63) else (f_gI h (some 29) 7 5).bind fun x46 => (s_Rows_has x46 x).bind fun x60 => (s_Joy_bit x60).bind fun x63 => some x63) else (s_Vil_endOf h (some 29) x y).bind fun x33 => some x33) else some (-1 : Int32)) else some (-1 : Int32) := by
    unfold s_Joy_window
    rw [z_c15 hS, Option.bind_some, z_r15_3 hS, Option.bind_some, z_hasWindow hS (.inr (.inl rfl)) w1]
    rfl
  have e2 : s_Mod_window h (some 68) x y = if v_in x w = true then (if decide (¬ y < 0 ∧ ¬ (3 : Int32) < y) = true then (if (3 : Int32) ≤ y then ((f_aI h (some 84) ((36 : Int32) + x)).bind fun x47 => some x47) else (f_aI h (some 83) (((3 : Int32) * x) + y)).bind fun x35 => some x35) else some (-1 : Int32)) else some (-1 : Int32) := by
    unfold s_Mod_window
    rw [z_c68 hS, Option.bind_some, z_isWindow hS v4 hw16, Option.bind_some, z_in, Option.bind_some, z_r68_26 hS, Option.bind_some, z_r68_23 hS, Option.bind_some]
  rw [e1, e2]
  by_cases hx : v_in x w = true
  · rw [if_pos hx, if_pos hx]
    by_cases h0 : y < 0
    · rw [if_pos h0, if_neg (by simp [h0])]; exact ⟨_, rfl, rfl⟩
    · rw [if_neg h0]
      by_cases h3 : (3 : Int32) < y
      · rw [if_neg (q_lt_iff.mpr h3), if_neg (by simp [h3])]; exact ⟨_, rfl, rfl⟩
      · rw [if_pos (fa_of_nlt h3), if_pos (decide_eq_true ⟨h0, h3⟩)]
        obtain ⟨j, hj, rfl⟩ := v_in_t hx (by omega)
        obtain ⟨c, hc, rfl⟩ := v_le_t (N := 3) h0 h3 (by decide)
        have i1 : (3 : Int32) * nI j + nI c = nI (3 * j + c) := by rw [show (3 : Int32) = nI 3 from rfl, pk_mul, nI_add]
        have i2 : (36 : Int32) + nI j = nI (36 + j) := nI_add 36 j
        obtain rfl | rfl | rfl | rfl : c = 0 ∨ c = 1 ∨ c = 2 ∨ c = 3 := by omega
        · rw [if_neg (by decide), if_neg (by decide), z_endOf hS (.inr (.inl rfl)) (by omega) (by decide), i1, z_a83 hS (by omega), v5 _ (by omega)]
          refine ⟨_, rfl, ?_⟩
          rw [show z_A h (29 + 3) (2 * j + 0) = Wd (3 * j) from (w2 j hj).1]
          rfl
        · rw [if_neg (by decide), if_neg (by decide), z_endOf hS (.inr (.inl rfl)) (by omega) (by decide), i1, z_a83 hS (by omega), v5 _ (by omega)]
          refine ⟨_, rfl, ?_⟩
          rw [(w2 j hj).2]
          rfl
        · rw [if_pos (by decide), if_neg (by decide), if_neg (by decide), z_i29_5 hS, Option.bind_some, w4, z_has (by omega) (by omega), Option.bind_some, z_bitJ, i1, z_a83 hS (by omega), v5 _ (by omega), w5 j hj]
          exact ⟨_, rfl, rfl⟩
        · rw [if_pos (by decide), if_pos (by decide), if_pos (by decide), z_i29_6 hS, Option.bind_some, w7, z_has (by omega) (by omega), Option.bind_some, z_bitJ, i2, z_a84 hS (by omega), v6 _ (by omega), w8 j hj]
          exact ⟨_, rfl, rfl⟩
  · rw [if_neg hx, if_neg hx]; exact ⟨_, rfl, rfl⟩
theorem z_laughsL (hS : z_Sh h) (h12 : n ≤ 12) (h29 : z_I h 29 0 = nI n) (h68 : z_I h 68 24 = nI n) (hA : ∀ i, i < n → z_A h 31 i = z_A h 84 (24 + i)) : ∀ (k i nn : Nat) (acc : Int32), i + k = n → k < nn → ∃ v, l_Vil_laughsTogether_4 h (some 29) nn acc (nI i) = some v ∧ l_Mod_laughs_4 h (some 68) nn acc (nI i) = some v := by
  intro k
  induction k with
  | zero =>
    intro i nn acc hi hnn
    obtain ⟨nn, rfl⟩ : ∃ k, nn = k + 1 := ⟨nn - 1, by omega⟩
    refine ⟨acc, ?_, ?_⟩
    · rw [l_Vil_laughsTogether_4, z_i29_0 hS, Option.bind_some, h29, if_pos (nI_le (by omega) (by omega))]
    · rw [l_Mod_laughs_4, z_i68_24 hS, Option.bind_some, h68, if_pos (nI_le (by omega) (by omega))]
  | succ k ih =>
    intro i nn acc hi hnn
    obtain ⟨nn, rfl⟩ : ∃ k, nn = k + 1 := ⟨nn - 1, by omega⟩
    obtain ⟨v, a1, a2⟩ := ih (i + 1) nn (acc + z_A h 84 (24 + i)) (by omega) (by omega)
    refine ⟨v, ?_, ?_⟩
    · rw [l_Vil_laughsTogether_4, z_i29_0 hS, Option.bind_some, h29, if_neg (nI_ge (by omega) (by omega)), z_r29_3 hS, Option.bind_some, z_rget (z_ckT hS rfl) (show i < 12 by omega) (by decide), Option.bind_some, hA i (by omega), show nI i + 1 = nI (i + 1) from nI_1 i, a1]
    · rw [l_Mod_laughs_4, z_i68_24 hS, Option.bind_some, h68, if_neg (nI_ge (by omega) (by omega)), z_r68_26 hS, Option.bind_some, show (24 : Int32) + nI i = nI (24 + i) from nI_add 24 i, z_a84 hS (by omega), Option.bind_some, show nI i + 1 = nI (i + 1) from nI_1 i, a2]
theorem z_mostL (hS : z_Sh h) (h12 : n ≤ 12) (h29 : z_I h 29 0 = nI n) (h68 : z_I h 68 24 = nI n) (hA : ∀ i, i < n → z_A h 31 i = z_A h 84 (24 + i)) : ∀ (k i nn b : Nat), i + k = n → k < nn → b < n → ∃ v, l_Joy_most_16 h (some 15) nn (nI b) (nI i) = some v ∧ l_Mod_most_15 h (some 68) nn (nI b) (nI i) = some v := by
  intro k
  induction k with
  | zero =>
    intro i nn b hi hnn hb
    obtain ⟨nn, rfl⟩ : ∃ k, nn = k + 1 := ⟨nn - 1, by omega⟩
    refine ⟨nI b, ?_, ?_⟩
    · rw [l_Joy_most_16, z_r15_3 hS, Option.bind_some, z_i29_0 hS, Option.bind_some, h29, if_pos (nI_le (by omega) (by omega))]
    · rw [l_Mod_most_15, z_i68_24 hS, Option.bind_some, h68, if_pos (nI_le (by omega) (by omega))]
  | succ k ih =>
    intro i nn b hi hnn hb
    obtain ⟨nn, rfl⟩ : ∃ k, nn = k + 1 := ⟨nn - 1, by omega⟩
    have e1 : l_Joy_most_16 h (some 15) (nn + 1) (nI b) (nI i) = if z_A h 84 (24 + i) ≤ z_A h 84 (24 + b) then l_Joy_most_16 h (some 15) nn (nI b) (nI (i + 1)) else l_Joy_most_16 h (some 15) nn (nI i) (nI (i + 1)) := by
      rw [l_Joy_most_16, z_r15_3 hS, Option.bind_some, z_i29_0 hS, Option.bind_some, h29, if_neg (nI_ge (by omega) (by omega)), Option.bind_some, z_r29_3 hS, Option.bind_some, z_rget (z_ckT hS rfl) (show i < 12 by omega) (by decide), Option.bind_some, Option.bind_some, z_r29_3 hS, Option.bind_some, z_rget (z_ckT hS rfl) (show b < 12 by omega) (by decide), Option.bind_some, hA i (by omega), hA b hb, show nI i + 1 = nI (i + 1) from nI_1 i]
    have e2 : l_Mod_most_15 h (some 68) (nn + 1) (nI b) (nI i) = if z_A h 84 (24 + i) ≤ z_A h 84 (24 + b) then l_Mod_most_15 h (some 68) nn (nI b) (nI (i + 1)) else l_Mod_most_15 h (some 68) nn (nI i) (nI (i + 1)) := by
      rw [l_Mod_most_15, z_i68_24 hS, Option.bind_some, h68, if_neg (nI_ge (by omega) (by omega)), z_r68_26 hS, Option.bind_some, show (24 : Int32) + nI i = nI (24 + i) from nI_add 24 i, z_a84 hS (by omega), Option.bind_some, Option.bind_some, show (24 : Int32) + nI b = nI (24 + b) from nI_add 24 b, z_a84 hS (by omega), Option.bind_some, show nI i + 1 = nI (i + 1) from nI_1 i]
    rw [e1, e2]
    by_cases hc : z_A h 84 (24 + i) ≤ z_A h 84 (24 + b)
    · rw [if_pos hc, if_pos hc]; exact ih (i + 1) nn b (by omega) (by omega) hb
    · rw [if_neg hc, if_neg hc]; exact ih (i + 1) nn i (by omega) (by omega) (by omega)
theorem z_widowsL (hS : z_Sh h) (h12 : n ≤ 12) (h29 : z_I h 29 0 = nI n) (h68 : z_I h 68 24 = nI n) (hA : ∀ i, i < n → z_A h 31 i = z_A h 84 (24 + i)) : ∀ (k i nn b : Nat), i + k = n → k < nn → ∃ v, l_Joy_widows_16 h (some 15) nn (nI b) (nI i) = some v ∧ l_Mod_widows_13 h (some 68) nn (nI b) (nI i) = some v := by
  intro k
  induction k with
  | zero =>
    intro i nn b hi hnn
    obtain ⟨nn, rfl⟩ : ∃ k, nn = k + 1 := ⟨nn - 1, by omega⟩
    refine ⟨nI b, ?_, ?_⟩
    · rw [l_Joy_widows_16, z_r15_3 hS, Option.bind_some, z_i29_0 hS, Option.bind_some, h29, if_pos (nI_le (by omega) (by omega))]
    · rw [l_Mod_widows_13, z_i68_24 hS, Option.bind_some, h68, if_pos (nI_le (by omega) (by omega))]
  | succ k ih =>
    intro i nn b hi hnn
    obtain ⟨nn, rfl⟩ : ∃ k, nn = k + 1 := ⟨nn - 1, by omega⟩
    have e1 : l_Joy_widows_16 h (some 15) (nn + 1) (nI b) (nI i) = if ¬ z_A h 84 (24 + i) = (0 : Int32) then l_Joy_widows_16 h (some 15) nn (nI b) (nI (i + 1)) else l_Joy_widows_16 h (some 15) nn (nI (b ||| 2 ^ i)) (nI (i + 1)) := by
      rw [l_Joy_widows_16, z_r15_3 hS, Option.bind_some, z_i29_0 hS, Option.bind_some, h29, if_neg (nI_ge (by omega) (by omega)), Option.bind_some, z_r29_3 hS, Option.bind_some, z_rget (z_ckT hS rfl) (show i < 12 by omega) (by decide), Option.bind_some, hA i (by omega), show nI i + 1 = nI (i + 1) from nI_1 i, z_sh1 (by omega), fa_or]
    have e2 : l_Mod_widows_13 h (some 68) (nn + 1) (nI b) (nI i) = if ¬ z_A h 84 (24 + i) = (0 : Int32) then l_Mod_widows_13 h (some 68) nn (nI b) (nI (i + 1)) else l_Mod_widows_13 h (some 68) nn (nI (b ||| 2 ^ i)) (nI (i + 1)) := by
      rw [l_Mod_widows_13, z_i68_24 hS, Option.bind_some, h68, if_neg (nI_ge (by omega) (by omega)), z_r68_26 hS, Option.bind_some, show (24 : Int32) + nI i = nI (24 + i) from nI_add 24 i, z_a84 hS (by omega), Option.bind_some, show nI i + 1 = nI (i + 1) from nI_1 i, z_sh1 (by omega), fa_or, show nI b ||| (0 : Int32) = nI b from (fa_or b 0).trans (by rw [Nat.or_zero])]
    rw [e1, e2]
    by_cases hc : z_A h 84 (24 + i) = (0 : Int32)
    · rw [if_neg (fun z => z hc), if_neg (fun z => z hc)]; exact ih (i + 1) nn _ (by omega) (by omega)
    · rw [if_pos hc, if_pos hc]; exact ih (i + 1) nn b (by omega) (by omega)
theorem w_S.lau (hR : w_S h n w T Wd f lw p) : ∀ i, i < n → z_A h 31 i = z_A h 84 (24 + i) := by
  intro i hi
  have hok := hR.ok
  have hn12 := hok.1
  rw [show z_A h 31 i = f (24 + i) from hR.2.1.2.1.2.2.2.1 i hi, hR.2.1.2.2.2.1.2.2 _ (by omega)]
/-- most -/
theorem call_most (hF : 70000 ≤ F) (hR : w_R h) : ∃ v, s_Joy_most F h (some 15) = some v ∧ s_Mod_most F h (some 68) = some v := by
  obtain ⟨n, w, T, Wd, f, lw, p, hR⟩ := hR
  have hS := hR.1
  have hok := hR.ok
  have hn12 := hok.1
  have hn := hR.2.1.2.1.1
  have hnm := hR.2.1.2.2.1
  have e1 : s_Joy_most F h (some 15) = if decide (n = 0) = true then some (-1 : Int32) else l_Joy_most_16 h (some 15) F (0 : Int32) (1 : Int32) := by
    unfold s_Joy_most
    rw [z_c15 hS, Option.bind_some, z_r15_3 hS, Option.bind_some, z_isNone hS (.inr (.inl rfl)) hn hn12]
    rfl
  have e2 : s_Mod_most F h (some 68) = if ¬ nI n = (0 : Int32) then l_Mod_most_15 h (some 68) F (0 : Int32) (1 : Int32) else l_Mod_most_15 h (some 68) F (-1 : Int32) (1 : Int32) := by
    unfold s_Mod_most
    rw [z_c68 hS, Option.bind_some, z_i68_24 hS, Option.bind_some, hnm]
    rfl
  rw [e1, e2]
  by_cases h0 : n = 0
  · rw [if_pos (decide_eq_true h0), if_neg (by rw [h0]; decide)]
    obtain ⟨F', rfl⟩ : ∃ k, F = k + 1 := ⟨F - 1, by omega⟩
    refine ⟨_, rfl, ?_⟩
    rw [l_Mod_most_15, z_i68_24 hS, Option.bind_some, hnm, h0, if_pos (by decide)]
  · rw [if_neg (by simpa using h0), if_pos (nI_ne0 (by omega) (by omega))]
    exact z_mostL hS hn12 hn hnm hR.lau (n - 1) 1 F 0 (by omega) (by omega) (by omega)
/-- widows -/
theorem call_widows (hF : 70000 ≤ F) (hR : w_R h) : ∃ v, s_Joy_widows F h (some 15) = some v ∧ s_Mod_widows F h (some 68) = some v := by
  obtain ⟨n, w, T, Wd, f, lw, p, hR⟩ := hR
  have hS := hR.1
  have hok := hR.ok
  have hn12 := hok.1
  have hn := hR.2.1.2.1.1
  have hnm := hR.2.1.2.2.1
  have e1 : s_Joy_widows F h (some 15) = if decide (n = 0) = true then some (-1 : Int32) else l_Joy_widows_16 h (some 15) F (0 : Int32) (0 : Int32) := by
    unfold s_Joy_widows
    rw [z_c15 hS, Option.bind_some, z_r15_3 hS, Option.bind_some, z_isNone hS (.inr (.inl rfl)) hn hn12]
    rfl
  have e2 : s_Mod_widows F h (some 68) = if ¬ nI n = (0 : Int32) then l_Mod_widows_13 h (some 68) F (0 : Int32) (0 : Int32) else some (-1 : Int32) := by
    unfold s_Mod_widows
    rw [z_c68 hS, Option.bind_some, z_i68_24 hS, Option.bind_some, hnm]
  rw [e1, e2]
  by_cases h0 : n = 0
  · rw [if_pos (decide_eq_true h0), if_neg (by rw [h0]; decide)]
    exact ⟨_, rfl, rfl⟩
  · rw [if_neg (by simpa using h0), if_pos (nI_ne0 (by omega) (by omega))]
    exact z_widowsL hS hn12 hn hnm hR.lau n 0 F 0 (by omega) (by omega)
/-- log -/
theorem call_log (hR : w_R h) : ∃ v, s_Joy_log h (some 15) x = some v ∧ s_Mod_log h (some 68) x = some v := by
  obtain ⟨n, w, T, Wd, f, lw, p, hR⟩ := hR
  have hS := hR.1
  obtain ⟨-, v2, v3, ⟨v4, v5, v6⟩, v7, v8⟩ := hR.2.1
  obtain ⟨-, -, -, -, -, -, -, -, -, -, -, -, t, l, l1, l2, l3, l4, l5, l6, l7⟩ := v2
  have hm : min l 60 ≤ 60 := Nat.min_le_right _ _
  have hml : min l 60 ≤ l := Nat.min_le_left _ _
  have e1 : s_Joy_log h (some 15) x = if x < 0 then some (-1 : Int32) else if x < nI (min l 60) then (f_irem ((nI l - (1 : Int32)) - x) (100 : Int32)).bind fun x28 => (s_Rows_get h (some 33) x28).bind fun x29 => some x29 else some (-1 : Int32) := by
    unfold s_Joy_log s_Vil_logged s_Vil_logLength
    rw [z_c15 hS, Option.bind_some, z_r15_3 hS, Option.bind_some, z_c29 hS, Option.bind_some, Option.bind_some, z_i29_14 hS, Option.bind_some, l5, show (60 : Int32) = nI 60 from rfl, z_min (by omega) (by decide), Option.bind_some, z_r29_13 hS, Option.bind_some, Option.bind_some]
    by_cases h0 : x < 0
    · simp only [if_pos h0]; rfl
    · simp only [if_neg h0]
      by_cases h1 : x < nI (min l 60)
      · simp only [if_pos h1]
        cases f_irem ((nI l - (1 : Int32)) - x) (100 : Int32) with
        | none => rfl
        | some y => simp only [Option.bind_some]; cases s_Rows_get h (some 33) y <;> rfl
      · simp only [if_neg h1]; rfl
  have e2 : s_Mod_log h (some 68) x = if v_in x (min l 60) = true then (f_aI h (some 84) ((((58 : Int32) + nI (min l 60)) - (1 : Int32)) - x)).bind fun x35 => some x35 else some (-1 : Int32) := by
    have a57 : f_aI h (some 84) (57 : Int32) = some (nI (min l 60)) := by rw [show (57 : Int32) = nI 57 from rfl, z_a84 hS (by decide), v6 57 (by decide), l6]
    unfold s_Mod_log
    simp only [z_c68 hS, z_r68_26 hS, Option.bind_some, a57, z_in, v_in_m1 (show min l 60 < 2 ^ 30 by omega)]
  rw [e1, e2]
  by_cases h0 : x < 0
  · rw [if_pos h0, if_neg (by unfold v_in; simp [h0])]; exact ⟨_, rfl, rfl⟩
  · rw [if_neg h0]
    by_cases h1 : x < nI (min l 60)
    · rw [if_pos h1, if_pos (show v_in x (min l 60) = true from decide_eq_true ⟨h0, h1⟩)]
      obtain ⟨i, hi, rfl⟩ := nI_of h0
      have hil := (nI_ltI hi (by omega)).mp h1
      have k1 : (nI l - (1 : Int32)) - nI i = nI (l - 1 - i) := by rw [show (1 : Int32) = nI 1 from rfl, pk_sub (by omega), pk_sub (by omega)]
      have k2 : (((58 : Int32) + nI (min l 60)) - (1 : Int32)) - nI i = nI (58 + (min l 60 - 1 - i)) := by rw [show (58 : Int32) = nI 58 from rfl, nI_add, show (1 : Int32) = nI 1 from rfl, pk_sub (by omega), pk_sub (by omega)]; congr 1; omega
      rw [k1, show (100 : Int32) = nI 100 from rfl, z_irem (by omega) (by decide) (by decide), Option.bind_some, z_rget (z_ckT hS rfl) (show (l - 1 - i) % 100 < 100 from Nat.mod_lt _ (by decide)) (by decide), Option.bind_some, k2, z_a84 hS (by omega), Option.bind_some, v6 _ (by omega), ← l7 i hil]
      exact ⟨_, rfl, rfl⟩
    · rw [if_neg h1, if_neg (by unfold v_in; simp [h1])]; exact ⟨_, rfl, rfl⟩
/-- count -/
theorem call_count (hF : 70000 ≤ F) (hR : w_R h) : ∃ v, s_Joy_count F h (some 15) x = some v ∧ s_Mod_count F h (some 68) x = some v := by
  obtain ⟨n, w, T, Wd, f, lw, p, hR⟩ := hR
  have hS := hR.1
  have hok := hR.ok
  have hn12 := hok.1
  have hlau := hR.lau
  obtain ⟨-, ⟨-, v2, v3, ⟨v4, v5, v6⟩, v7, v8⟩, ⟨lm, cs, ps, m1, m2, m3, m4, m5, m6⟩, ⟨tl, t1, t2, t3, -⟩, ⟨c, nx, H, S, l, a1, a2, a3, a4, -⟩, -, ⟨s, s1, s2, s3, -⟩, ⟨mi, i1, i2, i3⟩, -⟩ := hR
  have hv2 := v2
  obtain ⟨r0, r1, -, -, -, -, -, -, ⟨b8, r8, r8'⟩, ⟨b9, r9, r9'⟩, rz, rp, t, ll, l1, l2, l3, l4, l5, l6, -⟩ := v2
  have hB8 : f_gB h (some 29) 7 8 = some b8 := z_gB (by rw [z_i29_8 hS, r8]) rfl
  have hB9 : f_gB h (some 29) 7 9 = some b9 := z_gB (by rw [z_i29_9 hS, r9]) rfl
  have af : ∀ j, j < 118 → f_aI h (some 84) (nI j) = some (f j) := fun j hj => by rw [z_a84 hS hj, v6 j hj]
  have hold : z_I h 15 9 = z_I h 68 28 := by
    rcases m6 with ⟨x1, x2, -⟩ | ⟨k, -, x1, x2, -⟩
    · rw [x1, x2]
    · rw [x1, x2]
  obtain ⟨la, lb1, lb2⟩ := z_laughsL hS hn12 r0 v3 hlau n 0 F 0 (by omega) (by omega)
  unfold s_Joy_count s_Mod_count
  rw [z_c15 hS, Option.bind_some, z_c68 hS, Option.bind_some]
  simp only [z_r15_3 hS, z_r15_0 hS, z_r15_10 hS, z_r15_15 hS, z_r68_26 hS, Option.bind_some, z_i29_0 hS, z_i29_1 hS, z_i15_8 hS, z_i15_9 hS, z_i29_12 hS, z_i29_10 hS, z_i29_11 hS, z_i15_11 hS, z_i68_24 hS, z_i68_25 hS, z_i68_13 hS, z_i68_2 hS, z_i68_28 hS, z_i68_29 hS, z_i68_47 hS, z_i68_31 hS, hB8, hB9, z_bitJ]
  by_cases x0 : x = 0
  · rw [if_pos x0, if_pos x0]; exact ⟨_, rfl, by rw [r0, v3]⟩
  rw [if_neg x0, if_neg x0]
  by_cases x1 : x = 1
  · rw [if_pos x1, if_pos x1]; exact ⟨_, rfl, by rw [r1, v4]⟩
  rw [if_neg x1, if_neg x1]
  by_cases x2 : x = 2
  · rw [if_pos x2, if_pos x2]; exact ⟨_, rfl, by rw [m2, m3]⟩
  rw [if_neg x2, if_neg x2]
  by_cases x3 : x = 3
  · rw [if_pos x3, if_pos x3]
    unfold s_Tape_size
    rw [z_c16 hS, Option.bind_some, z_i16_1 hS]
    exact ⟨_, rfl, by rw [t2, t3]⟩
  rw [if_neg x3, if_neg x3]
  by_cases x4 : x = 4
  · rw [if_pos x4, if_pos x4]; exact ⟨_, rfl, by rw [hold]⟩
  rw [if_neg x4, if_neg x4]
  by_cases x5 : x = 5
  · rw [if_pos x5, if_pos x5, show (56 : Int32) = nI 56 from rfl, af 56 (by decide)]
    exact ⟨_, rfl, by rw [l3, l4]; rfl⟩
  rw [if_neg x5, if_neg x5]
  have hz : n = 0 → nI n ≤ (0 : Int32) := fun h0 => by rw [h0]; decide
  have hnz : ¬ n = 0 → ¬ nI n ≤ (0 : Int32) := fun h0 => nI_nle (by omega) (by omega)
  by_cases x6 : x = 6
  · rw [if_pos x6, if_pos x6, v3]
    by_cases h0 : n = 0
    · rw [if_pos (hz h0)]; exact ⟨_, rfl, by rw [(rz h0).1]⟩
    · obtain ⟨pp, q, p1, p2, p3, p4, p5, p6⟩ := rp (by omega)
      rw [if_neg (hnz h0), show (54 : Int32) = nI 54 from rfl, af 54 (by decide)]
      exact ⟨_, rfl, by rw [p3, p4]; rfl⟩
  rw [if_neg x6, if_neg x6]
  by_cases x7 : x = 7
  · rw [if_pos x7, if_pos x7, v3]
    by_cases h0 : n = 0
    · rw [if_pos (hz h0)]; exact ⟨_, rfl, by rw [(rz h0).2]⟩
    · obtain ⟨pp, q, p1, p2, p3, p4, p5, p6⟩ := rp (by omega)
      rw [if_neg (hnz h0), show (55 : Int32) = nI 55 from rfl, af 55 (by decide)]
      exact ⟨_, rfl, by rw [p5, p6]; rfl⟩
  rw [if_neg x7, if_neg x7]
  by_cases x8 : x = 8
  · rw [if_pos x8, if_pos x8, show (52 : Int32) = nI 52 from rfl, af 52 (by decide)]
    exact ⟨_, rfl, by rw [r8']; rfl⟩
  rw [if_neg x8, if_neg x8]
  by_cases x9 : x = 9
  · rw [if_pos x9, if_pos x9, show (53 : Int32) = nI 53 from rfl, af 53 (by decide)]
    exact ⟨_, rfl, by rw [r9']; rfl⟩
  rw [if_neg x9, if_neg x9]
  by_cases x10 : x = 10
  · rw [if_pos x10, if_pos x10]
    unfold s_Vil_laughsTogether s_Mod_laughs
    rw [z_c29 hS, Option.bind_some, z_c68 hS, Option.bind_some, show (0 : Int32) = nI 0 from rfl]
    refine ⟨la, ?_, ?_⟩
    · exact (congrArg (fun z => Option.bind z fun x160 => some x160) lb1)
    · exact (congrArg (fun z => Option.bind z fun x160 => some x160) lb2)
  rw [if_neg x10, if_neg x10]
  by_cases x11 : x = 11
  · rw [if_pos x11, if_pos x11]; exact ⟨_, rfl, by rw [i2, i3]⟩
  rw [if_neg x11, if_neg x11]
  by_cases x12 : x = 12
  · rw [if_pos x12, if_pos x12]
    unfold s_Seen_size
    rw [z_c64 hS, Option.bind_some, z_i64_3 hS]
    exact ⟨_, rfl, by rw [s2, s3]⟩
  rw [if_neg x12, if_neg x12]
  by_cases x13 : x = 13
  · rw [if_pos x13, if_pos x13]
    unfold s_Vil_logLength
    rw [z_c29 hS, Option.bind_some, z_i29_14 hS, Option.bind_some, l5, show (60 : Int32) = nI 60 from rfl, z_min (by omega) (by decide), show (57 : Int32) = nI 57 from rfl, af 57 (by decide), l6]
    exact ⟨_, rfl, rfl⟩
  rw [if_neg x13, if_neg x13]
  by_cases x14 : x = 14
  · rw [if_pos x14, if_pos x14]
    unfold s_Acts_size
    rw [z_c43 hS, Option.bind_some, z_i43_4 hS]
    exact ⟨_, rfl, by rw [a3, a4]⟩
  rw [if_neg x14, if_neg x14]
  exact ⟨_, rfl, rfl⟩
end C3
