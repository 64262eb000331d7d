-- A VILLAGE TAKEN: what the draft says; the reference takes it
def k_f0 (T : Nat → Int32) (n j : Nat) : Int32 := if j < 12 then (if j < n then T (6 * j) else 0) else if j < 24 then (if j - 12 < n then T (6 * (j - 12) + 5) else 0) else 0
/-- the first state of a village -/
def k_f (T Vv : Nat → Int32) (n j : Nat) : Int32 := if j = 52 then Vv 2 else if j = 54 then Vv 0 else if j = 55 then -1 else if j = 56 then Vv 1 else k_f0 T n j
section TK
variable {g g' g'' h m M : fw_H} {B : Nat → Nat} {l p q d D v mo i j k nn mm F c n f th o ar off w nh nw r a : Nat} {x y : Int32} {As : List Nat} {V : Nat → Nat} {td t : Bool} {P : Nat → Bool} {T : Nat → Int32}
theorem k_mx1 : ∀ k, k < 6 → k_mx 1 k ≤ 9 := by decide
theorem k_f_lo {T Vv : Nat → Int32} (hj : j < 52) : k_f T Vv n j = k_f0 T n j := by
  unfold k_f
  rw [if_neg (by omega), if_neg (by omega), if_neg (by omega), if_neg (by omega)]
theorem k_Z.R (hZ : k_Z g m) : ∃ nh nw, 0 < nh ∧ v_ok nh nw (z_A m 81) ∧ v_R g 19 nh nw (z_A m 80) (z_A m 81) (k_f (z_A m 80) (z_A m 79) nh) ∧ w_wt (k_f (z_A m 80) (z_A m 79) nh) ∧ z_I m 68 20 = nI nh ∧ z_I m 68 21 = nI nw := by
  obtain ⟨nh, nw, td, ⟨⟨d1, d2, d3, d4, d5, d6, d7⟩, ⟨a, b, c, v1, v2, v3, v4, v5, v6, v7, v8, v9⟩, ⟨dH, o, o1, o2, o3⟩, dW⟩, hw, hat, ⟨c6, c9, c11, c14⟩, c21⟩ := hZ
  have hW := k_hw_d dW d1
  obtain ⟨dW1, oo, oo1, oo2, oo3⟩ := dW
  have han : a < nh := by
    rw [v4, v_in_d (by omega) (by omega)] at hat
    exact of_decide_eq_true hat
  have tH : ∀ i, i < nh → ∀ k, k < 6 → ∃ v, v ≤ 9 ∧ z_A m 80 (6 * i + k) = nI v ∧ (k < 5 → z_A g 20 (5 * i + k) = nI v) := fun i hi k hk => by
    obtain ⟨v, x1, x2, x3⟩ := dH i hi k hk
    have : k_mx 1 k ≤ 9 := k_mx1 k hk
    exact ⟨v, by omega, x2, x3⟩
  have p16 : ∀ k, k ≤ 16 → 2 ^ k ≤ 2 ^ 16 := fun k hk => Nat.pow_le_pow_right (by decide) hk
  refine ⟨nh, nw, by omega, ⟨d1, d2, fun j hj => ⟨?_, ⟨_, oo3 j hj⟩⟩⟩, ⟨d3, d4, fun i hi => ⟨?_, fun k k1 k5 => ?_⟩, fun i hi => ?_, fun j hj => ⟨?_, ?_⟩, ⟨oo, Nat.lt_of_lt_of_le oo1 (p16 nw d2), oo2, oo3⟩, ⟨0, by decide, c6, fun j hj => ?_⟩, ⟨o, Nat.lt_of_lt_of_le o1 (Nat.pow_le_pow_right (by decide) d1), o2, fun i hi => ?_⟩, ⟨decide (c = 1), ?_, ?_⟩, ⟨false, c9, rfl⟩, fun z => by omega, fun _ => ⟨a, 12, han, .inl rfl, v4, v5, c11, rfl⟩, b, 0, by omega, Nat.zero_le _, v6, v7, c14, rfl, fun i hi => absurd hi (Nat.not_lt_zero _)⟩, fun x hx => ?_, d5, d6⟩
  · obtain ⟨x, y, x1, x2, x3, x4, x5⟩ := hW j hj
    have hj2 := (g_alf_iff.mp hw) j (Nat.zero_le _) (by omega)
    rw [x5, Bool.and_eq_true, Bool.and_eq_true, decide_eq_true_eq, decide_eq_true_eq, Bool.not_eq_true', decide_eq_false_iff_not] at hj2
    exact ⟨x, y, hj2.1, hj2.2.1, hj2.2.2, x3, x4⟩
  · obtain ⟨v, y1, y2, y3⟩ := tH i hi 0 (by decide)
    rw [k_f_lo (by omega)]
    unfold k_f0
    rw [if_pos (by omega), if_pos hi]
    exact (y3 (by decide)).trans y2.symm
  · obtain ⟨v, y1, y2, y3⟩ := tH i hi k (by omega)
    exact (y3 k5).trans y2.symm
  · rw [k_f_lo (by omega)]
    unfold k_f0
    rw [if_neg (by omega), if_neg (by omega)]
    exact c21 i (by omega)
  · obtain ⟨v, y1, y2, y3⟩ := dW1 j hj 0 (by decide)
    exact y3.trans y2.symm
  · obtain ⟨v, y1, y2, y3⟩ := dW1 j hj 1 (by decide)
    exact y3.trans y2.symm
  · rw [k_f_lo (by omega)]
    unfold k_f0
    rw [if_neg (by omega), if_neg (by omega), Nat.zero_testBit]
    rfl
  · rw [k_f_lo (by omega)]
    unfold k_f0
    rw [if_neg (by omega), if_pos (by omega), if_pos (by omega), show 12 + i - 12 = i by omega]
    exact o3 i hi
  · rw [v8]
    have : c = 0 ∨ c = 1 := by omega
    rcases this with rfl | rfl <;> rfl
  · show z_A m 79 2 = _
    rw [v9]
    have : c = 0 ∨ c = 1 := by omega
    rcases this with rfl | rfl <;> rfl
  · rw [k_f_lo (by omega)]
    unfold k_f0
    rw [if_pos hx]
    by_cases e : x < nh
    · obtain ⟨v, y1, y2, y3⟩ := tH x e 0 (by decide)
      rw [if_pos e]
      exact ⟨v, y1, y2⟩
    · rw [if_neg e]
      exact ⟨0, Nat.zero_le _, rfl⟩
theorem z_ta18 (hS0 : z_Sh h) {K : fw_H → Option (Int32 × fw_H)} : ∀ (d i nn : Nat) (g : fw_H), i + d = 72 → d < nn → z_fr [82] h g → (∀ k, k < i → z_A g 82 k = z_A h 80 k) → ∃ g', l_Mod_takeAll_18 (some 68) K nn (nI i) g = K g' ∧ (z_fr [82] h g' ∧ ∀ k, k < 72 → z_A g' 82 k = z_A h 80 k) := by
  intro d
  induction d with
  | zero =>
    intro i nn g hi hnn hf hA
    obtain ⟨nn, rfl⟩ : ∃ k, nn = k + 1 := ⟨nn - 1, by omega⟩
    exact ⟨g, by rw [l_Mod_takeAll_18, if_pos (show (72 : Int32) ≤ nI i from nI_le (a := 72) (by omega) (by omega))], hf, fun k hk => hA k (by omega)⟩
  | succ d ih =>
    intro i nn g hi hnn hf hA
    obtain ⟨nn, rfl⟩ : ∃ k, nn = k + 1 := ⟨nn - 1, by omega⟩
    have S1 := hS0.fr hf (by decide)
    rw [l_Mod_takeAll_18, if_neg (show ¬ (72 : Int32) ≤ nI i from nI_ge (a := i) (b := 72) (by omega) (by decide)), z_r68_22 S1, Option.bind_some, z_r68_18 S1, Option.bind_some, z_a80 S1 (by omega), Option.bind_some, z_s82 S1 (by omega), Option.bind_some, nI_1]
    refine ih (i + 1) nn _ (by omega) (by omega) (hf.sA (by simp)) (fun k hk => ?_)
    rw [z_A_sA (z_ckT (a := 82) S1 rfl)]
    by_cases e : k = i
    · rw [if_pos e, e, hf.A (by decide)]
    · rw [if_neg e]; exact hA k (by omega)
theorem z_ta44 (hS0 : z_Sh h) {K : fw_H → Option (Int32 × fw_H)} : ∀ (d i nn : Nat) (g : fw_H), i + d = 48 → d < nn → z_fr [83] h g → (∀ k, k < i → z_A g 83 k = z_A h 81 k) → ∃ g', l_Mod_takeAll_44 (some 68) K nn (nI i) g = K g' ∧ (z_fr [83] h g' ∧ ∀ k, k < 48 → z_A g' 83 k = z_A h 81 k) := by
  intro d
  induction d with
  | zero =>
    intro i nn g hi hnn hf hA
    obtain ⟨nn, rfl⟩ : ∃ k, nn = k + 1 := ⟨nn - 1, by omega⟩
    exact ⟨g, by rw [l_Mod_takeAll_44, if_pos (show (48 : Int32) ≤ nI i from nI_le (a := 48) (by omega) (by omega))], hf, fun k hk => hA k (by omega)⟩
  | succ d ih =>
    intro i nn g hi hnn hf hA
    obtain ⟨nn, rfl⟩ : ∃ k, nn = k + 1 := ⟨nn - 1, by omega⟩
    have S1 := hS0.fr hf (by decide)
    rw [l_Mod_takeAll_44, if_neg (show ¬ (48 : Int32) ≤ nI i from nI_ge (a := i) (b := 48) (by omega) (by decide)), z_r68_23 S1, Option.bind_some, z_r68_19 S1, Option.bind_some, z_a81 S1 (by omega), Option.bind_some, z_s83 S1 (by omega), Option.bind_some, nI_1]
    refine ih (i + 1) nn _ (by omega) (by omega) (hf.sA (by simp)) (fun k hk => ?_)
    rw [z_A_sA (z_ckT (a := 83) S1 rfl)]
    by_cases e : k = i
    · rw [if_pos e, e, hf.A (by decide)]
    · rw [if_neg e]; exact hA k (by omega)
theorem z_ta70 (hS0 : z_Sh h) {K : fw_H → Option (Int32 × fw_H)} : ∀ (d i nn : Nat) (g : fw_H), i + d = 118 → d < nn → z_fr [84] h g → (∀ k, k < i → z_A g 84 k = 0) → ∃ g', l_Mod_takeAll_70 (some 68) K nn (nI i) g = K g' ∧ (z_fr [84] h g' ∧ ∀ k, k < 118 → z_A g' 84 k = 0) := by
  intro d
  induction d with
  | zero =>
    intro i nn g hi hnn hf hA
    obtain ⟨nn, rfl⟩ : ∃ k, nn = k + 1 := ⟨nn - 1, by omega⟩
    exact ⟨g, by rw [l_Mod_takeAll_70, if_pos (show (118 : Int32) ≤ nI i from nI_le (a := 118) (by omega) (by omega))], hf, fun k hk => hA k (by omega)⟩
  | succ d ih =>
    intro i nn g hi hnn hf hA
    obtain ⟨nn, rfl⟩ : ∃ k, nn = k + 1 := ⟨nn - 1, by omega⟩
    have S1 := hS0.fr hf (by decide)
    rw [l_Mod_takeAll_70, if_neg (show ¬ (118 : Int32) ≤ nI i from nI_ge (a := i) (b := 118) (by omega) (by decide)), z_r68_26 S1, Option.bind_some, z_s84 S1 (by omega), Option.bind_some, nI_1]
    refine ih (i + 1) nn _ (by omega) (by omega) (hf.sA (by simp)) (fun k hk => ?_)
    rw [z_A_sA (z_ckT (a := 84) S1 rfl)]
    by_cases e : k = i
    · rw [if_pos e]
    · rw [if_neg e]; exact hA k (by omega)
theorem k_f0_1 (hi : i < 12) : k_f0 T (i + 1) j = if j = 12 + i then T (6 * i + 5) else if j = i then T (6 * i) else k_f0 T i j := by
  unfold k_f0
  by_cases e1 : j = 12 + i
  · rw [if_pos e1, if_neg (by omega), if_pos (by omega), if_pos (by omega), show j - 12 = i by omega]
  · rw [if_neg e1]
    by_cases e2 : j = i
    · rw [if_pos e2, if_pos (by omega), if_pos (by omega), e2]
    · rw [if_neg e2]
      by_cases e3 : j < 12
      · rw [if_pos e3, if_pos e3]
        by_cases e4 : j < i
        · rw [if_pos (by omega), if_pos e4]
        · rw [if_neg (by omega), if_neg e4]
      · rw [if_neg e3, if_neg e3]
        by_cases e5 : j < 24
        · rw [if_pos e5, if_pos e5]
          by_cases e4 : j - 12 < i
          · rw [if_pos (by omega), if_pos e4]
          · rw [if_neg (by omega), if_neg e4]
        · rw [if_neg e5, if_neg e5]
theorem z_ta91 (hS0 : z_Sh h) (h24 : z_I h 68 24 = nI n) (h12 : n ≤ 12) {K : fw_H → Option (Int32 × fw_H)} : ∀ (d i nn : Nat) (g : fw_H), i + d = n → d < nn → z_fr [84] h g → (∀ k, k < 118 → z_A g 84 k = k_f0 (z_A h 82) i k) → ∃ g', l_Mod_takeAll_91 (some 68) K nn (nI i) g = K g' ∧ (z_fr [84] h g' ∧ ∀ k, k < 118 → z_A g' 84 k = k_f0 (z_A h 82) n k) := by
  intro d
  induction d with
  | zero =>
    intro i nn g hi hnn hf hA
    obtain ⟨nn, rfl⟩ : ∃ k, nn = k + 1 := ⟨nn - 1, by omega⟩
    obtain rfl : i = n := by omega
    have S1 := hS0.fr hf (by decide)
    exact ⟨g, by rw [l_Mod_takeAll_91, z_i68_24 S1, Option.bind_some, hf.I (by decide), h24, if_pos (nI_le (by omega) (by omega))], hf, hA⟩
  | succ d ih =>
    intro i nn g hi hnn hf hA
    obtain ⟨nn, rfl⟩ : ∃ k, nn = k + 1 := ⟨nn - 1, by omega⟩
    have S1 := hS0.fr hf (by decide)
    have e0 : (6 : Int32) * nI i + (0 : Int32) = nI (6 * i) := by rw [show (6 : Int32) = nI 6 from rfl, pk_mul, show (0 : Int32) = nI 0 from rfl, nI_add]; rfl
    have e5 : (6 : Int32) * nI i + (5 : Int32) = nI (6 * i + 5) := by rw [show (6 : Int32) = nI 6 from rfl, pk_mul, show (5 : Int32) = nI 5 from rfl, nI_add]
    have ez : (0 : Int32) + nI i = nI i := by rw [show (0 : Int32) = nI 0 from rfl, nI_add, Nat.zero_add]
    have et : (12 : Int32) + nI i = nI (12 + i) := by rw [show (12 : Int32) = nI 12 from rfl, nI_add]
    have S2 : z_Sh (z_sA g 84 i (z_A g 82 (6 * i))) := z_Sh_sA S1
    rw [l_Mod_takeAll_91, z_i68_24 S1, Option.bind_some, hf.I (by decide), h24, if_neg (nI_ge (by omega) (by omega)), z_r68_26 S1, Option.bind_some, z_r68_22 S1, Option.bind_some, e0, z_a82 S1 (by omega), Option.bind_some, ez, z_s84 S1 (by omega), Option.bind_some, z_r68_26 S2, Option.bind_some, z_r68_22 S2, Option.bind_some, e5, z_a82 S2 (by omega), Option.bind_some, et, z_s84 S2 (by omega), Option.bind_some, nI_1]
    refine ih (i + 1) nn _ (by omega) (by omega) ((hf.sA (by simp)).sA (by simp)) (fun k hk => ?_)
    rw [z_A_sA (z_ckT (a := 84) S2 rfl), z_A_sA (z_ckT (a := 84) S1 rfl), z_A_sA_ne (by decide), hf.A (by decide), hf.A (by decide), hA k hk, k_f0_1 (by omega)]
theorem k_allh : ∀ x, x < 12 → s_Mod_has (-1) (nI x) = some true := by decide +kernel
theorem z_takeAll (hF : 70000 ≤ F) (hS : z_Sh h) (h20 : z_I h 68 20 = nI n) (h21 : z_I h 68 21 = nI w) (h12 : n ≤ 12) : ∃ g', s_Mod_takeAll F h (some 68) = some (nI n, g') ∧ (z_fr [68, 82, 83, 84, 85] h g' ∧ (∀ k, k ≠ 24 → k ≠ 25 → k ≠ 31 → k ≠ 47 → k ≠ 49 → z_I g' 68 k = z_I h 68 k) ∧ z_I g' 68 24 = nI n ∧ z_I g' 68 25 = nI w ∧ z_I g' 68 31 = 0 ∧ z_I g' 68 47 = 0 ∧ z_I g' 68 49 = 0 ∧ (∀ j, j < 72 → z_A g' 82 j = z_A h 80 j) ∧ (∀ j, j < 48 → z_A g' 83 j = z_A h 81 j) ∧ (∀ j, j < 118 → z_A g' 84 j = k_f (z_A h 80) (z_A h 79) n j) ∧ ∀ x, x < n → z_A g' 85 x = z_A h 80 (6 * x + 1)) := by
  obtain ⟨g1, hg1⟩ : ∃ g1, g1 = z_sI h 68 24 (nI n) := ⟨_, rfl⟩
  obtain ⟨g2, hg2⟩ : ∃ g2, g2 = z_sI g1 68 25 (nI w) := ⟨_, rfl⟩
  have S1 : z_Sh g1 := by rw [hg1]; exact z_Sh_sI hS
  have S2 : z_Sh g2 := by rw [hg2]; exact z_Sh_sI S1
  have f2 : z_fr [68] h g2 := by rw [hg2, hg1]; exact (z_fr.refl.sI (by simp)).sI (by simp)
  have e21 : z_I g1 68 21 = nI w := by rw [hg1, z_I_sI_nk (by decide), h21]
  unfold s_Mod_takeAll
  rw [z_c68 hS, Option.bind_some, z_i68_20 hS, Option.bind_some, h20, z_w68_24 hS, Option.bind_some, ← hg1, z_i68_21 S1, Option.bind_some, e21, z_w68_25 S1, Option.bind_some, ← hg2]
  refine z_k (z_ta18 S2 72 0 F g2 (by omega) (by omega) z_fr.refl (fun k hk => absurd hk (Nat.not_lt_zero _))) (fun g3 a => ?_)
  obtain ⟨a1, a2⟩ := a
  have S3 := S2.fr a1 (by decide)
  refine z_k (z_ta44 S3 48 0 F g3 (by omega) (by omega) z_fr.refl (fun k hk => absurd hk (Nat.not_lt_zero _))) (fun g4 b => ?_)
  obtain ⟨b1, b2⟩ := b
  have S4 := S3.fr b1 (by decide)
  refine z_k (z_ta70 S4 118 0 F g4 (by omega) (by omega) z_fr.refl (fun k hk => absurd hk (Nat.not_lt_zero _))) (fun g5 c => ?_)
  obtain ⟨c1, c2⟩ := c
  have S5 := S4.fr c1 (by decide)
  have F25 : z_fr [82, 83, 84] g2 g5 := ((a1.mono (by simp)).trans (b1.mono (by simp))).trans (c1.mono (by simp))
  have i24 : z_I g5 68 24 = nI n := by rw [F25.I (by decide), hg2, z_I_sI_nk (by decide), hg1, z_II hS 12 rfl]
  have t82 : ∀ j, j < 72 → z_A g5 82 j = z_A h 80 j := fun j hj => by rw [c1.A (by decide), b1.A (by decide), a2 j hj, f2.A (by decide)]
  refine z_k (z_ta91 S5 i24 h12 n 0 F g5 (by omega) (by omega) z_fr.refl (fun k hk => ?_)) (fun g6 d => ?_)
  · rw [c2 k hk]
    unfold k_f0
    rw [if_neg (Nat.not_lt_zero _), if_neg (Nat.not_lt_zero _)]
    split
    · rfl
    · split <;> rfl
  obtain ⟨d1, d2⟩ := d
  have S6 := S5.fr d1 (by decide)
  obtain ⟨g7, e1, e2, e3, -⟩ := z_layEL (T := z_A h 80) (B := fun _ => true) (v := (-1 : Int32)) h12 (fun x hx => k_allh x (by omega)) n 0 F g6 (by omega) (by omega) S6 ((d1.I (by decide)).trans i24) (fun j hj => (d1.A (by decide)).trans (t82 j hj)) (fun x hx => absurd hx (Nat.not_lt_zero _))
  have S7 := S6.fr e2 (by decide)
  have lay : s_Mod_layEnvy F g6 (some 68) (-1 : Int32) = some g7 := by
    unfold s_Mod_layEnvy
    rw [z_c68 S6, Option.bind_some]
    exact e1
  rw [lay, Option.bind_some]
  have F27 : z_fr [82, 83, 84, 85] g2 g7 := (F25.mono (by simp)).trans ((d1.mono (by simp)).trans (e2.mono (by simp)))
  have v79 : ∀ k, z_A g7 79 k = z_A h 79 k := fun k => by rw [F27.A (by decide), f2.A (by decide)]
  obtain ⟨g8, hg8⟩ : ∃ g8, g8 = z_sA g7 84 52 (z_A h 79 2) := ⟨_, rfl⟩
  obtain ⟨g9, hg9⟩ : ∃ g9, g9 = z_sA g8 84 54 (z_A h 79 0) := ⟨_, rfl⟩
  obtain ⟨ga, hga⟩ : ∃ ga, ga = z_sA g9 84 55 (-1 : Int32) := ⟨_, rfl⟩
  obtain ⟨gb, hgb⟩ : ∃ gb, gb = z_sA ga 84 56 (z_A h 79 1) := ⟨_, rfl⟩
  have S8 : z_Sh g8 := by rw [hg8]; exact z_Sh_sA S7
  have S9 : z_Sh g9 := by rw [hg9]; exact z_Sh_sA S8
  have Sa : z_Sh ga := by rw [hga]; exact z_Sh_sA S9
  have Sb : z_Sh gb := by rw [hgb]; exact z_Sh_sA Sa
  have f8 : z_fr [84] g7 g8 := by rw [hg8]; exact z_fr.refl.sA (by simp)
  have f9 : z_fr [84] g7 g9 := by rw [hg9]; exact f8.sA (by simp)
  have fa : z_fr [84] g7 ga := by rw [hga]; exact f9.sA (by simp)
  have fb : z_fr [84] g7 gb := by rw [hgb]; exact fa.sA (by simp)
  have x2 : f_aI g7 (some 79) (2 : Int32) = some (z_A h 79 2) := by rw [show (2 : Int32) = nI 2 from rfl, z_a79 S7 (by decide), v79]
  have x0 : f_aI g8 (some 79) (0 : Int32) = some (z_A h 79 0) := by rw [show (0 : Int32) = nI 0 from rfl, z_a79 S8 (by decide), f8.A (by decide), v79]
  have x1 : f_aI ga (some 79) (1 : Int32) = some (z_A h 79 1) := by rw [show (1 : Int32) = nI 1 from rfl, z_a79 Sa (by decide), fa.A (by decide), v79]
  have y52 : f_sI g7 (some 84) (52 : Int32) (z_A h 79 2) = some g8 := by rw [show (52 : Int32) = nI 52 from rfl, z_s84 S7 (by decide), hg8]
  have y54 : f_sI g8 (some 84) (54 : Int32) (z_A h 79 0) = some g9 := by rw [show (54 : Int32) = nI 54 from rfl, z_s84 S8 (by decide), hg9]
  have y55 : f_sI g9 (some 84) (55 : Int32) (-1 : Int32) = some ga := by rw [show (55 : Int32) = nI 55 from rfl, z_s84 S9 (by decide), hga]
  have y56 : f_sI ga (some 84) (56 : Int32) (z_A h 79 1) = some gb := by rw [show (56 : Int32) = nI 56 from rfl, z_s84 Sa (by decide), hgb]
  rw [z_r68_26 S7, Option.bind_some, z_r68_17 S7, Option.bind_some, x2, Option.bind_some, y52, Option.bind_some, z_r68_26 S8, Option.bind_some, z_r68_17 S8, Option.bind_some, x0, Option.bind_some, y54, Option.bind_some, z_r68_26 S9, Option.bind_some, y55, Option.bind_some, z_r68_26 Sa, Option.bind_some, z_r68_17 Sa, Option.bind_some, x1, Option.bind_some, y56, Option.bind_some]
  obtain ⟨gc, hgc⟩ : ∃ gc, gc = z_sI gb 68 47 (0 : Int32) := ⟨_, rfl⟩
  obtain ⟨gd, hgd⟩ : ∃ gd, gd = z_sI gc 68 31 (0 : Int32) := ⟨_, rfl⟩
  obtain ⟨ge, hge⟩ : ∃ ge, ge = z_sI gd 68 49 (fw_b false) := ⟨_, rfl⟩
  have Sc : z_Sh gc := by rw [hgc]; exact z_Sh_sI Sb
  have Sd : z_Sh gd := by rw [hgd]; exact z_Sh_sI Sc
  have Se : z_Sh ge := by rw [hge]; exact z_Sh_sI Sd
  have fe : z_fr [68] gb ge := by rw [hge, hgd, hgc]; exact ((z_fr.refl.sI (by simp)).sI (by simp)).sI (by simp)
  have i24e : z_I ge 68 24 = nI n := by rw [hge, z_I_sI_nk (by decide), hgd, z_I_sI_nk (by decide), hgc, z_I_sI_nk (by decide), fb.I (by decide), e2.I (by decide), d1.I (by decide), i24]
  rw [z_w68_47 Sb, Option.bind_some, ← hgc, z_w68_31 Sc, Option.bind_some, ← hgd, z_pBS Sd rfl, Option.bind_some, ← hge, z_i68_24 Se, Option.bind_some, i24e]
  have F7e : z_fr [68, 84] g7 ge := (fb.mono (by simp)).trans (fe.mono (by simp))
  have ib2 : ∀ k, z_I gb 68 k = z_I g2 68 k := fun k => by rw [fb.I (by decide), F27.I (by decide)]
  refine ⟨ge, rfl, ((f2.mono (by simp)).trans (F27.mono (by simp))).trans (F7e.mono (by simp)), fun k k1 k2 k3 k4 k5 => ?_, i24e, ?_, ?_, ?_, ?_, fun j hj => ?_, fun j hj => ?_, fun j hj => ?_, fun x hx => ?_⟩
  · rw [hge, z_I_sI_nk k5, hgd, z_I_sI_nk k3, hgc, z_I_sI_nk k4, ib2, hg2, z_I_sI_nk k2, hg1, z_I_sI_nk k1]
  · rw [hge, z_I_sI_nk (by decide), hgd, z_I_sI_nk (by decide), hgc, z_I_sI_nk (by decide), ib2, hg2, z_II S1 12 rfl]
  · rw [hge, z_I_sI_nk (by decide), hgd, z_II Sc 12 rfl]
  · rw [hge, z_I_sI_nk (by decide), hgd, z_I_sI_nk (by decide), hgc, z_II Sb 12 rfl]
  · rw [hge, z_II Sd 12 rfl]; rfl
  · rw [F7e.A (by decide), e2.A (by decide), d1.A (by decide), t82 j hj]
  · rw [F7e.A (by decide), e2.A (by decide), d1.A (by decide), c1.A (by decide), b2 j hj, a1.A (by decide), f2.A (by decide)]
  · rw [fe.A (by decide), hgb, z_A_sA (z_ckT (a := 84) Sa rfl), hga, z_A_sA (z_ckT (a := 84) S9 rfl), hg9, z_A_sA (z_ckT (a := 84) S8 rfl), hg8, z_A_sA (z_ckT (a := 84) S7 rfl), e2.A (by decide), d2 j hj]
    have ek : k_f0 (z_A g5 82) n j = k_f0 (z_A h 80) n j := by
      unfold k_f0
      by_cases z1 : j < 12
      · rw [if_pos z1, if_pos z1, t82 _ (by omega)]
      · rw [if_neg z1, if_neg z1]
        by_cases z2 : j < 24
        · rw [if_pos z2, if_pos z2, t82 _ (by omega)]
        · rw [if_neg z2, if_neg z2]
    rw [ek]
    unfold k_f
    by_cases z1 : j = 52
    · subst z1; rfl
    · by_cases z2 : j = 54
      · subst z2; rfl
      · by_cases z3 : j = 55
        · subst z3; rfl
        · by_cases z4 : j = 56
          · subst z4; rfl
          · simp only [if_neg z1, if_neg z2, if_neg z3, if_neg z4]
  · rw [F7e.A (by decide), e3 x hx, if_pos rfl]
end TK
