-- THE REFERENCE KEEPS WHAT WAS
section KE
variable {i j k n c t nn F : Nat} {h h' g g' : fw_H} {f B : Nat → Int32}
theorem z_keep12 {K : fw_H → Option fw_H} : ∀ (k i nn : Nat) (g : fw_H), i + k = 4720 → 118 ≤ i → k < nn → z_Sh g → (∀ t, t + 118 < i → z_A g 86 t = B (t + 118)) → (∀ t, i ≤ t + 118 → t < 4720 → z_A g 86 t = B t) →
    ∃ g', l_Mod_keep_12 (some 68) K nn (nI i) g = K g' ∧ (z_fr [86] g g' ∧ ∀ t, t < 4602 → z_A g' 86 t = B (t + 118)) := by
  intro k
  induction k with
  | zero =>
    intro i nn g hi h1 hnn hS hA hB
    obtain ⟨nn, rfl⟩ : ∃ k, nn = k + 1 := ⟨nn - 1, by omega⟩
    obtain rfl : i = 4720 := by omega
    refine ⟨g, ?_, z_fr.refl, fun t ht => hA t (by omega)⟩
    rw [l_Mod_keep_12, if_pos (by decide)]
  | succ k ih =>
    intro i nn g hi h1 hnn hS hA hB
    obtain ⟨nn, rfl⟩ : ∃ k, nn = k + 1 := ⟨nn - 1, by omega⟩
    have e1 : nI i - (118 : Int32) = nI (i - 118) := pk_sub h1
    rw [l_Mod_keep_12, if_neg (show ¬ (4720 : Int32) ≤ nI i from nI_ge (b := 4720) (by omega) (by decide)), z_r68_30 hS, Option.bind_some, Option.bind_some, z_a86 hS (by omega), Option.bind_some, e1, z_s86 hS (by omega), Option.bind_some, hB i (by omega) (by omega), show nI i + 1 = nI (i + 1) from nI_1 i]
    have f1 : z_fr [86] g (z_sA g 86 (i - 118) (B i)) := z_fr.refl.sA (by simp)
    obtain ⟨g2, b1, b2, b3⟩ := ih (i + 1) nn (z_sA g 86 (i - 118) (B i)) (by omega) (by omega) (by omega) (z_Sh_sA hS) (fun t ht => by
        rw [z_A_sA (z_ckT hS rfl)]
        by_cases e : t = i - 118
        · rw [if_pos e, show t + 118 = i by omega]
        · rw [if_neg e]; exact hA t (by omega)) (fun t ht h2 => by
        rw [z_A_sA (z_ckT hS rfl), if_neg (by omega)]; exact hB t (by omega) h2)
    exact ⟨g2, b1, f1.trans b2, b3⟩
theorem z_keep52 (hc : c < 40) : ∀ (k i nn : Nat) (g : fw_H), i + k = 118 → k < nn → z_Sh g → z_I g 68 31 = nI c → (∀ t, t < 118 → z_A g 84 t = f t) → (∀ t, t < i → z_A g 86 (118 * c + t) = f t) →
    ∃ g', l_Mod_keep_52 (some 68) nn (nI i) g = some g' ∧ (z_fr [68, 86] g g' ∧ (∀ k, k ≠ 31 → z_I g' 68 k = z_I g 68 k) ∧ (∀ k, z_R g' 68 k = z_R g 68 k) ∧ z_I g' 68 31 = nI (c + 1) ∧ (∀ t, t < 118 → z_A g' 86 (118 * c + t) = f t) ∧ ∀ t, t < 118 * c → z_A g' 86 t = z_A g 86 t) := by
  intro k
  induction k with
  | zero =>
    intro i nn g hi hnn hS h31 hf hA
    obtain ⟨nn, rfl⟩ : ∃ k, nn = k + 1 := ⟨nn - 1, by omega⟩
    obtain rfl : i = 118 := by omega
    refine ⟨z_sI g 68 31 (nI (c + 1)), ?_, z_fr.refl.sI (by simp), fun k hk => z_I_sI_nk hk, fun k => z_R_sI, z_II hS 12 rfl, fun t ht => by rw [z_A_sI]; exact hA t ht, fun t ht => by rw [z_A_sI]⟩
    rw [l_Mod_keep_52, if_pos (by decide), z_i68_31 hS, Option.bind_some, h31, show nI c + (1 : Int32) = nI (c + 1) from nI_1 c, z_w68_31 hS, Option.bind_some]
  | succ k ih =>
    intro i nn g hi hnn hS h31 hf hA
    obtain ⟨nn, rfl⟩ : ∃ k, nn = k + 1 := ⟨nn - 1, by omega⟩
    have e1 : (118 : Int32) * nI c + nI i = nI (118 * c + i) := by rw [show (118 : Int32) = nI 118 from rfl, pk_mul, nI_add]
    have f1 : z_fr [86] g (z_sA g 86 (118 * c + i) (f i)) := z_fr.refl.sA (by simp)
    rw [l_Mod_keep_52, if_neg (show ¬ (118 : Int32) ≤ nI i from nI_ge (b := 118) (by omega) (by decide)), z_r68_30 hS, Option.bind_some, z_i68_31 hS, Option.bind_some, z_r68_26 hS, Option.bind_some, z_a84 hS (by omega), Option.bind_some, h31, e1, hf i (by omega), z_s86 hS (by omega), Option.bind_some, show nI i + 1 = nI (i + 1) from nI_1 i]
    obtain ⟨g2, b1, b2, b3, b4, b5, b6, b7⟩ := ih (i + 1) nn (z_sA g 86 (118 * c + i) (f i)) (by omega) (by omega) (z_Sh_sA hS) (by rw [z_I_sA]; exact h31) (fun t ht => by rw [f1.A (by decide)]; exact hf t ht) (fun t ht => by
        rw [z_A_sA (z_ckT hS rfl)]
        by_cases e : t = i
        · subst e; rw [if_pos rfl]
        · rw [if_neg (by omega)]; exact hA t (by omega))
    refine ⟨g2, b1, (f1.mono (by simp)).trans b2, fun k hk => by rw [b3 k hk, z_I_sA], fun k => by rw [b4, f1.R (by decide)], b5, b6, fun t ht => ?_⟩
    rw [b7 t ht, z_A_sA (z_ckT hS rfl), if_neg (by omega)]
/-- keep: c states are kept; the oldest goes where there are 40 -/
theorem z_mkeep (hF : 70000 ≤ F) (hS : z_Sh h) (hc : c ≤ 40) (h31 : z_I h 68 31 = nI c) (hf : ∀ t, t < 118 → z_A h 84 t = f t) {c' d : Nat} (hd : (c < 40 ∧ d = 0 ∧ c' = c) ∨ (c = 40 ∧ d = 1 ∧ c' = 39)) :
    ∃ g', s_Mod_keep F h (some 68) = some g' ∧ (z_fr [68, 86] h g' ∧ (∀ k, k ≠ 31 → z_I g' 68 k = z_I h 68 k) ∧ (∀ k, z_R g' 68 k = z_R h 68 k) ∧ z_I g' 68 31 = nI (c' + 1) ∧ (∀ t, t < 118 → z_A g' 86 (118 * c' + t) = f t) ∧ ∀ t, t < 118 * c' → z_A g' 86 t = z_A h 86 (t + 118 * d)) := by
  unfold s_Mod_keep
  rw [z_c68 hS, Option.bind_some, z_i68_31 hS, Option.bind_some, h31]
  simp only [fw_jn]
  rcases hd with ⟨h1, rfl, rfl⟩ | ⟨rfl, rfl, rfl⟩
  · rw [if_pos (show ¬ nI c' = (40 : Int32) from fun z => by have := (nI_eq (b := 40) (show c' < 2 ^ 31 by omega) (by decide)).mp z; omega)]
    obtain ⟨g2, b1, b2, b3, b4, b5, b6, b7⟩ := z_keep52 (f := f) h1 118 0 F h (by omega) (by omega) hS h31 hf (fun t ht => absurd ht (Nat.not_lt_zero _))
    exact ⟨g2, b1, b2, b3, b4, b5, b6, fun t ht => by rw [b7 t ht]; rfl⟩
  · rw [if_neg (fun z => z rfl)]
    refine z_k (z_keep12 (B := fun t => z_A h 86 t) 4602 118 F h (by omega) (by omega) (by omega) hS (fun t ht => absurd ht (by omega)) (fun t _ _ => rfl)) fun g1 ⟨a2, a3⟩ => ?_
    have S1 := hS.fr a2 (by decide)
    have S2 : z_Sh (z_sI g1 68 31 (nI 39)) := z_Sh_sI S1
    have f2 : z_fr [68, 86] h (z_sI g1 68 31 (nI 39)) := (a2.mono (by simp)).sI (by simp)
    rw [z_i68_31 S1, Option.bind_some, a2.I (by decide), h31, show nI 40 - (1 : Int32) = nI 39 by decide, z_w68_31 S1, Option.bind_some]
    obtain ⟨g2, b1, b2, b3, b4, b5, b6, b7⟩ := z_keep52 (c := 39) (f := f) (by decide) 118 0 F (z_sI g1 68 31 (nI 39)) (by omega) (by omega) S2 (z_II S1 12 rfl) (fun t ht => by rw [z_A_sI, a2.A (by decide)]; exact hf t ht) (fun t ht => absurd ht (Nat.not_lt_zero _))
    refine ⟨g2, b1, f2.trans b2, fun k hk => by rw [b3 k hk, z_I_sI_nk hk, a2.I (by decide)], fun k => by rw [b4, z_R_sI, a2.R (by decide)], b5, b6, fun t ht => ?_⟩
    rw [b7 t ht, z_A_sI, a3 t (by omega)]
/-- the class's Acts.keep -/
theorem z_akeep {nx : Nat} {x y : Int32} (hS : z_Sh h) (hc : c ≤ 40) (hx : nx < 40) (h4 : z_I h 43 4 = nI c) (h5 : z_I h 43 5 = nI nx) :
    ∃ h', s_Acts_keep h (some 43) x y (some 29) = some h' ∧ (z_fr [43, 44, 45, 46, 47] h h' ∧ z_I h' 43 4 = nI (min (c + 1) 40) ∧ z_I h' 43 5 = nI ((nx + 1) % 40) ∧
      (∀ j, z_A h' 44 j = if j = nx then x else z_A h 44 j) ∧ (∀ j, z_A h' 45 j = if j = nx then y else z_A h 45 j) ∧ (∀ j, z_A h' 46 j = if j = nx then z_I h 29 10 else z_A h 46 j) ∧ ∀ j, z_A h' 47 j = if j = nx then z_I h 29 11 else z_A h 47 j) := by
  have hv : z_V 29 := .inr (.inl rfl)
  obtain ⟨g1, hg1⟩ : ∃ g1, g1 = z_sA h 44 nx x := ⟨_, rfl⟩
  have S1 : z_Sh g1 := by rw [hg1]; exact z_Sh_sA hS
  have f1 : z_fr [44] h g1 := by rw [hg1]; exact z_fr.refl.sA (by simp)
  obtain ⟨g2, hg2⟩ : ∃ g2, g2 = z_sA g1 45 nx y := ⟨_, rfl⟩
  have S2 : z_Sh g2 := by rw [hg2]; exact z_Sh_sA S1
  have f2 : z_fr [45] g1 g2 := by rw [hg2]; exact z_fr.refl.sA (by simp)
  obtain ⟨g3, hg3⟩ : ∃ g3, g3 = z_sA g2 46 nx (z_I h 29 10) := ⟨_, rfl⟩
  have S3 : z_Sh g3 := by rw [hg3]; exact z_Sh_sA S2
  have f3 : z_fr [46] g2 g3 := by rw [hg3]; exact z_fr.refl.sA (by simp)
  obtain ⟨g4, hg4⟩ : ∃ g4, g4 = z_sA g3 47 nx (z_I h 29 11) := ⟨_, rfl⟩
  have S4 : z_Sh g4 := by rw [hg4]; exact z_Sh_sA S3
  have f4 : z_fr [47] g3 g4 := by rw [hg4]; exact z_fr.refl.sA (by simp)
  obtain ⟨g5, hg5⟩ : ∃ g5, g5 = z_sI g4 43 5 (nI ((nx + 1) % 40)) := ⟨_, rfl⟩
  have S5 : z_Sh g5 := by rw [hg5]; exact z_Sh_sI S4
  have f5 : z_fr [43] g4 g5 := by rw [hg5]; exact z_fr.refl.sI (by simp)
  obtain ⟨g6, hg6⟩ : ∃ g6, g6 = z_sI g5 43 4 (nI (min (c + 1) 40)) := ⟨_, rfl⟩
  have f6 : z_fr [43] g5 g6 := by rw [hg6]; exact z_fr.refl.sI (by simp)
  have n4 : z_I g4 43 5 = nI nx := by rw [f4.I (by decide), f3.I (by decide), f2.I (by decide), f1.I (by decide)]; exact h5
  have c5 : z_I g5 43 4 = nI c := by rw [hg5, z_I_sI_nk (by decide), f4.I (by decide), f3.I (by decide), f2.I (by decide), f1.I (by decide)]; exact h4
  unfold s_Acts_keep
  rw [z_c43 hS, Option.bind_some, z_r43_0 hS, Option.bind_some, z_i43_5 hS, Option.bind_some, h5, z_rput (z_ckT hS rfl) (show nx < 40 by omega) (by decide), Option.bind_some, ← hg1]
  rw [z_r43_1 S1, Option.bind_some, z_i43_5 S1, Option.bind_some, f1.I (by decide), h5, z_rput (z_ckT S1 rfl) (show nx < 40 by omega) (by decide), Option.bind_some, ← hg2]
  rw [z_r43_2 S2, Option.bind_some, z_i43_5 S2, Option.bind_some, zv_i10 S2 hv, Option.bind_some, f2.I (by decide), f1.I (by decide), h5, f2.I (by decide), f1.I (by decide), z_rput (z_ckT S2 rfl) (show nx < 40 by omega) (by decide), Option.bind_some, ← hg3]
  rw [z_r43_3 S3, Option.bind_some, z_i43_5 S3, Option.bind_some, zv_i11 S3 hv, Option.bind_some, f3.I (by decide), f2.I (by decide), f1.I (by decide), h5, f3.I (by decide), f2.I (by decide), f1.I (by decide), z_rput (z_ckT S3 rfl) (show nx < 40 by omega) (by decide), Option.bind_some, ← hg4]
  rw [z_i43_5 S4, Option.bind_some, n4, show nI nx + (1 : Int32) = nI (nx + 1) from nI_1 nx, show (40 : Int32) = nI 40 from rfl, z_irem (by omega) (by decide) (by decide), Option.bind_some, z_w43_5 S4, Option.bind_some, ← hg5, z_i43_4 S5, Option.bind_some, c5, show nI c + (1 : Int32) = nI (c + 1) from nI_1 c, z_min (by omega) (by decide), z_w43_4 S5, Option.bind_some, ← hg6]
  refine ⟨g6, rfl, ?_, ?_, ?_, fun j => ?_, fun j => ?_, fun j => ?_, fun j => ?_⟩
  · exact (((((f1.mono (by simp)).trans (f2.mono (by simp))).trans (f3.mono (by simp))).trans (f4.mono (by simp))).trans (f5.mono (by simp))).trans (f6.mono (by simp))
  · rw [hg6, z_II S5 0 rfl]
  · rw [hg6, z_I_sI_nk (by decide), hg5, z_II S4 0 rfl]
  · rw [f6.A (by decide), f5.A (by decide), f4.A (by decide), f3.A (by decide), f2.A (by decide), hg1, z_A_sA (z_ckT hS rfl)]
  · rw [f6.A (by decide), f5.A (by decide), f4.A (by decide), f3.A (by decide), hg2, z_A_sA (z_ckT S1 rfl), f1.A (by decide)]
  · rw [f6.A (by decide), f5.A (by decide), f4.A (by decide), hg3, z_A_sA (z_ckT S2 rfl), f2.A (by decide), f1.A (by decide)]
  · rw [f6.A (by decide), f5.A (by decide), hg4, z_A_sA (z_ckT S3 rfl), f3.A (by decide), f2.A (by decide), f1.A (by decide)]
end KE
