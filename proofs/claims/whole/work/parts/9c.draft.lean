-- THE DRAFT of a village: what the class does with the items
section DR
variable {g g' g'' h m : fw_H} {B : Nat → Nat} {l p q d D v mo i j k nn F c n f th o ar off w : Nat} {x y : Int32} {As : List Nat} {V : Nat → Nat}
theorem z_begin19 (hS : z_Sh h) : ∃ g', s_Vil_begin h (some 19) (some 24) = some g' ∧ (z_fr [19] h g' ∧ (∀ k, k ≠ 8 → k ≠ 10 → k ≠ 12 → z_I g' 19 k = z_I h 19 k) ∧ z_I g' 19 10 = z_A h 24 0 ∧ z_I g' 19 12 = z_A h 24 1 ∧ z_I g' 19 8 = if z_A h 24 2 = 1 then 1 else 0) := by
  have gt : ∀ g, z_fr [19] h g → ∀ k, k < 6 → s_Rows_get g (some 24) (nI k) = some (z_A h 24 k) := fun g hf k hk => by
    rw [z_rget (z_ckT (hS.fr hf (by decide)) rfl) hk (by decide), hf.A (by decide)]
  obtain ⟨g1, hg1⟩ : ∃ g1, g1 = z_sI h 19 10 (z_A h 24 0) := ⟨_, rfl⟩
  obtain ⟨g2, hg2⟩ : ∃ g2, g2 = z_sI g1 19 12 (z_A h 24 1) := ⟨_, rfl⟩
  have f1 : z_fr [19] h g1 := by rw [hg1]; exact z_fr.refl.sI (by simp)
  have f2 : z_fr [19] h g2 := by rw [hg2]; exact f1.sI (by simp)
  have S1 := hS.fr f1 (by decide)
  have S2 := hS.fr f2 (by decide)
  have i2 : ∀ k, k ≠ 10 → k ≠ 12 → z_I g2 19 k = z_I h 19 k := fun k a b => by rw [hg2, hg1, z_I_sI_nk b, z_I_sI_nk a]
  have i2a : z_I g2 19 10 = z_A h 24 0 := by rw [hg2, z_I_sI_nk (by decide), hg1, z_II hS 7 rfl]
  have i2b : z_I g2 19 12 = z_A h 24 1 := by rw [hg2, z_II S1 7 rfl]
  unfold s_Vil_begin
  rw [z_c19 hS, Option.bind_some, show (0 : Int32) = nI 0 from rfl, gt h z_fr.refl 0 (by decide), Option.bind_some, z_w19_10 hS, Option.bind_some, ← hg1, show (1 : Int32) = nI 1 from rfl, gt g1 f1 1 (by decide), Option.bind_some, z_w19_12 S1, Option.bind_some, ← hg2, show (2 : Int32) = nI 2 from rfl, gt g2 f2 2 (by decide), Option.bind_some]
  by_cases e : z_A h 24 2 = nI 1
  · rw [if_neg (fun z => z e), z_pBS S2 rfl, Option.bind_some, if_pos e]
    refine ⟨_, rfl, f2.sI (by simp), fun k a b c => (z_I_sI_nk a).trans (i2 k b c), (z_I_sI_nk (by decide)).trans i2a, (z_I_sI_nk (by decide)).trans i2b, (z_II S2 7 rfl).trans rfl⟩
  · rw [if_pos e, z_pBS S2 rfl, Option.bind_some, if_neg e]
    refine ⟨_, rfl, f2.sI (by simp), fun k a b c => (z_I_sI_nk a).trans (i2 k b c), (z_I_sI_nk (by decide)).trans i2a, (z_I_sI_nk (by decide)).trans i2b, (z_II S2 7 rfl).trans rfl⟩
theorem z_addHL (hS0 : z_Sh h) (hn : z_I h 19 0 = nI n) (h12 : n < 12) {K : fw_H → Option fw_H} : ∀ (d i nn : Nat) (g : fw_H), i + d = 5 → d < nn → z_fr [20] h g → (∀ k, k < i → z_A g 20 (5 * n + k) = z_A h 24 k) → (∀ x, x < 5 * n → z_A g 20 x = z_A h 20 x) →
    ∃ g', l_Vil_addHouse_2 (some 19) (some 24) K nn (nI i) g = K g' ∧ (z_fr [20] h g' ∧ (∀ k, k < 5 → z_A g' 20 (5 * n + k) = z_A h 24 k) ∧ ∀ x, x < 5 * n → z_A g' 20 x = z_A h 20 x) := by
  intro d
  induction d with
  | zero =>
    intro i nn g hi hnn hf hA hB
    obtain ⟨nn, rfl⟩ : ∃ k, nn = k + 1 := ⟨nn - 1, by omega⟩
    refine ⟨g, ?_, hf, fun k hk => hA k (by omega), hB⟩
    rw [l_Vil_addHouse_2, if_pos (show (5 : Int32) ≤ nI i from nI_le (a := 5) (by omega) (by omega))]
  | succ d ih =>
    intro i nn g hi hnn hf hA hB
    obtain ⟨nn, rfl⟩ : ∃ k, nn = k + 1 := ⟨nn - 1, by omega⟩
    have S1 := hS0.fr hf (by decide)
    have ck := z_ckT (a := 20) S1 rfl
    have e5 : nI n * (5 : Int32) + nI i = nI (5 * n + i) := by rw [show (5 : Int32) = nI 5 from rfl, pk_mul, nI_add, Nat.mul_comm]
    rw [l_Vil_addHouse_2, if_neg (show ¬ (5 : Int32) ≤ nI i from nI_ge (a := i) (b := 5) (by omega) (by decide)), z_r19_2 S1, Option.bind_some, z_i19_0 S1, Option.bind_some, hf.I (by decide), hn, z_rget (z_ckT S1 rfl) (by omega : i < 6) (by decide), Option.bind_some, hf.A (by decide), e5, z_rput ck (by omega) (by decide), Option.bind_some, nI_1]
    refine ih (i + 1) nn _ (by omega) (by omega) (hf.sA (by simp)) (fun k hk => ?_) (fun x hx => ?_)
    · rw [z_A_sA ck]
      by_cases e : k = i
      · rw [if_pos (by omega), e]
      · rw [if_neg (by omega)]; exact hA k (by omega)
    · rw [z_A_sA ck, if_neg (by omega)]
      exact hB x hx
theorem z_addHouse19 (hF : 70000 ≤ F) (hS : z_Sh h) (hn : z_I h 19 0 = nI n) (h12 : n < 12) : ∃ g', s_Vil_addHouse F h (some 19) (some 24) = some g' ∧ (z_fr [19, 20] h g' ∧ (∀ k, k ≠ 0 → k ≠ 7 → z_I g' 19 k = z_I h 19 k) ∧ z_I g' 19 0 = nI (n + 1) ∧ z_I g' 19 7 = z_I h 19 7 ||| (z_A h 24 5 <<< (nI n &&& 31)) ∧ (∀ k, k < 5 → z_A g' 20 (5 * n + k) = z_A h 24 k) ∧ ∀ x, x < 5 * n → z_A g' 20 x = z_A h 20 x) := by
  unfold s_Vil_addHouse
  rw [z_c19 hS, Option.bind_some]
  refine z_k (z_addHL hS hn h12 5 0 F h (by omega) (by omega) z_fr.refl (fun k hk => absurd hk (Nat.not_lt_zero _)) (fun _ _ => rfl)) (fun g1 a => ?_)
  obtain ⟨a1, a2, a3⟩ := a
  have S1 := hS.fr a1 (by decide)
  obtain ⟨g2, hg2⟩ : ∃ g2, g2 = z_sI g1 19 7 (z_I h 19 7 ||| (z_A h 24 5 <<< (nI n &&& 31))) := ⟨_, rfl⟩
  have f2 : z_fr [19] g1 g2 := by rw [hg2]; exact z_fr.refl.sI (by simp)
  have S2 := S1.fr f2 (by decide)
  have e0 : z_I g2 19 0 = nI n := by rw [hg2, z_I_sI_nk (by decide), a1.I (by decide), hn]
  rw [z_i19_7 S1, Option.bind_some, show (5 : Int32) = nI 5 from rfl, z_rget (z_ckT S1 rfl) (by omega : 5 < 6) (by decide), Option.bind_some, z_i19_0 S1, Option.bind_some, z_w19_7 S1, Option.bind_some, a1.I (by decide), a1.I (by decide), hn, a1.A (by decide), ← hg2, z_i19_0 S2, Option.bind_some, e0, nI_1, z_w19_0 S2, Option.bind_some]
  refine ⟨_, rfl, ((a1.mono (by simp)).trans (f2.mono (by simp))).sI (by simp), fun k b c => ?_, z_II S2 7 rfl, ?_, fun k hk => ?_, fun x hx => ?_⟩
  · rw [z_I_sI_nk b, hg2, z_I_sI_nk c, a1.I (by decide)]
  · rw [z_I_sI_nk (by decide), hg2, z_II S1 7 rfl]
  · rw [z_A_sI, f2.A (by decide)]; exact a2 k hk
  · rw [z_A_sI, f2.A (by decide)]; exact a3 x hx
theorem z_addWindow19 (hS : z_Sh h) (hn : z_I h 19 1 = nI w) (h16 : w < 16) : ∃ g', s_Vil_addWindow h (some 19) (some 24) = some g' ∧ (z_fr [19, 22] h g' ∧ (∀ k, k ≠ 1 → k ≠ 5 → z_I g' 19 k = z_I h 19 k) ∧ z_I g' 19 1 = nI (w + 1) ∧ z_I g' 19 5 = z_I h 19 5 ||| (z_A h 24 2 <<< (nI w &&& 31)) ∧ (∀ k, k < 2 → z_A g' 22 (2 * w + k) = z_A h 24 k) ∧ ∀ x, x < 2 * w → z_A g' 22 x = z_A h 22 x) := by
  have gt : ∀ g, z_fr [19, 22] h g → ∀ k, k < 6 → s_Rows_get g (some 24) (nI k) = some (z_A h 24 k) := fun g hf k hk => by
    rw [z_rget (z_ckT (hS.fr hf (by decide)) rfl) hk (by decide), hf.A (by decide)]
  have e2 : nI w * (2 : Int32) = nI (2 * w) := by rw [show (2 : Int32) = nI 2 from rfl, pk_mul, Nat.mul_comm]
  obtain ⟨g1, hg1⟩ : ∃ g1, g1 = z_sA h 22 (2 * w) (z_A h 24 0) := ⟨_, rfl⟩
  obtain ⟨g2, hg2⟩ : ∃ g2, g2 = z_sA g1 22 (2 * w + 1) (z_A h 24 1) := ⟨_, rfl⟩
  obtain ⟨g3, hg3⟩ : ∃ g3, g3 = z_sI g2 19 5 (z_I h 19 5 ||| (z_A h 24 2 <<< (nI w &&& 31))) := ⟨_, rfl⟩
  have f1 : z_fr [19, 22] h g1 := by rw [hg1]; exact z_fr.refl.sA (by simp)
  have f2 : z_fr [19, 22] h g2 := by rw [hg2]; exact f1.sA (by simp)
  have f3 : z_fr [19, 22] h g3 := by rw [hg3]; exact f2.sI (by simp)
  have S1 := hS.fr f1 (by decide)
  have S2 := hS.fr f2 (by decide)
  have S3 := hS.fr f3 (by decide)
  have i1 : ∀ k, z_I g1 19 k = z_I h 19 k := fun k => by rw [hg1, z_I_sA]
  have i2 : ∀ k, z_I g2 19 k = z_I h 19 k := fun k => by rw [hg2, z_I_sA, i1]
  have i3 : z_I g3 19 1 = nI w := by rw [hg3, z_I_sI_nk (by decide), i2, hn]
  unfold s_Vil_addWindow
  rw [z_c19 hS, Option.bind_some, z_r19_4 hS, Option.bind_some, z_i19_1 hS, Option.bind_some, hn, e2, show (0 : Int32) = nI 0 from rfl, gt h z_fr.refl 0 (by decide), Option.bind_some, z_rput (z_ckT (a := 22) hS rfl) (by omega) (by decide), Option.bind_some, ← hg1, z_r19_4 S1, Option.bind_some, z_i19_1 S1, Option.bind_some, i1, hn, e2, nI_1, show (1 : Int32) = nI 1 from rfl, gt g1 f1 1 (by decide), Option.bind_some, z_rput (z_ckT (a := 22) S1 rfl) (by omega) (by decide), Option.bind_some, ← hg2, z_i19_5 S2, Option.bind_some, i2, show (2 : Int32) = nI 2 from rfl, gt g2 f2 2 (by decide), Option.bind_some, z_i19_1 S2, Option.bind_some, i2, hn, z_w19_5 S2, Option.bind_some, ← hg3, z_i19_1 S3, Option.bind_some, i3, nI_add, z_w19_1 S3, Option.bind_some]
  refine ⟨_, rfl, f3.sI (by simp), fun k b c => ?_, z_II S3 7 rfl, ?_, fun k hk => ?_, fun x hx => ?_⟩
  · rw [z_I_sI_nk b, hg3, z_I_sI_nk c, i2]
  · rw [z_I_sI_nk (by decide), hg3, z_II S2 7 rfl]
  · rw [z_A_sI, hg3, z_A_sI, hg2, z_A_sA (z_ckT (a := 22) S1 rfl), hg1, z_A_sA (z_ckT (a := 22) hS rfl)]
    match k, hk with
    | 0, _ => rw [if_neg (by omega), if_pos (show 2 * w + 0 = 2 * w from rfl)]
    | 1, _ => rw [if_pos rfl]
  · rw [z_A_sI, hg3, z_A_sI, hg2, z_A_sA (z_ckT (a := 22) S1 rfl), hg1, z_A_sA (z_ckT (a := 22) hS rfl), if_neg (by omega), if_neg (by omega)]
end DR
