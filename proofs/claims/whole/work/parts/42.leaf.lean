-- LEAVES: rows (Rows.get, put, copy), fill, small reads
section LF
variable {h h' : fw_H} {a b c i k n m x F : Nat} {v w : Int32}
theorem z_rget (e : z_ck h a = some (1, (n, []))) (hi : i < n) (hn : n < 2 ^ 31) : s_Rows_get h (some a) (nI i) = some (z_A h a i) := by
  unfold s_Rows_get
  rw [if_neg (by simp), if_neg (nI_pos (by omega)), z_ln e, Option.bind_some, if_neg (nI_ge hi hn), z_aI e hi (by omega)]
  rfl
theorem z_rput (e : z_ck h a = some (1, (n, []))) (hi : i < n) (hn : n < 2 ^ 31) : s_Rows_put h (some a) (nI i) v = some (z_sA h a i v) := by
  unfold s_Rows_put
  rw [if_neg (by simp), if_neg (nI_pos (by omega)), z_ln e, Option.bind_some, if_neg (nI_ge hi hn), z_sIx e hi (by omega)]
  rfl
theorem z_rgetx (e : z_ck h a = some (1, (n, []))) (hn : n < 2 ^ 31) (j : Int32) : ∃ v, s_Rows_get h (some a) j = some v := by
  by_cases h0 : j < 0
  · exact ⟨0, by unfold s_Rows_get; rw [if_neg (by simp), if_pos h0]⟩
  · by_cases h1 : nI n ≤ j
    · exact ⟨0, by unfold s_Rows_get; rw [if_neg (by simp), if_neg h0, z_ln e, Option.bind_some, if_pos h1]⟩
    · obtain ⟨i, hi, rfl⟩ := nI_of h0
      exact ⟨_, z_rget e (Nat.lt_of_not_le fun z => h1 (nI_le z hi)) hn⟩
theorem z_rputx (e : z_ck h a = some (1, (n, []))) (hn : n < 2 ^ 31) (j v : Int32) : ∃ h', s_Rows_put h (some a) j v = some h' ∧ z_fr [a] h h' := by
  by_cases h0 : j < 0
  · exact ⟨h, by unfold s_Rows_put; rw [if_neg (by simp), if_pos h0], z_fr.refl⟩
  · by_cases h1 : nI n ≤ j
    · exact ⟨h, by unfold s_Rows_put; rw [if_neg (by simp), if_neg h0, z_ln e, Option.bind_some, if_pos h1], z_fr.refl⟩
    · obtain ⟨i, hi, rfl⟩ := nI_of h0
      exact ⟨_, z_rput e (Nat.lt_of_not_le fun z => h1 (nI_le z hi)) hn, z_fr.refl.sA (List.mem_singleton.mpr rfl)⟩
/-- the row b is that of a as far as m -/
theorem z_copyL (hab : a ≠ b) (hn : n < 2 ^ 31) (ea : z_ck h a = some (1, (n, []))) (eb : z_ck h b = some (1, (n, []))) :
    ∀ (m i nn : Nat) (g : fw_H), i + m = n → m < nn → z_fr [b] h g → (∀ j, j < i → z_A g b j = z_A h a j) → ∃ g', l_Rows_copy_11 (some a) (some b) nn (nI i) g = some g' ∧ z_fr [b] h g' ∧ ∀ j, j < n → z_A g' b j = z_A h a j := by
  intro m
  induction m with
  | zero =>
    intro i nn g hi hnn hf hA
    obtain ⟨nn, rfl⟩ : ∃ k, nn = k + 1 := ⟨nn - 1, by omega⟩
    have e1 : z_ck g a = some (1, (n, [])) := (hf.1 a).trans ea
    refine ⟨g, ?_, hf, fun j hj => hA j (by omega)⟩
    rw [l_Rows_copy_11, z_ln e1, Option.bind_some, if_pos (nI_le (by omega) (by omega))]
  | succ m ih =>
    intro i nn g hi hnn hf hA
    obtain ⟨nn, rfl⟩ : ∃ k, nn = k + 1 := ⟨nn - 1, by omega⟩
    have e1 : z_ck g a = some (1, (n, [])) := (hf.1 a).trans ea
    have e2 : z_ck g b = some (1, (n, [])) := (hf.1 b).trans eb
    rw [l_Rows_copy_11, z_ln e1, Option.bind_some, if_neg (nI_ge (by omega) hn), z_ln e2, Option.bind_some, if_neg (nI_ge (by omega) hn), z_aI e1 (by omega) (by omega), Option.bind_some, z_sIx e2 (by omega) (by omega), Option.bind_some]
    rw [show nI i + 1 = nI (i + 1) from nI_1 i]
    refine ih (i + 1) nn _ (by omega) (by omega) (hf.sA (List.mem_singleton.mpr rfl)) (fun j hj => ?_)
    rw [z_A_sA e2]
    split
    · next e => subst e; exact hf.A (by simpa using hab)
    · exact hA j (by omega)
theorem z_copy (hab : a ≠ b) (hF : 70000 ≤ F) (hn : n < 70000) (ea : z_ck h a = some (1, (n, []))) (eb : z_ck h b = some (1, (n, []))) :
    ∃ h', s_Rows_copy F h (some a) (some b) = some h' ∧ z_fr [b] h h' ∧ ∀ j, j < n → z_A h' b j = z_A h a j := by
  unfold s_Rows_copy
  rw [if_neg (by simp), if_neg (by simp)]
  exact z_copyL hab (by omega) ea eb n 0 F h (by omega) (by omega) z_fr.refl (fun j hj => absurd hj (Nat.not_lt_zero _))
/-- the first k places of a row of the other length -/
theorem z_copyL2 (hab : a ≠ b) (hn : n < 2 ^ 31) (hm : k < 2 ^ 31) (hkn : n ≤ k) (ea : z_ck h a = some (1, (n, []))) (eb : z_ck h b = some (1, (k, []))) :
    ∀ (m i nn : Nat) (g : fw_H), i + m = n → m < nn → z_fr [b] h g → (∀ j, j < i → z_A g b j = z_A h a j) → ∃ g', l_Rows_copy_11 (some a) (some b) nn (nI i) g = some g' ∧ z_fr [b] h g' ∧ ∀ j, j < n → z_A g' b j = z_A h a j := by
  intro m
  induction m with
  | zero =>
    intro i nn g hi hnn hf hA
    obtain ⟨nn, rfl⟩ : ∃ k, nn = k + 1 := ⟨nn - 1, by omega⟩
    have e1 : z_ck g a = some (1, (n, [])) := (hf.1 a).trans ea
    refine ⟨g, ?_, hf, fun j hj => hA j (by omega)⟩
    rw [l_Rows_copy_11, z_ln e1, Option.bind_some, if_pos (nI_le (by omega) (by omega))]
  | succ m ih =>
    intro i nn g hi hnn hf hA
    obtain ⟨nn, rfl⟩ : ∃ k, nn = k + 1 := ⟨nn - 1, by omega⟩
    have e1 : z_ck g a = some (1, (n, [])) := (hf.1 a).trans ea
    have e2 : z_ck g b = some (1, (k, [])) := (hf.1 b).trans eb
    rw [l_Rows_copy_11, z_ln e1, Option.bind_some, if_neg (nI_ge (by omega) hn), z_ln e2, Option.bind_some, if_neg (nI_ge (by omega) hm), z_aI e1 (by omega) (by omega), Option.bind_some, z_sIx e2 (by omega) (by omega), Option.bind_some]
    rw [show nI i + 1 = nI (i + 1) from nI_1 i]
    refine ih (i + 1) nn _ (by omega) (by omega) (hf.sA (List.mem_singleton.mpr rfl)) (fun j hj => ?_)
    rw [z_A_sA e2]
    split
    · next e => subst e; exact hf.A (by simpa using hab)
    · exact hA j (by omega)
theorem z_fillIL (hn : n < 2 ^ 31) (eb : z_ck h b = some (1, (n, []))) :
    ∀ (m i nn : Nat) (g : fw_H), i + m = n → m < nn → z_fr [b] h g → (∀ j, j < i → z_A g b j = v) → ∃ g', l_Jdk_fillI_5 (some b) v (nI n) nn (nI i) g = some g' ∧ z_fr [b] h g' ∧ ∀ j, j < n → z_A g' b j = v := by
  intro m
  induction m with
  | zero =>
    intro i nn g hi hnn hf hA
    obtain ⟨nn, rfl⟩ : ∃ k, nn = k + 1 := ⟨nn - 1, by omega⟩
    refine ⟨g, ?_, hf, fun j hj => hA j (by omega)⟩
    rw [l_Jdk_fillI_5, if_pos (nI_le (by omega) (by omega))]
  | succ m ih =>
    intro i nn g hi hnn hf hA
    obtain ⟨nn, rfl⟩ : ∃ k, nn = k + 1 := ⟨nn - 1, by omega⟩
    have e2 : z_ck g b = some (1, (n, [])) := (hf.1 b).trans eb
    rw [l_Jdk_fillI_5, if_neg (nI_ge (by omega) hn), z_sIx e2 (by omega) (by omega), Option.bind_some]
    rw [show nI i + 1 = nI (i + 1) from nI_1 i]
    refine ih (i + 1) nn _ (by omega) (by omega) (hf.sA (List.mem_singleton.mpr rfl)) (fun j hj => ?_)
    rw [z_A_sA e2]
    split
    · rfl
    · exact hA j (by omega)
theorem z_fillI (hF : 70000 ≤ F) (hn : n < 70000) (eb : z_ck h b = some (1, (n, []))) :
    ∃ h', s_Jdk_fillI F h (some b) v = some h' ∧ z_fr [b] h h' ∧ ∀ j, j < n → z_A h' b j = v := by
  unfold s_Jdk_fillI
  rw [z_ln eb, Option.bind_some]
  exact z_fillIL (by omega) eb n 0 F h (by omega) (by omega) z_fr.refl (fun j hj => absurd hj (Nat.not_lt_zero _))
theorem z_fillJL {y : Int64} (hn : n < 2 ^ 31) (eb : z_ck h b = some (2, (n, []))) :
    ∀ (m i nn : Nat) (g : fw_H), i + m = n → m < nn → z_fr [b] h g → (∀ j, j < i → z_J g b j = y) → ∃ g', l_Jdk_fillJ_6 (some b) y (nI n) nn (nI i) g = some g' ∧ z_fr [b] h g' ∧ ∀ j, j < n → z_J g' b j = y := by
  intro m
  induction m with
  | zero =>
    intro i nn g hi hnn hf hA
    obtain ⟨nn, rfl⟩ : ∃ k, nn = k + 1 := ⟨nn - 1, by omega⟩
    refine ⟨g, ?_, hf, fun j hj => hA j (by omega)⟩
    rw [l_Jdk_fillJ_6, if_pos (nI_le (by omega) (by omega))]
  | succ m ih =>
    intro i nn g hi hnn hf hA
    obtain ⟨nn, rfl⟩ : ∃ k, nn = k + 1 := ⟨nn - 1, by omega⟩
    have e2 : z_ck g b = some (2, (n, [])) := (hf.1 b).trans eb
    rw [l_Jdk_fillJ_6, if_neg (nI_ge (by omega) hn), z_sJx e2 (by omega) (by omega), Option.bind_some]
    rw [show nI i + 1 = nI (i + 1) from nI_1 i]
    refine ih (i + 1) nn _ (by omega) (by omega) (hf.sJ (List.mem_singleton.mpr rfl)) (fun j hj => ?_)
    rw [z_J_sJ e2]
    split
    · rfl
    · exact hA j (by omega)
theorem z_fillJ {y : Int64} (hF : 70000 ≤ F) (hn : n < 70000) (eb : z_ck h b = some (2, (n, []))) :
    ∃ h', s_Jdk_fillJ F h (some b) y = some h' ∧ z_fr [b] h h' ∧ ∀ j, j < n → z_J h' b j = y := by
  unfold s_Jdk_fillJ
  rw [z_lnJ eb, Option.bind_some]
  exact z_fillJL (by omega) eb n 0 F h (by omega) (by omega) z_fr.refl (fun j hj => absurd hj (Nat.not_lt_zero _))
-- the village's small reads
theorem z_trait (hS : z_Sh h) (hv : z_V a) (hi : i < 12) (hk : k < 5) : s_Vil_trait h (some a) (nI i) (nI k) = some (z_A h (a + 1) (5 * i + k)) := by
  unfold s_Vil_trait
  rw [zv_c hS hv, Option.bind_some, zv_r2 hS hv, Option.bind_some]
  rw [show nI i * (5 : Int32) + nI k = nI (5 * i + k) by rw [show (5 : Int32) = nI 5 from rfl, pk_mul, nI_add, Nat.mul_comm]]
  rw [z_rget (zv_k1 hS hv) (by omega) (by omega)]
  rfl
theorem z_endOf (hS : z_Sh h) (hv : z_V a) (hi : i < 16) (hk : k < 2) : s_Vil_endOf h (some a) (nI i) (nI k) = some (z_A h (a + 3) (2 * i + k)) := by
  unfold s_Vil_endOf
  rw [zv_c hS hv, Option.bind_some, zv_r4 hS hv, Option.bind_some]
  rw [show nI i * (2 : Int32) + nI k = nI (2 * i + k) by rw [show (2 : Int32) = nI 2 from rfl, pk_mul, nI_add, Nat.mul_comm]]
  rw [z_rget (zv_k3 hS hv) (by omega) (by omega)]
  rfl
end LF
