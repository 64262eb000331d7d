-- LETTERS AND ITEMS of a village: both sides
/-- the letters of a kind of clause: v 0, d 1, w 2 (3: a law's letters) -/
def k_L (j : Nat) : List Nat := [[97, 104, 109], [119, 101, 112, 107, 116, 98], [97, 98, 111], [119, 101, 112, 107, 116, 98, 117, 104]].getD j []
def k_fi (c : Nat) : Nat → List Nat → Option Nat
  | _, [] => none
  | i, x :: L => if c = x then some i else k_fi c (i + 1) L
/-- which letter it is -/
def k_it (j c : Nat) : Option Nat := k_fi c 0 (k_L j)
/-- the most a number may be; what it is without -/
def k_mx (j k : Nat) : Nat := ([[11, 23, 1], [9, 9, 9, 9, 9, 1], [11, 11, 1]].getD j []).getD k 0
def k_us (j k : Nat) : Nat := ([[0, 0, 0], [5, 1, 1, 0, 0, 0], [0, 1, 0]].getD j []).getD k 0
/-- how many letters; the sign of the kind -/
def k_m (j : Nat) : Nat := (k_L j).length
def k_s1 (j : Nat) : Nat := [118, 100, 119].getD j 0
section IT
variable {g g' g'' h : fw_H} {B : Nat → Nat} {l p q d D v mo i j k nn F c n : Nat} {x y : Int32} {As : List Nat} {V : Nat → Nat}
theorem z_txt (hS : z_Sh h) (hj : j < 8) : f_txt h (some (j + 7)) = some j := by
  obtain ⟨L, xs, -, h0⟩ := hS.1
  unfold f_txt
  have e : h[j + 7]? = some (fw_XS j) := by
    rw [h0 (j + 7) (by omega), gl_h0, List.getElem?_append_right (by simp)]
    simp only [List.length_map, List.length_range]
    rw [List.getElem?_map, List.getElem?_range (by omega)]
    simp
  simp only [e]
theorem z_str (hS : z_Sh h) (hj : j < 4) : f_str h (some (j + 7)) = some j := by
  unfold f_str
  rw [z_txt hS (by omega), Option.bind_some, if_pos hj]
theorem z_byt (hS : z_Sh h) (hj : j < 4) : f_byt h (some (j + 11)) = some j := by
  unfold f_byt
  rw [show j + 11 = (j + 4) + 7 by omega, z_txt hS (by omega), Option.bind_some, if_pos (by omega), Nat.add_sub_cancel]
theorem k_len4 : ∀ j, j < 4 → fw_len.getD j 0 = k_m j ∧ k_m j ≤ 8 ∧ 0 < k_m j := by decide +kernel
theorem z_jlen (hS : z_Sh h) (hj : j < 4) : s_Jdk_length h (some (j + 7)) = some (nI (k_m j)) := by
  have := k_len4 j hj
  unfold s_Jdk_length s_Jdk_coder f_ckS f_gS f_lnY f_gC
  rw [z_str hS hj, Option.bind_some, Option.bind_some, Option.bind_some, Option.bind_some, z_byt hS hj, Option.bind_some, Option.bind_some, Option.bind_some, if_neg (by decide), Option.bind_some, Option.bind_some, show f_toY 0 = some 0 from by decide, Option.bind_some, Option.bind_some, this.1]
  congr 1
  show nI (k_m j) >>> ((0 : Int32) &&& 31) = _
  have h8 := this.2.1
  rw [show ((0 : Int32) &&& 31) = (nI 0 &&& 31) from rfl, pk_shrN (by omega) _ 0 (s_l 0 (by decide)), Nat.pow_zero, Nat.div_one]
theorem k_byt8 : ∀ j, j < 4 → ∀ i, i < k_m j → (fw_byt.getD j []).getD i 0 = nI ((k_L j).getD i 0) ∧ (k_L j).getD i 0 < 128 := by decide +kernel
theorem k_i2b : ∀ c, c < 256 → ∀ x, x < 128 → (nI x = fw_i2b (fw_i2c (nI c)) ↔ x = c) := by decide +kernel
theorem k_enc : ∀ c, c < 256 → s_Jdk_canEncode (fw_i2c (nI c)) = some true := by decide +kernel
theorem z_ixL (hS : z_Sh h) (hj : j < 4) (hc : c < 256) : ∀ (L : List Nat) (i nn : Nat), (k_L j).drop i = L → i ≤ k_m j → L.length < nn → l_Jdk_ixChar_7 h (some (j + 11)) (fw_i2c (nI c)) (nI (k_m j)) nn (nI i) = some (g_on (k_fi c i L) (-1)) := by
  have hl := k_len4 j hj
  intro L
  induction L with
  | nil =>
    intro i nn e hi hn
    obtain ⟨nn, rfl⟩ : ∃ k, nn = k + 1 := ⟨nn - 1, by omega⟩
    have h1 : k_m j ≤ i := z_dropN e
    rw [l_Jdk_ixChar_7, if_pos (nI_le h1 (by omega))]
    rfl
  | cons x L ih =>
    intro i nn e hi hn
    obtain ⟨nn, rfl⟩ : ∃ k, nn = k + 1 := ⟨nn - 1, by omega⟩
    obtain ⟨h1, h2, h3⟩ := z_drop e
    have h1' : i < k_m j := h1
    have hx : (k_L j).getD i 0 = x := by rw [List.getD_eq_getElem?_getD, h2]; rfl
    obtain ⟨b1, b2⟩ := k_byt8 j hj i h1'
    rw [hx] at b1 b2
    have ea : f_aY h (some (j + 11)) (nI i) = some (nI x) := by
      unfold f_aY
      rw [z_byt hS hj, Option.bind_some, nI_clamp (by omega), if_pos ⟨nI_pos (by omega), by rw [hl.1]; exact h1'⟩, b1]
    rw [l_Jdk_ixChar_7, if_neg (nI_ge h1' (by omega)), ea, Option.bind_some, nI_1]
    show _ = some (g_on (if c = x then some i else k_fi c (i + 1) L) (-1))
    by_cases hxc : x = c
    · rw [if_neg (fun z => z ((k_i2b c hc x b2).mpr hxc)), if_pos hxc.symm]
      rfl
    · rw [if_pos (fun z => hxc ((k_i2b c hc x b2).mp z)), if_neg (fun z => hxc z.symm)]
      exact ih (i + 1) nn h3 (by omega) (by simp at hn; omega)
theorem z_indexOf (hF : 70000 ≤ F) (hS : z_Sh h) (hj : j < 4) (hc : c < 256) : s_Jdk_indexOf1 F h (some (j + 7)) (fw_i2c (nI c)) = some (g_on (k_it j c) (-1)) := by
  have hl := k_len4 j hj
  have hix := z_ixL hS hj hc (k_L j) 0 F rfl (by omega) (by have : (k_L j).length = k_m j := rfl; omega)
  unfold s_Jdk_indexOf1 s_Jdk_indexOf2 s_Jdk_isLatin1
  have hck : f_ckS h (some (j + 7)) = some () := by unfold f_ckS; rw [z_str hS hj]; rfl
  have hgC : f_gC h (some (j + 7)) = some 0 := by unfold f_gC; rw [z_str hS hj]; rfl
  have hgS : f_gS h (some (j + 7)) = some (some (j + 11)) := by unfold f_gS; rw [z_str hS hj]; rfl
  have hln : f_lnY h (some (j + 11)) = some (nI (k_m j)) := by unfold f_lnY; rw [z_byt hS hj, Option.bind_some, hl.1]; rfl
  rw [hck, Option.bind_some, Option.bind_some, Option.bind_some, if_neg (by decide), hgC, Option.bind_some, if_neg (by decide), Option.bind_some, if_pos rfl, hgS, Option.bind_some, z_jlen hS hj, Option.bind_some]
  unfold s_Jdk_ixB s_Jdk_ixChar
  rw [k_enc c hc, Option.bind_some, if_pos rfl, hln, Option.bind_some]
  have e1 : fw_max (0 : Int32) (0 : Int32) = nI 0 := by decide
  have e2 : fw_min (nI (k_m j)) (nI (k_m j)) = nI (k_m j) := by rw [z_min (by omega) (by omega), Nat.min_self]
  rw [e1, e2, if_pos (nI_lt hl.2.2 (by omega)), hix]
  rfl
-- the class's tables
theorem z_xar (hS : z_Sh h) (hk : k < 6) : f_arI h (some (k + 1)) = some ((gl_sv.getD k []).length, fun j => (gl_sv.getD k []).getD j 0) := by
  obtain ⟨L, xs, -, h0⟩ := hS.1
  have e : h[k + 1]? = some (.inr (.inr (.inl (gl_xa L xs (k + 1))))) := by
    rw [h0 (k + 1) (by omega), gl_h0, List.getElem?_append_left (by simp; omega)]
    rw [List.getElem?_map, List.getElem?_range (by omega)]
    rfl
  have e2 : gl_xa L xs (k + 1) = ((gl_sv.getD k []).length, .inl fun j => (gl_sv.getD k []).getD j 0) := by
    unfold gl_xa
    rw [if_neg (Nat.succ_ne_zero k)]
    rfl
  rw [e2] at e
  unfold f_arI
  simp only [e]
theorem z_xget (hS : z_Sh h) (hk : k < 6) (hi : i < (gl_sv.getD k []).length) (hl : (gl_sv.getD k []).length ≤ 6) : s_Rows_get h (some (k + 1)) (nI i) = some ((gl_sv.getD k []).getD i 0) := by
  unfold s_Rows_get
  have e1 : f_lnI h (some (k + 1)) = some (nI (gl_sv.getD k []).length) := by unfold f_lnI; rw [z_xar hS hk]; rfl
  have e2 : f_aI h (some (k + 1)) (nI i) = some ((gl_sv.getD k []).getD i 0) := by
    unfold f_aI
    rw [z_xar hS hk, Option.bind_some, nI_clamp (by omega), if_pos ⟨nI_pos (by omega), hi⟩]
  rw [if_neg (by simp), if_neg (nI_pos (by omega)), e1, Option.bind_some, if_neg (nI_ge hi (by omega)), e2]
  rfl
theorem k_tabs : ∀ j, j < 3 → (gl_sv.getD j []).length = k_m j ∧ (gl_sv.getD (j + 3) []).length = k_m j ∧ k_m j ≤ 6 ∧ 3 ≤ k_m j ∧ ∀ k, k < k_m j → (gl_sv.getD j []).getD k 0 = nI (k_mx j k) ∧ (gl_sv.getD (j + 3) []).getD k 0 = nI (k_us j k) ∧ k_mx j k ≤ 23 ∧ k_us j k ≤ 9 := by decide +kernel
theorem z_xcopyL (hS0 : z_Sh h) (hj : j < 3) : ∀ (d i nn : Nat) (g : fw_H), i + d = k_m j → d < nn → z_fr [24] h g → (∀ k, k < i → z_A g 24 k = nI (k_us j k)) → ∃ g', l_Rows_copy_11 (some (j + 4)) (some 24) nn (nI i) g = some g' ∧ (z_fr [24] h g' ∧ ∀ k, k < k_m j → z_A g' 24 k = nI (k_us j k)) := by
  obtain ⟨t1, t2, t3, t4, t5⟩ := k_tabs j hj
  intro d
  have hln : ∀ g, z_Sh g → f_lnI g (some (j + 4)) = some (nI (k_m j)) := fun g hg => by unfold f_lnI; rw [show j + 4 = (j + 3) + 1 by omega, z_xar hg (by omega), Option.bind_some, t2]; rfl
  induction d with
  | zero =>
    intro i nn g hi hnn hf hA
    obtain ⟨nn, rfl⟩ : ∃ k, nn = k + 1 := ⟨nn - 1, by omega⟩
    have hg := hS0.fr hf (by decide)
    exact ⟨g, by rw [l_Rows_copy_11, hln g hg, Option.bind_some, if_pos (nI_le (by omega) (by omega))], hf, fun k hk => hA k (by omega)⟩
  | succ d ih =>
    intro i nn g hi hnn hf hA
    obtain ⟨nn, rfl⟩ : ∃ k, nn = k + 1 := ⟨nn - 1, by omega⟩
    have hg := hS0.fr hf (by decide)
    have ea : f_aI g (some (j + 4)) (nI i) = some (nI (k_us j i)) := by
      unfold f_aI
      rw [show j + 4 = (j + 3) + 1 by omega, z_xar hg (by omega), Option.bind_some, nI_clamp (by omega), if_pos ⟨nI_pos (by omega), by rw [t2]; omega⟩]
      exact congrArg some (t5 i (by omega)).2.1
    rw [l_Rows_copy_11, hln g hg, Option.bind_some, if_neg (nI_ge (by omega) (by omega)), z_l24 hg, Option.bind_some, if_neg (nI_ge (b := 6) (by omega) (by decide)), ea, Option.bind_some, z_s24 hg (by omega), Option.bind_some, nI_1]
    refine ih (i + 1) nn _ (by omega) (by omega) (hf.sA (by simp)) (fun k hk => ?_)
    rw [z_A_sA (z_ckT hg rfl)]
    by_cases e : k = i
    · rw [if_pos e, e]
    · rw [if_neg e]; exact hA k (by omega)
theorem z_xcopy (hF : 70000 ≤ F) (hS : z_Sh h) (hj : j < 3) : ∃ g', s_Rows_copy F h (some (j + 4)) (some 24) = some g' ∧ (z_fr [24] h g' ∧ ∀ k, k < k_m j → z_A g' 24 k = nI (k_us j k)) := by
  obtain ⟨t1, t2, t3, t4, t5⟩ := k_tabs j hj
  unfold s_Rows_copy
  rw [if_neg (by simp), if_neg (by simp)]
  exact z_xcopyL hS hj (k_m j) 0 F h (by omega) (by omega) z_fr.refl (fun k hk => absurd hk (Nat.not_lt_zero _))
-- the reference's tables
theorem k_mtab : ∀ j, j < 3 → (∀ c, c < 256 → s_Mod_itemOf (nI (k_s1 j)) (nI c) = some (g_on (k_it j c) (-1))) ∧ s_Mod_itemOf (nI (k_s1 j)) (-1) = some (-1) ∧ (∀ k, k < k_m j → s_Mod_highest (nI (k_s1 j)) (nI k) = some (nI (k_mx j k)) ∧ s_Mod_usual (nI (k_s1 j)) (nI k) = some (nI (k_us j k))) := by decide +kernel
theorem k_it_lt : ∀ j, j < 3 → ∀ c, c < 256 → ∀ k, k_it j c = some k → k < k_m j := by decide +kernel
theorem k_it_0 : ∀ j, j < 4 → k_it j 0 = none := by decide +kernel
end IT
