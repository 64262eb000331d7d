-- THE LIST OF ACTS: each side's part of it, and one act more
/-- the class's part: c acts, the next place nx, hours H, states S, how many hours behind each l -/
def j_ac (h : fw_H) (n : Nat) (T : Nat → Int32) (c nx : Nat) (H : Nat → Int32) (S : Nat → Nat → Int32) (l : Nat → Nat) : Prop :=
  c ≤ 40 ∧ nx < 40 ∧ z_I h 43 4 = nI c ∧ z_I h 43 5 = nI nx ∧ (∀ j, j ≤ c → w_log H (l j) (S j)) ∧
  (∀ j, j < c → w_step n T (z_A h 44 ((nx + 40 - c + j) % 40)) (z_A h 45 ((nx + 40 - c + j) % 40)) (z_A h 46 ((nx + 40 - c + j) % 40)) (z_A h 47 ((nx + 40 - c + j) % 40)) (S j) (S (j + 1)) (l j) (l (j + 1))) ∧
  (∀ j, j < c → (n = 0 → False) ∧ ∃ p q, p < n ∧ (q = 12 ∨ q < n) ∧ S j 54 = nI p ∧ S j 55 = z_b q) ∧
  z_I h 29 14 = nI (l c) ∧ ∀ i, i < l c → l 0 ≤ i + 60 → z_A h 33 (i % 100) = H i
/-- the reference's part -/
def j_am (h : fw_H) (c : Nat) (S : Nat → Nat → Int32) : Prop := z_I h 68 31 = nI c ∧ ∀ j, j < c → ∀ k, k < 118 → S j k = z_A h 86 (118 * j + k)
def j_c (c : Nat) : Nat := min (c + 1) 40
def j_d (c : Nat) : Nat := if c < 40 then 0 else 1
def j_S (c : Nat) (S : Nat → Nat → Int32) (f' : Nat → Int32) : Nat → Nat → Int32 := fun j => if j < j_c c then S (j + j_d c) else f'
def j_l (c : Nat) (l : Nat → Nat) (l' : Nat) : Nat → Nat := fun j => if j < j_c c then l (j + j_d c) else l'
/-- what keep has put down, in the class -/
def j_K (h g : fw_H) (c nx : Nat) (x y : Int32) (f : Nat → Int32) : Prop := z_I g 43 4 = nI (j_c c) ∧ z_I g 43 5 = nI ((nx + 1) % 40) ∧
  (∀ j, z_A g 44 j = if j = nx then x else z_A h 44 j) ∧ (∀ j, z_A g 45 j = if j = nx then y else z_A h 45 j) ∧ (∀ j, z_A g 46 j = if j = nx then f 54 else z_A h 46 j) ∧ ∀ j, z_A g 47 j = if j = nx then f 55 else z_A h 47 j
/-- what keep has put down, in the reference -/
def j_M (h g : fw_H) (c : Nat) (f : Nat → Int32) : Prop := z_I g 68 31 = nI (j_c c) ∧ (∀ t, t < 118 → z_A g 86 (118 * (min c 39) + t) = f t) ∧ ∀ t, t < 118 * (min c 39) → z_A g 86 t = z_A h 86 (t + 118 * j_d c)
section JP
variable {h g g' h' : fw_H} {c nx n i j k l' : Nat} {T f f' H H' s s' : Nat → Int32} {S : Nat → Nat → Int32} {l : Nat → Nat} {x y kd wh pl bf : Int32} {As : List Nat}
theorem w_acts.unf (hA : w_acts h n T f) : ∃ (c nx : Nat) (H : Nat → Int32) (S : Nat → Nat → Int32) (l : Nat → Nat), j_ac h n T c nx H S l ∧ j_am h c S ∧ S c = f := by
  obtain ⟨c, nx, H, S, l, a1, a2, a3, a4, a5, a6, a7, a8, a9, a10, a11, a12⟩ := hA
  exact ⟨c, nx, H, S, l, ⟨a1, a2, a3, a5, a8, a9, a10, a11, a12⟩, ⟨a4, a6⟩, a7⟩
theorem j_ac.shut (hA : j_ac h n T c nx H S l) (hM : j_am h c S) (hf : S c = f) : w_acts h n T f := by
  obtain ⟨a1, a2, a3, a5, a8, a9, a10, a11, a12⟩ := hA
  obtain ⟨a4, a6⟩ := hM
  exact ⟨c, nx, H, S, l, a1, a2, a3, a4, a5, a6, hf, a8, a9, a10, a11, a12⟩
theorem w_step.le {l l' : Nat} (hs : w_step n T kd wh pl bf s s' l l') : l ≤ l' ∧ l' ≤ l + 1 := by
  obtain ⟨-, -, hs⟩ := hs
  rcases hs with ⟨x, -, -, -, z, -⟩ | ⟨x, -, -, -, z, -⟩ | ⟨-, z, -⟩ | ⟨-, z, -⟩ | ⟨x, -, -, -, z, -⟩ | ⟨-, z, -⟩ | ⟨-, z, -⟩ <;> omega
theorem j_mono (hs : ∀ j, j < c → l j ≤ l (j + 1) ∧ l (j + 1) ≤ l j + 1) : ∀ (k j : Nat), j + k ≤ c → l j ≤ l (j + k) ∧ l (j + k) ≤ l j + k
  | 0, j, _ => by rw [Nat.add_zero]; omega
  | k + 1, j, h => by
    have h1 := j_mono hs k j (by omega)
    have h2 := hs (j + k) (by omega)
    rw [← Nat.add_assoc]
    omega
theorem w_log.of {l : Nat} (hH : ∀ i, i < l → H' i = H i) (h : w_log H l s) : w_log H' l s := ⟨⟨h.1.1, fun i hi => by rw [hH _ (by omega)]; exact h.1.2 i hi⟩, h.2⟩
theorem j_cd (hc : c ≤ 40) : (c < 40 ∧ j_d c = 0 ∧ j_c c = c + 1) ∨ (c = 40 ∧ j_d c = 1 ∧ j_c c = 40) := by
  unfold j_d j_c
  by_cases h : c < 40
  · rw [if_pos h]; exact .inl ⟨h, rfl, by omega⟩
  · rw [if_neg h]; exact .inr ⟨by omega, rfl, by omega⟩
/-- one act more, the class -/
theorem j_push (hA : j_ac h n T c nx H S l) (hf : S c = f) (hK : j_K h g c nx x y f) (hs : w_step n T x y (f 54) (f 55) f f' (l c) l') (hlog : w_log H' l' f') (hH : ∀ i, i < l c → H' i = H i)
    (hpos : (n = 0 → False) ∧ ∃ p q, p < n ∧ (q = 12 ∨ q < n) ∧ f 54 = nI p ∧ f 55 = z_b q) (b14 : z_I g 29 14 = nI l') (b33 : ∀ i, i < l' → l (j_d c) ≤ i + 60 → z_A g 33 (i % 100) = H' i) :
    j_ac g n T (j_c c) ((nx + 1) % 40) H' (j_S c S f') (j_l c l l') := by
  obtain ⟨a1, a2, a3, a4, a5, a6, a7, a8, a9⟩ := hA
  obtain ⟨b4, b5, b44, b45, b46, b47⟩ := hK
  have hm := j_mono (c := c) (l := l) fun j hj => (a6 j hj).le
  have hd := j_cd a1
  have hle := hs.le
  refine ⟨by omega, Nat.mod_lt _ (by decide), b4, b5, fun j hj => ?_, fun j hj => ?_, fun j hj => ?_, ?_, fun i h1 h2 => ?_⟩
  · unfold j_l j_S
    by_cases e : j < j_c c
    · rw [if_pos e, if_pos e]
      have h1 := hm (c - (j + j_d c)) (j + j_d c) (by omega)
      rw [show j + j_d c + (c - (j + j_d c)) = c by omega] at h1
      exact (a5 (j + j_d c) (by omega)).of (fun i hi => hH i (by omega))
    · rw [if_neg e, if_neg e]; exact hlog
  · unfold j_l j_S
    by_cases e : j + 1 < j_c c
    · rw [if_pos e, if_pos e, if_pos hj, if_pos hj]
      have h1 := a6 (j + j_d c) (by omega)
      rw [show (nx + 40 - c + (j + j_d c)) % 40 = ((nx + 1) % 40 + 40 - j_c c + j) % 40 by omega] at h1
      rw [b44, b45, b46, b47, if_neg (by omega), if_neg (by omega), if_neg (by omega), if_neg (by omega), show j + 1 + j_d c = j + j_d c + 1 by omega]
      exact h1
    · rw [if_neg e, if_neg e, if_pos hj, if_pos hj, b44, b45, b46, b47, if_pos (by omega), if_pos (by omega), if_pos (by omega), if_pos (by omega), show j + j_d c = c by omega, hf]
      exact hs
  · unfold j_S
    rw [if_pos hj]
    by_cases e : j + j_d c < c
    · exact a7 _ e
    · rw [show j + j_d c = c by omega, hf]; exact hpos
  · unfold j_l
    rw [if_neg (by omega)]
    exact b14
  · unfold j_l at h1 h2
    rw [if_neg (by omega)] at h1
    rw [if_pos (by omega), Nat.zero_add] at h2
    exact b33 i h1 h2
/-- one act more, the reference -/
theorem j_pushM (hc : c ≤ 40) (hM : j_am h c S) (hf : S c = f) (hg : j_M h g c f) : j_am g (j_c c) (j_S c S f') := by
  obtain ⟨m1, m2⟩ := hM
  obtain ⟨g1, g2, g3⟩ := hg
  have hd := j_cd hc
  refine ⟨g1, fun j hj k hk => ?_⟩
  unfold j_S
  rw [if_pos hj]
  by_cases e : j < min c 39
  · rw [g3 _ (by omega), m2 (j + j_d c) (by omega) k hk]
    congr 1
    omega
  · rw [show j + j_d c = c by omega, hf, show 118 * j + k = 118 * (min c 39) + k by omega, g2 k hk]
theorem j_S_end : j_S c S f' (j_c c) = f' := if_neg (Nat.lt_irrefl _)
theorem j_l_end : j_l c l l' (j_c c) = l' := if_neg (Nat.lt_irrefl _)
theorem j_K.fr (hf : z_fr As g g') (hA : 43 ∉ As ∧ 44 ∉ As ∧ 45 ∉ As ∧ 46 ∉ As ∧ 47 ∉ As) (hK : j_K h g c nx x y f) : j_K h g' c nx x y f := by
  obtain ⟨b4, b5, b44, b45, b46, b47⟩ := hK
  obtain ⟨h43, h44, h45, h46, h47⟩ := hA
  exact ⟨by rw [hf.I h43]; exact b4, by rw [hf.I h43]; exact b5, fun j => by rw [hf.A h44]; exact b44 j, fun j => by rw [hf.A h45]; exact b45 j, fun j => by rw [hf.A h46]; exact b46 j, fun j => by rw [hf.A h47]; exact b47 j⟩
theorem j_ac.fr (hf : z_fr As g g') (hA : ∀ j, j ∈ [29, 33, 43, 44, 45, 46, 47] → j ∉ As) (hK : j_ac g n T c nx H S l) : j_ac g' n T c nx H S l := by
  obtain ⟨a1, a2, a3, a4, a5, a6, a7, a8, a9⟩ := hK
  refine ⟨a1, a2, by rw [hf.I (hA 43 (by decide))]; exact a3, by rw [hf.I (hA 43 (by decide))]; exact a4, a5, fun j hj => ?_, a7, by rw [hf.I (hA 29 (by decide))]; exact a8, fun i h1 h2 => by rw [hf.A (hA 33 (by decide))]; exact a9 i h1 h2⟩
  rw [hf.A (hA 44 (by decide)), hf.A (hA 45 (by decide)), hf.A (hA 46 (by decide)), hf.A (hA 47 (by decide))]
  exact a6 j hj
theorem j_am.fr (hf : z_fr As g g') (h86 : 86 ∉ As) (h31 : z_I g' 68 31 = z_I g 68 31) (hM : j_am g c S) : j_am g' c S := ⟨h31.trans hM.1, fun j hj k hk => by rw [hf.A h86]; exact hM.2 j hj k hk⟩
/-- keep, the class -/
theorem j_keep {w : Nat} {Wd : Nat → Int32} (hS : z_Sh h) (hA : j_ac h n T c nx H S l) (hR : v_R h 29 n w T Wd f) (h0 : 0 < n) (h12 : n ≤ 12) :
    ∃ g, s_Acts_keep h (some 43) x y (some 29) = some g ∧ (z_fr [43, 44, 45, 46, 47] h g ∧ j_K h g c nx x y f) := by
  obtain ⟨p1, p2, p3, p4, p5, p6, p7, p8, p9⟩ := hR.pos h0 h12
  obtain ⟨g, b1, b2, b3, b4, b5, b6, b7, b8⟩ := z_akeep (x := x) (y := y) hS hA.1 hA.2.1 hA.2.2.1 hA.2.2.2.1
  exact ⟨g, b1, b2, b3, b4, b5, b6, fun j => by rw [b7, p7, p1], fun j => by rw [b8, p8, p3]⟩
/-- keep, the reference -/
theorem j_mkeep {F : Nat} (hF : 70000 ≤ F) (hS : z_Sh h) (hc : c ≤ 40) (h31 : z_I h 68 31 = nI c) (hf : ∀ t, t < 118 → z_A h 84 t = f t) :
    ∃ g, s_Mod_keep F h (some 68) = some g ∧ (z_fr [68, 86] h g ∧ (∀ k, k ≠ 31 → z_I g 68 k = z_I h 68 k) ∧ j_M h g c f) := by
  have hd := j_cd hc
  obtain ⟨g, b1, b2, b3, b4, b5, b6, b7⟩ := z_mkeep (c' := min c 39) (d := j_d c) hF hS hc h31 hf (by omega)
  exact ⟨g, b1, b2, b3, by rw [b5]; congr 1; omega, b6, b7⟩
/-- now[k] is told otherwise, the reference -/
theorem j_tells {F : Nat} {b is : Bool} (hF : 70000 ≤ F) (hS : z_Sh h) (hc : c ≤ 40) (h31 : z_I h 68 31 = nI c) (hf : ∀ t, t < 118 → z_A h 84 t = f t) (hk : k < 118) (hb : f k = fw_b b) (hne : b ≠ is) :
    ∃ g, s_Mod_tells F h (some 68) (nI k) is = some (true, g) ∧ (z_fr [68, 84, 86] h g ∧ (∀ k, k ≠ 31 → z_I g 68 k = z_I h 68 k) ∧ j_M h g c f ∧ ∀ t, t < 118 → z_A g 84 t = if t = k then fw_b is else f t) := by
  obtain ⟨g1, a1, a2, a3, a4⟩ := j_mkeep hF hS hc h31 hf
  have S1 := hS.fr a2 (by decide)
  refine ⟨z_sA g1 84 k (fw_b is), ?_, ((a2.mono (by simp)).sA (by simp)), fun k hk => by rw [z_I_sA]; exact a3 k hk, ⟨by rw [z_I_sA]; exact a4.1, fun t ht => by rw [z_A_sA_ne (by decide)]; exact a4.2.1 t ht, fun t ht => by rw [z_A_sA_ne (by decide)]; exact a4.2.2 t ht⟩, fun t ht => ?_⟩
  · unfold s_Mod_tells
    simp only [fw_jn]
    rw [z_c68 hS, Option.bind_some, z_r68_26 hS, Option.bind_some, z_a84 hS hk, Option.bind_some, hf k hk, hb, a1, Option.bind_some, z_r68_26 S1, Option.bind_some]
    cases is
    · rw [if_neg (by decide), if_pos (show ¬ fw_b b = (0 : Int32) from fun z => hne (fw_b_inj (c := false) z)), if_neg (by decide), show (0 : Int32) = fw_b false from rfl, z_s84 S1 hk]
      rfl
    · rw [if_pos rfl, if_pos (show ¬ fw_b b = (1 : Int32) from fun z => hne (fw_b_inj (c := true) z)), if_pos rfl, show (1 : Int32) = fw_b true from rfl, z_s84 S1 hk]
      rfl
  · rw [z_A_sA (z_ckT S1 rfl)]
    by_cases e : t = k
    · rw [if_pos e, if_pos e]
    · rw [if_neg e, if_neg e, a2.A (by decide)]; exact hf t ht
theorem j_tellsN {F : Nat} {b : Bool} (hS : z_Sh h) (hf : ∀ t, t < 118 → z_A h 84 t = f t) (hk : k < 118) (hb : f k = fw_b b) : s_Mod_tells F h (some 68) (nI k) b = some (false, h) := by
  unfold s_Mod_tells
  simp only [fw_jn]
  rw [z_c68 hS, Option.bind_some, z_r68_26 hS, Option.bind_some, z_a84 hS hk, Option.bind_some, hf k hk, hb]
  cases b
  · rw [if_neg (by decide), if_neg (fun z => z rfl)]
  · rw [if_pos rfl, if_neg (fun z => z rfl)]
end JP
