-- AN HOUR GOES BY IN THE VILLAGE: as numbers; laughs; the class's passHour and takeHourBack
/-- the state behind an hour: it is at a, b before; l hours logged ahead of it -/
def j_h (n : Nat) (T f : Nat → Int32) (a b l : Nat) : Nat → Int32 := fun j =>
  if j = 54 then nI a else if j = 55 then z_b b else if j = 56 then nI (v_hr f + 1) else if j = 57 then nI (min (l + 1) 60)
  else if 24 ≤ j ∧ j < 24 + n then f j + (if j - 24 = a then (1 : Int32) else 0) + (if v_hr f % 24 = 6 then T (6 * (j - 24) + 3) else 0)
  else if 58 ≤ j then (if l < 60 then (if j = 58 + l then nI a else f j) else (if j < 117 then f (j + 1) else nI a)) else f j
section JH
variable {h g g' : fw_H} {n w i k t x a b l p q F nn : Nat} {T Wd f f' H : Nat → Int32} {v y : Int32} {As : List Nat}
theorem j_h_low (h1 : k < 24 ∨ (36 ≤ k ∧ k < 54)) (h12 : n ≤ 12) : j_h n T f a b l k = f k := by
  unfold j_h
  rw [if_neg (by omega), if_neg (by omega), if_neg (by omega), if_neg (by omega), if_neg (by omega), if_neg (by omega)]
theorem j_h54 : j_h n T f a b l 54 = nI a := rfl
theorem j_h55 : j_h n T f a b l 55 = z_b b := rfl
theorem j_h56 : j_h n T f a b l 56 = nI (v_hr f + 1) := rfl
theorem j_h57 : j_h n T f a b l 57 = nI (min (l + 1) 60) := rfl
theorem j_h24 (hx : x < n) (h12 : n ≤ 12) : j_h n T f a b l (24 + x) = f (24 + x) + (if x = a then (1 : Int32) else 0) + (if v_hr f % 24 = 6 then T (6 * x + 3) else 0) := by
  unfold j_h
  rw [if_neg (by omega), if_neg (by omega), if_neg (by omega), if_neg (by omega), if_pos (by omega), Nat.add_sub_cancel_left]
theorem j_h24n (hx : n ≤ x) (h1 : x < 12) : j_h n T f a b l (24 + x) = f (24 + x) := by
  unfold j_h
  rw [if_neg (by omega), if_neg (by omega), if_neg (by omega), if_neg (by omega), if_neg (by omega), if_neg (by omega)]
theorem j_h58 (hk : k < 60) (h12 : n ≤ 12) : j_h n T f a b l (58 + k) = if l < 60 then (if k = l then nI a else f (58 + k)) else (if k < 59 then f (58 + k + 1) else nI a) := by
  unfold j_h
  have h1 : ¬ (24 ≤ 58 + k ∧ 58 + k < 24 + n) := by omega
  rw [if_neg (by omega), if_neg (by omega), if_neg (by omega), if_neg (by omega), if_neg h1, if_pos (by omega)]
  by_cases h2 : l < 60
  · rw [if_pos h2, if_pos h2]
    by_cases h3 : k = l
    · rw [if_pos h3, if_pos (by omega)]
    · rw [if_neg h3, if_neg (by omega)]
  · rw [if_neg h2, if_neg h2]
    by_cases h3 : k < 59
    · rw [if_pos h3, if_pos (by omega)]
    · rw [if_neg h3, if_neg (by omega)]
/-- the log behind it -/
theorem j_h_log (hL : w_log H l f) (h12 : n ≤ 12) (hl9 : l < 9999) : w_log (fun i => if i = l then nI a else H i) (l + 1) (j_h n T f a b l) := by
  obtain ⟨⟨g1, g2⟩, -, g3⟩ := hL
  refine ⟨⟨j_h57, fun i hi => ?_⟩, by omega, fun x hx => by rw [j_h_low (by omega) h12]; exact g3 x hx⟩
  rw [j_h58 (by omega) h12]
  by_cases h1 : l < 60
  · rw [if_pos h1]
    by_cases h2 : i = 0
    · rw [if_pos (by omega)]
      show _ = if l + 1 - 1 - i = l then _ else _
      rw [if_pos (by omega)]
    · have h3 := g2 (i - 1) (by omega)
      rw [if_neg (by omega)]
      show _ = if l + 1 - 1 - i = l then _ else _
      rw [if_neg (by omega), show l + 1 - 1 - i = l - 1 - (i - 1) by omega, ← h3]
      congr 1
      omega
  · rw [if_neg h1]
    by_cases h2 : i = 0
    · rw [if_neg (by omega)]
      show _ = if l + 1 - 1 - i = l then _ else _
      rw [if_pos (by omega)]
    · have h3 := g2 (i - 1) (by omega)
      rw [if_pos (by omega)]
      show _ = if l + 1 - 1 - i = l then _ else _
      rw [if_neg (by omega), show l + 1 - 1 - i = l - 1 - (i - 1) by omega, ← h3]
      congr 1
      omega
theorem j_back (s d k : Int32) : s + d + k + -d + -k = s := by
  rw [Int32.add_assoc s d k, Int32.add_comm d k, ← Int32.add_assoc, ← Int32.sub_eq_add_neg, ← Int32.sub_eq_add_neg, Int32.add_sub_cancel, Int32.add_sub_cancel]
theorem j_m1 (y : Int32) : (-1 : Int32) * y = -y := by
  rw [Int32.neg_mul]
  simp
theorem j_h_lau (hx : x < n) (h12 : n ≤ 12) (ha : a < 12) : f (24 + x) = j_h n T f a b l (24 + x) + (if j_h n T f a b l 54 = nI x then (-1 : Int32) else 0) + (if v_hr f % 24 = 6 then (-1 : Int32) * T (6 * x + 3) else 0) := by
  rw [j_h24 hx h12, j_h54]
  by_cases h1 : x = a
  · rw [if_pos h1, if_pos (show nI a = nI x by rw [h1])]
    by_cases h2 : v_hr f % 24 = 6
    · rw [if_pos h2, if_pos h2, j_m1]; exact (j_back _ _ _).symm
    · rw [if_neg h2, if_neg h2]
      have := j_back (f (24 + x)) 1 0
      simpa using this.symm
  · rw [if_neg h1, if_neg (fun z => h1 ((nI_eq (by omega) (by omega)).mp z).symm)]
    by_cases h2 : v_hr f % 24 = 6
    · rw [if_pos h2, if_pos h2, j_m1]
      have := j_back (f (24 + x)) 0 (T (6 * x + 3))
      simpa using this.symm
    · rw [if_neg h2, if_neg h2, Int32.add_zero, Int32.add_zero, Int32.add_zero, Int32.add_zero]
/-- the hour on the list -/
theorem j_h_step (h12 : n ≤ 12) (h56 : f 56 = nI (v_hr f)) (ht : v_hr f < 9999) (ha : a < 12) : w_step n T (nI 6) y (f 54) (f 55) f (j_h n T f a b l) k (k + 1) :=
  ⟨rfl, rfl, .inr (.inr (.inr (.inr (.inr (.inr ⟨rfl, rfl, ⟨v_hr f, ht, h56, j_h56, fun x hx => j_h_lau hx h12 ha⟩, fun j h1 h2 h3 h4 h5 h6 => (j_h_low (by omega) h12).symm⟩)))))⟩
-- the class's laughs
theorem z_laugh (hS : z_Sh h) (hx : x < 12) : s_Vil_laugh h (some 29) (nI x) v = some (z_sA h 31 x (z_A h 31 x + v)) := by
  unfold s_Vil_laugh
  rw [z_c29 hS, Option.bind_some, z_r29_3 hS, Option.bind_some, Option.bind_some, z_rget (z_ckT hS rfl) hx (by decide), Option.bind_some, z_rput (z_ckT hS rfl) hx (by decide)]
  rfl
theorem z_laughL (hn : n ≤ 12) (ht : t ≤ 9999) : ∀ (k i nn : Nat) (g : fw_H), i + k = n → k < nn → z_Sh g → z_I g 29 0 = nI n → z_I g 29 12 = nI t → (∀ x, x < n → z_A g 30 (5 * x + 3) = T (6 * x + 3)) →
    ∃ g', l_Vil_laughAll_11 (some 29) v nn (nI i) g = some g' ∧ (z_fr [31] g g' ∧ ∀ x, x < n → z_A g' 31 x = z_A g 31 x + if t % 24 = 6 ∧ i ≤ x then v * T (6 * x + 3) else 0) := by
  intro k
  induction k with
  | zero =>
    intro i nn g hi hnn hS h0 hT hK
    obtain ⟨nn, rfl⟩ : ∃ k, nn = k + 1 := ⟨nn - 1, by omega⟩
    refine ⟨g, ?_, z_fr.refl, fun x hx => by rw [if_neg (by omega), Int32.add_zero]⟩
    rw [l_Vil_laughAll_11, z_i29_0 hS, Option.bind_some, h0, if_pos (nI_le (by omega) (by omega))]
  | succ k ih =>
    intro i nn g hi hnn hS h0 hT hK
    obtain ⟨nn, rfl⟩ : ∃ k, nn = k + 1 := ⟨nn - 1, by omega⟩
    rw [l_Vil_laughAll_11, z_i29_0 hS, Option.bind_some, h0, if_neg (nI_ge (by omega) (by omega)), z_i29_12 hS, Option.bind_some, hT, show (24 : Int32) = nI 24 from rfl, z_irem (by omega) (by decide) (by decide), Option.bind_some]
    by_cases h6 : t % 24 = 6
    · rw [if_neg (fun z => z (by rw [h6]; rfl)), show (3 : Int32) = nI 3 from rfl, z_trait hS (.inr (.inl rfl)) (by omega) (by decide), Option.bind_some, show z_A g (29 + 1) (5 * i + 3) = T (6 * i + 3) from hK i (by omega), z_laugh hS (by omega), Option.bind_some, show nI i + (1 : Int32) = nI (i + 1) from nI_1 i]
      have f1 : z_fr [31] g (z_sA g 31 i (z_A g 31 i + v * T (6 * i + 3))) := z_fr.refl.sA (by simp)
      obtain ⟨g2, b1, b2, b3⟩ := ih (i + 1) nn (z_sA g 31 i (z_A g 31 i + v * T (6 * i + 3))) (by omega) (by omega) (z_Sh_sA hS) (by rw [f1.I (by decide)]; exact h0) (by rw [f1.I (by decide)]; exact hT) (fun x hx => by rw [f1.A (by decide)]; exact hK x hx)
      refine ⟨g2, b1, f1.trans b2, fun x hx => ?_⟩
      rw [b3 x hx, z_A_sA (z_ckT hS rfl)]
      by_cases e : x = i
      · subst e
        rw [if_pos rfl, if_neg (by omega), if_pos (by omega), Int32.add_zero]
      · rw [if_neg e]
        by_cases e2 : i ≤ x
        · rw [if_pos (by omega), if_pos (by omega)]
        · rw [if_neg (by omega), if_neg (by omega)]
    · rw [if_pos (show ¬ nI (t % 24) = (6 : Int32) from fun z => h6 ((nI_eq (b := 6) (by omega) (by decide)).mp z))]
      exact ⟨g, rfl, z_fr.refl, fun x hx => by rw [if_neg (by omega), Int32.add_zero]⟩
/-- laughAll -/
theorem z_laughAll (hF : 70000 ≤ F) (hS : z_Sh h) (hn : n ≤ 12) (ht : t ≤ 9999) (ha : a < n) (h0 : z_I h 29 0 = nI n) (h10 : z_I h 29 10 = nI a) (hT : z_I h 29 12 = nI t) (hK : ∀ x, x < n → z_A h 30 (5 * x + 3) = T (6 * x + 3)) :
    ∃ g', s_Vil_laughAll F h (some 29) v = some g' ∧ (z_fr [31] h g' ∧ ∀ x, x < n → z_A g' 31 x = z_A h 31 x + (if x = a then v else 0) + if t % 24 = 6 then v * T (6 * x + 3) else 0) := by
  unfold s_Vil_laughAll
  rw [z_c29 hS, Option.bind_some, z_i29_10 hS, Option.bind_some, h10, z_laugh hS (by omega), Option.bind_some]
  have f1 : z_fr [31] h (z_sA h 31 a (z_A h 31 a + v)) := z_fr.refl.sA (by simp)
  obtain ⟨g2, b1, b2, b3⟩ := z_laughL (T := T) (v := v) hn ht n 0 F (z_sA h 31 a (z_A h 31 a + v)) (by omega) (by omega) (z_Sh_sA hS) (by rw [f1.I (by decide)]; exact h0) (by rw [f1.I (by decide)]; exact hT) (fun x hx => by rw [f1.A (by decide)]; exact hK x hx)
  refine ⟨g2, b1, f1.trans b2, fun x hx => ?_⟩
  rw [b3 x hx, z_A_sA (z_ckT hS rfl)]
  have e2 : (if t % 24 = 6 ∧ 0 ≤ x then v * T (6 * x + 3) else 0) = if t % 24 = 6 then v * T (6 * x + 3) else 0 := by
    by_cases h6 : t % 24 = 6
    · rw [if_pos ⟨h6, Nat.zero_le _⟩, if_pos h6]
    · rw [if_neg (fun z => h6 z.1), if_neg h6]
  rw [e2]
  by_cases e : x = a
  · subst e; rw [if_pos rfl, if_pos rfl]
  · rw [if_neg e, if_neg e, Int32.add_zero]
/-- passHour -/
theorem z_passHour (hF : 70000 ≤ F) (hS : z_Sh h) (hn : n ≤ 12) (ht : t < 9999) (ha : a < n) (h0 : z_I h 29 0 = nI n) (hT : z_I h 29 12 = nI t) (hl : z_I h 29 14 = nI l) (hlt : l ≤ t) (hK : ∀ x, x < n → z_A h 30 (5 * x + 3) = T (6 * x + 3)) :
    ∃ g', s_Vil_passHour F h (some 29) (nI a) y = some g' ∧ (z_fr [29, 31, 33] h g' ∧ (∀ k, k ≠ 10 → k ≠ 11 → k ≠ 12 → k ≠ 14 → z_I g' 29 k = z_I h 29 k) ∧ z_I g' 29 10 = nI a ∧ z_I g' 29 11 = y ∧ z_I g' 29 12 = nI (t + 1) ∧ z_I g' 29 14 = nI (l + 1) ∧
      (∀ x, x < n → z_A g' 31 x = z_A h 31 x + (if x = a then (1 : Int32) else 0) + if t % 24 = 6 then T (6 * x + 3) else 0) ∧ ∀ j, z_A g' 33 j = if j = l % 100 then nI a else z_A h 33 j) := by
  obtain ⟨g1, hg1⟩ : ∃ g1, g1 = z_sI h 29 10 (nI a) := ⟨_, rfl⟩
  have S1 : z_Sh g1 := by rw [hg1]; exact z_Sh_sI hS
  obtain ⟨g2, hg2⟩ : ∃ g2, g2 = z_sI g1 29 11 y := ⟨_, rfl⟩
  have S2 : z_Sh g2 := by rw [hg2]; exact z_Sh_sI S1
  have f2 : z_fr [29] h g2 := by rw [hg2, hg1]; exact (z_fr.refl.sI (by simp)).sI (by simp)
  have i2 : ∀ k, k ≠ 10 → k ≠ 11 → z_I g2 29 k = z_I h 29 k := fun k h1 h2 => by rw [hg2, z_I_sI_nk h2, hg1, z_I_sI_nk h1]
  have i10 : z_I g2 29 10 = nI a := by rw [hg2, z_I_sI_nk (by decide), hg1, z_II hS 7 rfl]
  have i11 : z_I g2 29 11 = y := by rw [hg2, z_II S1 7 rfl]
  obtain ⟨g3, a1, a2, a3⟩ := z_laughAll (T := T) (v := 1) hF S2 hn (by omega) ha ((i2 0 (by decide) (by decide)).trans h0) i10 ((i2 12 (by decide) (by decide)).trans hT) (fun x hx => by rw [f2.A (by decide)]; exact hK x hx)
  have S3 := S2.fr a2 (by decide)
  have e12 : z_I g3 29 12 = nI t := by rw [a2.I (by decide), i2 12 (by decide) (by decide)]; exact hT
  have e14 : z_I g3 29 14 = nI l := by rw [a2.I (by decide), i2 14 (by decide) (by decide)]; exact hl
  have e10 : z_I g3 29 10 = nI a := by rw [a2.I (by decide)]; exact i10
  obtain ⟨g4, hg4⟩ : ∃ g4, g4 = z_sI g3 29 12 (nI (t + 1)) := ⟨_, rfl⟩
  have S4 : z_Sh g4 := by rw [hg4]; exact z_Sh_sI S3
  obtain ⟨g5, hg5⟩ : ∃ g5, g5 = z_sA g4 33 (l % 100) (nI a) := ⟨_, rfl⟩
  have S5 : z_Sh g5 := by rw [hg5]; exact z_Sh_sA S4
  obtain ⟨g6, hg6⟩ : ∃ g6, g6 = z_sI g5 29 14 (nI (l + 1)) := ⟨_, rfl⟩
  have c14 : z_I g4 29 14 = nI l := by rw [hg4, z_I_sI_nk (by decide)]; exact e14
  have c10 : z_I g4 29 10 = nI a := by rw [hg4, z_I_sI_nk (by decide)]; exact e10
  have d14 : z_I g5 29 14 = nI l := by rw [hg5, z_I_sA]; exact c14
  have i6 : ∀ k, k ≠ 12 → k ≠ 14 → z_I g6 29 k = z_I g2 29 k := fun k h1 h2 => by rw [hg6, z_I_sI_nk h2, hg5, z_I_sA, hg4, z_I_sI_nk h1, a2.I (by decide)]
  unfold s_Vil_passHour
  rw [z_c29 hS, Option.bind_some, z_w29_10 hS, Option.bind_some, ← hg1, z_w29_11 S1, Option.bind_some, ← hg2, a1, Option.bind_some, z_i29_12 S3, Option.bind_some, e12, show nI t + (1 : Int32) = nI (t + 1) from nI_1 t, z_w29_12 S3, Option.bind_some, ← hg4, z_r29_13 S4, Option.bind_some, z_i29_14 S4, Option.bind_some, c14, show (100 : Int32) = nI 100 from rfl, z_irem (by omega) (by decide) (by decide), Option.bind_some, z_i29_10 S4, Option.bind_some, c10, z_rput (z_ckT S4 rfl) (Nat.mod_lt _ (by decide)) (by decide), Option.bind_some, ← hg5, z_i29_14 S5, Option.bind_some, d14, show nI l + (1 : Int32) = nI (l + 1) from nI_1 l, z_w29_14 S5, Option.bind_some, ← hg6]
  refine ⟨g6, rfl, ?_, fun k h1 h2 h3 h4 => (i6 k h3 h4).trans (i2 k h1 h2), (i6 10 (by decide) (by decide)).trans i10, (i6 11 (by decide) (by decide)).trans i11, ?_, ?_, fun x hx => ?_, fun j => ?_⟩
  · have f4 : z_fr [29, 31, 33] h g3 := (f2.mono (by simp)).trans (a2.mono (by simp))
    rw [hg6, hg5, hg4]
    exact ((f4.sI (by simp)).sA (by simp)).sI (by simp)
  · rw [hg6, z_I_sI_nk (by decide), hg5, z_I_sA, hg4, z_II S3 7 rfl]
  · rw [hg6, z_II S5 7 rfl]
  · rw [hg6, z_A_sI, hg5, z_A_sA_ne (by decide), hg4, z_A_sI, a3 x hx, f2.A (by decide)]
    congr 1
    by_cases h6 : t % 24 = 6
    · rw [if_pos h6, if_pos h6]; simp
    · rw [if_neg h6, if_neg h6]
  · rw [hg6, z_A_sI, hg5, z_A_sA (z_ckT S4 rfl)]
    by_cases e : j = l % 100
    · rw [if_pos e, if_pos e]
    · rw [if_neg e, if_neg e, hg4, z_A_sI, a2.A (by decide), f2.A (by decide)]
end JH
