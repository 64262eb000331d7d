-- A VILLAGE READ WHOLE, both sides
def k_hw (g : fw_H) (nh j : Nat) : Bool := v_in (z_A g 22 (2 * j)) nh && (v_in (z_A g 22 (2 * j + 1)) nh && !decide (z_A g 22 (2 * j) = z_A g 22 (2 * j + 1)))
/-- the class's draft is all right -/
def k_Z (g m : fw_H) : Prop := ∃ nh nw td, k_D g m nh nw td ∧ g_alf (k_hw g nh) nw 0 = true ∧ v_in (z_I g 19 10) nh = true ∧ (z_I g 19 6 = 0 ∧ z_I g 19 9 = 0 ∧ z_I g 19 11 = -1 ∧ z_I g 19 14 = 0) ∧ ∀ i, i < 12 → z_A g 21 i = 0
section WH
variable {g g' g'' h m M : fw_H} {B : Nat → Nat} {l p q d D v mo i j k nn mm F c n f th o ar off w nh nw r a : Nat} {x y : Int32} {As : List Nat} {V : Nat → Nat} {td t : Bool} {P : Nat → Bool}
theorem z_holdsL (hS : z_Sh g) (h0 : z_I g 19 0 = nI nh) (h1 : z_I g 19 1 = nI nw) (h16 : nw ≤ 16) {K : Unit → Option Bool} : ∀ (d i nn : Nat), i + d = nw → d < nn → l_Vil_holdsTogether_2 g (some 19) K nn (nI i) = if g_alf (k_hw g nh) d i = true then K () else some false := by
  intro d
  have e2 : ∀ i, nI i * (2 : Int32) = nI (2 * i) := fun i => by rw [show (2 : Int32) = nI 2 from rfl, pk_mul, Nat.mul_comm]
  induction d with
  | zero =>
    intro i nn hi hnn
    obtain ⟨nn, rfl⟩ : ∃ k, nn = k + 1 := ⟨nn - 1, by omega⟩
    rw [l_Vil_holdsTogether_2, z_i19_1 hS, Option.bind_some, h1, if_pos (nI_le (by omega) (by omega))]
    rfl
  | succ d ih =>
    intro i nn hi hnn
    obtain ⟨nn, rfl⟩ : ∃ k, nn = k + 1 := ⟨nn - 1, by omega⟩
    have g0 : s_Vil_endOf g (some 19) (nI i) (0 : Int32) = some (z_A g 22 (2 * i)) := by
      unfold s_Vil_endOf
      rw [z_c19 hS, Option.bind_some, z_r19_4 hS, Option.bind_some, e2, show (0 : Int32) = nI 0 from rfl, nI_add, z_rget (z_ckT hS rfl) (by omega : 2 * i + 0 < 32) (by decide)]
      rfl
    have g1 : s_Vil_endOf g (some 19) (nI i) (1 : Int32) = some (z_A g 22 (2 * i + 1)) := by
      unfold s_Vil_endOf
      rw [z_c19 hS, Option.bind_some, z_r19_4 hS, Option.bind_some, e2, nI_1, z_rget (z_ckT hS rfl) (by omega : 2 * i + 1 < 32) (by decide)]
      rfl
    rw [l_Vil_holdsTogether_2, z_i19_1 hS, Option.bind_some, h1, if_neg (nI_ge (by omega) (by omega)), g0, Option.bind_some, g1, Option.bind_some, z_areTwo hS (.inl rfl) h0, Option.bind_some, nI_1]
    show (if k_hw g nh i = true then l_Vil_holdsTogether_2 g (some 19) K nn (nI (i + 1)) else some false) = if (k_hw g nh i && g_alf (k_hw g nh) d (i + 1)) = true then K () else some false
    cases hk : k_hw g nh i with
    | true => rw [if_pos rfl, ih (i + 1) nn (by omega) (by omega), Bool.true_and]
    | false => rw [if_neg (by decide), Bool.false_and, if_neg (by decide)]
theorem z_holds (hF : 70000 ≤ F) (hS : z_Sh g) (h0 : z_I g 19 0 = nI nh) (h1 : z_I g 19 1 = nI nw) (h16 : nw ≤ 16) : s_Vil_holdsTogether F g (some 19) = some (g_alf (k_hw g nh) nw 0 && v_in (z_I g 19 10) nh) := by
  unfold s_Vil_holdsTogether
  rw [z_c19 hS, Option.bind_some]
  have := z_holdsL hS h0 h1 h16 (K := fun (_ : Unit) => (f_gI g (some 19) 7 10).bind fun x39 => (s_Vil_hasHouse g (some 19) x39).bind fun x42 => some x42) nw 0 F (by omega) (by omega)
  refine this.trans ?_
  cases g_alf (k_hw g nh) nw 0 with
  | true =>
    rw [if_pos rfl, z_i19_10 hS, Option.bind_some, z_hasHouse hS (.inl rfl) h0, Option.bind_some, Bool.true_and]
  | false =>
    rw [if_neg (by decide), Bool.false_and]
theorem z_isWholeL (hS : z_Sh m) (h20 : z_I m 68 20 = nI nh) (h21 : z_I m 68 21 = nI nw) (h12 : nh ≤ 12) (h16 : nw ≤ 16) (hW : ∀ j, j < nw → ∃ x y, x ≤ 11 ∧ y ≤ 11 ∧ z_A m 81 (3 * j) = nI x ∧ z_A m 81 (3 * j + 1) = nI y ∧ P j = (decide (x < nh) && (decide (y < nh) && !decide (x = y)))) :
    ∀ (d i nn : Nat) (t : Bool), i + d = nw → d < nn → l_Mod_isWhole_28 m (some 68) nn (fw_b t) (nI i) = some (t && g_alf P d i) := by
  intro d
  induction d with
  | zero =>
    intro i nn t hi hnn
    obtain ⟨nn, rfl⟩ : ∃ k, nn = k + 1 := ⟨nn - 1, by omega⟩
    rw [l_Mod_isWhole_28, z_i68_21 hS, Option.bind_some, h21, if_pos (nI_le (by omega) (by omega))]
    cases t <;> rfl
  | succ d ih =>
    intro i nn t hi hnn
    obtain ⟨nn, rfl⟩ : ∃ k, nn = k + 1 := ⟨nn - 1, by omega⟩
    have e3 : (3 : Int32) * nI i = nI (3 * i) := pk_mul 3 i
    have f0 : l_Mod_isWhole_28 m (some 68) nn (0 : Int32) (nI (i + 1)) = some false := (ih (i + 1) nn false (by omega) (by omega)).trans (by rw [Bool.false_and])
    obtain ⟨x, y, hx, hy, w1, w2, w3⟩ := hW i (by omega)
    rw [l_Mod_isWhole_28, z_i68_21 hS, Option.bind_some, h21, if_neg (nI_ge (by omega) (by omega)), nI_1]
    cases t with
    | false => rw [if_pos (show fw_b false = (0 : Int32) from rfl), f0, Bool.false_and]
    | true =>
      rw [if_neg (show ¬ fw_b true = (0 : Int32) from by decide), Bool.true_and]
      show _ = some (P i && g_alf P d (i + 1))
      rw [z_r68_19 hS, Option.bind_some, e3, z_a81 hS (by omega), Option.bind_some, Option.bind_some, nI_1, z_a81 hS (by omega), Option.bind_some, w1, w2, w3]
      by_cases e : x = y
      · rw [if_pos (by rw [e]), f0, decide_eq_true e, Bool.not_true, Bool.and_false, Bool.and_false, Bool.false_and]
      · rw [if_neg (fun z => e ((nI_eq (by omega) (by omega)).mp z)), Option.bind_some, z_a81 hS (by omega), Option.bind_some, Option.bind_some, z_a81 hS (by omega), Option.bind_some, z_i68_20 hS, Option.bind_some, h20, w1, w2, z_max (by omega) (by omega), decide_eq_false e, Bool.not_false, Bool.and_true]
        by_cases e2 : nh ≤ max x y
        · rw [if_pos (nI_le e2 (by omega)), f0]
          have : (decide (x < nh) && decide (y < nh)) = false := by
            rw [Bool.and_eq_false_iff, decide_eq_false_iff_not, decide_eq_false_iff_not]
            omega
          rw [this, Bool.false_and]
        · rw [if_neg (nI_ge (by omega) (by omega)), decide_eq_true (by omega), decide_eq_true (by omega), Bool.true_and, Bool.true_and]
          exact (ih (i + 1) nn true (by omega) (by omega)).trans (by rw [Bool.true_and])
theorem z_isWhole (hF : 70000 ≤ F) (hS : z_Sh m) (h20 : z_I m 68 20 = nI nh) (h21 : z_I m 68 21 = nI nw) (h12 : nh ≤ 12) (h16 : nw ≤ 16) (ha : z_A m 79 0 = nI a) (ha11 : a ≤ 11) (hW : ∀ j, j < nw → ∃ x y, x ≤ 11 ∧ y ≤ 11 ∧ z_A m 81 (3 * j) = nI x ∧ z_A m 81 (3 * j + 1) = nI y ∧ P j = (decide (x < nh) && (decide (y < nh) && !decide (x = y)))) :
    s_Mod_isWhole F m (some 68) = some (decide (a < nh) && g_alf P nw 0) := by
  have L := fun t => z_isWholeL hS h20 h21 h12 h16 hW nw 0 F t (by omega) (by omega)
  unfold s_Mod_isWhole
  rw [z_c68 hS, Option.bind_some, z_i68_20 hS, Option.bind_some, h20, k_jn1]
  by_cases e0 : nh = 0
  · rw [if_pos (show nI nh ≤ (0 : Int32) from by rw [e0]; decide), decide_eq_false (by omega)]
    exact L false
  · rw [if_neg (show ¬ nI nh ≤ (0 : Int32) from nI_ge (a := 0) (by omega) (by omega)), z_r68_17 hS, Option.bind_some, show (0 : Int32) = nI 0 from rfl, z_a79 hS (by decide), Option.bind_some, Option.bind_some, ha]
    by_cases e1 : nh ≤ a
    · rw [if_pos (nI_le e1 (by omega)), decide_eq_false (by omega)]
      exact L false
    · rw [if_neg (nI_ge (by omega) (by omega)), decide_eq_true (by omega)]
      exact L true
theorem v_in_d (h1 : a < 2 ^ 31) (h2 : n < 2 ^ 31) : v_in (nI a) n = decide (a < n) := by
  by_cases e : a < n
  · rw [v_in_n e h2, decide_eq_true e]
  · rw [decide_eq_false e]
    exact decide_eq_false (fun z => nI_nlt (by omega) h1 z.2)
theorem k_hw_d (hD : k_DW g m nw) (h12 : nh ≤ 12) : ∀ j, j < nw → ∃ x y, x ≤ 11 ∧ y ≤ 11 ∧ z_A m 81 (3 * j) = nI x ∧ z_A m 81 (3 * j + 1) = nI y ∧ k_hw g nh j = (decide (x < nh) && (decide (y < nh) && !decide (x = y))) := by
  intro j hj
  obtain ⟨x, x1, x2, x3⟩ := hD.1 j hj 0 (by decide)
  obtain ⟨y, y1, y2, y3⟩ := hD.1 j hj 1 (by decide)
  have x3' : z_A g 22 (2 * j) = nI x := x3
  refine ⟨x, y, x1, y1, x2, y2, ?_⟩
  unfold k_hw
  rw [x3', y3, v_in_d (by omega) (by omega), v_in_d (by omega) (by omega)]
  congr 2
  by_cases e : x = y
  · rw [decide_eq_true e, decide_eq_true (by rw [e])]
  · rw [decide_eq_false e, decide_eq_false (fun z => e ((nI_eq (by omega) (by omega)).mp z))]
/-- the class's draft anew -/
theorem z_clear19 (hF : 70000 ≤ F) (hS : z_Sh h) : ∃ g', s_Vil_clear F h (some 19) = some g' ∧ (z_fr [19, 21] h g' ∧ (∀ k, k = 0 ∨ k = 1 ∨ k = 5 ∨ k = 6 ∨ k = 7 ∨ k = 8 ∨ k = 9 ∨ k = 10 ∨ k = 12 ∨ k = 14 → z_I g' 19 k = 0) ∧ z_I g' 19 11 = -1 ∧ ∀ i, i < 12 → z_A g' 21 i = 0) := by
  unfold s_Vil_clear
  obtain ⟨g1, hg1⟩ : ∃ g1, g1 = z_sI h 19 0 (0 : Int32) := ⟨_, rfl⟩
  obtain ⟨g2, hg2⟩ : ∃ g2, g2 = z_sI g1 19 1 (0 : Int32) := ⟨_, rfl⟩
  have f2 : z_fr [19] h g2 := by rw [hg2, hg1]; exact (z_fr.refl.sI (by simp)).sI (by simp)
  have S1 : z_Sh g1 := by rw [hg1]; exact z_Sh_sI hS
  have S2 := hS.fr f2 (by decide)
  obtain ⟨g3, a1, a2, a3⟩ := z_fillI (v := (0 : Int32)) (h := g2) (b := 21) (n := 12) hF (by decide) (z_ckT S2 rfl)
  have S3 := S2.fr a2 (by decide)
  rw [z_c19 hS, Option.bind_some, z_w19_0 hS, Option.bind_some, ← hg1, z_w19_1 S1, Option.bind_some, ← hg2, z_r19_3 S2, Option.bind_some, a1, Option.bind_some]
  obtain ⟨g4, hg4⟩ : ∃ g4, g4 = z_sI g3 19 5 (0 : Int32) := ⟨_, rfl⟩
  obtain ⟨g5, hg5⟩ : ∃ g5, g5 = z_sI g4 19 6 (0 : Int32) := ⟨_, rfl⟩
  obtain ⟨g6, hg6⟩ : ∃ g6, g6 = z_sI g5 19 7 (0 : Int32) := ⟨_, rfl⟩
  obtain ⟨g7, hg7⟩ : ∃ g7, g7 = z_sI g6 19 8 (fw_b false) := ⟨_, rfl⟩
  obtain ⟨g8, hg8⟩ : ∃ g8, g8 = z_sI g7 19 9 (fw_b false) := ⟨_, rfl⟩
  obtain ⟨g9, hg9⟩ : ∃ g9, g9 = z_sI g8 19 10 (0 : Int32) := ⟨_, rfl⟩
  obtain ⟨ga, hga⟩ : ∃ ga, ga = z_sI g9 19 11 (-1 : Int32) := ⟨_, rfl⟩
  obtain ⟨gb, hgb⟩ : ∃ gb, gb = z_sI ga 19 12 (0 : Int32) := ⟨_, rfl⟩
  have S4 : z_Sh g4 := by rw [hg4]; exact z_Sh_sI S3
  have S5 : z_Sh g5 := by rw [hg5]; exact z_Sh_sI S4
  have S6 : z_Sh g6 := by rw [hg6]; exact z_Sh_sI S5
  have S7 : z_Sh g7 := by rw [hg7]; exact z_Sh_sI S6
  have S8 : z_Sh g8 := by rw [hg8]; exact z_Sh_sI S7
  have S9 : z_Sh g9 := by rw [hg9]; exact z_Sh_sI S8
  have Sa : z_Sh ga := by rw [hga]; exact z_Sh_sI S9
  have Sb : z_Sh gb := by rw [hgb]; exact z_Sh_sI Sa
  rw [z_w19_5 S3, Option.bind_some, ← hg4, z_w19_6 S4, Option.bind_some, ← hg5, z_w19_7 S5, Option.bind_some, ← hg6, z_pBS S6 rfl, Option.bind_some, ← hg7, z_pBS S7 rfl, Option.bind_some, ← hg8, z_w19_10 S8, Option.bind_some, ← hg9, z_w19_11 S9, Option.bind_some, ← hga, z_w19_12 Sa, Option.bind_some, ← hgb, z_w19_14 Sb, Option.bind_some]
  have fb : z_fr [19] g3 (z_sI gb 19 14 (0 : Int32)) := by
    rw [hgb, hga, hg9, hg8, hg7, hg6, hg5, hg4]
    exact ((((((((z_fr.refl.sI (by simp)).sI (by simp)).sI (by simp)).sI (by simp)).sI (by simp)).sI (by simp)).sI (by simp)).sI (by simp)).sI (by simp)
  have V : ∀ k, z_I (z_sI gb 19 14 (0 : Int32)) 19 k = if k = 14 then 0 else if k = 12 then 0 else if k = 11 then -1 else if k = 10 then 0 else if k = 9 then 0 else if k = 8 then 0 else if k = 7 then 0 else if k = 6 then 0 else if k = 5 then 0 else if k = 1 then 0 else if k = 0 then 0 else z_I h 19 k := by
    intro k
    rw [z_IIS Sb 7 rfl, hgb, z_IIS Sa 7 rfl, hga, z_IIS S9 7 rfl, hg9, z_IIS S8 7 rfl, hg8, z_IIS S7 7 rfl, hg7, z_IIS S6 7 rfl, hg6, z_IIS S5 7 rfl, hg5, z_IIS S4 7 rfl, hg4, z_IIS S3 7 rfl, a2.I (by decide), hg2, z_IIS S1 7 rfl, hg1, z_IIS hS 7 rfl]
    simp only [true_and]
    rfl
  refine ⟨_, rfl, ((f2.mono (by simp)).trans (a2.mono (by simp))).trans (fb.mono (by simp)), fun k hk => ?_, (V 11).trans rfl, fun i hi => (fb.A (by decide)).trans (a3 i hi)⟩
  rw [V]
  rcases hk with rfl | rfl | rfl | rfl | rfl | rfl | rfl | rfl | rfl | rfl <;> rfl
end WH
