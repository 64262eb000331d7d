-- SEEN: who envies, the class
def g_all (P : Nat → Bool) : Nat → Bool
  | 0 => true
  | i + 1 => g_all P i && P i
def g_alf (P : Nat → Bool) : Nat → Nat → Bool
  | 0, _ => true
  | k + 1, j => P j && g_alf P k (j + 1)
def g_mx (J : Nat → Nat) : Nat → Nat
  | 0 => 0
  | i + 1 => max (g_mx J i) (J i)
/-- a set of houses: all, or these -/
def g_av (v : Int32) (P : Nat → Bool) : Prop := (v = -1 ∧ ∀ a, a < 12 → P a = true) ∨ ∃ m, m < 2 ^ 12 ∧ v = nI m ∧ ∀ a, a < 12 → m.testBit a = P a
/-- what was seen behind j hours lets a be -/
def g_pl (J X : Nat → Nat) (s j a : Nat) : Bool := g_all (fun k => !decide (J k = j) || decide (a = X k)) s
/-- it was seen so -/
def g_so (J X : Nat → Nat) (s : Nat) (E : z_E) (p : e_P) : Bool := g_all (fun k => decide ((c_x E p (J k)).1 = X k)) s
/-- the seen ones -/
def g_sn (h : fw_H) (J X : Nat → Nat) (s : Nat) : Prop := s ≤ 12 ∧ z_I h 64 3 = nI s ∧ ∀ i, i < s → 1 ≤ J i ∧ J i ≤ 20 ∧ X i < 12 ∧ z_A h 65 i = nI (J i) ∧ z_A h 66 i = nI (X i)
section SE
variable {E : z_E} {p : e_P} {i j k n w m a b o x e s nn N F pp : Nat} {h h' g g' : fw_H} {T Wd f : Nat → Int32} {lw : Option (List q_C)} {op : Nat → Bool} {v y z : Int32} {P Q : Nat → Bool} {J X : Nat → Nat}
theorem g_all_iff : ∀ {i : Nat}, g_all P i = true ↔ ∀ j, j < i → P j = true
  | 0 => ⟨fun _ j hj => absurd hj (Nat.not_lt_zero _), fun _ => rfl⟩
  | i + 1 => by
    show (g_all P i && P i) = true ↔ _
    rw [Bool.and_eq_true, g_all_iff]
    constructor
    · rintro ⟨h1, h2⟩ j hj
      by_cases e : j = i
      · subst e; exact h2
      · exact h1 j (by omega)
    · exact fun h => ⟨fun j hj => h j (by omega), h i (by omega)⟩
theorem g_alf_iff : ∀ {k j : Nat}, g_alf P k j = true ↔ ∀ i, j ≤ i → i < j + k → P i = true
  | 0, _ => ⟨fun _ i h1 h2 => by omega, fun _ => rfl⟩
  | k + 1, j => by
    show (P j && g_alf P k (j + 1)) = true ↔ _
    rw [Bool.and_eq_true, g_alf_iff]
    constructor
    · rintro ⟨h1, h2⟩ i hi hk
      by_cases e : i = j
      · subst e; exact h1
      · exact h2 i (by omega) (by omega)
    · exact fun h => ⟨h j (Nat.le_refl _) (by omega), fun i h1 h2 => h i (by omega) (by omega)⟩
theorem g_so_eq {L : Nat} (hJ : ∀ i, i < s → 1 ≤ J i ∧ J i ≤ L) : g_alf (fun j => g_pl J X s j (c_x E p j).1) L 1 = g_so J X s E p := by
  rw [Bool.eq_iff_iff, g_alf_iff]
  unfold g_so g_pl
  rw [g_all_iff]
  constructor
  · intro h i hi
    obtain ⟨j1, j2⟩ := hJ i hi
    have := g_all_iff.mp (h (J i) j1 (by omega)) i hi
    simpa using this
  · intro h j h1 h2
    rw [g_all_iff]
    intro i hi
    by_cases e : J i = j
    · subst e; simp; exact of_decide_eq_true (h i hi)
    · simp [e]
theorem g_mx_le : ∀ {s : Nat}, (∀ i, i < s → J i ≤ 20) → g_mx J s ≤ 20 ∧ ∀ i, i < s → J i ≤ g_mx J s
  | 0, _ => ⟨Nat.zero_le _, fun i hi => absurd hi (Nat.not_lt_zero _)⟩
  | s + 1, h => by
    obtain ⟨h1, h2⟩ := g_mx_le (s := s) (fun i hi => h i (by omega))
    have h3 := h s (by omega)
    show max (g_mx J s) (J s) ≤ 20 ∧ _
    refine ⟨by omega, fun i hi => ?_⟩
    show J i ≤ max (g_mx J s) (J s)
    by_cases e : i = s
    · subst e; omega
    · have := h2 i (by omega); omega
theorem g_av.has (h1 : g_av v P) (ha : a < 12) : s_Rows_has v (nI a) = some (P a) := by
  rcases h1 with ⟨rfl, h2⟩ | ⟨m, m1, rfl, m2⟩
  · rw [h2 a ha]
    have : ∀ a, a < 12 → s_Rows_has (-1) (nI a) = some true := by decide
    exact this a ha
  · rw [z_has (by omega) (by omega), m2 a ha]
theorem g_av.and (h1 : g_av v P) (hx : x < 12) (hQ : ∀ a, a < 12 → Q a = (P a && decide (a = x))) : g_av (v &&& ((1 : Int32) <<< (nI x &&& 31))) Q := by
  have hp := z_pow hx
  rw [z_sh1 (by omega)]
  right
  rcases h1 with ⟨rfl, h2⟩ | ⟨m, m1, rfl, m2⟩
  · refine ⟨2 ^ x, hp, ?_, fun a ha => ?_⟩
    · rw [Int32.and_comm, Int32.and_neg_one]
    · rw [hQ a ha, h2 a ha, Nat.testBit_two_pow, Bool.true_and]
      by_cases e : a = x
      · subst e; simp
      · rw [decide_eq_false (fun z => e z.symm), decide_eq_false e]
  · refine ⟨m &&& 2 ^ x, Nat.lt_of_le_of_lt Nat.and_le_left m1, fa_and _ _, fun a ha => ?_⟩
    rw [hQ a ha, Nat.testBit_and, m2 a ha, Nat.testBit_two_pow]
    by_cases e : a = x
    · subst e; simp
    · rw [decide_eq_false (fun z => e z.symm), decide_eq_false e]
theorem z_gatherL : ∀ (k i nn : Nat) (g : fw_H), i + k = s → k < nn → z_Sh g → g_sn g J X s → (∀ j, j < 21 → g_av (z_A g 67 j) (g_pl J X i j)) → z_I g 64 5 = nI (g_mx J i) →
    ∃ g', l_Seen_gather_15 (some 64) nn (nI i) g = some g' ∧ z_fr [64, 67] g g' ∧ (∀ k, k ≠ 5 → z_I g' 64 k = z_I g 64 k) ∧ (∀ j, j < 21 → g_av (z_A g' 67 j) (g_pl J X s j)) ∧ z_I g' 64 5 = nI (g_mx J s) := by
  intro k
  induction k with
  | zero =>
    intro i nn g hi hnn hS hN hA h5
    obtain ⟨nn, rfl⟩ : ∃ k, nn = k + 1 := ⟨nn - 1, by omega⟩
    obtain rfl : i = s := by omega
    have := hN.1
    refine ⟨g, ?_, z_fr.refl, fun _ _ => rfl, hA, h5⟩
    rw [l_Seen_gather_15, z_i64_3 hS, Option.bind_some, hN.2.1, if_pos (nI_le (Nat.le_refl _) (by omega))]
  | succ k ih =>
    intro i nn g hi hnn hS hN hA h5
    obtain ⟨nn, rfl⟩ : ∃ k, nn = k + 1 := ⟨nn - 1, by omega⟩
    obtain ⟨hs, n3, n4⟩ := hN
    obtain ⟨j1, j2, j3, j4, j5⟩ := n4 i (by omega)
    obtain ⟨hm1, -⟩ := g_mx_le (J := J) (s := i) (fun k hk => (n4 k (by omega)).2.1)
    obtain ⟨g1, hg1⟩ : ∃ g1, g1 = z_sA g 67 (J i) (z_A g 67 (J i) &&& ((1 : Int32) <<< (nI (X i) &&& 31))) := ⟨_, rfl⟩
    have S1 : z_Sh g1 := by rw [hg1]; exact z_Sh_sA hS
    have f1 : z_fr [67] g g1 := by rw [hg1]; exact z_fr.refl.sA (by simp)
    obtain ⟨g2, hg2⟩ : ∃ g2, g2 = z_sI g1 64 5 (nI (max (g_mx J i) (J i))) := ⟨_, rfl⟩
    have S2 : z_Sh g2 := by rw [hg2]; exact z_Sh_sI S1
    have f2 : z_fr [64, 67] g g2 := by rw [hg2]; exact (f1.mono (by simp)).sI (by simp)
    have i2 : ∀ k, k ≠ 5 → z_I g2 64 k = z_I g 64 k := fun k hk => by rw [hg2, z_I_sI_nk hk, f1.I (by decide)]
    rw [l_Seen_gather_15, z_i64_3 hS, Option.bind_some, n3, if_neg (nI_ge (by omega) (by omega)), z_r64_1 hS, Option.bind_some, z_rget (z_ckT hS rfl) (show i < 12 by omega) (by decide), Option.bind_some, z_r64_4 hS, Option.bind_some, Option.bind_some, j4, z_rget (z_ckT hS rfl) (show J i < 21 by omega) (by decide), Option.bind_some, z_r64_2 hS, Option.bind_some, z_rget (z_ckT hS rfl) (show i < 12 by omega) (by decide), Option.bind_some, j5, z_rput (z_ckT hS rfl) (show J i < 21 by omega) (by decide), Option.bind_some, ← hg1, z_i64_5 S1, Option.bind_some, f1.I (by decide), h5, z_max (by omega) (by omega), z_w64_5 S1, Option.bind_some, ← hg2, show nI i + 1 = nI (i + 1) from nI_1 i]
    have A2 : ∀ j, j < 21 → g_av (z_A g2 67 j) (g_pl J X (i + 1) j) := by
      intro j hj
      have e2 : z_A g2 67 j = z_A g1 67 j := by rw [hg2, z_A_sI]
      rw [e2, hg1, z_A_sA (z_ckT hS rfl)]
      by_cases e : j = J i
      · subst e
        rw [if_pos rfl]
        refine (hA (J i) hj).and j3 (fun a ha => ?_)
        show (g_pl J X i (J i) a && (!decide (J i = J i) || decide (a = X i))) = _
        simp
      · rw [if_neg e]
        have : g_pl J X (i + 1) j = g_pl J X i j := by
          funext a
          show (g_pl J X i j a && (!decide (J i = j) || decide (a = X i))) = _
          rw [decide_eq_false (fun z => e z.symm)]
          simp
        rw [this]
        exact hA j hj
    obtain ⟨g3, b1, b2, b3, b4, b5⟩ := ih (i + 1) nn g2 (by omega) (by omega) S2 ⟨hs, (i2 3 (by decide)).trans n3, fun k hk => by rw [f2.A (by decide), f2.A (by decide)]; exact n4 k hk⟩ A2 (by rw [hg2, z_II S1 4 rfl]; rfl)
    exact ⟨g3, b1, f2.trans b2, fun k hk => (b3 k hk).trans (i2 k hk), b4, b5⟩
theorem z_gather (hF : 70000 ≤ F) (hS : z_Sh h) (hN : g_sn h J X s) : ∃ h', s_Seen_gather F h (some 64) = some h' ∧ (z_fr [64, 67] h h' ∧ (∀ k, k ≠ 5 → z_I h' 64 k = z_I h 64 k) ∧ (∀ j, j < 21 → g_av (z_A h' 67 j) (g_pl J X s j)) ∧ z_I h' 64 5 = nI (g_mx J s)) := by
  obtain ⟨g1, a1, a2, a3⟩ := z_fillI (F := F) (v := (-1 : Int32)) hF (show 21 < 70000 by decide) (z_ckT hS (a := 67) rfl)
  have S1 := hS.fr a2 (by decide)
  have S2 : z_Sh (z_sI g1 64 5 0) := z_Sh_sI S1
  have f2 : z_fr [64, 67] h (z_sI g1 64 5 0) := (a2.mono (by simp)).sI (by simp)
  have i2 : ∀ k, k ≠ 5 → z_I (z_sI g1 64 5 0) 64 k = z_I h 64 k := fun k hk => by rw [z_I_sI_nk hk, a2.I (by decide)]
  unfold s_Seen_gather
  rw [z_c64 hS, Option.bind_some, z_r64_4 hS, Option.bind_some, a1, Option.bind_some, z_w64_5 S1, Option.bind_some]
  obtain ⟨hs, n3, n4⟩ := hN
  obtain ⟨g3, b1, b2, b3, b4, b5⟩ := z_gatherL (J := J) (X := X) s 0 F (z_sI g1 64 5 0) (by omega) (by omega) S2 ⟨hs, (i2 3 (by decide)).trans n3, fun k hk => by rw [f2.A (by decide), f2.A (by decide)]; exact n4 k hk⟩ (fun j hj => by rw [z_A_sI, a3 j hj]; exact .inl ⟨rfl, fun a ha => rfl⟩) (by rw [z_II S1 4 rfl]; rfl)
  exact ⟨g3, b1, f2.trans b2, fun k hk => (b3 k hk).trans (i2 k hk), b4, b5⟩
/-- what a trial of who envies needs -/
def g_V (h : fw_H) (n w : Nat) (T Wd f : Nat → Int32) (lw : Option (List q_C)) (m : Nat) : Prop := z_Sh h ∧ z_CV h n w T Wd f lw (v_op f) ∧ v_R h 49 n w T Wd f ∧ z_I h 48 5 = nI m
/-- nothing but the walk's place and who envies in it -/
def g_we (h h' : fw_H) : Prop := z_fr [48] h h' ∧ (∀ k, k ≠ 2 → k ≠ 3 → k ≠ 4 → k ≠ 6 → z_I h' 48 k = z_I h 48 k) ∧ ∀ k, z_R h' 48 k = z_R h 48 k
theorem g_we.trans {h'' : fw_H} (h1 : g_we h h') (h2 : g_we h' h'') : g_we h h'' := ⟨h1.1.trans h2.1, fun k a b c d => (h2.2.1 k a b c d).trans (h1.2.1 k a b c d), fun k => (h2.2.2 k).trans (h1.2.2 k)⟩
theorem g_we.ofw (h1 : z_w h h') : g_we h h' := ⟨h1.1, fun k a b c _ => h1.2.1 k a b c, h1.2.2⟩
theorem z_fitsL (hF : 70000 ≤ F) (hp0 : e_ok E p) {L : Nat} (hL : L ≤ 20) {A : Nat → Int32} (hA : ∀ j, j < 21 → g_av (A j) (g_pl J X s j)) : ∀ (k j nn : Nat) (g : fw_H), 1 ≤ j → j + k = L + 1 → k < nn → z_Sh g → z_CW g E → z_ps g (c_x E p (j - 1)) → (∀ j, j < 21 → z_A g 67 j = A j) → z_I g 64 5 = nI L →
    ∃ g', l_Seen_fits_17 F (some 64) nn (nI j) g = some (g_alf (fun j => g_pl J X s j (c_x E p j).1) k j, g') ∧ z_w g g' := by
  intro k
  induction k with
  | zero =>
    intro j nn g h1 hj hnn hS hC hp hA' h5
    obtain ⟨nn, rfl⟩ : ∃ k, nn = k + 1 := ⟨nn - 1, by omega⟩
    refine ⟨g, ?_, z_w.refl⟩
    rw [l_Seen_fits_17, z_i64_5 hS, Option.bind_some, h5, if_pos (nI_lt (by omega) (by omega))]
    rfl
  | succ k ih =>
    intro j nn g h1 hj hnn hS hC hp hA' h5
    obtain ⟨nn, rfl⟩ : ∃ k, nn = k + 1 := ⟨nn - 1, by omega⟩
    obtain ⟨g1, a1, a2, a3⟩ := z_hour hF hS hC hp (c_x_ok hp0)
    rw [← c_x_succ, show j - 1 + 1 = j by omega] at a3
    have S1 := a2.sh hS
    have hat : (c_x E p j).1 < 12 := Nat.lt_of_lt_of_le (c_x_ok (i := j) hp0).1 hC.1.1
    have hA1 : ∀ j, j < 21 → z_A g1 67 j = A j := fun j hj => by rw [a2.1.A (by decide)]; exact hA' j hj
    rw [l_Seen_fits_17, z_i64_5 hS, Option.bind_some, h5, if_neg (nI_nlt (by omega) (by omega)), z_r64_0 hS, Option.bind_some, a1, Option.bind_some, z_r64_4 S1, Option.bind_some, z_rget (z_ckT S1 rfl) (show j < 21 by omega) (by decide), Option.bind_some, z_r64_0 S1, Option.bind_some, z_i48_2 S1, Option.bind_some, a3.1, hA1 j (by omega), (hA j (by omega)).has hat, Option.bind_some, show nI j + 1 = nI (j + 1) from nI_1 j]
    have hgo : g_alf (fun j => g_pl J X s j (c_x E p j).1) (k + 1) j = (g_pl J X s j (c_x E p j).1 && g_alf (fun j => g_pl J X s j (c_x E p j).1) k (j + 1)) := rfl
    rw [hgo]
    by_cases hq : g_pl J X s j (c_x E p j).1 = true
    · rw [if_pos hq, hq, Bool.true_and]
      obtain ⟨g4, b1, b2⟩ := ih (j + 1) nn g1 (by omega) (by omega) (by omega) S1 (a2.cw hC) a3 hA1 (by rw [a2.1.I (by decide)]; exact h5)
      exact ⟨g4, b1, a2.trans b2⟩
    · rw [if_neg hq, Bool.eq_false_iff.mpr hq, Bool.false_and]
      exact ⟨g1, rfl, a2⟩
/-- Seen.fits -/
theorem z_fits (hF : 70000 ≤ F) (hok : v_ok n w Wd) (h0 : 0 < n) (hm : m < 2 ^ 12) (he : e < 2 ^ 12) (hV : g_V h n w T Wd f lw m) (hJ : ∀ i, i < s → 1 ≤ J i ∧ J i ≤ 20) (hA : ∀ j, j < 21 → g_av (z_A h 67 j) (g_pl J X s j)) (h5 : z_I h 64 5 = nI (g_mx J s)) :
    ∃ h', s_Seen_fits F h (some 64) (nI e) = some (g_so J X s (v_E n w T Wd f lw (v_op f) e m) (v_pos f), h') ∧ (g_we h h' ∧ g_V h' n w T Wd f lw m) := by
  obtain ⟨hS, hV, hR, hm5⟩ := hV
  have hn12 := hok.1
  obtain ⟨m1, m2⟩ := g_mx_le (J := J) (s := s) (fun i hi => (hJ i hi).2)
  obtain ⟨g1, hg1⟩ : ∃ g1, g1 = z_sI h 48 6 (nI e) := ⟨_, rfl⟩
  have S1 : z_Sh g1 := by rw [hg1]; exact z_Sh_sI hS
  have w1 : g_we h g1 := by rw [hg1]; exact ⟨z_fr.refl.sI (by simp), fun k _ _ _ x => z_I_sI_nk x, fun k => z_R_sI⟩
  have R1 : v_R g1 49 n w T Wd f := hR.fr hok.1 hok.2.1 w1.1 (fun d hd => by simp; omega)
  have V1 : z_CV g1 n w T Wd f lw (v_op f) := hV.fr w1.1 (by decide) (by decide) (by decide) (by decide) (by decide)
  have h51 : z_I g1 48 5 = nI m := (w1.2.1 5 (by decide) (by decide) (by decide) (by decide)).trans hm5
  have C1 : z_CW g1 (v_E n w T Wd f lw (v_op f) e m) := V1.cw hok he hm (by rw [hg1, z_II hS 9 rfl]) h51
  obtain ⟨-, -, -, -, -, q6, q7, q8, q9⟩ := R1.pos h0 hn12
  obtain ⟨g2, b1, b2, b3⟩ := z_restart S1 q7 q8 q9 q6
  have hk0 : e_ok (v_E n w T Wd f lw (v_op f) e m) (v_pos f) := R1.ok h0 hn12 rfl
  obtain ⟨g3, c1, c2⟩ := z_fitsL (p := v_pos f) hF hk0 m1 hA (g_mx J s) 1 F g2 (by omega) (by omega) (by omega) (b2.sh S1) (b2.cw C1) b3 (fun j hj => by rw [b2.1.A (by decide), w1.1.A (by decide)]) (by rw [b2.1.I (by decide), w1.1.I (by decide)]; exact h5)
  have w3 : g_we h g3 := (w1.trans (g_we.ofw b2)).trans (g_we.ofw c2)
  have hso := g_so_eq (E := v_E n w T Wd f lw (v_op f) e m) (p := v_pos f) (X := X) (fun i hi => ⟨(hJ i hi).1, m2 i hi⟩)
  rw [hso] at c1
  unfold s_Seen_fits
  rw [z_c64 hS, Option.bind_some, z_r64_0 hS, Option.bind_some, z_w48_6 hS, Option.bind_some, ← hg1, z_r64_0 S1, Option.bind_some, b1, Option.bind_some]
  exact ⟨g3, c1, w3, hS.fr w3.1 (by decide), hV.fr w3.1 (by decide) (by decide) (by decide) (by decide) (by decide), hR.fr hok.1 hok.2.1 w3.1 (fun d hd => by simp; omega), (w3.2.1 5 (by decide) (by decide) (by decide) (by decide)).trans hm5⟩
end SE
