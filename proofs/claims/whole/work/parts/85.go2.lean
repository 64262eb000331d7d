-- HOURS GO BY (2): both loops; go, mists
/-- the reference holds X; f0: what it began with -/
def j_MI (g : fw_H) (n w : Nat) (T Wd f0 : Nat → Int32) (lw : Option (List q_C)) (X : j_X) : Prop := z_MC g n w T Wd X.1 lw (2 ^ n - 1) ∧ j_am g X.2.1 X.2.2.1 ∧ X.2.1 ≤ 40 ∧ X.2.2.1 X.2.1 = X.1 ∧ j_ok n X.1 X.2.2.2 ∧ j_sm f0 X.1
/-- what the reference's hours change -/
def j_mf (g g' : fw_H) : Prop := z_fr [68, 77, 78, 84, 86] g g' ∧ ∀ k, k ≠ 31 → z_I g' 68 k = z_I g 68 k
section JL
variable {h g g' g'' h1 h2 : fw_H} {n w i k t x a b l p m e F nn c nx N : Nat} {T Wd f f' f0 A H : Nat → Int32} {S : Nat → Nat → Int32} {v y ms : Int32} {As : List Nat} {E : z_E} {lw : Option (List q_C)} {fog fg : Bool} {q : e_P} {X : j_X} {B : Int64 → Bool}
theorem j_mf.refl : j_mf g g := ⟨z_fr.refl, fun _ _ => rfl⟩
theorem j_mf.trans (h1 : j_mf g g') (h2 : j_mf g' g'') : j_mf g g'' := ⟨h1.1.trans h2.1, fun k a => (h2.2 k a).trans (h1.2 k a)⟩
theorem j_f_hr (ht : v_hr X.1 ≤ 9999) : v_hr (j_f n T E fog X) = v_hr X.1 + 1 := j_h_hr ht
theorem j_f_53 (h12 : n ≤ 12) : j_f n T E fog X 53 = X.1 53 := j_h_low (by omega) h12
/-- the class's hours -/
theorem j_loopC (hF : 70000 ≤ F) (hok : v_ok n w Wd) (h0 : 0 < n) (hE : E.1 = n) (hB : ∀ x, B x = (fg || decide (¬ (0 : Int32) ≤ lg_cmp (j_dr x) (Int32.toInt64 ms)))) (hN : N ≤ 240) :
    ∀ (k i nn : Nat) (x : Int64) (g : fw_H) (X : j_X), i + k = N → k < nn → j_CI g E n w T Wd X → v_hr X.1 + k ≤ 9999 → X.1 53 = fw_b fg →
    ∃ g', l_Joy_letHoursGo_49 F (some 15) (nI N) ms nn x (nI i) g = some (nI (v_hr (j_run n T E B k x X).1), g') ∧ (j_cf g g' ∧ j_CI g' E n w T Wd (j_run n T E B k x X)) := by
  have hn12 := hok.1
  intro k
  induction k with
  | zero =>
    intro i nn x g X hi hnn hI ht hfg
    obtain ⟨nn, rfl⟩ : ∃ k, nn = k + 1 := ⟨nn - 1, by omega⟩
    obtain ⟨-, -, -, -, -, -, -, -, p9⟩ := hI.2.1.pos h0 hn12
    refine ⟨g, ?_, j_cf.refl, hI⟩
    rw [l_Joy_letHoursGo_49, if_pos (nI_le (by omega) (by omega)), z_r15_3 hI.1, Option.bind_some, z_i29_12 hI.1, Option.bind_some, p9]
    rfl
  | succ k ih =>
    intro i nn x g X hi hnn hI ht hfg
    obtain ⟨nn, rfl⟩ : ∃ k, nn = k + 1 := ⟨nn - 1, by omega⟩
    have hS := hI.1
    have h9 : z_I g 29 9 = fw_b fg := by
      have hR0 := hI.2.1
      obtain ⟨-, -, -, -, -, -, -, -, -, ⟨mm, q1, q2⟩, -⟩ := hR0
      rw [q1, ← q2, hfg]
    obtain ⟨g1, g2, g3, a1, S1, a9, b1, S2, c1, c2, c3⟩ := j_stepC (fog := B (j_x x)) hF hok h0 hE hI (by omega)
    obtain ⟨g4, d1, d2, d3⟩ := ih (i + 1) nn (j_x x) g3 (j_nx n T E (B (j_x x)) X) (by omega) (by omega) c3 (by rw [show (j_nx n T E (B (j_x x)) X).1 = j_f n T E (B (j_x x)) X from rfl, j_f_hr (by omega)]; omega) (by rw [show (j_nx n T E (B (j_x x)) X).1 = j_f n T E (B (j_x x)) X from rfl, j_f_53 hn12]; exact hfg)
    refine ⟨g4, ?_, c2.trans d2, d3⟩
    have hxx : x * (6364136223846793005 : Int64) + (1442695040888963407 : Int64) = j_x x := rfl
    rw [l_Joy_letHoursGo_49, if_neg (nI_ge (by omega) (by omega)), hxx, j_dr_eq, Option.bind_some, z_r15_10 hS, Option.bind_some, z_r15_3 hS, Option.bind_some, a1, Option.bind_some, z_r15_3 S1, Option.bind_some, z_gB ((z_i29_9 S1).trans (congrArg some (a9.trans h9))) rfl, Option.bind_some]
    have hb := hB (j_x x)
    cases fg
    · rw [if_neg (by decide)]
      by_cases hc : (0 : Int32) ≤ lg_cmp (j_dr (j_x x)) (Int32.toInt64 ms)
      · have hb0 : B (j_x x) = false := by rw [hb]; simp [hc]
        rw [hb0, if_neg (by decide)] at b1
        rw [if_pos hc, z_r15_12 S1, Option.bind_some, b1, Option.bind_some, z_r15_3 S2, Option.bind_some, z_r15_12 S2, Option.bind_some, z_i48_2 S2, Option.bind_some, Option.bind_some, z_i48_3 S2, Option.bind_some, c1, Option.bind_some, show nI i + (1 : Int32) = nI (i + 1) from nI_1 i, d1]
        rfl
      · have hb0 : B (j_x x) = true := by rw [hb]; simp [hc]
        rw [hb0, if_pos rfl] at b1
        rw [if_neg hc, z_r15_12 S1, Option.bind_some, b1, Option.bind_some, z_r15_3 S2, Option.bind_some, z_r15_12 S2, Option.bind_some, z_i48_2 S2, Option.bind_some, Option.bind_some, z_i48_3 S2, Option.bind_some, c1, Option.bind_some, show nI i + (1 : Int32) = nI (i + 1) from nI_1 i, d1]
        rfl
    · have hb0 : B (j_x x) = true := by rw [hb]; rfl
      rw [hb0, if_pos rfl] at b1
      rw [if_pos rfl, z_r15_12 S1, Option.bind_some, b1, Option.bind_some, z_r15_3 S2, Option.bind_some, z_r15_12 S2, Option.bind_some, z_i48_2 S2, Option.bind_some, Option.bind_some, z_i48_3 S2, Option.bind_some, c1, Option.bind_some, show nI i + (1 : Int32) = nI (i + 1) from nI_1 i, d1]
      rfl
/-- an hour, the reference -/
theorem j_stepM (hF : 70000 ≤ F) (hok : v_ok n w Wd) (h0 : 0 < n) (hE : E = v_E n w T Wd f0 lw (v_op f0) (2 ^ n - 1) m) (hB : z_MB f0 n m) (hI : j_MI g n w T Wd f0 lw X) (ht : v_hr X.1 < 9999) :
    ∃ g1 g2, s_Mod_keep F g (some 68) = some g1 ∧ z_Sh g1 ∧ (∀ k, k ≠ 31 → z_I g1 68 k = z_I g 68 k) ∧ z_A g1 84 53 = X.1 53 ∧ s_Mod_pass F g1 (some 68) fog = some g2 ∧ j_mf g g2 ∧ j_MI g2 n w T Wd f0 lw (j_nx n T E fog X) := by
  obtain ⟨hC, hM, hc, hX, hk, hs⟩ := hI
  have hn12 := hok.1
  have hE1 : E.1 = n := by rw [hE]; rfl
  obtain ⟨g1, a1, a2, a3, a4⟩ := j_mkeep hF hC.1 hc hM.1 hC.2.1.2.1.2.2
  have C1 : z_MC g1 n w T Wd X.1 lw (2 ^ n - 1) := hC.of a2 (by decide) (by decide) (fun k hk => a3 k (by omega))
  have hB1 : z_MB X.1 n m := fun x hx => by rw [hs (12 + x) (by omega)]; exact hB x hx
  obtain ⟨g2, b1, b2, b3⟩ := z_pass (fog := fog) hF hok h0 rfl hB1 C1 hk
  have hgo : ∀ q, j_q (v_E n w T Wd X.1 lw (v_op X.1) (2 ^ n - 1) m) fog q = j_q E fog q := by
    intro q
    unfold j_q
    rw [hs.go hn12 hok.2.1, hE]
  rw [hgo] at b3
  have hkk : e_ok E (v_pos X.1) := ⟨by rw [hE1]; exact hk.2.1, by rw [hE1]; exact hk.2.2.2.1, Nat.mod_lt _ (by decide)⟩
  obtain ⟨k1, k2, k3⟩ := j_q_ok (fog := fog) hkk
  rw [hE1] at k1 k2
  have F2 : z_fr [68, 77, 78, 84, 86] g g2 := (a2.mono (by simp)).trans (b2.mono (by simp))
  have hi : ∀ k, k ≠ 31 → z_I g2 68 k = z_I g 68 k := fun k hk => by rw [b2.I (by decide)]; exact a3 k hk
  have C2 : z_MC g2 n w T Wd (j_f n T E fog X) lw (2 ^ n - 1) := by
    obtain ⟨c1, ⟨v1, ⟨v2, v3, v4⟩, v5, v6⟩, c3⟩ := C1
    refine ⟨c1.fr b2 (by decide), ⟨by rw [b2.I (by decide)]; exact v1, ⟨by rw [b2.I (by decide)]; exact v2, fun j hj => by rw [b2.A (by decide)]; exact v3 j hj, b3⟩, fun j hj => by rw [b2.A (by decide)]; exact v5 j hj, ?_⟩, fun x hx => by rw [b2.A (by decide)]; exact c3 x hx⟩
    match lw, v6 with
    | none, v6 => rw [b2.I (by decide)]; exact v6
    | some cls, ⟨k, k1, k2, k3, k4⟩ => exact ⟨k, k1, by rw [b2.I (by decide)]; exact k2, k3.of (fun a j ha => b2.A (by simp; omega)), k4⟩
  refine ⟨g1, g2, a1, C1.1, a3, by rw [a2.A (by decide)]; exact hC.2.1.2.1.2.2 53 (by decide), b1, ⟨F2, hi⟩, C2, ?_, ?_, ?_, ?_, ?_⟩
  · refine j_pushM hc hM hX ⟨?_, fun t ht => ?_, fun t ht => ?_⟩
    · rw [b2.I (by decide)]; exact a4.1
    · rw [b2.A (by decide)]; exact a4.2.1 t ht
    · rw [b2.A (by decide)]; exact a4.2.2 t ht
  · have := j_cd hc
    show j_c X.2.1 ≤ 40
    omega
  · exact j_S_end
  · exact j_h_ok k1 k2 hn12 ht
  · intro k hk2
    show j_f n T E fog X k = f0 k
    unfold j_f
    rw [j_h_low hk2 hn12]
    exact hs k hk2
theorem j_jn {α : Type} {K : Int32 → α} {P : Prop} [Decidable P] : fw_jn K (fun J => if P then J (0 : Int32) else J (1 : Int32)) = if P then K (0 : Int32) else K (1 : Int32) := rfl
/-- the reference's hours: mists -/
theorem j_loopM (hF : 70000 ≤ F) (hok : v_ok n w Wd) (h0 : 0 < n) (hE : E = v_E n w T Wd f0 lw (v_op f0) (2 ^ n - 1) m) (hMB : z_MB f0 n m) (hB : ∀ x, B x = (fg || decide (¬ (0 : Int32) ≤ lg_cmp (j_dr x) (Int32.toInt64 ms)))) (hN : N ≤ 240) :
    ∀ (k i nn : Nat) (x : Int64) (g : fw_H) (X : j_X), i + k = N → k < nn → j_MI g n w T Wd f0 lw X → v_hr X.1 + k ≤ 9999 → X.1 53 = fw_b fg → z_I g 68 29 = ms →
    ∃ g', l_Mod_mists_16 F (some 68) (nI N) nn x (nI i) g = some (nI (v_hr (j_run n T E B k x X).1), g') ∧ (j_mf g g' ∧ j_MI g' n w T Wd f0 lw (j_run n T E B k x X)) := by
  have hn12 := hok.1
  intro k
  induction k with
  | zero =>
    intro i nn x g X hi hnn hI ht hfg hms
    obtain ⟨nn, rfl⟩ : ∃ k, nn = k + 1 := ⟨nn - 1, by omega⟩
    have hS := hI.1.1
    refine ⟨g, ?_, j_mf.refl, hI⟩
    rw [l_Mod_mists_16, if_pos (nI_le (by omega) (by omega)), z_r68_26 hS, Option.bind_some, show (56 : Int32) = nI 56 from rfl, z_a84 hS (by decide), Option.bind_some, hI.1.2.1.2.1.2.2 56 (by decide), hI.2.2.2.2.1.2.2.2.2.1]
    rfl
  | succ k ih =>
    intro i nn x g X hi hnn hI ht hfg hms
    obtain ⟨nn, rfl⟩ : ∃ k, nn = k + 1 := ⟨nn - 1, by omega⟩
    obtain ⟨g1, g2, a1, S1, a3, a53, b1, b2, b3⟩ := j_stepM (fog := B (j_x x)) hF hok h0 hE hMB hI (by omega)
    obtain ⟨g4, d1, d2, d3⟩ := ih (i + 1) nn (j_x x) g2 (j_nx n T E (B (j_x x)) X) (by omega) (by omega) b3 (by rw [show (j_nx n T E (B (j_x x)) X).1 = j_f n T E (B (j_x x)) X from rfl, j_f_hr (by omega)]; omega) (by rw [show (j_nx n T E (B (j_x x)) X).1 = j_f n T E (B (j_x x)) X from rfl, j_f_53 hn12]; exact hfg) (by rw [b2.2 29 (by decide)]; exact hms)
    refine ⟨g4, ?_, b2.trans d2, d3⟩
    have hxx : x * (6364136223846793005 : Int64) + (1442695040888963407 : Int64) = j_x x := rfl
    have hb := hB (j_x x)
    rw [l_Mod_mists_16, if_neg (nI_ge (by omega) (by omega)), a1, Option.bind_some, hxx, j_dr_eq, Option.bind_some, z_i68_29 S1, Option.bind_some, a3 29 (by decide), hms, j_jn]
    by_cases hc : (0 : Int32) ≤ lg_cmp (j_dr (j_x x)) (Int32.toInt64 ms)
    · rw [if_pos hc, if_neg (show ¬ ¬ (0 : Int32) = 0 from fun z => z rfl), z_r68_26 S1, Option.bind_some, show (53 : Int32) = nI 53 from rfl, z_a84 S1 (by decide), Option.bind_some, a53, hfg]
      cases fg
      · have hb0 : B (j_x x) = false := by rw [hb]; simp [hc]
        rw [hb0] at b1
        rw [if_pos (show ¬ fw_b false = (1 : Int32) by decide), b1, Option.bind_some, show nI i + (1 : Int32) = nI (i + 1) from nI_1 i, d1]
        rfl
      · have hb0 : B (j_x x) = true := by rw [hb]; rfl
        rw [hb0] at b1
        rw [if_neg (show ¬ ¬ fw_b true = (1 : Int32) by decide), b1, Option.bind_some, show nI i + (1 : Int32) = nI (i + 1) from nI_1 i, d1]
        rfl
    · have hb0 : B (j_x x) = true := by rw [hb]; simp [hc]
      rw [hb0] at b1
      rw [if_neg hc, if_pos (show ¬ (1 : Int32) = 0 by decide), b1, Option.bind_some, show nI i + (1 : Int32) = nI (i + 1) from nI_1 i, d1]
      rfl
/-- the reference's hours: go (x is of no account) -/
theorem j_loopG (hF : 70000 ≤ F) (hok : v_ok n w Wd) (h0 : 0 < n) (hE : E = v_E n w T Wd f0 lw (v_op f0) (2 ^ n - 1) m) (hMB : z_MB f0 n m) (hB : ∀ x, B x = fg) (hN : N ≤ 240) :
    ∀ (k i nn : Nat) (x : Int64) (g : fw_H) (X : j_X), i + k = N → k < nn → j_MI g n w T Wd f0 lw X → v_hr X.1 + k ≤ 9999 → X.1 53 = fw_b fg →
    ∃ g', l_Mod_go_12 F (some 68) (nI N) nn (nI i) g = some (nI (v_hr (j_run n T E B k x X).1), g') ∧ (j_mf g g' ∧ j_MI g' n w T Wd f0 lw (j_run n T E B k x X)) := by
  have hn12 := hok.1
  intro k
  induction k with
  | zero =>
    intro i nn x g X hi hnn hI ht hfg
    obtain ⟨nn, rfl⟩ : ∃ k, nn = k + 1 := ⟨nn - 1, by omega⟩
    have hS := hI.1.1
    refine ⟨g, ?_, j_mf.refl, hI⟩
    rw [l_Mod_go_12, if_pos (nI_le (by omega) (by omega)), z_r68_26 hS, Option.bind_some, show (56 : Int32) = nI 56 from rfl, z_a84 hS (by decide), Option.bind_some, hI.1.2.1.2.1.2.2 56 (by decide), hI.2.2.2.2.1.2.2.2.2.1]
    rfl
  | succ k ih =>
    intro i nn x g X hi hnn hI ht hfg
    obtain ⟨nn, rfl⟩ : ∃ k, nn = k + 1 := ⟨nn - 1, by omega⟩
    obtain ⟨g1, g2, a1, S1, a3, a53, b1, b2, b3⟩ := j_stepM (fog := B (j_x x)) hF hok h0 hE hMB hI (by omega)
    obtain ⟨g4, d1, d2, d3⟩ := ih (i + 1) nn (j_x x) g2 (j_nx n T E (B (j_x x)) X) (by omega) (by omega) b3 (by rw [show (j_nx n T E (B (j_x x)) X).1 = j_f n T E (B (j_x x)) X from rfl, j_f_hr (by omega)]; omega) (by rw [show (j_nx n T E (B (j_x x)) X).1 = j_f n T E (B (j_x x)) X from rfl, j_f_53 hn12]; exact hfg)
    refine ⟨g4, ?_, b2.trans d2, d3⟩
    rw [hB] at b1
    rw [l_Mod_go_12, if_neg (nI_ge (by omega) (by omega)), a1, Option.bind_some, z_r68_26 S1, Option.bind_some, show (53 : Int32) = nI 53 from rfl, z_a84 S1 (by decide), Option.bind_some, a53, hfg]
    cases fg
    · rw [if_pos (show ¬ fw_b false = (1 : Int32) by decide), b1, Option.bind_some, show nI i + (1 : Int32) = nI (i + 1) from nI_1 i, d1]
      rfl
    · rw [if_neg (show ¬ ¬ fw_b true = (1 : Int32) by decide), b1, Option.bind_some, show nI i + (1 : Int32) = nI (i + 1) from nI_1 i, d1]
      rfl
end JL
