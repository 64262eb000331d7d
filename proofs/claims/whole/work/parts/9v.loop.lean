-- THE LAW'S LOOP
section LP
variable {g : fw_H} {L F : Nat} {xs : Nat → Int32}
theorem lg_self (x : Int64) : lg_cmp x x = (0 : Int32) := by
  unfold lg_cmp
  simp
theorem k_loop (hF : 70000 ≤ F) (hL : L ≤ 3072) : ∀ (nn i : Nat) (g : fw_H), 6 * i ≤ L → L < 6 * (i + nn) → w_R g → g[0]? = (gl_h0 L xs)[0]? → ∃ g', l_Law0_law_23 F (some 0) (some 15) (some 68) (some 96) nn (nI (6 * i)) g = some (true, g') := by
  intro nn
  induction nn with
  | zero => intro i g h1 h2; omega
  | succ nn ih =>
    intro i g h1 h2 hR hg
    have c0 : (gl_h0 L xs)[0]? = some (.inr (.inr (.inl (L, .inl xs)))) := rfl
    have ar : ∀ g : fw_H, g[0]? = (gl_h0 L xs)[0]? → f_arI g (some 0) = some (L, xs) := fun g hg => by
      unfold f_arI
      simp only [hg, c0]
    have ln : f_lnI g (some 0) = some (nI L) := by unfold f_lnI; rw [ar g hg]; rfl
    have rd : ∀ j, j < L → ∀ g : fw_H, g[0]? = (gl_h0 L xs)[0]? → f_aI g (some 0) (nI j) = some (xs j) := fun j hj g hg => by
      unfold f_aI
      rw [ar g hg, Option.bind_some, nI_clamp (by omega), if_pos ⟨nI_pos (by omega), hj⟩]
    have ea : nI (6 * i) + (6 : Int32) = nI (6 * (i + 1)) := by rw [show (6 : Int32) = nI 6 from rfl, nI_add]; rfl
    rw [l_Law0_law_23, ln, Option.bind_some]
    by_cases hend : L < 6 * i + 6
    · have : nI L - (6 : Int32) < nI (6 * i) := by
        by_cases h6 : 6 ≤ L
        · rw [show nI L - (6 : Int32) = nI (L - 6) from pk_sub (b := 6) h6]
          exact nI_lt (by omega) (by omega)
        · have hi : i = 0 := by omega
          subst hi
          have : L = 0 ∨ L = 1 ∨ L = 2 ∨ L = 3 ∨ L = 4 ∨ L = 5 := by omega
          rcases this with rfl | rfl | rfl | rfl | rfl | rfl <;> decide
      rw [if_pos this]
      exact ⟨g, rfl⟩
    have hn : ¬ nI L - (6 : Int32) < nI (6 * i) := by
      rw [show nI L - (6 : Int32) = nI (L - 6) from pk_sub (b := 6) (by omega)]
      exact nI_nlt (by omega) (by omega)
    obtain ⟨X, hX⟩ : ∃ X : Nat → Int32, ∀ d, X d = xs (6 * i + d) := ⟨fun d => xs (6 * i + d), fun _ => rfl⟩
    have r0 : f_aI g (some 0) (nI (6 * i)) = some (X 0) := by rw [rd (6 * i) (by omega) g hg, hX]; rfl
    have r1 : ∀ g : fw_H, g[0]? = (gl_h0 L xs)[0]? → f_aI g (some 0) (nI (6 * i) + (1 : Int32)) = some (X 1) := fun g hg => by rw [show (1 : Int32) = nI 1 from rfl, nI_add, rd _ (by omega) g hg, hX]
    have r2 : ∀ g : fw_H, g[0]? = (gl_h0 L xs)[0]? → f_aI g (some 0) (nI (6 * i) + (2 : Int32)) = some (X 2) := fun g hg => by rw [show (2 : Int32) = nI 2 from rfl, nI_add, rd _ (by omega) g hg, hX]
    have r3 : ∀ g : fw_H, g[0]? = (gl_h0 L xs)[0]? → f_aI g (some 0) (nI (6 * i) + (3 : Int32)) = some (X 3) := fun g hg => by rw [show (3 : Int32) = nI 3 from rfl, nI_add, rd _ (by omega) g hg, hX]
    have r4 : ∀ g : fw_H, g[0]? = (gl_h0 L xs)[0]? → f_aI g (some 0) (nI (6 * i) + (4 : Int32)) = some (X 4) := fun g hg => by rw [show (4 : Int32) = nI 4 from rfl, nI_add, rd _ (by omega) g hg, hX]
    have r5 : ∀ g : fw_H, g[0]? = (gl_h0 L xs)[0]? → f_aI g (some 0) (nI (6 * i) + (5 : Int32)) = some (X 5) := fun g hg => by rw [show (5 : Int32) = nI 5 from rfl, nI_add, rd _ (by omega) g hg, hX]
    rw [if_neg hn, r0, Option.bind_some]
    by_cases e0 : (X 0 &&& (63 : Int32)) = (0 : Int32)
    · rw [if_pos e0]
      obtain ⟨v, h1, h2, a1, a2, a3⟩ := call_feed (F := F) (v1 := X 1) (v2 := X 2) (v3 := X 3) (v4 := X 4) (v5 := X 5) hF hR
      rw [r1 g (hg), Option.bind_some, r2 g (hg), Option.bind_some, r3 g (hg), Option.bind_some, r4 g (hg), Option.bind_some, r5 g (hg), Option.bind_some, a1, Option.bind_some]
      dsimp only
      rw [r1 h1 (a3.1.trans hg), Option.bind_some, r2 h1 (a3.1.trans hg), Option.bind_some, r3 h1 (a3.1.trans hg), Option.bind_some, r4 h1 (a3.1.trans hg), Option.bind_some, r5 h1 (a3.1.trans hg), Option.bind_some, a2, Option.bind_some]
      dsimp only
      rw [if_pos rfl, ea]
      exact ih (i + 1) h2 (by omega) (by omega) a3.2.1 (a3.2.2.trans hg)
    rw [if_neg e0]
    by_cases e1 : (X 0 &&& (63 : Int32)) = (1 : Int32)
    · rw [if_pos e1]
      obtain ⟨v, h1, h2, a1, a2, a3⟩ := call_end (x := X 1) hR
      rw [r1 g (hg), Option.bind_some, a1, Option.bind_some]
      dsimp only
      rw [r1 h1 (a3.1.trans hg), Option.bind_some, a2, Option.bind_some]
      dsimp only
      rw [if_pos rfl, ea]
      exact ih (i + 1) h2 (by omega) (by omega) a3.2.1 (a3.2.2.trans hg)
    rw [if_neg e1]
    by_cases e2 : (X 0 &&& (63 : Int32)) = (2 : Int32)
    · rw [if_pos e2]
      obtain ⟨v, h1, h2, a1, a2, a3⟩ := call_fault (F := F) (x := X 1) hF hR
      rw [r1 g (hg), Option.bind_some, a1, Option.bind_some]
      dsimp only
      rw [r1 h1 (a3.1.trans hg), Option.bind_some, a2, Option.bind_some]
      dsimp only
      rw [if_pos rfl, ea]
      exact ih (i + 1) h2 (by omega) (by omega) a3.2.1 (a3.2.2.trans hg)
    rw [if_neg e2]
    by_cases e3 : (X 0 &&& (63 : Int32)) = (3 : Int32)
    · rw [if_pos e3]
      obtain ⟨v, h1, h2, a1, a2, a3⟩ := call_text (F := F) (x := X 1) hF hR
      rw [r1 g (hg), Option.bind_some, a1, Option.bind_some]
      dsimp only
      rw [r1 h1 (a3.1.trans hg), Option.bind_some, a2, Option.bind_some]
      dsimp only
      rw [if_pos rfl, ea]
      exact ih (i + 1) h2 (by omega) (by omega) a3.2.1 (a3.2.2.trans hg)
    rw [if_neg e3]
    by_cases e4 : (X 0 &&& (63 : Int32)) = (4 : Int32)
    · rw [if_pos e4]
      obtain ⟨kk, h1, bb, h2, a1, a2, a4, a5, a6, a3⟩ := call_house (x := X 1) (y := X 2) hR
      rw [r1 g (hg), Option.bind_some, r2 g (hg), Option.bind_some, a1, Option.bind_some]
      dsimp only
      rw [r1 h1 (a3.1.trans hg), Option.bind_some, r2 h1 (a3.1.trans hg), Option.bind_some, a2, Option.bind_some]
      dsimp only
      rw [a4, Option.bind_some, if_pos rfl]
      by_cases hk : kk = (0 : Int32)
      · have hJ : f_aJ h2 (some 96) (0 : Int32) = some (Int32.toInt64 bb) := by rw [show (0 : Int32) = nI 0 from rfl, z_aJ (z_ckT a5 rfl) (by decide : 0 < 1) (by decide), a6 hk]
        rw [if_neg (fun z => z hk), hJ, Option.bind_some, if_pos (lg_self _), ea]
        exact ih (i + 1) h2 (by omega) (by omega) a3.2.1 (a3.2.2.trans hg)
      · rw [if_pos hk, ea]
        exact ih (i + 1) h2 (by omega) (by omega) a3.2.1 (a3.2.2.trans hg)
    rw [if_neg e4]
    by_cases e5 : (X 0 &&& (63 : Int32)) = (5 : Int32)
    · rw [if_pos e5]
      obtain ⟨v, a1, a2⟩ := call_window (x := X 1) (y := X 2) hR
      rw [r1 g (hg), Option.bind_some, r2 g (hg), Option.bind_some, a1, Option.bind_some, Option.bind_some, Option.bind_some, a2, Option.bind_some, if_pos rfl, ea]
      exact ih (i + 1) g (by omega) (by omega) hR hg
    rw [if_neg e5]
    by_cases e6 : (X 0 &&& (63 : Int32)) = (6 : Int32)
    · rw [if_pos e6]
      obtain ⟨v, h1, h2, a1, a2, a3⟩ := call_law (x := X 1) hR
      rw [r1 g (hg), Option.bind_some, a1, Option.bind_some]
      dsimp only
      rw [r1 h1 (a3.1.trans hg), Option.bind_some, a2, Option.bind_some]
      dsimp only
      rw [if_pos rfl, ea]
      exact ih (i + 1) h2 (by omega) (by omega) a3.2.1 (a3.2.2.trans hg)
    rw [if_neg e6]
    by_cases e7 : (X 0 &&& (63 : Int32)) = (7 : Int32)
    · rw [if_pos e7]
      obtain ⟨v, h1, h2, a1, a2, a3⟩ := call_wish (F := F) (x := X 1) hF hR
      rw [r1 g (hg), Option.bind_some, a1, Option.bind_some]
      dsimp only
      rw [r1 h1 (a3.1.trans hg), Option.bind_some, a2, Option.bind_some]
      dsimp only
      rw [if_pos rfl, ea]
      exact ih (i + 1) h2 (by omega) (by omega) a3.2.1 (a3.2.2.trans hg)
    rw [if_neg e7]
    by_cases e8 : (X 0 &&& (63 : Int32)) = (8 : Int32)
    · rw [if_pos e8]
      rw [r1 g (hg), Option.bind_some, r2 g (hg), Option.bind_some, k_jn1]
      by_cases hz : X 2 = (0 : Int32)
      · rw [if_pos hz]
        dsimp only
        rw [show f_toB (0 : Int32) = some false from rfl, Option.bind_some]
        obtain ⟨v, h1, h2, a1, a2, a3⟩ := call_turn (F := F) (x := X 1) (is := false) hF  hR
        rw [a1, Option.bind_some]
        dsimp only
        rw [r1 h1 (a3.1.trans hg), Option.bind_some, r2 h1 (a3.1.trans hg), Option.bind_some, if_pos hz, a2, Option.bind_some]
        dsimp only
        rw [if_pos rfl, ea]
        exact ih (i + 1) h2 (by omega) (by omega) a3.2.1 (a3.2.2.trans hg)
      · rw [if_neg hz]
        dsimp only
        rw [show f_toB (1 : Int32) = some true from rfl, Option.bind_some]
        obtain ⟨v, h1, h2, a1, a2, a3⟩ := call_turn (F := F) (x := X 1) (is := true) hF  hR
        rw [a1, Option.bind_some]
        dsimp only
        rw [r1 h1 (a3.1.trans hg), Option.bind_some, r2 h1 (a3.1.trans hg), Option.bind_some, if_neg hz, a2, Option.bind_some]
        dsimp only
        rw [if_pos rfl, ea]
        exact ih (i + 1) h2 (by omega) (by omega) a3.2.1 (a3.2.2.trans hg)
    rw [if_neg e8]
    by_cases e9 : (X 0 &&& (63 : Int32)) = (9 : Int32)
    · rw [if_pos e9]
      rw [r1 g (hg), Option.bind_some, r2 g (hg), Option.bind_some, k_jn1]
      by_cases hz : X 2 = (0 : Int32)
      · rw [if_pos hz]
        dsimp only
        rw [show f_toB (0 : Int32) = some false from rfl, Option.bind_some]
        obtain ⟨v, h1, h2, a1, a2, a3⟩ := call_shut (F := F) (x := X 1) (is := false) hF  hR
        rw [a1, Option.bind_some]
        dsimp only
        rw [r1 h1 (a3.1.trans hg), Option.bind_some, r2 h1 (a3.1.trans hg), Option.bind_some, if_pos hz, a2, Option.bind_some]
        dsimp only
        rw [if_pos rfl, ea]
        exact ih (i + 1) h2 (by omega) (by omega) a3.2.1 (a3.2.2.trans hg)
      · rw [if_neg hz]
        dsimp only
        rw [show f_toB (1 : Int32) = some true from rfl, Option.bind_some]
        obtain ⟨v, h1, h2, a1, a2, a3⟩ := call_shut (F := F) (x := X 1) (is := true) hF  hR
        rw [a1, Option.bind_some]
        dsimp only
        rw [r1 h1 (a3.1.trans hg), Option.bind_some, r2 h1 (a3.1.trans hg), Option.bind_some, if_neg hz, a2, Option.bind_some]
        dsimp only
        rw [if_pos rfl, ea]
        exact ih (i + 1) h2 (by omega) (by omega) a3.2.1 (a3.2.2.trans hg)
    rw [if_neg e9]
    by_cases e10 : (X 0 &&& (63 : Int32)) = (10 : Int32)
    · rw [if_pos e10]
      rw [r1 g (hg), Option.bind_some, k_jn1]
      by_cases hz : X 1 = (0 : Int32)
      · rw [if_pos hz]
        dsimp only
        rw [show f_toB (0 : Int32) = some false from rfl, Option.bind_some]
        obtain ⟨v, h1, h2, a1, a2, a3⟩ := call_music (F := F) (is := false) hF  hR
        rw [a1, Option.bind_some]
        dsimp only
        rw [r1 h1 (a3.1.trans hg), Option.bind_some, if_pos hz, a2, Option.bind_some]
        dsimp only
        rw [if_pos rfl, ea]
        exact ih (i + 1) h2 (by omega) (by omega) a3.2.1 (a3.2.2.trans hg)
      · rw [if_neg hz]
        dsimp only
        rw [show f_toB (1 : Int32) = some true from rfl, Option.bind_some]
        obtain ⟨v, h1, h2, a1, a2, a3⟩ := call_music (F := F) (is := true) hF  hR
        rw [a1, Option.bind_some]
        dsimp only
        rw [r1 h1 (a3.1.trans hg), Option.bind_some, if_neg hz, a2, Option.bind_some]
        dsimp only
        rw [if_pos rfl, ea]
        exact ih (i + 1) h2 (by omega) (by omega) a3.2.1 (a3.2.2.trans hg)
    rw [if_neg e10]
    by_cases e11 : (X 0 &&& (63 : Int32)) = (11 : Int32)
    · rw [if_pos e11]
      rw [r1 g (hg), Option.bind_some, k_jn1]
      by_cases hz : X 1 = (0 : Int32)
      · rw [if_pos hz]
        dsimp only
        rw [show f_toB (0 : Int32) = some false from rfl, Option.bind_some]
        obtain ⟨v, h1, h2, a1, a2, a3⟩ := call_fog (F := F) (is := false) hF  hR
        rw [a1, Option.bind_some]
        dsimp only
        rw [r1 h1 (a3.1.trans hg), Option.bind_some, if_pos hz, a2, Option.bind_some]
        dsimp only
        rw [if_pos rfl, ea]
        exact ih (i + 1) h2 (by omega) (by omega) a3.2.1 (a3.2.2.trans hg)
      · rw [if_neg hz]
        dsimp only
        rw [show f_toB (1 : Int32) = some true from rfl, Option.bind_some]
        obtain ⟨v, h1, h2, a1, a2, a3⟩ := call_fog (F := F) (is := true) hF  hR
        rw [a1, Option.bind_some]
        dsimp only
        rw [r1 h1 (a3.1.trans hg), Option.bind_some, if_neg hz, a2, Option.bind_some]
        dsimp only
        rw [if_pos rfl, ea]
        exact ih (i + 1) h2 (by omega) (by omega) a3.2.1 (a3.2.2.trans hg)
    rw [if_neg e11]
    by_cases e12 : (X 0 &&& (63 : Int32)) = (12 : Int32)
    · rw [if_pos e12]
      obtain ⟨v, h1, h2, a1, a2, a3⟩ := call_prescribe (F := F) (x := X 1) hF hR
      rw [r1 g (hg), Option.bind_some, a1, Option.bind_some]
      dsimp only
      rw [r1 h1 (a3.1.trans hg), Option.bind_some, a2, Option.bind_some]
      dsimp only
      rw [if_pos rfl, ea]
      exact ih (i + 1) h2 (by omega) (by omega) a3.2.1 (a3.2.2.trans hg)
    rw [if_neg e12]
    by_cases e13 : (X 0 &&& (63 : Int32)) = (13 : Int32)
    · rw [if_pos e13]
      obtain ⟨v, h1, h2, a1, a2, a3⟩ := call_lie (F := F)  hF hR
      rw [a1, Option.bind_some]
      dsimp only
      rw [a2, Option.bind_some]
      dsimp only
      rw [if_pos rfl, ea]
      exact ih (i + 1) h2 (by omega) (by omega) a3.2.1 (a3.2.2.trans hg)
    rw [if_neg e13]
    by_cases e14 : (X 0 &&& (63 : Int32)) = (14 : Int32)
    · rw [if_pos e14]
      obtain ⟨v, h1, h2, a1, a2, a3⟩ := call_go (F := F) (xx := X 1) hF hR
      rw [r1 g (hg), Option.bind_some, a1, Option.bind_some]
      dsimp only
      rw [r1 h1 (a3.1.trans hg), Option.bind_some, a2, Option.bind_some]
      dsimp only
      rw [if_pos rfl, ea]
      exact ih (i + 1) h2 (by omega) (by omega) a3.2.1 (a3.2.2.trans hg)
    rw [if_neg e14]
    by_cases e15 : (X 0 &&& (63 : Int32)) = (15 : Int32)
    · rw [if_pos e15]
      obtain ⟨v, h1, h2, a1, a2, a3⟩ := call_mist (x := X 1) hR
      rw [r1 g (hg), Option.bind_some, a1, Option.bind_some]
      dsimp only
      rw [r1 h1 (a3.1.trans hg), Option.bind_some, a2, Option.bind_some]
      dsimp only
      rw [if_pos rfl, ea]
      exact ih (i + 1) h2 (by omega) (by omega) a3.2.1 (a3.2.2.trans hg)
    rw [if_neg e15]
    by_cases e16 : (X 0 &&& (63 : Int32)) = (16 : Int32)
    · rw [if_pos e16]
      obtain ⟨v, h1, h2, a1, a2, a3⟩ := call_mists (F := F) (xx := X 1) (y := (fw_lshl (Int32.toInt64 (X 2)) (32 : Int32)) ||| ((Int32.toInt64 (X 3)) &&& (4294967295 : Int64))) hF hR
      rw [r1 g (hg), Option.bind_some, r2 g (hg), Option.bind_some, r3 g (hg), Option.bind_some, a1, Option.bind_some]
      dsimp only
      rw [r1 h1 (a3.1.trans hg), Option.bind_some, r2 h1 (a3.1.trans hg), Option.bind_some, r3 h1 (a3.1.trans hg), Option.bind_some, a2, Option.bind_some]
      dsimp only
      rw [if_pos rfl, ea]
      exact ih (i + 1) h2 (by omega) (by omega) a3.2.1 (a3.2.2.trans hg)
    rw [if_neg e16]
    by_cases e17 : (X 0 &&& (63 : Int32)) = (17 : Int32)
    · rw [if_pos e17]
      obtain ⟨v, h1, h2, a1, a2, a3⟩ := call_undo (F := F)  hF hR
      rw [a1, Option.bind_some]
      dsimp only
      rw [a2, Option.bind_some]
      dsimp only
      rw [if_pos rfl, ea]
      exact ih (i + 1) h2 (by omega) (by omega) a3.2.1 (a3.2.2.trans hg)
    rw [if_neg e17]
    by_cases e18 : (X 0 &&& (63 : Int32)) = (18 : Int32)
    · rw [if_pos e18]
      obtain ⟨v, a1, a2⟩ := call_log (x := X 1) hR
      rw [r1 g (hg), Option.bind_some, a1, Option.bind_some, Option.bind_some, a2, Option.bind_some, if_pos rfl, ea]
      exact ih (i + 1) g (by omega) (by omega) hR hg
    rw [if_neg e18]
    by_cases e19 : (X 0 &&& (63 : Int32)) = (19 : Int32)
    · rw [if_pos e19]
      obtain ⟨v, h1, h2, a1, a2, a3⟩ := call_ahead (F := F) (x := X 1) hF hR
      rw [r1 g (hg), Option.bind_some, a1, Option.bind_some]
      dsimp only
      rw [r1 h1 (a3.1.trans hg), Option.bind_some, a2, Option.bind_some]
      dsimp only
      rw [if_pos rfl, ea]
      exact ih (i + 1) h2 (by omega) (by omega) a3.2.1 (a3.2.2.trans hg)
    rw [if_neg e19]
    by_cases e20 : (X 0 &&& (63 : Int32)) = (20 : Int32)
    · rw [if_pos e20]
      obtain ⟨v, h1, h2, a1, a2, a3⟩ := call_when (F := F) (x := X 1) hF hR
      rw [r1 g (hg), Option.bind_some, a1, Option.bind_some]
      dsimp only
      rw [r1 h1 (a3.1.trans hg), Option.bind_some, a2, Option.bind_some]
      dsimp only
      rw [if_pos rfl, ea]
      exact ih (i + 1) h2 (by omega) (by omega) a3.2.1 (a3.2.2.trans hg)
    rw [if_neg e20]
    by_cases e21 : (X 0 &&& (63 : Int32)) = (21 : Int32)
    · rw [if_pos e21]
      obtain ⟨v, h1, h2, a1, a2, a3⟩ := call_round (F := F) (x := X 1) hF hR
      rw [r1 g (hg), Option.bind_some, a1, Option.bind_some]
      dsimp only
      rw [r1 h1 (a3.1.trans hg), Option.bind_some, a2, Option.bind_some]
      dsimp only
      rw [if_pos rfl, ea]
      exact ih (i + 1) h2 (by omega) (by omega) a3.2.1 (a3.2.2.trans hg)
    rw [if_neg e21]
    by_cases e22 : (X 0 &&& (63 : Int32)) = (22 : Int32)
    · rw [if_pos e22]
      obtain ⟨v, h1, h2, a1, a2, a3⟩ := call_never (F := F)  hF hR
      rw [a1, Option.bind_some]
      dsimp only
      rw [a2, Option.bind_some]
      dsimp only
      rw [if_pos rfl, ea]
      exact ih (i + 1) h2 (by omega) (by omega) a3.2.1 (a3.2.2.trans hg)
    rw [if_neg e22]
    by_cases e23 : (X 0 &&& (63 : Int32)) = (23 : Int32)
    · rw [if_pos e23]
      obtain ⟨v, h1, h2, a1, a2, a3⟩ := call_feud (F := F)  hF hR
      rw [a1, Option.bind_some]
      dsimp only
      rw [a2, Option.bind_some]
      dsimp only
      rw [if_pos rfl, ea]
      exact ih (i + 1) h2 (by omega) (by omega) a3.2.1 (a3.2.2.trans hg)
    rw [if_neg e23]
    by_cases e24 : (X 0 &&& (63 : Int32)) = (24 : Int32)
    · rw [if_pos e24]
      obtain ⟨v, h1, h2, a1, a2, a3⟩ := call_stand (F := F) (xx := X 1) (yy := X 2) hF hR
      rw [r1 g (hg), Option.bind_some, r2 g (hg), Option.bind_some, a1, Option.bind_some]
      dsimp only
      rw [r1 h1 (a3.1.trans hg), Option.bind_some, r2 h1 (a3.1.trans hg), Option.bind_some, a2, Option.bind_some]
      dsimp only
      rw [if_pos rfl, ea]
      exact ih (i + 1) h2 (by omega) (by omega) a3.2.1 (a3.2.2.trans hg)
    rw [if_neg e24]
    by_cases e25 : (X 0 &&& (63 : Int32)) = (25 : Int32)
    · rw [if_pos e25]
      obtain ⟨v, h1, h2, a1, a2, a3⟩ := call_lies (F := F) (x := X 1) (y := X 2) hF hR
      rw [r1 g (hg), Option.bind_some, r2 g (hg), Option.bind_some, a1, Option.bind_some]
      dsimp only
      rw [r1 h1 (a3.1.trans hg), Option.bind_some, r2 h1 (a3.1.trans hg), Option.bind_some, a2, Option.bind_some]
      dsimp only
      rw [if_pos rfl, ea]
      exact ih (i + 1) h2 (by omega) (by omega) a3.2.1 (a3.2.2.trans hg)
    rw [if_neg e25]
    by_cases e26 : (X 0 &&& (63 : Int32)) = (26 : Int32)
    · rw [if_pos e26]
      obtain ⟨v, h1, h2, a1, a2, a3⟩ := call_shutters (F := F) (xx := X 1) hF hR
      rw [r1 g (hg), Option.bind_some, a1, Option.bind_some]
      dsimp only
      rw [r1 h1 (a3.1.trans hg), Option.bind_some, a2, Option.bind_some]
      dsimp only
      rw [if_pos rfl, ea]
      exact ih (i + 1) h2 (by omega) (by omega) a3.2.1 (a3.2.2.trans hg)
    rw [if_neg e26]
    by_cases e27 : (X 0 &&& (63 : Int32)) = (27 : Int32)
    · rw [if_pos e27]
      obtain ⟨v, h1, h2, a1, a2, a3⟩ := call_feast (F := F) (x := X 1) (y := X 2) (z := X 3) hF hR
      rw [r1 g (hg), Option.bind_some, r2 g (hg), Option.bind_some, r3 g (hg), Option.bind_some, a1, Option.bind_some]
      dsimp only
      rw [r1 h1 (a3.1.trans hg), Option.bind_some, r2 h1 (a3.1.trans hg), Option.bind_some, r3 h1 (a3.1.trans hg), Option.bind_some, a2, Option.bind_some]
      dsimp only
      rw [if_pos rfl, ea]
      exact ih (i + 1) h2 (by omega) (by omega) a3.2.1 (a3.2.2.trans hg)
    rw [if_neg e27]
    by_cases e28 : (X 0 &&& (63 : Int32)) = (28 : Int32)
    · rw [if_pos e28]
      obtain ⟨v, h1, h2, a1, a2, a3⟩ := call_odds (F := F) (x := X 1) (y := X 2) (z := X 3) hF hR
      rw [r1 g (hg), Option.bind_some, r2 g (hg), Option.bind_some, r3 g (hg), Option.bind_some, a1, Option.bind_some]
      dsimp only
      rw [r1 h1 (a3.1.trans hg), Option.bind_some, r2 h1 (a3.1.trans hg), Option.bind_some, r3 h1 (a3.1.trans hg), Option.bind_some, a2, Option.bind_some]
      dsimp only
      rw [if_pos rfl, ea]
      exact ih (i + 1) h2 (by omega) (by omega) a3.2.1 (a3.2.2.trans hg)
    rw [if_neg e28]
    by_cases e29 : (X 0 &&& (63 : Int32)) = (29 : Int32)
    · rw [if_pos e29]
      obtain ⟨v, h1, h2, a1, a2, a3⟩ := call_mean (F := F) (x := X 1) (y := X 2) (z := X 3) hF hR
      rw [r1 g (hg), Option.bind_some, r2 g (hg), Option.bind_some, r3 g (hg), Option.bind_some, a1, Option.bind_some]
      dsimp only
      rw [r1 h1 (a3.1.trans hg), Option.bind_some, r2 h1 (a3.1.trans hg), Option.bind_some, r3 h1 (a3.1.trans hg), Option.bind_some, a2, Option.bind_some]
      dsimp only
      rw [if_pos rfl, ea]
      exact ih (i + 1) h2 (by omega) (by omega) a3.2.1 (a3.2.2.trans hg)
    rw [if_neg e29]
    by_cases e30 : (X 0 &&& (63 : Int32)) = (30 : Int32)
    · rw [if_pos e30]
      obtain ⟨v, h1, h2, a1, a2, a3⟩ := call_pretend (F := F) (x := X 1) (y := X 2) (z := X 3) (u := X 4) hF hR
      rw [r1 g (hg), Option.bind_some, r2 g (hg), Option.bind_some, r3 g (hg), Option.bind_some, r4 g (hg), Option.bind_some, a1, Option.bind_some]
      dsimp only
      rw [r1 h1 (a3.1.trans hg), Option.bind_some, r2 h1 (a3.1.trans hg), Option.bind_some, r3 h1 (a3.1.trans hg), Option.bind_some, r4 h1 (a3.1.trans hg), Option.bind_some, a2, Option.bind_some]
      dsimp only
      rw [if_pos rfl, ea]
      exact ih (i + 1) h2 (by omega) (by omega) a3.2.1 (a3.2.2.trans hg)
    rw [if_neg e30]
    by_cases e31 : (X 0 &&& (63 : Int32)) = (31 : Int32)
    · rw [if_pos e31]
      obtain ⟨v, h1, h2, a1, a2, a3⟩ := call_rests (F := F) (x := X 1) (y := X 2) (z := X 3) hF hR
      rw [r1 g (hg), Option.bind_some, r2 g (hg), Option.bind_some, r3 g (hg), Option.bind_some, a1, Option.bind_some]
      dsimp only
      rw [r1 h1 (a3.1.trans hg), Option.bind_some, r2 h1 (a3.1.trans hg), Option.bind_some, r3 h1 (a3.1.trans hg), Option.bind_some, a2, Option.bind_some]
      dsimp only
      rw [if_pos rfl, ea]
      exact ih (i + 1) h2 (by omega) (by omega) a3.2.1 (a3.2.2.trans hg)
    rw [if_neg e31]
    by_cases e32 : (X 0 &&& (63 : Int32)) = (32 : Int32)
    · rw [if_pos e32]
      obtain ⟨v, h1, h2, a1, a2, a3⟩ := call_see (x := X 1) (y := X 2) hR
      rw [r1 g (hg), Option.bind_some, r2 g (hg), Option.bind_some, a1, Option.bind_some]
      dsimp only
      rw [r1 h1 (a3.1.trans hg), Option.bind_some, r2 h1 (a3.1.trans hg), Option.bind_some, a2, Option.bind_some]
      dsimp only
      rw [if_pos rfl, ea]
      exact ih (i + 1) h2 (by omega) (by omega) a3.2.1 (a3.2.2.trans hg)
    rw [if_neg e32]
    by_cases e33 : (X 0 &&& (63 : Int32)) = (33 : Int32)
    · rw [if_pos e33]
      obtain ⟨v, h1, h2, a1, a2, a3⟩ := call_envied (F := F) (x := X 1) hF hR
      rw [r1 g (hg), Option.bind_some, a1, Option.bind_some]
      dsimp only
      rw [r1 h1 (a3.1.trans hg), Option.bind_some, a2, Option.bind_some]
      dsimp only
      rw [if_pos rfl, ea]
      exact ih (i + 1) h2 (by omega) (by omega) a3.2.1 (a3.2.2.trans hg)
    rw [if_neg e33]
    by_cases e34 : (X 0 &&& (63 : Int32)) = (34 : Int32)
    · rw [if_pos e34]
      obtain ⟨v, h1, h2, a1, a2, a3⟩ := call_sure (F := F)  hF hR
      rw [a1, Option.bind_some]
      dsimp only
      rw [a2, Option.bind_some]
      dsimp only
      rw [if_pos rfl, ea]
      exact ih (i + 1) h2 (by omega) (by omega) a3.2.1 (a3.2.2.trans hg)
    rw [if_neg e34]
    by_cases e35 : (X 0 &&& (63 : Int32)) = (35 : Int32)
    · rw [if_pos e35]
      obtain ⟨v, h1, h2, a1, a2, a3⟩ := call_sills (F := F)  hF hR
      rw [a1, Option.bind_some]
      dsimp only
      rw [a2, Option.bind_some]
      dsimp only
      rw [if_pos rfl, ea]
      exact ih (i + 1) h2 (by omega) (by omega) a3.2.1 (a3.2.2.trans hg)
    rw [if_neg e35]
    by_cases e36 : (X 0 &&& (63 : Int32)) = (36 : Int32)
    · rw [if_pos e36]
      obtain ⟨v, a1, a2⟩ := call_sees (F := F) (x := X 1) hF hR
      rw [r1 g (hg), Option.bind_some, a1, Option.bind_some, Option.bind_some, a2, Option.bind_some, if_pos rfl, ea]
      exact ih (i + 1) g (by omega) (by omega) hR hg
    rw [if_neg e36]
    by_cases e37 : (X 0 &&& (63 : Int32)) = (37 : Int32)
    · rw [if_pos e37]
      obtain ⟨v, a1, a2⟩ := call_most (F := F)  hF hR
      rw [a1, Option.bind_some, a2, Option.bind_some, if_pos rfl, ea]
      exact ih (i + 1) g (by omega) (by omega) hR hg
    rw [if_neg e37]
    by_cases e38 : (X 0 &&& (63 : Int32)) = (38 : Int32)
    · rw [if_pos e38]
      obtain ⟨v, a1, a2⟩ := call_widows (F := F)  hF hR
      rw [a1, Option.bind_some, a2, Option.bind_some, if_pos rfl, ea]
      exact ih (i + 1) g (by omega) (by omega) hR hg
    rw [if_neg e38]
    by_cases e39 : (X 0 &&& (63 : Int32)) = (39 : Int32)
    · rw [if_pos e39]
      obtain ⟨v, h1, h2, a1, a2, a3⟩ := call_image (F := F)  hF hR
      rw [a1, Option.bind_some]
      dsimp only
      rw [a2, Option.bind_some]
      dsimp only
      rw [if_pos rfl, ea]
      exact ih (i + 1) h2 (by omega) (by omega) a3.2.1 (a3.2.2.trans hg)
    rw [if_neg e39]
    by_cases e40 : (X 0 &&& (63 : Int32)) = (40 : Int32)
    · rw [if_pos e40]
      obtain ⟨v, h1, h2, a1, a2, a3⟩ := call_back (F := F)  hF hR
      rw [a1, Option.bind_some]
      dsimp only
      rw [a2, Option.bind_some]
      dsimp only
      rw [if_pos rfl, ea]
      exact ih (i + 1) h2 (by omega) (by omega) a3.2.1 (a3.2.2.trans hg)
    rw [if_neg e40]
    by_cases e41 : (X 0 &&& (63 : Int32)) = (41 : Int32)
    · rw [if_pos e41]
      obtain ⟨v, a1, a2⟩ := call_count (F := F) (x := X 1) hF hR
      rw [r1 g (hg), Option.bind_some, a1, Option.bind_some, Option.bind_some, a2, Option.bind_some, if_pos rfl, ea]
      exact ih (i + 1) g (by omega) (by omega) hR hg
    rw [if_neg e41]
    rw [ea]
    exact ih (i + 1) g (by omega) (by omega) hR hg
end LP
