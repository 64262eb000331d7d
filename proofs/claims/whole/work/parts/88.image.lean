-- IMAGE, BACK
section IM
variable {h g g' h1 h2 : fw_H} {a n w i k t x b p m F nn c nx N : Nat} {T Wd f s : Nat → Int32} {lw : Option (List q_C)}
/-- the reference's image -/
theorem j_mimage (h56 : z_A h 84 56 = nI t) : ∀ (k i nn : Nat) (g : fw_H), i + k = 118 → k < nn → z_Sh g → z_fr [95] h g → (∀ t, t < i → z_A g 95 t = z_A h 84 t) →
    ∃ g', l_Mod_image_11 (some 68) nn (nI i) g = some (nI t, z_sI g' 68 49 (fw_b true)) ∧ (z_Sh g' ∧ z_fr [95] h g' ∧ ∀ t, t < 118 → z_A g' 95 t = z_A h 84 t) := by
  intro k
  induction k with
  | zero =>
    intro i nn g hi hnn hS hf hA
    obtain ⟨nn, rfl⟩ : ∃ k, nn = k + 1 := ⟨nn - 1, by omega⟩
    obtain rfl : i = 118 := by omega
    have S1 : z_Sh (z_sI g 68 49 (fw_b true)) := z_Sh_sI hS
    refine ⟨g, ?_, hS, hf, hA⟩
    rw [l_Mod_image_11, if_pos (by decide), z_pBS hS rfl, Option.bind_some, z_r68_26 S1, Option.bind_some, show (56 : Int32) = nI 56 from rfl, z_a84 S1 (by decide), Option.bind_some, z_A_sI, hf.A (by decide), h56]
  | succ k ih =>
    intro i nn g hi hnn hS hf hA
    obtain ⟨nn, rfl⟩ : ∃ k, nn = k + 1 := ⟨nn - 1, by omega⟩
    rw [l_Mod_image_11, if_neg (show ¬ (118 : Int32) ≤ nI i from nI_ge (b := 118) (by omega) (by decide)), z_r68_48 hS, Option.bind_some, z_r68_26 hS, Option.bind_some, z_a84 hS (by omega), Option.bind_some, z_s95 hS (by omega), Option.bind_some, show nI i + (1 : Int32) = nI (i + 1) from nI_1 i]
    refine ih (i + 1) nn _ (by omega) (by omega) (z_Sh_sA hS) (hf.sA (by simp)) (fun t ht => ?_)
    rw [z_A_sA (z_ckT hS rfl), hf.A (by decide)]
    by_cases e : t = i
    · rw [if_pos e, e]
    · rw [if_neg e]; exact hA t (by omega)
/-- the reference's back -/
theorem j_mback (h56 : z_A h 95 56 = nI t) : ∀ (k i nn : Nat) (g : fw_H), i + k = 118 → k < nn → z_Sh g → z_fr [84] h g → (∀ t, t < i → z_A g 84 t = z_A h 95 t) →
    ∃ g', l_Mod_back_11 (some 68) nn (nI i) g = some (nI t, z_sI g' 68 31 (nI 0)) ∧ (z_Sh g' ∧ z_fr [84] h g' ∧ ∀ t, t < 118 → z_A g' 84 t = z_A h 95 t) := by
  intro k
  induction k with
  | zero =>
    intro i nn g hi hnn hS hf hA
    obtain ⟨nn, rfl⟩ : ∃ k, nn = k + 1 := ⟨nn - 1, by omega⟩
    obtain rfl : i = 118 := by omega
    have S1 : z_Sh (z_sI g 68 31 (nI 0)) := z_Sh_sI hS
    refine ⟨g, ?_, hS, hf, hA⟩
    rw [l_Mod_back_11, if_pos (by decide), show (0 : Int32) = nI 0 from rfl, z_w68_31 hS, Option.bind_some, z_r68_26 S1, Option.bind_some, show (56 : Int32) = nI 56 from rfl, z_a84 S1 (by decide), Option.bind_some, z_A_sI, hA 56 (by decide), h56]
  | succ k ih =>
    intro i nn g hi hnn hS hf hA
    obtain ⟨nn, rfl⟩ : ∃ k, nn = k + 1 := ⟨nn - 1, by omega⟩
    rw [l_Mod_back_11, if_neg (show ¬ (118 : Int32) ≤ nI i from nI_ge (b := 118) (by omega) (by decide)), z_r68_26 hS, Option.bind_some, z_r68_48 hS, Option.bind_some, z_a95 hS (by omega), Option.bind_some, z_s84 hS (by omega), Option.bind_some, show nI i + (1 : Int32) = nI (i + 1) from nI_1 i]
    refine ih (i + 1) nn _ (by omega) (by omega) (z_Sh_sA hS) (hf.sA (by simp)) (fun t ht => ?_)
    rw [z_A_sA (z_ckT hS rfl), hf.A (by decide)]
    by_cases e : t = i
    · rw [if_pos e, e]
    · rw [if_neg e]; exact hA t (by omega)
/-- image -/
theorem call_image (hF : 70000 ≤ F) (hR : w_R h) : ∃ v h1 h2, s_Joy_image F h (some 15) = some (v, h1) ∧ s_Mod_image F h1 (some 68) = some (v, h2) ∧ w_call h h1 h2 := by
  obtain ⟨n, w, T, Wd, f, lw, p, hR⟩ := hR
  have hS := hR.1
  have hok := hR.ok
  have hn := hR.2.1.2.1.1
  have hnm := hR.2.1.2.2.1
  have hn12 := hok.1
  have h84 := hR.2.1.2.2.2.1.2.2
  unfold s_Joy_image
  rw [z_c15 hS, Option.bind_some, z_r15_3 hS, Option.bind_some, z_isNone hS (.inr (.inl rfl)) hn hn12, Option.bind_some]
  by_cases h0 : n = 0
  · rw [if_pos (decide_eq_true h0)]
    refine ⟨-1, h, h, rfl, ?_, w_call.rr hR⟩
    unfold s_Mod_image
    rw [z_c68 hS, Option.bind_some, z_i68_24 hS, Option.bind_some, hnm, h0, if_neg (by decide)]
  · have hpos : 0 < n := by omega
    obtain ⟨p1, p2, p3, p4, p5, p6, p7, p8, p9⟩ := hR.2.1.2.1.pos hpos hn12
    have hR0 := hR.2.1.2.1
    obtain ⟨-, -, -, -, -, -, -, -, ⟨m8, r8, -⟩, ⟨m9, r9, -⟩, -⟩ := hR0
    obtain ⟨g1, a1, S1, a2, a3⟩ := z_take (h := h) (a := 29) (b := 34) hF hS (.inr (.inl rfl)) (.inr (.inr (.inl rfl))) (by decide) ⟨m8, r8⟩ ⟨m9, r9⟩
    have f1 : z_fr [34, 35, 36, 37, 38] h g1 := a2
    obtain ⟨g2, hg2⟩ : ∃ g2, g2 = z_sI g1 15 5 (fw_b true) := ⟨_, rfl⟩
    have S2 : z_Sh g2 := by rw [hg2]; exact z_Sh_sI S1
    have t12 : z_I g2 29 12 = nI (v_hr f) := by rw [hg2, z_I_sI_ne (by decide), f1.I (by decide)]; exact p9
    rw [if_neg (by simpa using h0), z_r15_4 hS, Option.bind_some, Option.bind_some, a1, Option.bind_some, z_pBS S1 rfl, Option.bind_some, ← hg2, z_r15_3 S2, Option.bind_some, z_i29_12 S2, Option.bind_some, t12]
    have A2 : ∀ b j, b < 34 ∨ 38 < b → z_A g2 b j = z_A h b j := fun b j hb => by rw [hg2, z_A_sI, f1.A (by simp; omega)]
    obtain ⟨g3, b1, S3, b2, b3⟩ := j_mimage (h := g2) (t := v_hr f) (by rw [A2 84 _ (by omega), h84 56 (by decide)]; exact p5) 118 0 F g2 (by omega) (by omega) S2 z_fr.refl (fun t ht => absurd ht (Nat.not_lt_zero _))
    have q2 : w_q [34, 35, 36, 37, 38, 95] [5] [49] h g2 := by
      rw [hg2]
      exact (w_q.fr f1 (fun j hj => .inl (by revert j; decide)) (by decide) (by decide)).trans (w_q.s15 (by simp))
    have q3 : w_q [34, 35, 36, 37, 38, 95] [5] [49] h (z_sI g3 68 49 (fw_b true)) := (q2.trans (w_q.fr b2 (fun j hj => .inl (by revert j; decide)) (by decide) (by decide))).trans (w_q.s68 (by simp))
    refine ⟨nI (v_hr f), g2, z_sI g3 68 49 (fw_b true), rfl, ?_, q2.c0 (by decide), ?_, q3.c0 (by decide)⟩
    · unfold s_Mod_image
      rw [z_c68 S2, Option.bind_some, z_i68_24 S2, Option.bind_some, q2.2.2.2 24 (by decide), hnm, if_pos (nI_ne0 hpos (by omega))]
      exact b1
    · obtain ⟨c, nx, H, S, l, hA, hM, hf⟩ := hR.2.2.2.2.1.unf
      obtain ⟨r1, r2, r3, r4, r5, r6, r7, r8, r9⟩ := hR
      refine ⟨n, w, T, Wd, f, lw, p, q3.sh (by decide) r1, q3.vil (by decide) (by decide) r2, q3.laws (by decide) (by decide) (by decide) r3, q3.tape (by decide) (by decide) r4, q3.acts (by decide) (by decide) r5, ⟨true, ?_, z_II S3 12 rfl, fun _ => ⟨hpos, f, fun j hj => ?_, ?_, w_S.wt hA hf⟩⟩, q3.seen (by decide) (by decide) r7, q3.mist (by decide) (by decide) r8, q3.trail (by decide) r9⟩
      · rw [z_I_sI_ne (by decide), b2.I (by decide), hg2, z_II S1 11 rfl]
      · rw [z_A_sI, b3 j hj, A2 84 _ (by omega)]; exact h84 j hj
      · have v1 : v_R g1 34 n w T Wd f := r2.2.1.cp hn12 hok.2.1 a3
        have v2 : v_R g2 34 n w T Wd f := by rw [hg2]; exact v1.fr (As := [15]) hn12 hok.2.1 (z_fr.refl.sI (by simp)) (fun d hd => by simp; omega)
        exact (v2.fr hn12 hok.2.1 b2 (fun d hd => by simp; omega)).fr (As := [68]) hn12 hok.2.1 (z_fr.refl.sI (by simp)) (fun d hd => by simp; omega)
/-- back -/
theorem call_back (hF : 70000 ≤ F) (hR : w_R h) : ∃ v h1 h2, s_Joy_back F h (some 15) = some (v, h1) ∧ s_Mod_back F h1 (some 68) = some (v, h2) ∧ w_call h h1 h2 := by
  obtain ⟨n, w, T, Wd, f, lw, p, hR⟩ := hR
  have hS := hR.1
  have hok := hR.ok
  have hn12 := hok.1
  obtain ⟨im, i1, i2, i3⟩ := hR.2.2.2.2.2.1
  unfold s_Joy_back
  rw [z_c15 hS, Option.bind_some, z_gB ((z_i15_5 hS).trans (congrArg some i1)) rfl, Option.bind_some]
  cases im
  · rw [if_neg (by decide)]
    refine ⟨-1, h, h, rfl, ?_, w_call.rr hR⟩
    unfold s_Mod_back
    rw [z_c68 hS, Option.bind_some, z_gB ((z_i68_49 hS).trans (congrArg some i2)) rfl, Option.bind_some, if_neg (by decide)]
  · obtain ⟨hpos, s, s1, s2, s3⟩ := i3 rfl
    obtain ⟨p1, p2, p3, p4, p5, p6, p7, p8, p9⟩ := s2.pos hpos hn12
    have hR0 := s2
    obtain ⟨-, -, -, -, -, -, -, -, ⟨m8, r8, -⟩, ⟨m9, r9, -⟩, -⟩ := hR0
    obtain ⟨g1, a1, S1, a2, a3⟩ := z_take (h := h) (a := 34) (b := 29) hF hS (.inr (.inr (.inl rfl))) (.inr (.inl rfl)) (by decide) ⟨m8, r8⟩ ⟨m9, r9⟩
    have f1 : z_fr [29, 30, 31, 32, 33] h g1 := a2
    have v1 : v_R g1 29 n w T Wd s := s2.cp hn12 hok.2.1 a3
    obtain ⟨g2, hg2⟩ : ∃ g2, g2 = z_sI g1 43 4 (nI 0) := ⟨_, rfl⟩
    have S2 : z_Sh g2 := by rw [hg2]; exact z_Sh_sI S1
    have f2 : z_fr [43] g1 g2 := by rw [hg2]; exact z_fr.refl.sI (by simp)
    have v2 : v_R g2 29 n w T Wd s := v1.fr hn12 hok.2.1 f2 (fun d hd => by simp; omega)
    have t12 : z_I g2 29 12 = nI (v_hr s) := (v2.pos hpos hn12).2.2.2.2.2.2.2.2
    have hclear : s_Acts_clear g1 (some 43) = some g2 := by
      unfold s_Acts_clear
      rw [z_c43 S1, Option.bind_some, show (0 : Int32) = nI 0 from rfl, z_w43_4 S1, Option.bind_some, hg2]
    rw [if_pos rfl, z_r15_3 hS, Option.bind_some, z_r15_4 hS, Option.bind_some, a1, Option.bind_some, z_r15_10 S1, Option.bind_some, hclear, Option.bind_some, z_r15_3 S2, Option.bind_some, z_i29_12 S2, Option.bind_some, t12]
    have F2 : z_fr [29, 30, 31, 32, 33, 43] h g2 := (f1.mono (by simp)).trans (f2.mono (by simp))
    have A95 : ∀ t, z_A g2 95 t = z_A h 95 t := fun t => F2.A (by decide)
    obtain ⟨g3, b1, S3, b2, b3⟩ := j_mback (h := g2) (t := v_hr s) (by rw [A95, s1 56 (by decide)]; exact p5) 118 0 F g2 (by omega) (by omega) S2 z_fr.refl (fun t ht => absurd ht (Nat.not_lt_zero _))
    have q2 : w_q [29, 30, 31, 32, 33, 43, 84] [] [31] h g2 := w_q.fr F2 (fun j hj => .inl (by revert j; decide)) (by decide) (by decide)
    have q3 : w_q [29, 30, 31, 32, 33, 43, 84] [] [31] h (z_sI g3 68 31 (nI 0)) := (q2.trans (w_q.fr b2 (fun j hj => .inl (by revert j; decide)) (by decide) (by decide))).trans (w_q.s68 (by simp))
    refine ⟨nI (v_hr s), g2, z_sI g3 68 31 (nI 0), rfl, ?_, q2.c0 (by decide), ?_, q3.c0 (by decide)⟩
    · unfold s_Mod_back
      rw [z_c68 S2, Option.bind_some, z_gB ((z_i68_49 S2).trans (congrArg some ((F2.I (by decide)).trans i2))) rfl, Option.bind_some, if_pos rfl]
      exact b1
    · obtain ⟨c, nx, H, S, l, hA, hM, hf⟩ := hR.2.2.2.2.1.unf
      obtain ⟨r1, ⟨v1', v2', v3', ⟨v4, v5, v6⟩, v7, v8⟩, r3, r4, r5, r6, r7, r8, r9⟩ := hR
      have A84 : ∀ j, j < 118 → z_A (z_sI g3 68 31 (nI 0)) 84 j = s j := fun j hj => by rw [z_A_sI, b3 j hj, A95]; exact s1 j hj
      have v3 : v_R (z_sI g3 68 31 (nI 0)) 29 n w T Wd s := (v2.fr hn12 hok.2.1 b2 (fun d hd => by simp; omega)).fr (As := [68]) hn12 hok.2.1 (z_fr.refl.sI (by simp)) (fun d hd => by simp; omega)
      have hac : w_acts (z_sI g3 68 31 (nI 0)) n T s := by
        have hv3 := v3
        obtain ⟨-, -, -, -, -, -, -, -, -, -, -, -, t', l', e1, e2, e3, e4, e5, e6, e7⟩ := hv3
        refine ⟨0, nx, fun i => z_A (z_sI g3 68 31 (nI 0)) 33 (i % 100), fun _ => s, fun _ => l', by decide, hA.2.1, ?_, z_II S3 12 rfl, ?_, fun j hj => absurd hj (Nat.not_lt_zero _), rfl, fun j _ => ⟨⟨e6, fun i hi => (e7 i hi).symm⟩, Nat.le_trans e2 e1, s3⟩, fun j hj => absurd hj (Nat.not_lt_zero _), fun j hj => absurd hj (Nat.not_lt_zero _), e5, fun i _ _ => rfl⟩
        · rw [z_I_sI_ne (by decide), b2.I (by decide), hg2, z_II S1 0 rfl]
        · rw [z_I_sI_ne (by decide), b2.I (by decide), hg2, z_I_sI_nk (by decide), f1.I (by decide)]; exact hA.2.2.2.1
      refine ⟨n, w, T, Wd, s, lw, p, q3.sh (by decide) r1, ⟨v1', v3, (q3.2.2.2 24 (by decide)).trans v3', ⟨(q3.2.2.2 25 (by decide)).trans v4, fun j hj => ?_, A84⟩, fun j hj => ?_, fun x hx => ?_⟩, q3.laws (by decide) (by decide) (by decide) r3, q3.tape (by decide) (by decide) r4, hac, q3.img v1'.1 v1'.2.1 (by decide) (by decide) (by decide) r6, q3.seen (by decide) (by decide) r7, q3.mist (by decide) (by decide) r8, q3.trail (by decide) r9⟩
      · rw [z_A_of (q3.at (by decide) (by decide))]; exact v5 j hj
      · rw [z_A_of (q3.at (by decide) (by decide))]; exact v7 j hj
      · rw [z_A_of (q3.at (by decide) (by decide))]; exact v8 x hx
end IM
