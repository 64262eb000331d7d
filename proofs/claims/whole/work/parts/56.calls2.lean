-- CALLS (2): the simple ones
section C2
variable {h g : fw_H} {n w p k m e F i t a : Nat} {T Wd f : Nat → Int32} {lw : Option (List q_C)} {x y : Int32}
/-- end -/
theorem call_end (hR : w_R h) : ∃ v h1 h2, s_Joy_end h (some 15) x = some (v, h1) ∧ s_Mod_end h1 (some 68) x = some (v, h2) ∧ w_call h h1 h2 := by
  obtain ⟨n, w, T, Wd, f, lw, p, hR⟩ := hR
  have hS := hR.1
  have hR0 := hR
  obtain ⟨r1, r2, r3, ⟨l, l1, l2, l3, l4⟩, r5, r6, r7, r8, r9⟩ := hR0
  have em : ∀ g, z_Sh g → z_I g 68 2 = nI l → s_Mod_end g (some 68) x = if x < 0 then some (false, g) else if x ≤ nI l then some (true, z_sI g 68 2 x) else some (false, g) := by
    intro g hg e
    unfold s_Mod_end
    rw [z_c68 hg, Option.bind_some, z_i68_2 hg, Option.bind_some, e, z_w68_2 hg]
    rfl
  have ec : s_Joy_end h (some 15) x = if x < 0 then some (false, h) else if x ≤ nI l then some (true, z_sI h 16 1 x) else some (false, h) := by
    unfold s_Joy_end s_Tape_cut
    rw [z_c15 hS, Option.bind_some, z_r15_0 hS, Option.bind_some, z_c16 hS, Option.bind_some, z_i16_1 hS, Option.bind_some, l2, z_w16_1 hS]
    by_cases h0 : x < 0
    · rw [if_pos h0, if_pos h0]; rfl
    · rw [if_neg h0, if_neg h0]
      by_cases h1 : x ≤ nI l
      · rw [if_pos h1, if_pos h1]; rfl
      · rw [if_neg h1, if_neg h1]; rfl
  rw [ec]
  by_cases h0 : x < 0
  · exact ⟨_, h, h, by rw [if_pos h0], by rw [em h hS l3, if_pos h0], w_call.rr hR⟩
  · by_cases h1 : x ≤ nI l
    · obtain ⟨i, hi, rfl⟩ := nI_of h0
      have hil := (nI_leI hi (by omega)).mp h1
      have S1 : z_Sh (z_sI h 16 1 (nI i)) := z_Sh_sI hS
      have q1 : w_q [16] [] [2] h (z_sI h 16 1 (nI i)) := w_q.sI (by simp) (by decide) (by decide)
      have q2 : w_q [16] [] [2] h (z_sI (z_sI h 16 1 (nI i)) 68 2 (nI i)) := q1.trans (w_q.s68 (by simp))
      refine ⟨true, _, z_sI (z_sI h 16 1 (nI i)) 68 2 (nI i), by rw [if_neg h0, if_pos h1], by rw [em _ S1 (by rw [z_I_sI_ne (by decide)]; exact l3), if_neg h0, if_pos h1], q1.c0 (by simp), ⟨n, w, T, Wd, f, lw, p, ?_⟩, q2.c0 (by simp)⟩
      refine ⟨q2.sh (by simp) r1, q2.vil (by decide) (by decide) r2, q2.laws (by decide) (by decide) (by decide) r3, ?_, q2.acts (by decide) (by decide) r5, q2.img r2.1.1 r2.1.2.1 (by decide) (by decide) (by decide) r6, q2.seen (by decide) (by decide) r7, q2.mist (by decide) (by decide) r8, q2.trail (by decide) r9⟩
      refine ⟨i, by omega, ?_, ?_, fun j hj => ?_⟩
      · rw [z_I_sI_ne (by decide), z_II hS 6 rfl]
      · rw [z_II S1 12 rfl]
      · rw [z_A_sI, z_A_sI, z_A_sI, z_A_sI]; exact l4 j (by omega)
    · exact ⟨_, h, h, by rw [if_neg h0, if_neg h1], by rw [em h hS l3, if_neg h0, if_neg h1], w_call.rr hR⟩
/-- law -/
theorem call_law (hR : w_R h) : ∃ v h1 h2, s_Joy_law h (some 15) x = some (v, h1) ∧ s_Mod_law h1 (some 68) x = some (v, h2) ∧ w_call h h1 h2 := by
  obtain ⟨n, w, T, Wd, f, lw, p, hR⟩ := hR
  have hS := hR.1
  have hR0 := hR
  obtain ⟨r1, r2, ⟨m, cs, ps, m1, m2, m3, m4, m5, m6⟩, r4, r5, r6, r7, r8, r9⟩ := hR0
  have e1 : (nI m - 1).toInt = (m : Int) - 1 := pk_sub_toInt (a := m) (b := 1) (by omega) (by decide)
  have e2 : (nI m).toInt = (m : Int) := nI_toInt (by omega)
  have e3 : (-1 : Int32).toInt = -1 := by decide
  have em : ∀ g, z_Sh g → z_I g 68 13 = nI m → s_Mod_law g (some 68) x = if x < -1 then some (false, g) else if x < nI m then some (true, z_sI g 68 28 x) else some (false, g) := by
    intro g hg e
    unfold s_Mod_law
    rw [z_c68 hg, Option.bind_some, z_i68_13 hg, Option.bind_some, e, z_in, Option.bind_some, z_w68_28 hg]
    by_cases h0 : x < -1
    · rw [if_pos h0, if_neg (by simp [h0])]
    · rw [if_neg h0]
      by_cases h1 : x < nI m
      · rw [if_pos h1, if_pos (decide_eq_true ⟨h0, by rw [fa_lt, e1]; rw [fa_lt, e2] at h1; omega⟩)]; rfl
      · rw [if_neg h1, if_neg (by rw [decide_eq_true_eq]; intro z; apply h1; have := z.2; rw [fa_lt, e1] at this; rw [fa_lt, e2]; omega)]
  have ec : s_Joy_law h (some 15) x = if x < -1 then some (false, h) else if x < nI m then some (true, z_sI h 15 9 x) else some (false, h) := by
    unfold s_Joy_law
    rw [z_c15 hS, Option.bind_some, z_i15_8 hS, Option.bind_some, m2, z_w15_9 hS]
    rfl
  rw [ec]
  by_cases h0 : x < -1
  · exact ⟨_, h, h, by rw [if_pos h0], by rw [em h hS m3, if_pos h0], w_call.rr hR⟩
  · by_cases h1 : x < nI m
    · have S1 : z_Sh (z_sI h 15 9 x) := z_Sh_sI hS
      have q1 : w_q [] [9] [28] h (z_sI h 15 9 x) := w_q.s15 (by simp)
      have q2 : w_q [] [9] [28] h (z_sI (z_sI h 15 9 x) 68 28 x) := q1.trans (w_q.s68 (by simp))
      have hb : ∀ (lw' : Option (List q_C)) (p' : Nat), ((x = -1 ∧ lw' = none ∧ p' = 39) ∨ ∃ k, k < m ∧ x = nI k ∧ lw' = some (cs k) ∧ p' = ps k) → w_laws (z_sI (z_sI h 15 9 x) 68 28 x) lw' p' := by
        intro lw' p' hx
        refine ⟨m, cs, ps, m1, (q2.2.2.1 8 (by decide)).trans m2, (q2.2.2.2 13 (by decide)).trans m3, fun i hi => ⟨(z_Q_of (q2.at (by decide) (by decide))).trans (m4 i hi).1, (m4 i hi).2.1, q2.LF (by decide) (m4 i hi).2.2.1, q2.mS (by decide) (m4 i hi).2.2.2⟩, q2.LF (by decide) m5, ?_⟩
        rw [z_I_sI_ne (by decide), z_II hS 11 rfl, z_II S1 12 rfl]
        rcases hx with ⟨a, b, c⟩ | ⟨k, a, b, c, d⟩
        · exact .inl ⟨a, a, b, c⟩
        · exact .inr ⟨k, a, b, b, c, d⟩
      have hx : ∃ (lw' : Option (List q_C)) (p' : Nat), (x = -1 ∧ lw' = none ∧ p' = 39) ∨ ∃ k, k < m ∧ x = nI k ∧ lw' = some (cs k) ∧ p' = ps k := by
        by_cases h2 : x < 0
        · refine ⟨none, 39, .inl ⟨?_, rfl, rfl⟩⟩
          rw [fa_lt, e3] at h0
          rw [fa_lt] at h2
          rw [fa_eq, e3]
          have : (0 : Int32).toInt = 0 := by decide
          omega
        · obtain ⟨k, hk, rfl⟩ := nI_of h2
          exact ⟨some (cs k), ps k, .inr ⟨k, (nI_ltI hk (by omega)).mp h1, rfl, rfl, rfl⟩⟩
      obtain ⟨lw', p', hx⟩ := hx
      exact ⟨true, _, z_sI (z_sI h 15 9 x) 68 28 x, by rw [if_neg h0, if_pos h1], by rw [em _ S1 (by rw [z_I_sI_ne (by decide)]; exact m3), if_neg h0, if_pos h1], q1.c0 (by simp), ⟨n, w, T, Wd, f, lw', p', q2.sh (by simp) r1, q2.vil (by decide) (by decide) r2, hb lw' p' hx, q2.tape (by decide) (by decide) r4, q2.acts (by decide) (by decide) r5, q2.img r2.1.1 r2.1.2.1 (by decide) (by decide) (by decide) r6, q2.seen (by decide) (by decide) r7, q2.mist (by decide) (by decide) r8, q2.trail (by decide) r9⟩, q2.c0 (by simp)⟩
    · exact ⟨_, h, h, by rw [if_neg h0, if_neg h1], by rw [em h hS m3, if_neg h0, if_neg h1], w_call.rr hR⟩
/-- mist -/
theorem call_mist (hR : w_R h) : ∃ v h1 h2, s_Joy_mist h (some 15) x = some (v, h1) ∧ s_Mod_mist h1 (some 68) x = some (v, h2) ∧ w_call h h1 h2 := by
  obtain ⟨n, w, T, Wd, f, lw, p, hR⟩ := hR
  have hS := hR.1
  have hR0 := hR
  obtain ⟨r1, r2, r3, r4, r5, r6, r7, ⟨c, c1, c2, c3⟩, r9⟩ := hR0
  have em : ∀ g, z_Sh g → z_I g 68 29 = nI c → s_Mod_mist g (some 68) x = if x < 0 then some (false, g) else if (99 : Int32) < x then some (false, g) else if ¬ x = nI c then some (true, z_sI g 68 29 x) else some (false, g) := by
    intro g hg e
    unfold s_Mod_mist
    rw [z_c68 hg, Option.bind_some, z_in, Option.bind_some, z_i68_29 hg, Option.bind_some, e, z_w68_29 hg]
    by_cases h0 : x < 0
    · rw [if_pos h0, if_neg (by simp [h0])]
    · rw [if_neg h0]
      by_cases h1 : (99 : Int32) < x
      · rw [if_pos h1, if_neg (by simp [h1])]
      · rw [if_neg h1, if_pos (by simp [h0, h1])]; rfl
  have ec : s_Joy_mist h (some 15) x = if x < 0 then some (false, h) else if (99 : Int32) < x then some (false, h) else if ¬ x = nI c then some (true, z_sI h 15 11 x) else some (false, h) := by
    unfold s_Joy_mist
    rw [z_c15 hS, Option.bind_some, z_i15_11 hS, Option.bind_some, c2, z_w15_11 hS]
    rfl
  rw [ec]
  by_cases h0 : x < 0
  · exact ⟨_, h, h, by rw [if_pos h0], by rw [em h hS c3, if_pos h0], w_call.rr hR⟩
  · by_cases h1 : (99 : Int32) < x
    · exact ⟨_, h, h, by rw [if_neg h0, if_pos h1], by rw [em h hS c3, if_neg h0, if_pos h1], w_call.rr hR⟩
    · by_cases h2 : x = nI c
      · exact ⟨_, h, h, by rw [if_neg h0, if_neg h1, if_neg (fun z => z h2)], by rw [em h hS c3, if_neg h0, if_neg h1, if_neg (fun z => z h2)], w_call.rr hR⟩
      · have S1 : z_Sh (z_sI h 15 11 x) := z_Sh_sI hS
        have q1 : w_q [] [11] [29] h (z_sI h 15 11 x) := w_q.s15 (by simp)
        have q2 : w_q [] [11] [29] h (z_sI (z_sI h 15 11 x) 68 29 x) := q1.trans (w_q.s68 (by simp))
        obtain ⟨i, hi, rfl⟩ := v_le_t (N := 99) h0 h1 (by decide)
        refine ⟨true, _, z_sI (z_sI h 15 11 (nI i)) 68 29 (nI i), by rw [if_neg h0, if_neg h1, if_pos h2], by rw [em _ S1 (by rw [z_I_sI_ne (by decide)]; exact c3), if_neg h0, if_neg h1, if_pos h2], q1.c0 (by simp), ⟨n, w, T, Wd, f, lw, p, q2.sh (by simp) r1, q2.vil (by decide) (by decide) r2, q2.laws (by decide) (by decide) (by decide) r3, q2.tape (by decide) (by decide) r4, q2.acts (by decide) (by decide) r5, q2.img r2.1.1 r2.1.2.1 (by decide) (by decide) (by decide) r6, q2.seen (by decide) (by decide) r7, ⟨i, hi, ?_, ?_⟩, q2.trail (by decide) r9⟩, q2.c0 (by simp)⟩
        · rw [z_I_sI_ne (by decide), z_II hS 11 rfl]
        · rw [z_II S1 12 rfl]
/-- see -/
theorem call_see (hR : w_R h) : ∃ v h1 h2, s_Joy_see h (some 15) x y = some (v, h1) ∧ s_Mod_see h1 (some 68) x y = some (v, h2) ∧ w_call h h1 h2 := by
  obtain ⟨n, w, T, Wd, f, lw, p, hR⟩ := hR
  have hS := hR.1
  have hR0 := hR
  obtain ⟨r1, r2, r3, r4, r5, r6, ⟨s, s1, s2, s3, s4⟩, r8, r9⟩ := hR0
  have hn12 := r2.1.1
  have hn := r2.2.1.1
  have hnm := r2.2.2.1
  have em : ∀ g, z_Sh g → z_I g 68 24 = nI n → s_Mod_see g (some 68) x y = if v_in y n = true then (if decide (¬ x < 1 ∧ ¬ (20 : Int32) < x) = true then ((f_gI g (some 68) 12 47).bind fun x19 =>
if ¬ x19 = (12 : Int32) then ((f_gR g (some 68) 12 45).bind fun x30 =>
(f_gI g (some 68) 12 47).bind fun x34 =>
(f_sI g x30 x34 x).bind fun h38 =>
(f_gR h38 (some 68) 12 46).bind fun x40 =>
(f_gI h38 (some 68) 12 47).bind fun x44 =>
(f_sI h38 x40 x44 y).bind fun h48 =>
(f_gI h48 (some 68) 12 47).bind fun x51 =>
(f_pI h48 (some 68) 12 47 (x51 + (1 : Int32))).bind fun h56 =>
(f_gI h56 (some 68) 12 47).bind fun x60 =>
some (x60, h56)) else some ((-1 : Int32), g)) else some ((-1 : Int32), g)) else some ((-1 : Int32), g) := by
    intro g hg e
    unfold s_Mod_see
    rw [z_c68 hg, Option.bind_some, z_isHouse hg e hn12, Option.bind_some, z_in, Option.bind_some]
  unfold s_Joy_see s_Seen_add
  rw [z_c15 hS, Option.bind_some, z_r15_3 hS, Option.bind_some, z_hasHouse hS (.inr (.inl rfl)) hn, Option.bind_some]
  by_cases hy : v_in y n = true
  · rw [if_pos hy, z_r15_15 hS, Option.bind_some, z_c64 hS, Option.bind_some]
    by_cases h0 : x < 1
    · rw [if_pos h0]
      exact ⟨_, h, h, rfl, by rw [em h hS hnm, if_pos hy, if_neg (by simp [h0])], w_call.rr hR⟩
    · rw [if_neg h0]
      by_cases h1 : (20 : Int32) < x
      · rw [if_pos h1]
        exact ⟨_, h, h, rfl, by rw [em h hS hnm, if_pos hy, if_neg (by simp [h1])], w_call.rr hR⟩
      · rw [if_neg h1, z_i64_3 hS, Option.bind_some, s2]
        by_cases h2 : s < 12
        · obtain ⟨i, hi, rfl⟩ := v_in_t hy (by omega)
          have hx0 : ¬ x < 0 := by
            rw [fa_lt] at h0 ⊢
            have e0 : (0 : Int32).toInt = 0 := by decide
            have e1 : (1 : Int32).toInt = 1 := by decide
            omega
          obtain ⟨j, hj, rfl⟩ := v_le_t (N := 20) hx0 h1 (by decide)
          have hj1 : 1 ≤ j := by
            rcases Nat.eq_zero_or_pos j with z | z
            · subst z; exact absurd (by decide) h0
            · exact z
          obtain ⟨g1, hg1⟩ : ∃ g1, g1 = z_sA h 65 s (nI j) := ⟨_, rfl⟩
          have S1 : z_Sh g1 := by rw [hg1]; exact z_Sh_sA hS
          obtain ⟨g2, hg2⟩ : ∃ g2, g2 = z_sA g1 66 s (nI i) := ⟨_, rfl⟩
          have S2 : z_Sh g2 := by rw [hg2]; exact z_Sh_sA S1
          obtain ⟨g3, hg3⟩ : ∃ g3, g3 = z_sI g2 64 3 (nI (s + 1)) := ⟨_, rfl⟩
          have S3 : z_Sh g3 := by rw [hg3]; exact z_Sh_sI S2
          obtain ⟨g4, hg4⟩ : ∃ g4, g4 = z_sA g3 93 s (nI j) := ⟨_, rfl⟩
          have S4 : z_Sh g4 := by rw [hg4]; exact z_Sh_sA S3
          obtain ⟨g5, hg5⟩ : ∃ g5, g5 = z_sA g4 94 s (nI i) := ⟨_, rfl⟩
          have S5 : z_Sh g5 := by rw [hg5]; exact z_Sh_sA S4
          obtain ⟨g6, hg6⟩ : ∃ g6, g6 = z_sI g5 68 47 (nI (s + 1)) := ⟨_, rfl⟩
          have S6 : z_Sh g6 := by rw [hg6]; exact z_Sh_sI S5
          have q3 : w_q [64, 65, 66, 93, 94] [] [47] h g3 := by
            rw [hg3, hg2, hg1]
            exact ((w_q.sA (by simp) (by decide) (by decide)).trans (w_q.sA (by simp) (by decide) (by decide))).trans (w_q.sI (by simp) (by decide) (by decide))
          have q6 : w_q [64, 65, 66, 93, 94] [] [47] h g6 := by
            refine q3.trans ?_
            rw [hg6, hg5, hg4]
            exact ((w_q.sA (by simp) (by decide) (by decide)).trans (w_q.sA (by simp) (by decide) (by decide))).trans (w_q.s68 (by simp))
          have i1 : z_I g1 64 3 = nI s := by rw [hg1, z_I_sA]; exact s2
          have i2 : z_I g2 64 3 = nI s := by rw [hg2, z_I_sA]; exact i1
          have i3 : z_I g3 64 3 = nI (s + 1) := by rw [hg3, z_II S2 4 rfl]
          have j3 : z_I g3 68 47 = nI s := by rw [hg3, z_I_sI_ne (by decide), hg2, z_I_sA, hg1, z_I_sA]; exact s3
          have j4 : z_I g4 68 47 = nI s := by rw [hg4, z_I_sA]; exact j3
          have j5 : z_I g5 68 47 = nI s := by rw [hg5, z_I_sA]; exact j4
          have j6 : z_I g6 68 47 = nI (s + 1) := by rw [hg6, z_II S5 12 rfl]
          rw [if_pos (show nI s < (12 : Int32) from nI_lt (b := 12) h2 (by decide)), z_r64_1 hS, Option.bind_some, Option.bind_some, z_rput (z_ckT hS rfl) h2 (by decide), Option.bind_some, ← hg1, z_r64_2 S1, Option.bind_some, z_i64_3 S1, Option.bind_some, i1, z_rput (z_ckT S1 rfl) h2 (by decide), Option.bind_some, ← hg2, z_i64_3 S2, Option.bind_some, i2, nI_1, z_w64_3 S2, Option.bind_some, ← hg3, z_i64_3 S3, Option.bind_some, i3]
          refine ⟨_, g3, g6, rfl, ?_, q3.c0 (by decide), ⟨n, w, T, Wd, f, lw, p, q6.sh (by decide) r1, q6.vil (by decide) (by decide) r2, q6.laws (by decide) (by decide) (by decide) r3, q6.tape (by decide) (by decide) r4, q6.acts (by decide) (by decide) r5, q6.img r2.1.1 r2.1.2.1 (by decide) (by decide) (by decide) r6, ⟨s + 1, by omega, ?_, j6, fun c hc => ?_⟩, q6.mist (by decide) (by decide) r8, q6.trail (by decide) r9⟩, q6.c0 (by decide)⟩
          · rw [em g3 S3 ((q3.2.2.2 24 (by decide)).trans hnm), if_pos hy, if_pos (decide_eq_true ⟨h0, h1⟩), z_i68_47 S3, Option.bind_some, j3, if_pos (fun z => by have := (nI_eq (b := 12) (by omega) (by decide)).mp z; omega), z_r68_45 S3, Option.bind_some, Option.bind_some, z_s93 S3 h2, Option.bind_some, ← hg4, z_r68_46 S4, Option.bind_some, z_i68_47 S4, Option.bind_some, j4, z_s94 S4 h2, Option.bind_some, ← hg5, z_i68_47 S5, Option.bind_some, j5, nI_1, z_w68_47 S5, Option.bind_some, ← hg6, z_i68_47 S6, Option.bind_some, j6]
          · rw [hg6, z_I_sI_ne (by decide), hg5, z_I_sA, hg4, z_I_sA]; exact i3
          · have a65 : z_A g6 65 c = if c = s then nI j else z_A h 65 c := by rw [hg6, z_A_sI, hg5, z_A_sA_ne (by decide), hg4, z_A_sA_ne (by decide), hg3, z_A_sI, hg2, z_A_sA_ne (by decide), hg1, z_A_sA (z_ckT hS rfl)]
            have a66 : z_A g6 66 c = if c = s then nI i else z_A h 66 c := by rw [hg6, z_A_sI, hg5, z_A_sA_ne (by decide), hg4, z_A_sA_ne (by decide), hg3, z_A_sI, hg2, z_A_sA (z_ckT S1 rfl), hg1, z_A_sA_ne (by decide)]
            have a93 : z_A g6 93 c = if c = s then nI j else z_A h 93 c := by rw [hg6, z_A_sI, hg5, z_A_sA_ne (by decide), hg4, z_A_sA (z_ckT S3 rfl), hg3, z_A_sI, hg2, z_A_sA_ne (by decide), hg1, z_A_sA_ne (by decide)]
            have a94 : z_A g6 94 c = if c = s then nI i else z_A h 94 c := by rw [hg6, z_A_sI, hg5, z_A_sA (z_ckT S4 rfl), hg4, z_A_sA_ne (by decide), hg3, z_A_sI, hg2, z_A_sA_ne (by decide), hg1, z_A_sA_ne (by decide)]
            rw [a65, a66, a93, a94]
            by_cases hcs : c = s
            · simp only [if_pos hcs]
              exact ⟨j, i, hj1, hj, by omega, rfl, rfl, rfl, rfl⟩
            · simp only [if_neg hcs]
              exact s4 c (by omega)
        · have hs12 : s = 12 := by omega
          rw [if_neg (by rw [hs12]; decide)]
          refine ⟨_, h, h, rfl, ?_, w_call.rr hR⟩
          rw [em h hS hnm, if_pos hy, if_pos (decide_eq_true ⟨h0, h1⟩), z_i68_47 hS, Option.bind_some, s3, if_neg (by rw [hs12]; decide)]
  · rw [if_neg hy]
    exact ⟨_, h, h, rfl, by rw [em h hS hnm, if_neg hy], w_call.rr hR⟩
end C2
