-- UNDO
section UN
variable {h g g' g0 g1 h1 h2 : fw_H} {a n w i k t x b l' p m e F nn c nx N : Nat} {T Wd f f' s A H : Nat → Int32} {S : Nat → Nat → Int32} {l : Nat → Nat} {v kd wh pl bf : Int32} {E : z_E} {lw : Option (List q_C)}
theorem v_R.ext (hn : n ≤ 12) (hw : w ≤ 16) (hR : v_R h a n w T Wd f) 
    (hI : ∀ k, k ∉ [99] → z_I g a k = z_I h a k) (hA1 : ∀ i, z_A g (a + 1) i = z_A h (a + 1) i) (hA2 : ∀ i, z_A g (a + 2) i = z_A h (a + 2) i) (hA3 : ∀ i, z_A g (a + 3) i = z_A h (a + 3) i) (hA4 : ∀ i, z_A g (a + 4) i = z_A h (a + 4) i) (hf : ∀ j, j < 118 → j ∉ [] → f' j = f j) : v_R g a n w T Wd f' := by
  obtain ⟨r1, r2, r3, r4, r5, r6, ⟨o2, r9, r10, r11⟩, ⟨o3, r12, r13, r14⟩, ⟨m1, r15, r16⟩, ⟨m2, r17, r18⟩, r19, r20, t, l, r21, r22, r23, r24, r25, r26, r27⟩ := hR
  exact ⟨(hI 0 (by decide)).trans r1, (hI 1 (by decide)).trans r2,
    fun i hi => ⟨by rw [hA1, hf (i) (by omega) (by simp <;> omega)]; exact (r3 i hi).1, fun k k1 k5 => by rw [hA1]; exact (r3 i hi).2 k k1 k5⟩,
    fun i hi => by rw [hA2, hf (24 + i) (by omega) (by simp <;> omega)]; exact r4 i hi, fun j hj => by rw [hA3, hA3]; exact r5 j hj, by rw [hI 5 (by decide)]; exact r6,
    ⟨o2, r9, (hI 6 (by decide)).trans r10, fun j hj => by rw [hf (36 + j) (by omega) (by simp <;> omega)]; exact r11 j hj⟩,
    ⟨o3, r12, (hI 7 (by decide)).trans r13, fun i hi => by rw [hf (12 + i) (by omega) (by simp <;> omega)]; exact r14 i hi⟩,
    ⟨m1, (hI 8 (by decide)).trans r15, (hf (52) (by omega) (by simp <;> omega)).trans r16⟩, ⟨m2, (hI 9 (by decide)).trans r17, (hf (53) (by omega) (by simp <;> omega)).trans r18⟩, fun h0 => ⟨(hI 10 (by decide)).trans (r19 h0).1, (hI 11 (by decide)).trans (r19 h0).2⟩,
    fun h0 => by rw [hI 10 (by decide), hI 11 (by decide), hf (54) (by omega) (by simp <;> omega), hf (55) (by omega) (by simp <;> omega)]; exact r20 h0,
    ⟨t, l, r21, r22, (hI 12 (by decide)).trans r23, (hf (56) (by omega) (by simp <;> omega)).trans r24, (hI 14 (by decide)).trans r25, (hf (57) (by omega) (by simp <;> omega)).trans r26, fun i hi => by rw [hA4, hf (58 + (min l 60 - 1 - i)) (by omega) (by simp <;> omega)]; exact r27 i hi⟩⟩
/-- a state but for where it is -/
def j_54 (f s : Nat → Int32) : Nat → Int32 := fun j => if j = 54 then f 54 else if j = 55 then f 55 else s j
theorem j_54_ne (h4 : k ≠ 54) (h5 : k ≠ 55) : j_54 f s k = s k := by
  unfold j_54
  rw [if_neg h4, if_neg h5]
theorem j_54_eq {R : Nat → Prop} (hs : ∀ j, j < 118 → R j → s j = f j) : ∀ j, j < 118 → R j → j_54 f s j = f j := by
  intro j h1 h2
  unfold j_54
  by_cases h4 : j = 54
  · rw [if_pos h4, h4]
  · by_cases h5 : j = 55
    · rw [if_neg h4, if_pos h5, h5]
    · rw [if_neg h4, if_neg h5]; exact hs j h1 h2
/-- takeHourBack -/
theorem z_hourBack (hF : 70000 ≤ F) (hS : z_Sh h) (hn : n ≤ 12) (ht : t < 9999) (ha : a < n) (h0 : z_I h 29 0 = nI n) (h10 : z_I h 29 10 = nI a) (hT : z_I h 29 12 = nI (t + 1)) (hl : z_I h 29 14 = nI (N + 1)) (hK : ∀ x, x < n → z_A h 30 (5 * x + 3) = T (6 * x + 3)) :
    ∃ g', s_Vil_takeHourBack F h (some 29) = some g' ∧ (z_fr [29, 31] h g' ∧ (∀ k, k ≠ 12 → k ≠ 14 → z_I g' 29 k = z_I h 29 k) ∧ z_I g' 29 12 = nI t ∧ z_I g' 29 14 = nI N ∧ ∀ x, x < n → z_A g' 31 x = z_A h 31 x + (if x = a then (-1 : Int32) else 0) + if t % 24 = 6 then (-1 : Int32) * T (6 * x + 3) else 0) := by
  obtain ⟨g1, hg1⟩ : ∃ g1, g1 = z_sI h 29 14 (nI N) := ⟨_, rfl⟩
  have S1 : z_Sh g1 := by rw [hg1]; exact z_Sh_sI hS
  have i1 : z_I g1 29 12 = nI (t + 1) := by rw [hg1, z_I_sI_nk (by decide)]; exact hT
  obtain ⟨g2, hg2⟩ : ∃ g2, g2 = z_sI g1 29 12 (nI t) := ⟨_, rfl⟩
  have S2 : z_Sh g2 := by rw [hg2]; exact z_Sh_sI S1
  have f2 : z_fr [29] h g2 := by rw [hg2, hg1]; exact (z_fr.refl.sI (by simp)).sI (by simp)
  have i2 : ∀ k, k ≠ 12 → k ≠ 14 → z_I g2 29 k = z_I h 29 k := fun k h1 h2 => by rw [hg2, z_I_sI_nk h1, hg1, z_I_sI_nk h2]
  obtain ⟨g3, a1, a2, a3⟩ := z_laughAll (T := T) (v := -1) (t := t) hF S2 hn (by omega) ha ((i2 0 (by decide) (by decide)).trans h0) ((i2 10 (by decide) (by decide)).trans h10) (by rw [hg2, z_II S1 7 rfl]) (fun x hx => by rw [f2.A (by decide)]; exact hK x hx)
  unfold s_Vil_takeHourBack
  rw [z_c29 hS, Option.bind_some, z_i29_14 hS, Option.bind_some, hl, show nI (N + 1) - (1 : Int32) = nI N from nI_pred N, z_w29_14 hS, Option.bind_some, ← hg1, z_i29_12 S1, Option.bind_some, i1, show nI (t + 1) - (1 : Int32) = nI t from nI_pred t, z_w29_12 S1, Option.bind_some, ← hg2, a1]
  refine ⟨g3, rfl, (f2.mono (by simp)).trans (a2.mono (by simp)), fun k h1 h2 => by rw [a2.I (by decide)]; exact i2 k h1 h2, ?_, ?_, fun x hx => ?_⟩
  · rw [a2.I (by decide), hg2, z_II S1 7 rfl]
  · rw [a2.I (by decide), hg2, z_I_sI_nk (by decide), hg1, z_II hS 7 rfl]
  · rw [a3 x hx, f2.A (by decide)]
/-- what an act did is taken back (but for where it is) -/
theorem j_restore (hF : 70000 ≤ F) (hS : z_Sh h) (hok : v_ok n w Wd) (h0 : 0 < n) (hR : v_R h 29 n w T Wd f) (hs : w_step n T kd wh pl bf s f N l') (h14 : z_I h 29 14 = nI l') (hl9 : l' ≤ 9999) (hlog : w_log H N s) (hring : ∀ i, i < N → N ≤ i + 60 → z_A h 33 (i % 100) = H i) :
    ∃ g, s_Acts_restore F h kd wh (some 29) = some g ∧ (z_fr [29, 30, 31] h g ∧ v_R g 29 n w T Wd (j_54 f s) ∧ z_I g 29 14 = nI N) := by
  have hn12 := hok.1
  have hw16 := hok.2.1
  obtain ⟨-, -, hs⟩ := hs
  unfold s_Acts_restore
  rcases hs with ⟨x, hx, rfl, rfl, rfl, ⟨b, hb1, hb2⟩, hr⟩ | ⟨x, hx, rfl, rfl, rfl, ⟨b, hb1, hb2⟩, hr⟩ | ⟨rfl, rfl, ⟨b, hb1, hb2⟩, hr⟩ | ⟨rfl, rfl, ⟨b, hb1, hb2⟩, hr⟩ | ⟨x, hx, rfl, rfl, rfl, ⟨v, hv, hb1, hb2⟩, hr⟩ | ⟨rfl, rfl, hr⟩ | ⟨rfl, rfl, ⟨t, ht, hb1, hb2, hb3⟩, hr⟩
  · rw [if_pos (show nI 0 = (0 : Int32) from rfl), z_i29_7 hS, Option.bind_some, z_w29_7 hS, Option.bind_some]
    refine ⟨_, rfl, z_fr.refl.sI (by simp), ?_, by rw [z_I_sI_nk (by decide)]; exact h14⟩
    exact hR.turn (x := x) (b := !b) hn12 hw16 hx (by rw [z_II hS 7 rfl]) hb2 (by rw [j_54_ne (by omega) (by omega), hb1, Bool.not_not]) (fun k hk => z_I_sI_nk (by simpa using hk)) (fun j => z_A_sI) (fun j => z_A_sI) (fun j => z_A_sI) (fun j => z_A_sI) (j_54_eq fun j h1 h2 => hr j h1 (by simpa using h2))
  · rw [if_neg (by decide), if_pos (show nI 1 = (1 : Int32) from rfl), z_i29_6 hS, Option.bind_some, z_w29_6 hS, Option.bind_some]
    refine ⟨_, rfl, z_fr.refl.sI (by simp), ?_, by rw [z_I_sI_nk (by decide)]; exact h14⟩
    exact hR.shut (x := x) (b := !b) hn12 hw16 hx (by rw [z_II hS 7 rfl]) hb2 (by rw [j_54_ne (by omega) (by omega), hb1, Bool.not_not]) (fun k hk => z_I_sI_nk (by simpa using hk)) (fun j => z_A_sI) (fun j => z_A_sI) (fun j => z_A_sI) (fun j => z_A_sI) (j_54_eq fun j h1 h2 => hr j h1 (by simpa using h2))
  · have h8 : z_I h 29 8 = fw_b (!b) := by
      have hR0 := hR
      obtain ⟨-, -, -, -, -, -, -, -, ⟨mm, q1, q2⟩, -⟩ := hR0
      rw [q1, ← q2, hb2]
    have hw8 : (if (!b) = true then ((f_pB h (some 29) 7 8 false).bind fun h87 => some h87) else (f_pB h (some 29) 7 8 true).bind fun h87 => some h87) = some (z_sI h 29 8 (fw_b b)) := by
      cases b
      · rw [if_pos (by decide), z_pBS hS rfl]; rfl
      · rw [if_neg (by decide), z_pBS hS rfl]; rfl
    rw [if_neg (by decide), if_neg (by decide), if_pos (show nI 2 = (2 : Int32) from rfl), z_gB ((z_i29_8 hS).trans (congrArg some h8)) rfl, Option.bind_some, hw8]
    refine ⟨_, rfl, z_fr.refl.sI (by simp), ?_, by rw [z_I_sI_nk (by decide)]; exact h14⟩
    exact hR.music (b := b) hn12 hw16 (by rw [z_II hS 7 rfl]) (by rw [j_54_ne (by omega) (by omega), hb1]) (fun k hk => z_I_sI_nk (by simpa using hk)) (fun j => z_A_sI) (fun j => z_A_sI) (fun j => z_A_sI) (fun j => z_A_sI) (j_54_eq fun j h1 h2 => hr j h1 (by simpa using h2))
  · have h9 : z_I h 29 9 = fw_b (!b) := by
      have hR0 := hR
      obtain ⟨-, -, -, -, -, -, -, -, -, ⟨mm, q1, q2⟩, -⟩ := hR0
      rw [q1, ← q2, hb2]
    have hw9 : (if (!b) = true then ((f_pB h (some 29) 7 9 false).bind fun h106 => some h106) else (f_pB h (some 29) 7 9 true).bind fun h106 => some h106) = some (z_sI h 29 9 (fw_b b)) := by
      cases b
      · rw [if_pos (by decide), z_pBS hS rfl]; rfl
      · rw [if_neg (by decide), z_pBS hS rfl]; rfl
    rw [if_neg (by decide), if_neg (by decide), if_neg (by decide), if_pos (show nI 3 = (3 : Int32) from rfl), z_gB ((z_i29_9 hS).trans (congrArg some h9)) rfl, Option.bind_some, hw9]
    refine ⟨_, rfl, z_fr.refl.sI (by simp), ?_, by rw [z_I_sI_nk (by decide)]; exact h14⟩
    exact hR.fog (b := b) hn12 hw16 (by rw [z_II hS 7 rfl]) (by rw [j_54_ne (by omega) (by omega), hb1]) (fun k hk => z_I_sI_nk (by simpa using hk)) (fun j => z_A_sI) (fun j => z_A_sI) (fun j => z_A_sI) (fun j => z_A_sI) (j_54_eq fun j h1 h2 => hr j h1 (by simpa using h2))
  · have ht1 : z_A h (29 + 1) (5 * x) = nI (v + 1) := ((hR.2.2.1 x hx).1).trans hb2
    rw [if_neg (by decide), if_neg (by decide), if_neg (by decide), if_neg (by decide), if_pos (show nI 4 = (4 : Int32) from rfl), z_vwant hS (.inr (.inl rfl)) (by omega), Option.bind_some, ht1, pk_m1]
    refine ⟨_, rfl, z_fr.refl.sA (by simp), ?_, by rw [z_I_sA]; exact h14⟩
    refine hR.want (x := x) hn12 hw16 hx (fun j => ?_) (fun k hk => z_I_sA) (fun j => z_A_sA_ne (by decide)) (fun j => z_A_sA_ne (by decide)) (fun j => z_A_sA_ne (by decide)) (j_54_eq fun j h1 h2 => hr j h1 (by simpa using h2))
    rw [z_A_sA (z_ckT hS rfl), j_54_ne (by omega) (by omega), hb1]
  · rw [if_neg (by decide), if_neg (by decide), if_neg (by decide), if_neg (by decide), if_neg (by decide), if_pos (show nI 5 = (5 : Int32) from rfl)]
    refine ⟨h, rfl, z_fr.refl, ?_, h14⟩
    refine hR.ext hn12 hw16 (fun k hk => rfl) (fun j => rfl) (fun j => rfl) (fun j => rfl) (fun j => rfl) (fun j h1 _ => ?_)
    unfold j_54
    by_cases h4 : j = 54
    · rw [if_pos h4, h4]
    · by_cases h5 : j = 55
      · rw [if_neg h4, if_pos h5, h5]
      · rw [if_neg h4, if_neg h5]; exact hr j h1 h4 h5
  · obtain ⟨p1, p2, p3, p4, p5, p6, p7, p8, p9⟩ := hR.pos h0 hn12
    have e12 : v_hr f = t + 1 := (nI_eq (by omega) (by omega)).mp (p5.symm.trans hb2)
    rw [if_neg (by decide), if_neg (by decide), if_neg (by decide), if_neg (by decide), if_neg (by decide), if_neg (by decide), if_pos (show nI 6 = (6 : Int32) from rfl)]
    obtain ⟨g, c1, c2, c3, c4, c5, c6⟩ := z_hourBack (T := T) (a := v_at f) (t := t) (N := N) hF hS hn12 ht p2 hR.1 p7 (by rw [p9, e12]) h14 (fun x hx => (hR.2.2.1 x hx).2 3 (by decide) (by decide))
    rw [c1, Option.bind_some]
    refine ⟨g, rfl, c2.mono (by simp), ?_, c5⟩
    obtain ⟨r1, r2, r3, r4, r5, r6, ⟨o2, r9, r10, r11⟩, ⟨o3, r12, r13, r14⟩, ⟨m1, r15, r16⟩, ⟨m2, r17, r18⟩, r19, r20, t', l'', r21, r22, r23, r24, r25, r26, r27⟩ := hR
    obtain rfl : l'' = N + 1 := (nI_eq (by omega) (by omega)).mp (r25.symm.trans h14)
    have et : t' = t + 1 := (nI_eq (by omega) (by omega)).mp (r24.symm.trans hb2)
    have hlow : ∀ k, k < 24 ∨ (36 ≤ k ∧ k < 54) → j_54 f s k = f k := fun k hk => by rw [j_54_ne (by omega) (by omega)]; exact hr k (by omega) (by omega) (by omega) (by omega) (by omega) (by omega)
    refine ⟨(c3 0 (by decide) (by decide)).trans r1, (c3 1 (by decide) (by decide)).trans r2, fun i hi => ⟨?_, fun k k1 k5 => ?_⟩, fun i hi => ?_, fun j hj => ?_, ?_, ⟨o2, r9, (c3 6 (by decide) (by decide)).trans r10, fun j hj => ?_⟩, ⟨o3, r12, (c3 7 (by decide) (by decide)).trans r13, fun i hi => ?_⟩, ⟨m1, (c3 8 (by decide) (by decide)).trans r15, ?_⟩, ⟨m2, (c3 9 (by decide) (by decide)).trans r17, ?_⟩, fun z => absurd z (by omega), fun z => ?_, t, N, by omega, by omega, c4, ?_, c5, ?_, fun i hi => ?_⟩
    · rw [c2.A (by decide), hlow i (by omega)]; exact (r3 i hi).1
    · rw [c2.A (by decide)]; exact (r3 i hi).2 k k1 k5
    · rw [j_54_ne (by omega) (by omega), hb3 i hi]
      show z_A g 31 i = _
      rw [c6 i hi, show z_A h 31 i = f (24 + i) from r4 i hi, p1]
      congr 2
      by_cases e : i = v_at f
      · rw [if_pos e, if_pos (by rw [e])]
      · rw [if_neg e, if_neg (fun z => e ((nI_eq (by omega) (by omega)).mp z).symm)]
    · rw [c2.A (by decide), c2.A (by decide)]; exact r5 j hj
    · rw [c3 5 (by decide) (by decide)]; exact r6
    · rw [hlow (36 + j) (by omega)]; exact r11 j hj
    · rw [hlow (12 + i) (by omega)]; exact r14 i hi
    · rw [hlow 52 (by omega)]; exact r16
    · rw [hlow 53 (by omega)]; exact r18
    · rw [c3 10 (by decide) (by decide), c3 11 (by decide) (by decide)]; exact r20 z
    · rw [j_54_ne (by omega) (by omega)]; exact hb1
    · rw [j_54_ne (by omega) (by omega)]; exact hlog.1.1
    · rw [c2.A (by decide), j_54_ne (by omega) (by omega), hlog.1.2 i hi]
      exact hring _ (by omega) (by omega)
/-- the reference's undo -/
theorem j_mundo (hn : c + 1 ≤ 40) : ∀ (k i nn : Nat) (g : fw_H), i + k = 118 → k < nn → z_Sh g → z_I g 68 31 = nI c → (∀ t, t < i → z_A g 84 t = z_A g 86 (118 * c + t)) →
    ∃ g', l_Mod_undo_21 (some 68) nn (nI i) g = some (nI c, g') ∧ (z_fr [84] g g' ∧ ∀ t, t < 118 → z_A g' 84 t = z_A g 86 (118 * c + t)) := by
  intro k
  induction k with
  | zero =>
    intro i nn g hi hnn hS h31 hA
    obtain ⟨nn, rfl⟩ : ∃ k, nn = k + 1 := ⟨nn - 1, by omega⟩
    obtain rfl : i = 118 := by omega
    refine ⟨g, ?_, z_fr.refl, hA⟩
    rw [l_Mod_undo_21, if_pos (by decide), z_i68_31 hS, Option.bind_some, h31]
  | succ k ih =>
    intro i nn g hi hnn hS h31 hA
    obtain ⟨nn, rfl⟩ : ∃ k, nn = k + 1 := ⟨nn - 1, by omega⟩
    have e1 : (118 : Int32) * nI c + nI i = nI (118 * c + i) := by rw [show (118 : Int32) = nI 118 from rfl, pk_mul, nI_add]
    have f1 : z_fr [84] g (z_sA g 84 i (z_A g 86 (118 * c + i))) := z_fr.refl.sA (by simp)
    rw [l_Mod_undo_21, if_neg (show ¬ (118 : Int32) ≤ nI i from nI_ge (b := 118) (by omega) (by decide)), z_r68_26 hS, Option.bind_some, z_r68_30 hS, Option.bind_some, z_i68_31 hS, Option.bind_some, h31, e1, z_a86 hS (by omega), Option.bind_some, z_s84 hS (by omega), Option.bind_some, show nI i + (1 : Int32) = nI (i + 1) from nI_1 i]
    obtain ⟨g2, b1, b2, b3⟩ := ih (i + 1) nn (z_sA g 84 i (z_A g 86 (118 * c + i))) (by omega) (by omega) (z_Sh_sA hS) (by rw [f1.I (by decide)]; exact h31) (fun t ht => by
      rw [z_A_sA (z_ckT hS rfl), f1.A (by decide)]
      by_cases e : t = i
      · rw [if_pos e, e]
      · rw [if_neg e]; exact hA t (by omega))
    refine ⟨g2, b1, f1.trans b2, fun t ht => ?_⟩
    rw [b3 t ht, f1.A (by decide)]
/-- undo -/
theorem call_undo (hF : 70000 ≤ F) (hR : w_R h) : ∃ v h1 h2, s_Joy_undo F h (some 15) = some (v, h1) ∧ s_Mod_undo F h1 (some 68) = some (v, h2) ∧ w_call h h1 h2 := by
  obtain ⟨n, w, T, Wd, f, lw, p, hR⟩ := hR
  have hS := hR.1
  have hok := hR.ok
  have hn12 := hok.1
  have h84 := hR.2.1.2.2.2.1.2.2
  obtain ⟨c, nx, H, S, l, hA, hM, hf⟩ := hR.2.2.2.2.1.unf
  have hA0 := hA
  obtain ⟨a1, a2, a3, a4, a5, a6, a7, a8, a9⟩ := hA0
  unfold s_Joy_undo s_Acts_undoLatest
  rw [z_c15 hS, Option.bind_some, z_r15_10 hS, Option.bind_some, z_r15_3 hS, Option.bind_some, z_c43 hS, Option.bind_some, z_i43_4 hS, Option.bind_some, a3]
  by_cases h0 : c = 0
  · rw [if_neg (fun z => z (by rw [h0]; rfl))]
    refine ⟨-1, h, h, rfl, ?_, w_call.rr hR⟩
    unfold s_Mod_undo
    rw [z_c68 hS, Option.bind_some, z_i68_31 hS, Option.bind_some, hM.1, if_neg (fun z => z (by rw [h0]; rfl))]
  · obtain ⟨c, rfl⟩ : ∃ d, c = d + 1 := ⟨c - 1, by omega⟩
    obtain ⟨hn0, pp, qq, hp1, hp2, hp3, hp4⟩ := a7 c (by omega)
    have hpos : 0 < n := Nat.pos_of_ne_zero hn0
    have hst := a6 c (by omega)
    rw [hf] at hst
    have hix : (nx + 40 - (c + 1) + c) % 40 = (nx + 39) % 40 := by omega
    rw [hix] at hst
    have hm := j_mono (c := c + 1) (l := l) fun j hj => (a6 j hj).le
    have hm0 := hm c 0 (by omega)
    rw [Nat.zero_add] at hm0
    have hle := hst.le
    have hl9 := (a5 (c + 1) (by omega)).2.1
    have hnx : (nx + 39) % 40 < 40 := Nat.mod_lt _ (by decide)
    rw [if_pos (show ¬ nI (c + 1) = (0 : Int32) from nI_ne0 (by omega) (by omega)), Option.bind_some, show nI (c + 1) - (1 : Int32) = nI c from nI_pred c, z_w43_4 hS, Option.bind_some]
    obtain ⟨g1, hg1⟩ : ∃ g1, g1 = z_sI h 43 4 (nI c) := ⟨_, rfl⟩
    have S1 : z_Sh g1 := by rw [hg1]; exact z_Sh_sI hS
    have i5 : z_I g1 43 5 = nI nx := by rw [hg1, z_I_sI_nk (by decide)]; exact a4
    obtain ⟨g2, hg2⟩ : ∃ g2, g2 = z_sI g1 43 5 (nI ((nx + 39) % 40)) := ⟨_, rfl⟩
    have S2 : z_Sh g2 := by rw [hg2]; exact z_Sh_sI S1
    have f2 : z_fr [43] h g2 := by rw [hg2, hg1]; exact (z_fr.refl.sI (by simp)).sI (by simp)
    have j5 : z_I g2 43 5 = nI ((nx + 39) % 40) := by rw [hg2, z_II S1 0 rfl]
    have j4 : z_I g2 43 4 = nI c := by rw [hg2, z_I_sI_nk (by decide), hg1, z_II hS 0 rfl]
    have R2 : v_R g2 29 n w T Wd f := hR.2.1.2.1.fr hn12 hok.2.1 f2 (fun d hd => by simp; omega)
    obtain ⟨g3, b1, b2, b3, b4⟩ := j_restore (H := H) hF S2 hok hpos R2 hst (by rw [f2.I (by decide)]; exact a8) hl9 (a5 c (by omega)) (fun i h1 h2 => by rw [f2.A (by decide)]; exact a9 i (by omega) (by omega))
    have S3 := S2.fr b2 (by decide)
    obtain ⟨g4, hg4⟩ : ∃ g4, g4 = z_sI g3 29 10 (S c 54) := ⟨_, rfl⟩
    have S4 : z_Sh g4 := by rw [hg4]; exact z_Sh_sI S3
    obtain ⟨g5, hg5⟩ : ∃ g5, g5 = z_sI g4 29 11 (S c 55) := ⟨_, rfl⟩
    have S5 : z_Sh g5 := by rw [hg5]; exact z_Sh_sI S4
    have f5 : z_fr [29] g3 g5 := by rw [hg5, hg4]; exact (z_fr.refl.sI (by simp)).sI (by simp)
    have f4 : z_fr [29] g3 g4 := by rw [hg4]; exact z_fr.refl.sI (by simp)
    have v5 : v_R g5 29 n w T Wd (S c) := b3.at (p := pp) (q := qq) hn12 hok.2.1 hpos hp1 hp2 (by rw [hg5, z_I_sI_nk (by decide), hg4, z_II S3 7 rfl]) (by rw [hg5, z_II S4 7 rfl]) hp3 hp4 (fun k hk => by simp only [List.mem_cons, List.not_mem_nil, or_false, not_or] at hk; rw [hg5, z_I_sI_nk hk.2, hg4, z_I_sI_nk hk.1]) (fun j => f5.A (by decide)) (fun j => f5.A (by decide)) (fun j => f5.A (by decide)) (fun j => f5.A (by decide)) (fun j _ hj => by simp only [List.mem_cons, List.not_mem_nil, or_false, not_or] at hj; exact (j_54_ne hj.1 hj.2).symm)
    have k5 : z_I g3 43 5 = nI ((nx + 39) % 40) := by rw [b2.I (by decide)]; exact j5
    have k5' : z_I g4 43 5 = nI ((nx + 39) % 40) := by rw [f4.I (by decide)]; exact k5
    have k4 : z_I g5 43 4 = nI c := by rw [f5.I (by decide), b2.I (by decide)]; exact j4
    have e46 : z_A g3 46 ((nx + 39) % 40) = S c 54 := by rw [b2.A (by decide), f2.A (by decide)]; exact hst.1
    have e47 : z_A g4 47 ((nx + 39) % 40) = S c 55 := by rw [f4.A (by decide), b2.A (by decide), f2.A (by decide)]; exact hst.2.1
    have e44 : z_A g2 44 ((nx + 39) % 40) = z_A h 44 ((nx + 39) % 40) := f2.A (by decide)
    have e45 : z_A g2 45 ((nx + 39) % 40) = z_A h 45 ((nx + 39) % 40) := f2.A (by decide)
    rw [← hg1, z_i43_5 S1, Option.bind_some, i5, show nI nx + (40 : Int32) - (1 : Int32) = nI (nx + 39) by rw [show nI nx + (40 : Int32) = nI (nx + 39 + 1) from nI_add nx 40]; exact nI_pred (nx + 39), show (40 : Int32) = nI 40 from rfl, z_irem (by omega) (by decide) (by decide), Option.bind_some, z_w43_5 S1, Option.bind_some, ← hg2, z_r43_0 S2, Option.bind_some, z_i43_5 S2, Option.bind_some, j5, z_rget (z_ckT S2 rfl) hnx (by decide), Option.bind_some, z_r43_1 S2, Option.bind_some, Option.bind_some, z_rget (z_ckT S2 rfl) hnx (by decide), Option.bind_some, e44, e45, b1, Option.bind_some, z_r43_2 S3, Option.bind_some, z_i43_5 S3, Option.bind_some, k5, z_rget (z_ckT S3 rfl) hnx (by decide), Option.bind_some, e46, z_w29_10 S3, Option.bind_some, ← hg4, z_r43_3 S4, Option.bind_some, z_i43_5 S4, Option.bind_some, k5', z_rget (z_ckT S4 rfl) hnx (by decide), Option.bind_some, e47, z_w29_11 S4, Option.bind_some, ← hg5, z_i43_4 S5, Option.bind_some, k4, Option.bind_some]
    have F5 : z_fr [29, 30, 31, 43] h g5 := ((f2.mono (by simp)).trans (b2.mono (by simp))).trans (f5.mono (by simp))
    have S6 : z_Sh (z_sI g5 68 31 (nI c)) := z_Sh_sI S5
    obtain ⟨g7, d1, d2, d3⟩ := j_mundo (c := c) a1 118 0 F (z_sI g5 68 31 (nI c)) (by omega) (by omega) S6 (z_II S5 12 rfl) (fun t ht => absurd ht (Nat.not_lt_zero _))
    refine ⟨nI c, g5, g7, rfl, ?_, ?_⟩
    · unfold s_Mod_undo
      rw [z_c68 S5, Option.bind_some, z_i68_31 S5, Option.bind_some, F5.I (by decide), hM.1, if_pos (show ¬ nI (c + 1) = (0 : Int32) from nI_ne0 (by omega) (by omega)), Option.bind_some, show nI (c + 1) - (1 : Int32) = nI c from nI_pred c, z_w68_31 S5, Option.bind_some]
      exact d1
    · have q5 : w_q j_C [] [31] h g5 := w_q.fr F5 (fun j hj => .inl (by revert j; decide)) (by decide) (by decide)
      have q7 : w_q j_C [] [31] h g7 := (q5.trans (w_q.s68 (by simp))).trans (w_q.fr d2 (fun j hj => .inl (by revert j; decide)) (by decide) (by decide))
      have A7 : ∀ t, t < 118 → z_A g7 84 t = S c t := fun t ht => by rw [d3 t ht, z_A_sI, F5.A (by decide)]; exact (hM.2 c (by omega) t ht).symm
      have hm7 : j_am g7 c S := ⟨by rw [d2.I (by decide), z_II S5 12 rfl], fun j hj k hk => by rw [d2.A (by decide), z_A_sI, F5.A (by decide)]; exact hM.2 j (by omega) k hk⟩
      have h7 : ∀ b j, b ≠ 84 → z_A g7 b j = z_A g5 b j := fun b j hb => by rw [d2.A (by simpa using hb), z_A_sI]
      have i7 : ∀ b k, b ≠ 68 → b ≠ 84 → z_I g7 b k = z_I g5 b k := fun b k hb hb2 => by rw [d2.I (by simpa using hb2), z_I_sI_ne hb]
      have hac : j_ac g7 n T c ((nx + 39) % 40) H S l := by
        refine ⟨by omega, hnx, (i7 43 4 (by decide) (by decide)).trans k4, ?_, fun j hj => a5 j (by omega), fun j hj => ?_, fun j hj => a7 j (by omega), ?_, fun i h1 h2 => ?_⟩
        · rw [i7 43 5 (by decide) (by decide), f5.I (by decide)]; exact k5
        · rw [h7 44 _ (by decide), h7 45 _ (by decide), h7 46 _ (by decide), h7 47 _ (by decide), F5.A (by decide), F5.A (by decide), F5.A (by decide), F5.A (by decide), show ((nx + 39) % 40 + 40 - c + j) % 40 = (nx + 40 - (c + 1) + j) % 40 by omega]
          exact a6 j (by omega)
        · rw [i7 29 14 (by decide) (by decide), hg5, z_I_sI_nk (by decide), hg4, z_I_sI_nk (by decide)]; exact b4
        · rw [h7 33 _ (by decide), F5.A (by decide)]; exact a9 i (by omega) h2
      have hv : v_R g7 29 n w T Wd (S c) := (v5.fr (g' := z_sI g5 68 31 (nI c)) (As := [68]) hn12 hok.2.1 (z_fr.refl.sI (by simp)) (fun d hd => by simp; omega)).fr hn12 hok.2.1 d2 (fun d hd => by simp; omega)
      have ht : w_trail g7 := hR.2.2.2.2.2.2.2.2.of (by rw [i7 48 12 (by decide) (by decide), F5.I (by decide)]) (fun j => by rw [h7 58 _ (by decide), F5.A (by decide)]) (fun k => by rw [d2.R (by decide), z_R_sI, F5.R (by decide)])
      exact ⟨q5.c0 (by decide), ⟨n, w, T, Wd, S c, lw, p, j_done hR q7 hv A7 (hac.shut hm7 rfl) ht⟩, q7.c0 (by decide)⟩
end UN
