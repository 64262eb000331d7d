-- TEXT, FAULT: of a village
section TV
variable {h g g' m M : fw_H} {B : Nat → Nat} {l n w p q F k a i : Nat} {T Wd f : Nat → Int32} {lw : Option (List q_C)} {x y v : Int32} {As : List Nat}
theorem k_tape (hS : z_Sh h) (hT : w_tape h) : ∃ B l, k_A h B l ∧ k_M h B l := by
  obtain ⟨l, l1, l2, l3, l4⟩ := hT
  obtain ⟨C, hC⟩ : ∃ C : Nat → Nat, C = fun i => (z_A h 17 i).toNatClampNeg := ⟨_, rfl⟩
  have hC1 : ∀ i, i < l → (1 ≤ C i ∧ C i < 256) ∧ z_A h 17 i = nI (C i) ∧ z_A h 69 i = nI (C i) := by
    intro i hi
    obtain ⟨c, c1, c2, c3, c4⟩ := l4 i hi
    have e : C i = c := by rw [hC]; show (z_A h 17 i).toNatClampNeg = c; rw [c3, nI_clamp (by omega)]
    rw [e]
    exact ⟨⟨c1, c2⟩, c3, c4⟩
  exact ⟨C, l, ⟨hS, l1, l2, fun i hi => (hC1 i hi).1, fun i hi => (hC1 i hi).2.1⟩, ⟨hS, l1, l3, fun i hi => (hC1 i hi).1, fun i hi => (hC1 i hi).2.2⟩⟩
theorem w_k.two (hf : z_fr As h g) (hA : ∀ j, j ∈ As → j = 16 ∨ j = 68 ∨ j ∈ w_sc) (h61 : 61 ∉ As) (h48 : 48 ∉ As) (h58 : 58 ∉ As) (h64 : 64 ∉ As) (h16 : z_I g 16 1 = z_I h 16 1) (h68 : ∀ k, k = 2 ∨ k = 13 ∨ k = 24 ∨ k = 25 ∨ k = 28 ∨ k = 29 ∨ k = 31 ∨ k = 47 ∨ k = 49 → z_I g 68 k = z_I h 68 k) : w_k h g :=
  ⟨hf.1, fun j h1 h2 _ _ _ h3 _ => hf.2 j (fun z => (hA j z).elim h2 fun z => z.elim h3 h1), h68, hf.I h64, h16, fun hT => hT.of (hf.I h48) (fun j => hf.A h58) (fun k => hf.R h61)⟩
theorem k_mf.wk (hm : k_mf g m) : w_k g m := w_k.two hm.1 (by decide) (by decide) (by decide) (by decide) (by decide) (hm.1.I (by decide)) (fun k hk => hm.2 k (by omega) (by omega) (by omega) (by omega))
theorem k_vfr (hf : z_fr [16, 18, 19, 20, 21, 22, 24] h g) (h16 : z_I g 16 1 = z_I h 16 1) : w_k h g := w_k.two hf (by decide) (by decide) (by decide) (by decide) (by decide) h16 (fun k _ => hf.I (by decide))
theorem k_M.to (hM : k_M h B l) (hf : z_fr As h g) (h69 : 69 ∉ As) (h15 : ∀ j, j ∈ As → 15 ≤ j) (h68 : 68 ∉ As) : k_M g B l := hM.fr hf h69 h15 (hf.I h68)
/-- fault of a village -/
theorem call_faultV (hF : 70000 ≤ F) (hR : w_R h) : ∃ r h1 h2, s_Joy_fault F h (some 15) 0 = some (r, h1) ∧ s_Mod_fault F h1 (some 68) 0 = some (r, h2) ∧ w_call h h1 h2 := by
  obtain ⟨n, w, T, Wd, f, lw, p, hR⟩ := hR
  have hS := hR.1
  obtain ⟨B, l, hA, hM⟩ := k_tape hS hR.2.2.2.1
  obtain ⟨g, v, a1, a2, a3, -⟩ := z_vread hF hA hM
  have S1 := hS.fr a2 (by decide)
  obtain ⟨g', v', b1, b2, b3, m, b4, b5, b6⟩ := z_vread (M := g) hF hA (hM.to a2 (by decide) (by decide) (by decide))
  have e : (v, g) = (v', g') := Option.some.inj (a1.symm.trans b1)
  obtain ⟨rfl, rfl⟩ := Prod.mk.inj e
  refine ⟨v, g, m, ?_, ?_, w_call.kk hR (k_vfr a2 a3) b5.wk⟩
  · unfold s_Joy_fault
    rw [z_c15 hS, Option.bind_some, if_pos rfl, z_r15_1 hS, Option.bind_some, a1, Option.bind_some]
  · unfold s_Mod_fault
    rw [z_c68 S1, Option.bind_some, if_neg (fun z => z rfl), b4, Option.bind_some]
/-- the class settles in what the draft says -/
theorem z_settle (hF : 70000 ≤ F) (hS : z_Sh g) (h8 : ∃ m, z_I g 19 8 = fw_b m) (h9 : ∃ m, z_I g 19 9 = fw_b m) (h0 : z_I g 19 0 = nI n) (hl : l ≤ 240) (h16 : z_I g 16 1 = nI l) : ∃ g', s_Joy_settle F g (some 15) = some (nI n, g') ∧ (z_fr [15, 16, 29, 30, 31, 32, 33, 43, 64] g g' ∧ v_cp g 19 g' 29 ∧ z_I g' 16 1 = 0 ∧ z_I g' 43 4 = 0 ∧ z_I g' 43 5 = z_I g 43 5 ∧ z_I g' 64 3 = 0 ∧ z_I g' 15 5 = 0 ∧ ∀ k, k ≠ 5 → z_I g' 15 k = z_I g 15 k) := by
  obtain ⟨t1, a1, a2, a3, a4⟩ := z_take (a := 19) (b := 29) hF hS (.inl rfl) (.inr (.inl rfl)) (by decide) h8 h9
  obtain ⟨t2, ht2⟩ : ∃ t2, t2 = z_sI t1 43 4 (0 : Int32) := ⟨_, rfl⟩
  obtain ⟨t3, ht3⟩ : ∃ t3, t3 = z_sI t2 64 3 (0 : Int32) := ⟨_, rfl⟩
  obtain ⟨t4, ht4⟩ : ∃ t4, t4 = z_sI t3 15 5 (fw_b false) := ⟨_, rfl⟩
  obtain ⟨t5, ht5⟩ : ∃ t5, t5 = z_sI t4 16 1 (0 : Int32) := ⟨_, rfl⟩
  have S2 : z_Sh t2 := by rw [ht2]; exact z_Sh_sI a2
  have S3 : z_Sh t3 := by rw [ht3]; exact z_Sh_sI S2
  have S4 : z_Sh t4 := by rw [ht4]; exact z_Sh_sI S3
  have S5 : z_Sh t5 := by rw [ht5]; exact z_Sh_sI S4
  have a3' : z_fr [29, 30, 31, 32, 33] g t1 := a3
  have f15 : z_fr [15, 16, 43, 64] t1 t5 := by rw [ht5, ht4, ht3, ht2]; exact (((z_fr.refl.sI (by simp)).sI (by simp)).sI (by simp)).sI (by simp)
  have i16 : z_I t4 16 1 = nI l := by rw [ht4, z_I_sI_ne (by decide), ht3, z_I_sI_ne (by decide), ht2, z_I_sI_ne (by decide), a3'.I (by decide), h16]
  have cp : v_cp g 19 t5 29 := by
    obtain ⟨c1, c2, c3, c4, c5⟩ := a4
    exact ⟨fun k hk => (f15.I (by decide)).trans (c1 k hk), fun i hi => (f15.A (by decide)).trans (c2 i hi), fun i hi => (f15.A (by decide)).trans (c3 i hi), fun i hi => (f15.A (by decide)).trans (c4 i hi), fun i hi => (f15.A (by decide)).trans (c5 i hi)⟩
  have cut : s_Tape_cut t4 (some 16) (0 : Int32) = some (true, t5) := by
    unfold s_Tape_cut
    rw [z_c16 S4, Option.bind_some, if_neg (by decide), z_i16_1 S4, Option.bind_some, i16, if_pos (show (0 : Int32) ≤ nI l from nI_le (a := 0) (Nat.zero_le _) (by omega)), z_w16_1 S4, Option.bind_some, ← ht5]
  have ac : s_Acts_clear t1 (some 43) = some t2 := by
    unfold s_Acts_clear
    rw [z_c43 a2, Option.bind_some, z_w43_4 a2, Option.bind_some, ← ht2]
  have sc : s_Seen_clear t2 (some 64) = some t3 := by
    unfold s_Seen_clear
    rw [z_c64 S2, Option.bind_some, z_w64_3 S2, Option.bind_some, ← ht3]
  have i0 : z_I t5 29 0 = nI n := (cp.1 0 (by omega)).trans h0
  unfold s_Joy_settle
  rw [z_c15 hS, Option.bind_some, z_r15_3 hS, Option.bind_some, z_r15_1 hS, Option.bind_some, z_r18_1 hS, Option.bind_some, a1, Option.bind_some, z_r15_10 a2, Option.bind_some, ac, Option.bind_some, z_r15_15 S2, Option.bind_some, sc, Option.bind_some, z_pBS S3 rfl, Option.bind_some, ← ht4, z_r15_0 S4, Option.bind_some, cut, Option.bind_some]
  show ∃ g', ((f_gR t5 (some 15) 11 3).bind fun x43 => _) = some (nI n, g') ∧ _
  rw [z_r15_3 S5, Option.bind_some, z_i29_0 S5, Option.bind_some, i0]
  refine ⟨t5, rfl, (a3'.mono (by simp)).trans (f15.mono (by simp)), cp, ?_, ?_, ?_, ?_, ?_, fun k hk => ?_⟩
  · rw [ht5, z_II S4 6 rfl]
  · rw [ht5, z_I_sI_ne (by decide), ht4, z_I_sI_ne (by decide), ht3, z_I_sI_ne (by decide), ht2, z_II a2 0 rfl]
  · rw [ht5, z_I_sI_ne (by decide), ht4, z_I_sI_ne (by decide), ht3, z_I_sI_ne (by decide), ht2, z_I_sI_nk (by decide), a3'.I (by decide)]
  · rw [ht5, z_I_sI_ne (by decide), ht4, z_I_sI_ne (by decide), ht3, z_II S2 4 rfl]
  · rw [ht5, z_I_sI_ne (by decide), ht4, z_II S3 11 rfl]; rfl
  · rw [ht5, z_I_sI_ne (by decide), ht4, z_I_sI_nk hk, ht3, z_I_sI_ne (by decide), ht2, z_I_sI_ne (by decide), a3'.I (by decide)]
/-- text of a village -/
theorem call_textV (hF : 70000 ≤ F) (hR : w_R h) : ∃ r h1 h2, s_Joy_text F h (some 15) 0 = some (r, h1) ∧ s_Mod_text F h1 (some 68) 0 = some (r, h2) ∧ w_call h h1 h2 := by
  obtain ⟨n, w, T, Wd, f, lw, p, hR⟩ := hR
  have hS := hR.1
  obtain ⟨B, l, hA, hM⟩ := k_tape hS hR.2.2.2.1
  obtain ⟨g, v, a1, a2, a3, m0, a4, a5, a6⟩ := z_vread hF hA hM
  have S1 := hS.fr a2 (by decide)
  have hl := hA.2.1
  have n0 : ¬ ¬ (0 : Int32) = 0 := fun z => z rfl
  have n1 : ¬ (0 : Int32) = 1 := by decide
  unfold s_Joy_text
  rw [z_c15 hS, Option.bind_some, if_neg n0, z_r15_1 hS, Option.bind_some, a1, Option.bind_some]
  rcases a6 with ⟨q, q1, rfl⟩ | ⟨rfl, a6⟩
  · have nv : ¬ nI q = (-1 : Int32) := nI_ne_m1 (by omega)
    obtain ⟨g', v', b1, b2, b3, m, b4, b5, b6⟩ := z_vread (M := g) hF hA (hM.to a2 (by decide) (by decide) (by decide))
    have e : (nI q, g) = (v', g') := Option.some.inj (a1.symm.trans b1)
    obtain ⟨rfl, rfl⟩ := Prod.mk.inj e
    refine ⟨-1, g, m, ?_, ?_, w_call.kk hR (k_vfr a2 a3) b5.wk⟩
    · rw [if_pos nv, if_pos n1]
    · unfold s_Mod_text
      rw [z_c68 S1, Option.bind_some, if_neg n0, b4, Option.bind_some, if_pos nv, if_pos n1]
  · have nv : ¬ ¬ (-1 : Int32) = (-1 : Int32) := fun z => z rfl
    have zR := a6.R
    obtain ⟨nh, nw, td, dd, -, -, ⟨c6, c9, c11, c14⟩, -⟩ := a6
    have h8 : ∃ m, z_I g 19 8 = fw_b m := by
      obtain ⟨_, _, _, _, hv, _⟩ := zR
      obtain ⟨m, hm, -⟩ := hv.2.2.2.2.2.2.2.2.1
      exact ⟨m, hm⟩
    obtain ⟨g2, s1, s2, s3, s4, s5, s6, s7, s8, s9⟩ := z_settle (l := l) hF S1 h8 ⟨false, c9⟩ dd.1.2.2.1 hl (a3.trans hA.2.2.1)
    have S2 := S1.fr s2 (by decide)
    have M2 : k_M g2 B l := (hM.to a2 (by decide) (by decide) (by decide)).to s2 (by decide) (by decide) (by decide)
    obtain ⟨g', v', b1, b2, b3, m, b4, b5, b6⟩ := z_vread (M := g2) hF hA M2
    have e : ((-1 : Int32), g) = (v', g') := Option.some.inj (a1.symm.trans b1)
    obtain ⟨rfl, rfl⟩ := Prod.mk.inj e
    have hZ : k_Z g m := by
      rcases b6 with ⟨q, q1, q2⟩ | ⟨-, z⟩
      · exact absurd q2.symm (nI_ne_m1 (by omega))
      · exact z
    obtain ⟨n', w', p1, p2, p3, p4, p5, p6⟩ := hZ.R
    have n'12 := p2.1
    have w'16 := p2.2.1
    have hn' : nI n' = nI nh := p3.1.symm.trans dd.1.2.2.1
    have Sm := S2.fr b5.1 (by decide)
    obtain ⟨m1, hm1⟩ : ∃ m1, m1 = z_sI m 68 2 (0 : Int32) := ⟨_, rfl⟩
    have fm1 : z_fr [68] m m1 := by rw [hm1]; exact z_fr.refl.sI (by simp)
    have Sm1 := Sm.fr fm1 (by decide)
    obtain ⟨m2, t1, t2, t3, t4, t5, t6, t7, t8, t9, t10, t11, t12⟩ := z_takeAll (n := n') (w := w') hF Sm1 (by rw [hm1, z_I_sI_nk (by decide), p5]) (by rw [hm1, z_I_sI_nk (by decide), p6]) n'12
    have e80 : z_A m1 80 = z_A m 80 := funext fun j => fm1.A (by decide)
    have e81 : z_A m1 81 = z_A m 81 := funext fun j => fm1.A (by decide)
    have e79 : z_A m1 79 = z_A m 79 := funext fun j => fm1.A (by decide)
    rw [e80] at t9 t11 t12
    rw [e81] at t10
    rw [e79] at t11
    -- what has changed
    have G : z_fr [16, 18, 19, 20, 21, 22, 24, 68, 79, 80, 81, 82, 83, 84, 85] g2 m2 := ((b5.1.mono (by simp)).trans (fm1.mono (by simp))).trans (t2.mono (by simp))
    have qa : w_q [16, 18, 19, 20, 21, 22, 24, 29, 30, 31, 32, 33, 43, 64, 79, 80, 81, 82, 83, 84, 85] [5] [2, 3, 4, 20, 21, 24, 25, 31, 47, 49] h g := w_q.fr a2 (fun j hj => .inl (by revert j; decide)) (by decide) (by decide)
    have qb : w_q [16, 18, 19, 20, 21, 22, 24, 29, 30, 31, 32, 33, 43, 64, 79, 80, 81, 82, 83, 84, 85] [5] [2, 3, 4, 20, 21, 24, 25, 31, 47, 49] g g2 :=
      ⟨fun j q x => (s2.1 j).trans x, fun j h1 h15 _ _ => s2.2 j (fun z => by
        simp only [List.mem_cons, List.not_mem_nil, or_false] at h1 z
        omega), fun k hk => s9 k (by simpa using hk), fun k _ => s2.I (by decide)⟩
    have qc : w_q [16, 18, 19, 20, 21, 22, 24, 29, 30, 31, 32, 33, 43, 64, 79, 80, 81, 82, 83, 84, 85] [5] [2, 3, 4, 20, 21, 24, 25, 31, 47, 49] g2 m2 := by
      refine w_q.m68 (((b5.1.mono (by simp)).trans (fm1.mono (by simp))).trans (t2.mono (by simp)) : z_fr [68, 79, 80, 81, 82, 83, 84, 85] g2 m2) (by decide) (by decide) (fun k hk => ?_)
      simp only [List.mem_cons, List.not_mem_nil, or_false] at hk
      rw [t3 k (by omega) (by omega) (by omega) (by omega) (by omega), hm1, z_I_sI_nk (by omega), b5.2 k (by omega) (by omega) (by omega) (by omega)]
    have q1 := qa.trans qb
    have q2 := q1.trans qc
    have vR : v_R m2 29 n' w' (z_A m 80) (z_A m 81) (k_f (z_A m 80) (z_A m 79) n') := (p3.cp n'12 w'16 s3).fr n'12 w'16 (((b5.1.mono (by simp)).trans (fm1.mono (by simp))).trans (t2.mono (by simp)) : z_fr [68, 79, 80, 81, 82, 83, 84, 85] g2 m2) (fun d hd => by simp; omega)
    obtain ⟨r1, r2, r3, r4, r5, r6, r7, r8, r9⟩ := hR
    refine ⟨nI n', g2, m2, ?_, ?_, q1.c0 (by decide), ⟨n', w', z_A m 80, z_A m 81, k_f (z_A m 80) (z_A m 79) n', lw, p, q2.sh (by decide) r1, ⟨p2, vR, t4, ⟨t5, t10, t11⟩, t9, fun x hx => ?_⟩, q2.laws (by decide) (by decide) (by decide) r3, ⟨0, Nat.zero_le _, ?_, ?_, fun i hi => absurd hi (Nat.not_lt_zero _)⟩, ?_, ⟨false, ?_, t8, fun z => Bool.noConfusion z⟩, ⟨0, Nat.zero_le _, ?_, t7, fun i hi => absurd hi (Nat.not_lt_zero _)⟩, q2.mist (by decide) (by decide) r8, q2.trail (by decide) r9⟩, q2.c0 (by decide)⟩
    · rw [if_neg nv]
      show ((s_Joy_settle F g (some 15)).bind fun x16 => some (x16.1, x16.2)) = _
      rw [s1, hn']
      rfl
    · unfold s_Mod_text
      rw [z_c68 S2, Option.bind_some, if_neg n0, b4, Option.bind_some, if_neg nv]
      show ((f_pI m (some 68) 12 2 (0 : Int32)).bind fun h14 => _) = _
      rw [z_w68_2 Sm, Option.bind_some, ← hm1, t1, Option.bind_some]
    · rw [t12 x hx, Nat.testBit_two_pow_sub_one, if_pos (decide_eq_true hx)]
    · rw [t2.I (by decide), fm1.I (by decide), b5.1.I (by decide), s4]; rfl
    · rw [t3 2 (by decide) (by decide) (by decide) (by decide) (by decide), hm1, z_II Sm 12 rfl]; rfl
    · obtain ⟨c, nx, H, S, L, x1, x2, x3, x4, x5, -⟩ := r5
      refine ⟨0, nx, fun _ => 0, fun _ => k_f (z_A m 80) (z_A m 79) n', fun _ => 0, by decide, x2, ?_, t6, ?_, fun j hj => absurd hj (Nat.not_lt_zero _), rfl, fun j _ => ⟨⟨rfl, fun i hi => absurd hi (Nat.not_lt_zero _)⟩, Nat.zero_le _, p4⟩, fun j hj => absurd hj (Nat.not_lt_zero _), fun j hj => absurd hj (Nat.not_lt_zero _), ?_, fun i hi => absurd hi (Nat.not_lt_zero _)⟩
      · rw [t2.I (by decide), fm1.I (by decide), b5.1.I (by decide), s5]; rfl
      · rw [t2.I (by decide), fm1.I (by decide), b5.1.I (by decide), s6, a2.I (by decide), x5]
      · rw [t2.I (by decide), fm1.I (by decide), b5.1.I (by decide), s3.1 14 (by omega), c14]; rfl
    · rw [t2.I (by decide), fm1.I (by decide), b5.1.I (by decide), s8]; rfl
    · rw [t2.I (by decide), fm1.I (by decide), b5.1.I (by decide), s7]; rfl
end TV
