-- A VILLAGE READ: the answer, both sides
section VR
variable {g g' g'' h m M : fw_H} {B : Nat → Nat} {l p q d D v mo i j k nn mm F c n f th o ar off w nh nw r a : Nat} {x y : Int32} {As : List Nat} {V : Nat → Nat} {td t : Bool} {P : Nat → Bool}
/-- the class: from the end of its reading -/
theorem z_vend (hF : 70000 ≤ F) (hS : z_Sh g) (hL : k_le g) : ∃ b, s_Vil_holdsTogether F g (some 19) = some b := by
  obtain ⟨a, b, h1, h2, h3, h4⟩ := hL
  exact ⟨_, z_holds hF hS h3 h4 h2⟩
def k_Kc (F : Nat) (he : fw_H) : Option (Int32 × fw_H) :=
  (f_gR he (some 18) 8 1).bind fun x62 => (s_Vil_holdsTogether F he x62).bind fun x65 => if x65 = true then ((f_gR he (some 18) 8 0).bind fun x79 => (s_Tape_faultFound he x79).bind fun x82 => some (x82, he)) else (f_gR he (some 18) 8 0).bind fun x72 => (s_Tape_failAtEnd he x72).bind fun h75 => (f_gR h75 (some 18) 8 0).bind fun x79 => (s_Tape_faultFound h75 x79).bind fun x82 => some (x82, h75)
theorem z_faultFound (hS : z_Sh g) : s_Tape_faultFound g (some 16) = some (z_I g 16 3) := by
  unfold s_Tape_faultFound
  rw [z_c16 hS, Option.bind_some, z_i16_3 hS, Option.bind_some]
theorem z_KcN (hF : 70000 ≤ F) (hk : k_no g B l q) (hL : k_le g) : k_Kc F g = some (nI q, g) := by
  have hS := hk.1.1
  obtain ⟨b, hb⟩ := z_vend hF hS hL
  unfold k_Kc
  rw [z_r18_1 hS, Option.bind_some, hb, Option.bind_some, z_r18_0 hS, Option.bind_some, z_faultFound hS, Option.bind_some, hk.2.2]
  cases b with
  | true => rw [if_pos rfl]
  | false =>
    rw [if_neg (by decide), Option.bind_some]
    unfold s_Tape_failAtEnd
    rw [z_c16 hS, Option.bind_some, z_i16_1 hS, Option.bind_some, z_failAtN hk, Option.bind_some, Option.bind_some, z_r18_0 hS, Option.bind_some, z_faultFound hS, Option.bind_some, hk.2.2]
theorem z_Kc (hF : 70000 ≤ F) (hk : k_ok g B l l) (h0 : z_I g 19 0 = nI nh) (h1 : z_I g 19 1 = nI nw) (h16 : nw ≤ 16) : ∃ g', k_Kc F g = some (if (g_alf (k_hw g nh) nw 0 && v_in (z_I g 19 10) nh) = true then (-1 : Int32) else nI l, g') ∧ (z_fr [16] g g' ∧ z_I g' 16 1 = z_I g 16 1) := by
  have hS := hk.1.1
  have hl := hk.1.2.1
  unfold k_Kc
  rw [z_r18_1 hS, Option.bind_some, z_holds hF hS h0 h1 h16, Option.bind_some, z_r18_0 hS, Option.bind_some, z_faultFound hS, Option.bind_some, hk.2.2.2]
  cases (g_alf (k_hw g nh) nw 0 && v_in (z_I g 19 10) nh) with
  | true => exact ⟨g, by rw [if_pos rfl, if_pos rfl], z_fr.refl, rfl⟩
  | false =>
    rw [if_neg (by decide), if_neg (by decide), Option.bind_some]
    unfold s_Tape_failAtEnd
    obtain ⟨g2, b1, b2, b3⟩ := z_failAt (q := l) hk (by omega)
    rw [z_c16 hS, Option.bind_some, z_i16_1 hS, Option.bind_some, hk.1.2.2.1, b1, Option.bind_some, Option.bind_some, z_r18_0 b3.1.1, Option.bind_some, z_faultFound b3.1.1, Option.bind_some, b3.2.2]
    exact ⟨g2, rfl, b2, b3.1.2.2.1⟩
def k_Km (F : Nat) (he : fw_H) : Option (Int32 × fw_H) :=
  (f_gI he (some 68) 12 4).bind fun x256 => if ¬ x256 = (-1 : Int32) then ((f_gI he (some 68) 12 4).bind fun x283 => some (x283, he)) else (s_Mod_look F he (some 68)).bind fun x264 => if ¬ x264.1 = (-1 : Int32) then ((s_Mod_bad x264.2 (some 68)).bind fun h279 => (f_gI h279 (some 68) 12 4).bind fun x283 => some (x283, h279)) else (s_Mod_isWhole F x264.2 (some 68)).bind fun x272 => if x272 = true then ((f_gI x264.2 (some 68) 12 4).bind fun x283 => some (x283, x264.2)) else (s_Mod_bad x264.2 (some 68)).bind fun h279 => (f_gI h279 (some 68) 12 4).bind fun x283 => some (x283, h279)
theorem z_KmN (hk : k_mn m B l q) : k_Km F m = some (nI q, m) := by
  have hS := hk.1.1
  unfold k_Km
  rw [z_i68_4 hS, Option.bind_some, if_pos hk.ne, Option.bind_some, hk.2.2]
theorem z_KmB (hF : 70000 ≤ F) (hk : k_mo m B l q) (hq : q < l) (h32 : B q ≠ 32) : ∃ m', k_Km F m = some (nI q, m') ∧ k_bf m m' := by
  have hS := hk.1.1
  have hl := hk.1.2.1
  have hn : k_n B l q = q := by rw [k_n_step hq, if_neg h32]
  obtain ⟨m2, b1, b2, b3⟩ := z_look hF hk
  rw [hn] at b1 b3
  obtain ⟨m3, c1, c2, c3, -⟩ := z_bad b3
  have hg : ¬ k_g B l q = (-1 : Int32) := by
    unfold k_g
    rw [if_pos hq]
    exact nI_ne_m1 (by have := hk.1.2.2.2.1 q hq; omega)
  unfold k_Km
  rw [z_i68_4 hS, Option.bind_some, hk.2.2.2, if_neg (fun z => z rfl), b1, Option.bind_some, if_pos hg]
  show ∃ m', ((s_Mod_bad m2 (some 68)).bind fun h279 => _) = some (nI q, m') ∧ _
  rw [c1, Option.bind_some, z_i68_4 c3.1.1, Option.bind_some, c3.2.2]
  exact ⟨m3, rfl, b2.bf.trans c2⟩
theorem z_KmW {b : Bool} (hF : 70000 ≤ F) (hk : k_mo m B l l) (hw : ∀ m', k_lf m m' → s_Mod_isWhole F m' (some 68) = some b) : ∃ m', k_Km F m = some (if b = true then (-1 : Int32) else nI l, m') ∧ k_bf m m' := by
  have hS := hk.1.1
  have hl := hk.1.2.1
  have hn : k_n B l l = l := k_n_end (Nat.le_refl _)
  obtain ⟨m2, b1, b2, b3⟩ := z_look hF hk
  rw [hn] at b1 b3
  have hg : k_g B l l = (-1 : Int32) := if_neg (Nat.lt_irrefl _)
  unfold k_Km
  rw [z_i68_4 hS, Option.bind_some, hk.2.2.2, if_neg (fun z => z rfl), b1, Option.bind_some, if_neg (fun z => z hg)]
  show ∃ m', ((s_Mod_isWhole F m2 (some 68)).bind fun x272 => _) = some (if b = true then (-1 : Int32) else nI l, m') ∧ _
  rw [hw m2 b2, Option.bind_some]
  cases b with
  | true =>
    rw [if_pos rfl, if_pos rfl]
    show ∃ m', ((f_gI m2 (some 68) 12 4).bind fun x283 => _) = _ ∧ _
    rw [z_i68_4 b3.1.1, Option.bind_some, b3.2.2.2]
    exact ⟨m2, rfl, b2.bf⟩
  | false =>
    rw [if_neg (by decide), if_neg (by decide)]
    obtain ⟨m3, c1, c2, c3, -⟩ := z_bad b3
    show ∃ m', ((s_Mod_bad m2 (some 68)).bind fun h279 => _) = _ ∧ _
    rw [c1, Option.bind_some, z_i68_4 c3.1.1, Option.bind_some, c3.2.2]
    exact ⟨m3, rfl, b2.bf.trans c2⟩
theorem z_mr24 (hS0 : z_Sh m) {K : fw_H → Option (Int32 × fw_H)} : ∀ (d i nn : Nat) (g : fw_H), i + d = 3 → d < nn → z_fr [79] m g → (∀ k, k < i → z_A g 79 k = 0) → ∃ g', l_Mod_readAll_24 (some 68) K nn (nI i) g = K g' ∧ (z_fr [79] m g' ∧ ∀ k, k < 3 → z_A g' 79 k = 0) := by
  intro d
  induction d with
  | zero =>
    intro i nn g hi hnn hf hA
    obtain ⟨nn, rfl⟩ : ∃ k, nn = k + 1 := ⟨nn - 1, by omega⟩
    exact ⟨g, by rw [l_Mod_readAll_24, if_pos (show (3 : Int32) ≤ nI i from nI_le (a := 3) (by omega) (by omega))], hf, fun k hk => hA k (by omega)⟩
  | succ d ih =>
    intro i nn g hi hnn hf hA
    obtain ⟨nn, rfl⟩ : ∃ k, nn = k + 1 := ⟨nn - 1, by omega⟩
    have S1 := hS0.fr hf (by decide)
    rw [l_Mod_readAll_24, if_neg (show ¬ (3 : Int32) ≤ nI i from nI_ge (a := i) (b := 3) (by omega) (by decide)), z_r68_17 S1, Option.bind_some, z_s79 S1 (by omega), Option.bind_some, nI_1]
    refine ih (i + 1) nn _ (by omega) (by omega) (hf.sA (by simp)) (fun k hk => ?_)
    rw [z_A_sA (z_ckT (a := 79) S1 rfl)]
    by_cases e : k = i
    · rw [if_pos e]
    · rw [if_neg e]; exact hA k (by omega)
theorem z_vread (hF : 70000 ≤ F) (hA : k_A h B l) (hM : k_M M B l) : ∃ g v, s_VText_read F h (some 18) = some (v, g) ∧ (z_fr [16, 18, 19, 20, 21, 22, 24] h g ∧ z_I g 16 1 = z_I h 16 1 ∧ ∃ m, s_Mod_readAll F M (some 68) = some (v, m) ∧ (k_mf M m ∧ ((∃ q, q ≤ 240 ∧ v = nI q) ∨ (v = -1 ∧ k_Z g m)))) := by
  have hS := hA.1
  have hSM := hM.1
  have hl := hA.2.1
  -- both begin
  obtain ⟨h1, hh1⟩ : ∃ h1, h1 = z_sI h 16 2 (0 : Int32) := ⟨_, rfl⟩
  obtain ⟨h2, hh2⟩ : ∃ h2, h2 = z_sI h1 16 3 (-1 : Int32) := ⟨_, rfl⟩
  have S1 : z_Sh h1 := by rw [hh1]; exact z_Sh_sI hS
  have f2 : z_fr [16] h h2 := by rw [hh2, hh1]; exact (z_fr.refl.sI (by simp)).sI (by simp)
  have S2 := hS.fr f2 (by decide)
  obtain ⟨h3, a1, a2, a3, a4, a5⟩ := z_clear19 hF S2
  have S3 := S2.fr a2 (by decide)
  obtain ⟨h4, hh4⟩ : ∃ h4, h4 = z_sI h3 18 3 (fw_b false) := ⟨_, rfl⟩
  have f4 : z_fr [18] h3 h4 := by rw [hh4]; exact z_fr.refl.sI (by simp)
  have f24 : z_fr [18, 19, 21] h2 h4 := (a2.mono (by simp)).trans (f4.mono (by simp))
  have f04 : z_fr [16, 18, 19, 20, 21, 22, 24] h h4 := (f2.mono (by simp)).trans (f24.mono (by simp))
  have e1 : z_I h2 16 1 = z_I h 16 1 := by rw [hh2, z_I_sI_nk (by decide), hh1, z_I_sI_nk (by decide)]
  have k2 : k_ok h2 B l 0 := ⟨hA.fr (As := [16]) f2 (by decide) (by decide) e1, Nat.zero_le _, by rw [hh2, z_I_sI_nk (by decide), hh1, z_II hS 6 rfl]; rfl, by rw [hh2, z_II S1 6 rfl]⟩
  have k4 : k_ok h4 B l 0 := k2.fr f24 (by decide) (by decide) (by decide)
  obtain ⟨M1, hM1⟩ : ∃ M1, M1 = z_sI M 68 3 (0 : Int32) := ⟨_, rfl⟩
  obtain ⟨M2, hM2⟩ : ∃ M2, M2 = z_sI M1 68 4 (-1 : Int32) := ⟨_, rfl⟩
  obtain ⟨M3, hM3⟩ : ∃ M3, M3 = z_sI M2 68 20 (0 : Int32) := ⟨_, rfl⟩
  obtain ⟨M4, hM4⟩ : ∃ M4, M4 = z_sI M3 68 21 (0 : Int32) := ⟨_, rfl⟩
  have T1 : z_Sh M1 := by rw [hM1]; exact z_Sh_sI hSM
  have T2 : z_Sh M2 := by rw [hM2]; exact z_Sh_sI T1
  have T3 : z_Sh M3 := by rw [hM3]; exact z_Sh_sI T2
  have T4 : z_Sh M4 := by rw [hM4]; exact z_Sh_sI T3
  have F4 : z_fr [68] M M4 := by rw [hM4, hM3, hM2, hM1]; exact (((z_fr.refl.sI (by simp)).sI (by simp)).sI (by simp)).sI (by simp)
  obtain ⟨M5, b1, b2, b3⟩ := z_mr24 T4 (K := fun he42 => l_Mod_readAll_44 F (some 68) (k_Km F) F (0 : Int32) (1 : Int32) he42) 3 0 F M4 (by omega) (by omega) z_fr.refl (fun k hk => absurd hk (Nat.not_lt_zero _))
  have mf5 : k_mf M M5 := ⟨(F4.mono (by simp)).trans (b2.mono (by simp)), fun k x y z w => by rw [b2.I (by decide), hM4, z_I_sI_nk w, hM3, z_I_sI_nk z, hM2, z_I_sI_nk y, hM1, z_I_sI_nk x]⟩
  have T5 := T4.fr b2 (by decide)
  have m4 : k_mo M4 B l 0 := ⟨hM.fr (As := [68]) F4 (by decide) (by decide) (by rw [hM4, z_I_sI_nk (by decide), hM3, z_I_sI_nk (by decide), hM2, z_I_sI_nk (by decide), hM1, z_I_sI_nk (by decide)]), Nat.zero_le _, by rw [hM4, z_I_sI_nk (by decide), hM3, z_I_sI_nk (by decide), hM2, z_I_sI_nk (by decide), hM1, z_II hSM 12 rfl]; rfl, by rw [hM4, z_I_sI_nk (by decide), hM3, z_I_sI_nk (by decide), hM2, z_II T1 12 rfl]⟩
  have m5 : k_mo M5 B l 0 := m4.fr b2 (by decide) (by decide) (fun k _ => b2.I (by decide))
  have i4 : ∀ k, k = 0 ∨ k = 1 ∨ k = 5 ∨ k = 6 ∨ k = 7 ∨ k = 8 ∨ k = 9 ∨ k = 10 ∨ k = 12 ∨ k = 14 → z_I h4 19 k = 0 := fun k hk => (f4.I (by decide)).trans (a3 k hk)
  have d0 : k_D h4 M5 0 0 false := ⟨⟨by omega, by omega, i4 0 (by omega), i4 1 (by omega), by rw [b2.I (by decide), hM4, z_I_sI_nk (by decide), hM3, z_II T2 12 rfl]; rfl, by rw [b2.I (by decide), hM4, z_II T3 12 rfl]; rfl, by rw [hh4, z_II S3 8 rfl]⟩, ⟨0, 0, 0, by omega, by omega, by omega, i4 10 (by omega), b3 0 (by decide), i4 12 (by omega), b3 1 (by decide), i4 8 (by omega), b3 2 (by decide)⟩, ⟨fun i hi => absurd hi (Nat.not_lt_zero _), 0, by decide, i4 7 (by omega), fun i hi => absurd hi (Nat.not_lt_zero _)⟩, ⟨fun i hi => absurd hi (Nat.not_lt_zero _), 0, by decide, i4 5 (by omega), fun i hi => absurd hi (Nat.not_lt_zero _)⟩⟩
  obtain ⟨g5, c1, c2, m6, c3, c4, c5, c6⟩ := z_readL (Kc := k_Kc F) (Km := k_Km F) hF F F 0 0 h4 M5 0 0 false (by omega) (by omega) (by omega) k4 m5 d0
  have run : s_VText_read F h (some 18) = k_Kc F g5 := by
    unfold s_VText_read s_Tape_rewind
    rw [z_c18 hS, Option.bind_some, z_r18_0 hS, Option.bind_some, z_c16 hS, Option.bind_some, z_w16_2 hS, Option.bind_some, ← hh1, z_w16_3 S1, Option.bind_some, ← hh2, Option.bind_some, z_r18_1 S2, Option.bind_some, a1, Option.bind_some, z_pBS S3 rfl, Option.bind_some, ← hh4]
    exact c1
  have mrun : s_Mod_readAll F M (some 68) = k_Km F m6 := by
    unfold s_Mod_readAll
    rw [z_c68 hSM, Option.bind_some, z_w68_3 hSM, Option.bind_some, ← hM1, z_w68_4 T1, Option.bind_some, ← hM2, z_w68_20 T2, Option.bind_some, ← hM3, z_w68_21 T3, Option.bind_some, ← hM4]
    exact b1.trans c3
  rw [run, mrun]
  have f45 : z_fr [16, 18, 19, 20, 21, 22, 24] h g5 := f04.trans (c2.1.mono (by simp))
  have mf6 : k_mf M m6 := mf5.trans c4
  rcases c6 with ⟨q, ko, alt⟩ | ⟨nh, nw, td, ko, mo, hD⟩
  · refine ⟨g5, nI q, z_KcN hF ko c5, f45, ko.1.2.2.1.trans hA.2.2.1.symm, ?_⟩
    rcases alt with kn | ⟨km, q1, q2⟩
    · exact ⟨m6, z_KmN kn, mf6, .inl ⟨q, ko.2.1, rfl⟩⟩
    · obtain ⟨m7, t1, t2⟩ := z_KmB hF km q1 q2
      exact ⟨m7, t1, mf6.trans t2.mf, .inl ⟨q, ko.2.1, rfl⟩⟩
  · obtain ⟨⟨d1, d2, d3, d4, d5, d6, d7⟩, dV, dH, dW⟩ := hD
    obtain ⟨g6, t1, t2, t3⟩ := z_Kc hF ko d3 d4 d2
    have dV0 := dV
    obtain ⟨a, b, c, v1, v2, v3, v4, v5, v6, v7, v8, v9⟩ := dV
    have hb : (g_alf (k_hw g5 nh) nw 0 && v_in (z_I g5 19 10) nh) = (decide (a < nh) && g_alf (k_hw g5 nh) nw 0) := by
      rw [v4, v_in_d (by omega) (by omega), Bool.and_comm]
    have hwh : ∀ m', k_lf m6 m' → s_Mod_isWhole F m' (some 68) = some (g_alf (k_hw g5 nh) nw 0 && v_in (z_I g5 19 10) nh) := fun m' hf => by
      rw [hb]
      refine z_isWhole hF (mo.1.1.fr hf.1 (by decide)) ((hf.2 20 (by decide)).trans d5) ((hf.2 21 (by decide)).trans d6) d1 d2 ((hf.1.A (by decide)).trans v5) v1 (fun j hj => ?_)
      obtain ⟨x, y, x1, x2, x3, x4, x5⟩ := k_hw_d dW d1 j hj
      exact ⟨x, y, x1, x2, (hf.1.A (by decide)).trans x3, (hf.1.A (by decide)).trans x4, x5⟩
    obtain ⟨m7, u1, u2⟩ := z_KmW hF mo hwh
    refine ⟨g6, _, t1, f45.trans (t2.mono (by simp)), t3.trans (ko.1.2.2.1.trans hA.2.2.1.symm), m7, u1, mf6.trans u2.mf, ?_⟩
    cases hbb : (g_alf (k_hw g5 nh) nw 0 && v_in (z_I g5 19 10) nh) with
    | false => exact .inl ⟨l, hl, if_neg (by decide)⟩
    | true =>
      rw [Bool.and_eq_true] at hbb
      refine .inr ⟨if_pos rfl, nh, nw, td, ?_, ?_, ?_, ⟨?_, ?_, ?_, ?_⟩, fun i hi => ?_⟩
      · have : k_D g6 m6 nh nw td := k_D.g16 t2 ⟨⟨d1, d2, d3, d4, d5, d6, d7⟩, dV0, dH, dW⟩
        obtain ⟨⟨y1, y2, y3, y4, y5, y6, y7⟩, yV, yH, yW⟩ := this
        exact ⟨⟨y1, y2, y3, y4, (u2.2 20 (by decide) (by decide)).trans y5, (u2.2 21 (by decide) (by decide)).trans y6, y7⟩, yV.of (fun _ _ => rfl) (fun i => u2.1.A (by decide)), yH.of rfl (fun _ => rfl) (fun i => u2.1.A (by decide)), yW.of rfl (fun _ => rfl) (fun i => u2.1.A (by decide))⟩
      · have : k_hw g6 nh = k_hw g5 nh := by
          funext j
          unfold k_hw
          rw [t2.A (by decide), t2.A (by decide)]
        rw [this]; exact hbb.1
      · rw [t2.I (by decide)]; exact hbb.2
      · exact (t2.I (by decide)).trans ((c2.2 6 (by omega)).trans (i4 6 (by omega)))
      · exact (t2.I (by decide)).trans ((c2.2 9 (by omega)).trans (i4 9 (by omega)))
      · exact (t2.I (by decide)).trans ((c2.2 11 (by omega)).trans ((f4.I (by decide)).trans a4))
      · exact (t2.I (by decide)).trans ((c2.2 14 (by omega)).trans (i4 14 (by omega)))
      · exact (t2.A (by decide)).trans ((c2.1.A (by decide)).trans ((f4.A (by decide)).trans (a5 i hi)))
end VR
