-- A LAW'S TEXT (3): units, conditions
def k_SL (fc fm : fw_H → Option fw_H) (B : Nat → Nat) (l k d c : Nat) : Prop :=
  ∀ (g m : fw_H) (p : Nat) (L R : List q_O), k_ok g B l p → k_mo m B l p → z_I m 68 5 = nI d → z_I m 68 14 = nI k → k_cE g L → k_mE m k R → L.length ≤ p → R.length ≤ p →
    ∃ g' m', fc g = some g' ∧ fm m = some m' ∧ (k_lc g g' ∧ k_pf k m m' ∧ k_O g' m' B l k d c 0 p L R [true] true)
section CO
variable {g g' g'' h m m' m'' : fw_H} {B : Nat → Nat} {l p p' q d D v mo i j k nn F c c1 c2 e e2 n f r Dc Dm c0 : Nat} {x y : Int32} {As : List Nat} {L R N : List q_O} {o : q_O} {b : Bool} {I I2 : List Bool} {fc fm fc1 fm1 fc2 fm2 : fw_H → Option fw_H}
theorem k_O.seq (h1 : p + N.length ≤ p') (h2 : p + e ≤ p') (hc : c2 ≤ c) (ht : ∀ τ, τ.length + 2 * (6 - d) + c < 40 → q_ty N (I ++ τ) = some (I2 ++ τ)) (hO : k_O g m B l k d c2 e2 p' (L ++ N) (R ++ N) I2 b) : k_O g m B l k d c e p L R I b := by
  rcases hO with ⟨p2, N2, z1, z2, z3, z4, z5, z6, z7, z8⟩ | ⟨q, R', z1, z2, z3, z4⟩
  · refine .inl ⟨p2, N ++ N2, ?_, by omega, z3, z4, z5, ?_, ?_, fun τ hτ => ?_⟩
    · rw [List.length_append]; omega
    · rw [← List.append_assoc]; exact z6
    · rw [← List.append_assoc]; exact z7
    · rw [q_ty_app, ht τ hτ, Option.bind_some]
      exact z8 τ (by omega)
  · exact .inr ⟨q, R', z1, z2, z3, by omega⟩
theorem k_seq (h1 : k_SP fc1 fm1 B l k d c1 true) (h2 : k_SL fc2 fm2 B l k d c2) (n1 : ∀ g q, k_no g B l q → fc2 g = some g) (n2 : ∀ m q, k_mn m B l q → fm2 m = some m) (hc1 : c1 ≤ c) (hc2 : c2 ≤ c) : k_SP (fun g => (fc1 g).bind fc2) (fun m => (fm1 m).bind fm2) B l k d c true := by
  intro g m p L R hk hm h5 h14 hL hR hLl hRl
  obtain ⟨g1, m1, s1, s2, s3, s4, s5⟩ := h1 g m p L R hk hm h5 h14 hL hR hLl hRl
  rcases s5 with ⟨p', N, y1, y2, y3, y4, y5, y6, y7, y8⟩ | ⟨q, R', y1, y2, y3, y4⟩
  · obtain ⟨g2, m2, t1, t2, t3, t4, t5⟩ := h2 g1 m1 p' (L ++ N) (R ++ N) y3 y4 y5 ((s4.2.1 14 (by decide) (by decide) (by decide)).trans h14) y6 y7 (by rw [List.length_append]; omega) (by rw [List.length_append]; omega)
    exact ⟨g2, m2, by show (fc1 g).bind fc2 = some g2; rw [s1, Option.bind_some, t1], by show (fm1 m).bind fm2 = some m2; rw [s2, Option.bind_some, t2], s3.trans t3, s4.trans t4, t5.seq y1 y2 hc2 (fun τ hτ => y8 τ (by omega))⟩
  · exact ⟨g1, m1, by show (fc1 g).bind fc2 = some g1; rw [s1, Option.bind_some, n1 g1 q y1], by show (fm1 m).bind fm2 = some m1; rw [s2, Option.bind_some, n2 m1 q y2], s3, s4, .inr ⟨q, R', y1, y2, y3, by omega⟩⟩
-- the class behind a fault
theorem z_atomN (hk : k_no g B l q) : ∃ g', gr_LText_atom F (D + 1) 0 g (some 25) x = some g' ∧ (z_fr [26, 27] g g' ∧ z_I g' 26 3 = z_I g 26 3 ∧ k_no g' B l q) := by
  have hS := hk.1.1
  obtain ⟨g2, a1, a2, a3⟩ := z_emitN (x := (0 : Int32)) (y := (0 : Int32)) hS
  show ∃ g', b_LText_atom F (gr_LText_atom F D) g (some 25) x = some g' ∧ _
  unfold b_LText_atom
  rw [z_c25 hS, Option.bind_some, z_r25_0 hS, Option.bind_some, z_peekN hk, Option.bind_some, k_jn1, if_neg (fun z => z rfl)]
  refine ⟨g2, ((if_pos (show (-1 : Int32) < 0 from by decide)).trans (if_neg (show ¬ (-1 : Int32) = (91 : Int32) from by decide))).trans ?_, a2, a3 (by decide) (by decide), hk.ef a2⟩
  show ((f_gR g (some 25) 2 1).bind fun x55 => _) = some g2
  rw [z_r25_1 hS, Option.bind_some, z_r25_0 hS, Option.bind_some, z_cnumN hk, Option.bind_some, a1, Option.bind_some]
theorem z_termN (hF : 70000 ≤ F) (hs : ∀ g, k_no g B l q → ∃ g', gr_LText_atom F D 0 g (some 25) x = some g' ∧ (z_fr [26, 27] g g' ∧ z_I g' 26 3 = z_I g 26 3 ∧ k_no g' B l q)) (hk : k_no g B l q) : ∃ g', gr_LText_atom F (D + 1) 2 g (some 25) x = some g' ∧ (z_fr [26, 27] g g' ∧ z_I g' 26 3 = z_I g 26 3 ∧ k_no g' B l q) := by
  obtain ⟨g1, a1, a2, a3, a4⟩ := hs g hk
  obtain ⟨FF, rfl⟩ : ∃ k, F = k + 1 := ⟨F - 1, by omega⟩
  show ∃ g', b_LText_term (FF + 1) (gr_LText_atom (FF + 1) D) g (some 25) x = some g' ∧ _
  unfold b_LText_term
  rw [z_c25 hk.1.1, Option.bind_some, a1, Option.bind_some, l_LText_term_7, if_neg (by decide), z_r25_0 a4.1.1, Option.bind_some, z_peekN a4, Option.bind_some]
  exact ⟨g1, (if_neg (show ¬ (-1 : Int32) = (42 : Int32) from by decide)).trans (if_neg (show ¬ (-1 : Int32) = (47 : Int32) from by decide)), a2, a3, a4⟩
theorem z_sumN (hF : 70000 ≤ F) (hs : ∀ g, k_no g B l q → ∃ g', gr_LText_atom F D 2 g (some 25) x = some g' ∧ (z_fr [26, 27] g g' ∧ z_I g' 26 3 = z_I g 26 3 ∧ k_no g' B l q)) (hk : k_no g B l q) : ∃ g', gr_LText_atom F (D + 1) 1 g (some 25) x = some g' ∧ (z_fr [26, 27] g g' ∧ z_I g' 26 3 = z_I g 26 3 ∧ k_no g' B l q) := by
  obtain ⟨g1, a1, a2, a3, a4⟩ := hs g hk
  obtain ⟨FF, rfl⟩ : ∃ k, F = k + 1 := ⟨F - 1, by omega⟩
  show ∃ g', b_LText_sum (FF + 1) (gr_LText_atom (FF + 1) D) g (some 25) x = some g' ∧ _
  unfold b_LText_sum
  rw [z_c25 hk.1.1, Option.bind_some, a1, Option.bind_some, l_LText_sum_7, if_neg (by decide), z_r25_0 a4.1.1, Option.bind_some, z_peekN a4, Option.bind_some]
  exact ⟨g1, (if_neg (show ¬ (-1 : Int32) = (43 : Int32) from by decide)).trans (if_neg (show ¬ (-1 : Int32) = (45 : Int32) from by decide)), a2, a3, a4⟩
theorem z_sumSN (hF : 70000 ≤ F) (hk : k_no g B l q) : ∃ g', s_LText_sum F g (some 25) x = some g' ∧ (z_fr [26, 27] g g' ∧ z_I g' 26 3 = z_I g 26 3 ∧ k_no g' B l q) :=
  z_sumN (D := 79) hF (fun _ h => z_termN (D := 78) hF (fun _ h => z_atomN (D := 77) h) h) hk
theorem z_comparisonN (hk : k_no g B l q) : s_LText_comparison F g (some 25) x = some g := by
  have hS := hk.1.1
  unfold s_LText_comparison
  rw [z_c25 hS, Option.bind_some, z_r25_0 hS, Option.bind_some, z_peekN hk, Option.bind_some, show s_LText_comparing (-1) = some (-1) from by decide, Option.bind_some, if_neg (fun z => z rfl)]
  show ((f_gR g (some 25) 2 0).bind fun x17 => _) = some g
  rw [z_r25_0 hS, Option.bind_some, z_failN hk, Option.bind_some]
theorem z_unitsN (hF : 70000 ≤ F) (hk : k_no g B l q) : gr_LText_condition F (D + 1) 2 g (some 25) x = some g := by
  obtain ⟨FF, rfl⟩ : ∃ k, F = k + 1 := ⟨F - 1, by omega⟩
  show b_LText_moreUnits (FF + 1) (gr_LText_condition (FF + 1) D) g (some 25) x = some g
  unfold b_LText_moreUnits
  rw [z_c25 hk.1.1, Option.bind_some, l_LText_moreUnits_2, if_neg (by decide), z_r25_0 hk.1.1, Option.bind_some, z_peekN hk, Option.bind_some]
  exact if_pos (show ¬ (-1 : Int32) = (38 : Int32) from by decide)
theorem z_truthsN (hF : 70000 ≤ F) (hk : k_no g B l q) : gr_LText_condition F (D + 1) 1 g (some 25) x = some g := by
  obtain ⟨FF, rfl⟩ : ∃ k, F = k + 1 := ⟨F - 1, by omega⟩
  show b_LText_moreTruths (FF + 1) (gr_LText_condition (FF + 1) D) g (some 25) x = some g
  unfold b_LText_moreTruths
  rw [z_c25 hk.1.1, Option.bind_some, l_LText_moreTruths_2, if_neg (by decide), z_r25_0 hk.1.1, Option.bind_some, z_peekN hk, Option.bind_some]
  exact if_pos (show ¬ (-1 : Int32) = (124 : Int32) from by decide)
theorem z_goAndN (hF : 70000 ≤ F) (hk : k_mn m B l q) : gr_Mod_condition F (D + 1) 1 m (some 68) = some m := by
  obtain ⟨FF, rfl⟩ : ∃ k, F = k + 1 := ⟨F - 1, by omega⟩
  show b_Mod_goOnAnd (FF + 1) (gr_Mod_condition (FF + 1) D) m (some 68) = some m
  unfold b_Mod_goOnAnd
  rw [z_c68 hk.1.1, Option.bind_some, l_Mod_goOnAnd_0, z_i68_4 hk.1.1, Option.bind_some, if_pos hk.ne]
theorem z_goOrN (hF : 70000 ≤ F) (hk : k_mn m B l q) : gr_Mod_condition F (D + 1) 2 m (some 68) = some m := by
  obtain ⟨FF, rfl⟩ : ∃ k, F = k + 1 := ⟨F - 1, by omega⟩
  show b_Mod_goOnOr (FF + 1) (gr_Mod_condition (FF + 1) D) m (some 68) = some m
  unfold b_Mod_goOnOr
  rw [z_c68 hk.1.1, Option.bind_some, l_Mod_goOnOr_0, z_i68_4 hk.1.1, Option.bind_some, if_pos hk.ne]
/-- the sign of a comparison -/
def k_sg (c : Nat) : Option Nat := if c = 60 then some 7 else if c = 61 then some 6 else if c = 62 then some 8 else none
theorem k_sgs : (∀ c, c < 256 → s_LText_comparing (nI c) = some (g_on (k_sg c) (-1)) ∧ s_Mod_isSign (nI c) = some (k_sg c).isSome) ∧ s_LText_comparing (-1) = some (-1) ∧ s_Mod_isSign (-1) = some false := by decide +kernel
theorem z_sgs (hBB : ∀ i, i < l → 1 ≤ B i ∧ B i < 256) : s_LText_comparing (k_g B l r) = some (g_on (k_sg (k_b B l r)) (-1)) ∧ s_Mod_isSign (k_g B l r) = some (k_sg (k_b B l r)).isSome := by
  unfold k_g k_b
  by_cases e : r < l
  · rw [if_pos e, if_pos e]; exact k_sgs.1 _ (hBB r e).2
  · rw [if_neg e, if_neg e]; exact k_sgs.2
theorem k_cmp (hF : 70000 ≤ F) (hk5 : k < 5) (hd : d ≤ 6) (hk : k_ok g B l p) (hm : k_mo m B l p) (h5 : z_I m 68 5 = nI d) (h14 : z_I m 68 14 = nI k) (hL : k_cE g L) (hR : k_mE m k R) (hLl : L.length ≤ p) (hRl : R.length ≤ p) :
    ∃ g' m', s_LText_comparison F g (some 25) (nI d) = some g' ∧ s_Mod_compare F m (some 68) = some m' ∧ (k_lc g g' ∧ k_pf k m m' ∧ k_O g' m' B l k d 3 1 p L R [false] true) := by
  have hS := hk.1.1
  have hl := hk.1.2.1
  have hBB := hk.1.2.2.2.1
  obtain ⟨r, hr⟩ : ∃ r, r = k_n B l p := ⟨_, rfl⟩
  have hle := k_n_le (B := B) hk.2.1
  obtain ⟨g1, a1, a2, a3⟩ := z_peek hF hk
  obtain ⟨m1, b1, b2, b3⟩ := z_look hF hm
  rw [← hr] at hle a1 a3 b1 b3
  have S1 := a3.1.1
  have T1 := b3.1.1
  have cE1 : k_cE g1 L := hL.f16 a2
  have mE1 : k_mE m1 k R := hR.f68 b2.1
  have i14 : z_I m1 68 14 = nI k := (b2.2 14 (by decide)).trans h14
  have i5 : z_I m1 68 5 = nI d := (b2.2 5 (by decide)).trans h5
  have C1 : k_lc g g1 := k_lc.f16 a2
  unfold s_LText_comparison s_Mod_compare
  rw [z_c25 hS, Option.bind_some, z_r25_0 hS, Option.bind_some, a1, Option.bind_some, z_c68 hm.1.1, Option.bind_some, z_i68_4 hm.1.1, Option.bind_some, k_jn2, hm.2.2.2, if_neg (fun z => z rfl), b1, Option.bind_some]
  dsimp only
  rw [(z_sgs hBB).1, Option.bind_some, (z_sgs hBB).2, Option.bind_some]
  match e : k_sg (k_b B l r) with
  | none =>
    obtain ⟨g2, c1, c2, c3⟩ := z_fail a3
    obtain ⟨m2, d1, d2, d3, -⟩ := z_bad b3
    have e1 : ¬ ¬ g_on none (-1) = (-1 : Int32) := fun z => z rfl
    rw [if_neg e1, z_r25_0 S1, Option.bind_some, c1, Option.bind_some]
    have e2 : ¬ (none : Option Nat).isSome = true := by decide
    rw [if_neg e2, d1, Option.bind_some]
    exact ⟨g2, m2, rfl, rfl, C1.trans (k_lc.f16 c2), b2.pf.trans d2.pf, .inr ⟨r, R, c3, d3, mE1.f68 d2.1, by omega⟩⟩
  | some kd =>
    have hc0 : k_b B l r ≠ 0 := fun z => by rw [z] at e; cases e
    have hlt := k_b_lt hc0
    have hkd : (k_b B l r = 60 ∧ kd = 7) ∨ (k_b B l r = 61 ∧ kd = 6) ∨ (k_b B l r = 62 ∧ kd = 8) := by
      unfold k_sg at e
      by_cases z1 : k_b B l r = 60
      · rw [if_pos z1] at e; exact .inl ⟨z1, (Option.some.inj e).symm⟩
      · rw [if_neg z1] at e
        by_cases z2 : k_b B l r = 61
        · rw [if_pos z2] at e; exact .inr (.inl ⟨z2, (Option.some.inj e).symm⟩)
        · rw [if_neg z2] at e
          by_cases z3 : k_b B l r = 62
          · rw [if_pos z3] at e; exact .inr (.inr ⟨z3, (Option.some.inj e).symm⟩)
          · rw [if_neg z3] at e; cases e
    have hk9 : 6 ≤ kd ∧ kd ≤ 8 := by omega
    obtain ⟨g2, c1, c2, c3⟩ := z_skip a3 hlt
    have m2 := b3.to (q := r + 1) (by omega)
    have mE2 : k_mE (z_sI m1 68 3 (nI (r + 1))) k R := mE1.f68 (z_fr.refl.sI (by simp))
    obtain ⟨g3, m3, s1, s2, s3, s4, s5⟩ := k_sumS (l := l) hF hk5 hd g2 (z_sI m1 68 3 (nI (r + 1))) (r + 1) L R c3 m2 ((z_I_sI_nk (by decide)).trans i5) ((z_I_sI_nk (by decide)).trans i14) (cE1.f16 c2) mE2 (by omega) (by omega)
    have s1' : s_LText_sum F g2 (some 25) (nI d) = some g3 := s1
    have s2' : s_Mod_sum F (z_sI m1 68 3 (nI (r + 1))) (some 68) = some m3 := s2
    have S3 : z_Sh g3 := c3.1.1.fr s3.1 (by decide)
    have T3 : z_Sh m3 := m2.1.1.fr s4.1 (by decide)
    have j14 : z_I m3 68 14 = nI k := (s4.2.1 14 (by decide) (by decide) (by decide)).trans ((z_I_sI_nk (by decide)).trans i14)
    have qm : q_mk kd = kd := by rcases hkd with ⟨-, rfl⟩ | ⟨-, rfl⟩ | ⟨-, rfl⟩ <;> rfl
    have n12 : ¬ nI kd = (12 : Int32) := by rcases hkd with ⟨-, rfl⟩ | ⟨-, rfl⟩ | ⟨-, rfl⟩ <;> decide
    have n13 : ¬ nI kd = (13 : Int32) := by rcases hkd with ⟨-, rfl⟩ | ⟨-, rfl⟩ | ⟨-, rfl⟩ <;> decide
    have eon : g_on (some kd) (-1) = nI kd := rfl
    have e1 : ¬ nI kd = (-1 : Int32) := nI_ne_m1 (by omega)
    have e2 : (some kd : Option Nat).isSome = true := rfl
    have E : ∀ c, 1 ≤ c → c < 256 → (k_g B l r = nI c ↔ k_b B l r = c) := fun c h1 h2 => k_g_b hBB h1 h2
    have sgn : (if ¬ k_g B l r = (61 : Int32) then (if ¬ k_g B l r = (60 : Int32) then ((s_Mod_put m3 (some 68) (8 : Int32) (0 : Int32)).bind fun h69 => some h69) else (s_Mod_put m3 (some 68) (7 : Int32) (0 : Int32)).bind fun h69 => some h69) else (s_Mod_put m3 (some 68) (6 : Int32) (0 : Int32)).bind fun h69 => some h69) = (s_Mod_put m3 (some 68) (nI kd) (0 : Int32)).bind fun h69 => some h69 := by
      rcases hkd with ⟨z, rfl⟩ | ⟨z, rfl⟩ | ⟨z, rfl⟩
      · rw [if_pos (show ¬ k_g B l r = (61 : Int32) from fun w => by have := (E 61 (by decide) (by decide)).mp w; omega), if_neg (show ¬ ¬ k_g B l r = (60 : Int32) from fun w => w ((E 60 (by decide) (by decide)).mpr z))]
        rfl
      · rw [if_neg (show ¬ ¬ k_g B l r = (61 : Int32) from fun w => w ((E 61 (by decide) (by decide)).mpr z))]
        rfl
      · rw [if_pos (show ¬ k_g B l r = (61 : Int32) from fun w => by have := (E 61 (by decide) (by decide)).mp w; omega), if_pos (show ¬ k_g B l r = (60 : Int32) from fun w => by have := (E 60 (by decide) (by decide)).mp w; omega)]
        rfl
    rw [eon, if_pos e1, z_r25_0 S1, Option.bind_some, c1, Option.bind_some, s1', Option.bind_some, z_r25_1 S3, Option.bind_some, if_pos e2, z_i68_3 T1, Option.bind_some, b3.2.2.1, nI_1 r, z_w68_3 T1, Option.bind_some, s2', Option.bind_some, sgn]
    have C3 : k_lc g g3 := C1.trans ((k_lc.f16 c2).trans s3)
    have P3 : k_pf k m m3 := (b2.pf.trans k_e3.s3.pf).trans s4
    rcases s5 with ⟨p', N, y1, y2, y3, y4, y5, y6, y7, y8⟩ | ⟨q, R', y1, y2, y3, y4⟩
    · have hp'l := y3.2.1
      have lLN : (L ++ N).length + 1 ≤ p' := by rw [List.length_append]; omega
      have lRN : (R ++ N).length + 1 ≤ p' := by rw [List.length_append]; omega
      obtain ⟨g4, u1, u2, u3, u4⟩ := z_emit (o := (kd, 0)) S3 y6 (by omega) (by show kd < 12; omega) (by show 0 < 10000; decide)
      obtain ⟨m4, w1, w2, w3, w4⟩ := z_mput (o := (kd, 0)) (R := R ++ N) T3 hk5 j14 y7 (by omega)
      have u1' : s_Law_emit g3 (some 26) (nI kd) (0 : Int32) = some g4 := u1
      have w1' : s_Mod_put m3 (some 68) (nI kd) (0 : Int32) = some m4 := by
        have := w1
        rw [show q_mk (kd, 0).1 = kd from qm] at this
        exact this
      rw [u1', Option.bind_some, w1', Option.bind_some]
      refine ⟨g4, m4, rfl, rfl, C3.trans ⟨u2.mono (by simp), u3⟩, P3.trans w2, .inl ⟨p', N ++ [(kd, 0)], ?_, by omega, y3.ef u2, y4.fr w2.1 (by decide) (by decide) (fun k _ => w3 k), (w3 5).trans y5, ?_, ?_, fun τ hτ => ?_⟩⟩
      · rw [List.length_append]
        show p + (N.length + 1) ≤ p'
        omega
      · rw [← List.append_assoc]; exact u4
      · rw [← List.append_assoc]; exact w4
      · have y9 := y8 (false :: τ) (by rw [List.length_cons]; omega)
        rw [q_ty_app, show q_ty N ([false] ++ τ) = some (false :: false :: τ) from y9, Option.bind_some]
        rcases hkd with ⟨-, rfl⟩ | ⟨-, rfl⟩ | ⟨-, rfl⟩ <;> rfl
    · obtain ⟨g4, u1, u2, u3⟩ := z_emitN (x := nI kd) (y := (0 : Int32)) S3
      obtain ⟨m4, w1, w2, w3, w4⟩ := z_mput (o := (kd, 0)) (R := R') T3 hk5 j14 y3 (by omega)
      have w1' : s_Mod_put m3 (some 68) (nI kd) (0 : Int32) = some m4 := by
        have := w1
        rw [show q_mk (kd, 0).1 = kd from qm] at this
        exact this
      rw [u1, Option.bind_some, w1', Option.bind_some]
      refine ⟨g4, m4, rfl, rfl, C3.trans ⟨u2.mono (by simp), u3 n12 n13⟩, P3.trans w2, .inr ⟨q, R' ++ [(kd, 0)], y1.ef u2, y2.fr w2.1 (by decide) (by decide) (fun k _ => w3 k), w4, ?_⟩⟩
      rw [List.length_append]
      show R'.length + 1 ≤ _
      omega
/-- more of them, joined by 38 -/
theorem k_andL (hF : 70000 ≤ F) (hk5 : k < 5) (hd : d ≤ 6) {fc : Nat → fw_H → Option Nat → Int32 → Option fw_H} {fm : Nat → fw_H → Option Nat → Option fw_H} (hs : k_SP (fun g => fc 4 g (some 25) (nI d)) (fun m => fm 3 m (some 68)) B l k d 3 true) :
    ∀ (nn mm i p : Nat) (g m : fw_H) (L R : List q_O), l - p < nn → l - p + 1 < mm → 2 * i ≤ p → k_ok g B l p → k_mo m B l p → z_I m 68 5 = nI d → z_I m 68 14 = nI k → k_cE g L → k_mE m k R → L.length ≤ p → R.length ≤ p →
    ∃ g' m', l_LText_moreUnits_2 F fc (some 25) (nI d) nn (nI i) g = some g' ∧ l_Mod_goOnAnd_0 F fm (some 68) mm m = some m' ∧ (k_lc g g' ∧ k_pf k m m' ∧ k_O g' m' B l k d (3 + 1) 0 p L R [true] true) := by
  intro nn
  induction nn with
  | zero => intro mm i p g m L R h; omega
  | succ nn ih =>
    intro mm i p g m L R hnn hmm hi hk hm h5 h14 hL hR hLl hRl
    obtain ⟨mm, rfl⟩ : ∃ k, mm = k + 1 := ⟨mm - 1, by omega⟩
    have hS := hk.1.1
    have hl := hk.1.2.1
    have hpl := hk.2.1
    have hBB := hk.1.2.2.2.1
    obtain ⟨r, hr⟩ : ∃ r, r = k_n B l p := ⟨_, rfl⟩
    have hle := k_n_le (B := B) hk.2.1
    obtain ⟨g1, a1, a2, a3⟩ := z_peek hF hk
    obtain ⟨m1, b1, b2, b3⟩ := z_look hF hm
    rw [← hr] at hle a1 a3 b1 b3
    have S1 := a3.1.1
    have T1 := b3.1.1
    have cE1 : k_cE g1 L := hL.f16 a2
    have mE1 : k_mE m1 k R := hR.f68 b2.1
    have i14 : z_I m1 68 14 = nI k := (b2.2 14 (by decide)).trans h14
    have i5 : z_I m1 68 5 = nI d := (b2.2 5 (by decide)).trans h5
    have C1 : k_lc g g1 := k_lc.f16 a2
    have i240 : ¬ (240 : Int32) ≤ nI i := nI_ge (b := 240) (by omega) (by decide)
    have E : k_g B l r = (38 : Int32) ↔ k_b B l r = 38 := k_g_b hBB (c := 38) (by decide) (by decide)
    have nw : ¬ ¬ (-1 : Int32) = (-1 : Int32) := fun z => z rfl
    rw [l_LText_moreUnits_2, if_neg i240, z_r25_0 hS, Option.bind_some, a1, Option.bind_some, l_Mod_goOnAnd_0, z_i68_4 hm.1.1, Option.bind_some, hm.2.2.2, if_neg nw, b1, Option.bind_some]
    dsimp only
    by_cases e1 : k_b B l r = 38
    · have hlt := k_b_lt (B := B) (l := l) (q := r) (by omega)
      have ns : ¬ ¬ k_g B l r = (38 : Int32) := fun z => z (E.mpr e1)
      obtain ⟨g2, c1, c2, c3⟩ := z_skip a3 hlt
      have m2 := b3.to (q := r + 1) (by omega)
      have mE2 : k_mE (z_sI m1 68 3 (nI (r + 1))) k R := mE1.f68 (z_fr.refl.sI (by simp))
      obtain ⟨g3, m3, s1, s2, s3, s4, s5⟩ := hs g2 (z_sI m1 68 3 (nI (r + 1))) (r + 1) L R c3 m2 ((z_I_sI_nk (by decide)).trans i5) ((z_I_sI_nk (by decide)).trans i14) (cE1.f16 c2) mE2 (by omega) (by omega)
      have s1' : fc 4 g2 (some 25) (nI d) = some g3 := s1
      have S3 : z_Sh g3 := c3.1.1.fr s3.1 (by decide)
      have T3 : z_Sh m3 := m2.1.1.fr s4.1 (by decide)
      have j14 : z_I m3 68 14 = nI k := (s4.2.1 14 (by decide) (by decide) (by decide)).trans ((z_I_sI_nk (by decide)).trans i14)
      have C3 : k_lc g g3 := C1.trans ((k_lc.f16 c2).trans s3)
      have P3 : k_pf k m m3 := (b2.pf.trans k_e3.s3.pf).trans s4
      rw [if_neg ns, z_r25_0 S1, Option.bind_some, c1, Option.bind_some, s1', Option.bind_some, z_r25_1 S3, Option.bind_some, if_neg ns, z_i68_3 T1, Option.bind_some, b3.2.2.1, nI_1 r, z_w68_3 T1, Option.bind_some]
      have s2' : fm 3 (z_sI m1 68 3 (nI (r + 1))) (some 68) = some m3 := s2
      rw [s2', Option.bind_some]
      rcases s5 with ⟨p', N, y1, y2, y3, y4, y5, y6, y7, y8⟩ | ⟨q, R', y1, y2, y3, y4⟩
      · have hp'l := y3.2.1
        have lLN : (L ++ N).length + 1 ≤ p' := by rw [List.length_append]; omega
        have lRN : (R ++ N).length + 1 ≤ p' := by rw [List.length_append]; omega
        obtain ⟨g4, u1, u2, u3, u4⟩ := z_emit (o := (9, 0)) S3 y6 (by omega) (by show 9 < 12; decide) (by show 0 < 10000; decide)
        obtain ⟨m4, w1, w2, w3, w4⟩ := z_mput (o := (9, 0)) (R := R ++ N) T3 hk5 j14 y7 (by omega)
        have u1' : s_Law_emit g3 (some 26) (9 : Int32) (0 : Int32) = some g4 := u1
        have w1' : s_Mod_put m3 (some 68) (10 : Int32) (0 : Int32) = some m4 := w1
        rw [u1', Option.bind_some, nI_1, w1', Option.bind_some]
        obtain ⟨g6, m6, v1, v2, v3, v4, v5⟩ := ih mm (i + 1) p' g4 m4 (L ++ N ++ [(9, 0)]) (R ++ N ++ [(9, 0)]) (by omega) (by omega) (by omega) (y3.ef u2) (y4.fr w2.1 (by decide) (by decide) (fun k _ => w3 k)) ((w3 5).trans y5) ((w3 14).trans j14) u4 w4 (by rw [List.length_append]; show (L ++ N).length + 1 ≤ p'; exact lLN) (by rw [List.length_append]; show (R ++ N).length + 1 ≤ p'; exact lRN)
        refine ⟨g6, m6, v1, v2, (C3.trans ⟨u2.mono (by simp), u3⟩).trans v3, (P3.trans w2).trans v4, ?_⟩
        rw [List.append_assoc L, List.append_assoc R] at v5
        refine v5.seq (N := N ++ [(9, 0)]) (I2 := [true]) ?_ (by omega) (Nat.le_refl _) (fun τ hτ => ?_)
        · rw [List.length_append]
          show p + (N.length + 1) ≤ p'
          omega
        · have y9 := y8 (true :: τ) (by rw [List.length_cons]; omega)
          rw [q_ty_app, show q_ty N ([true] ++ τ) = some (true :: true :: τ) from y9, Option.bind_some]
          rfl
      · obtain ⟨g4, u1, u2, u3⟩ := z_emitN (x := (9 : Int32)) (y := (0 : Int32)) S3
        obtain ⟨m4, w1, w2, w3, w4⟩ := z_mput (o := (9, 0)) (R := R') T3 hk5 j14 y3 (by omega)
        have w1' : s_Mod_put m3 (some 68) (10 : Int32) (0 : Int32) = some m4 := w1
        have no4 : k_no g4 B l q := y1.ef u2
        have mn4 : k_mn m4 B l q := y2.fr w2.1 (by decide) (by decide) (fun k _ => w3 k)
        obtain ⟨nn, rfl⟩ : ∃ k, nn = k + 1 := ⟨nn - 1, by omega⟩
        obtain ⟨mm, rfl⟩ : ∃ k, mm = k + 1 := ⟨mm - 1, by omega⟩
        refine ⟨g4, m4, ?_, ?_, C3.trans ⟨u2.mono (by simp), u3 (by decide) (by decide)⟩, P3.trans w2, .inr ⟨q, R' ++ [(9, 0)], no4, mn4, w4, ?_⟩⟩
        · rw [u1, Option.bind_some, l_LText_moreUnits_2]
          by_cases e : (240 : Int32) ≤ nI i + (1 : Int32)
          · rw [if_pos e]
          · rw [if_neg e, z_r25_0 no4.1.1, Option.bind_some, z_peekN no4, Option.bind_some]
            exact if_pos (show ¬ (-1 : Int32) = (38 : Int32) from by decide)
        · rw [w1', Option.bind_some, l_Mod_goOnAnd_0, z_i68_4 mn4.1.1, Option.bind_some, if_pos mn4.ne]
        · rw [List.length_append]
          show R'.length + 1 ≤ _
          omega
    · have ns : ¬ k_g B l r = (38 : Int32) := fun z => e1 (E.mp z)
      rw [if_pos ns, if_pos ns]
      refine ⟨g1, m1, rfl, rfl, C1, b2.pf, .inl ⟨r, [], ?_, by omega, a3, b3, i5, ?_, ?_, fun τ _ => rfl⟩⟩
      · show p + 0 ≤ r; omega
      · rw [List.append_nil]; exact cE1
      · rw [List.append_nil]; exact mE1
/-- more of them, joined by 124 -/
theorem k_orL (hF : 70000 ≤ F) (hk5 : k < 5) (hd : d ≤ 6) {fc : Nat → fw_H → Option Nat → Int32 → Option fw_H} {fm : Nat → fw_H → Option Nat → Option fw_H} (hs : k_SP (fun g => fc 3 g (some 25) (nI d)) (fun m => (fm 3 m (some 68)).bind fun h => fm 1 h (some 68)) B l k d 4 true) :
    ∀ (nn mm i p : Nat) (g m : fw_H) (L R : List q_O), l - p < nn → l - p + 1 < mm → 2 * i ≤ p → k_ok g B l p → k_mo m B l p → z_I m 68 5 = nI d → z_I m 68 14 = nI k → k_cE g L → k_mE m k R → L.length ≤ p → R.length ≤ p →
    ∃ g' m', l_LText_moreTruths_2 F fc (some 25) (nI d) nn (nI i) g = some g' ∧ l_Mod_goOnOr_0 F fm (some 68) mm m = some m' ∧ (k_lc g g' ∧ k_pf k m m' ∧ k_O g' m' B l k d (4 + 1) 0 p L R [true] true) := by
  intro nn
  induction nn with
  | zero => intro mm i p g m L R h; omega
  | succ nn ih =>
    intro mm i p g m L R hnn hmm hi hk hm h5 h14 hL hR hLl hRl
    obtain ⟨mm, rfl⟩ : ∃ k, mm = k + 1 := ⟨mm - 1, by omega⟩
    have hS := hk.1.1
    have hl := hk.1.2.1
    have hpl := hk.2.1
    have hBB := hk.1.2.2.2.1
    obtain ⟨r, hr⟩ : ∃ r, r = k_n B l p := ⟨_, rfl⟩
    have hle := k_n_le (B := B) hk.2.1
    obtain ⟨g1, a1, a2, a3⟩ := z_peek hF hk
    obtain ⟨m1, b1, b2, b3⟩ := z_look hF hm
    rw [← hr] at hle a1 a3 b1 b3
    have S1 := a3.1.1
    have T1 := b3.1.1
    have cE1 : k_cE g1 L := hL.f16 a2
    have mE1 : k_mE m1 k R := hR.f68 b2.1
    have i14 : z_I m1 68 14 = nI k := (b2.2 14 (by decide)).trans h14
    have i5 : z_I m1 68 5 = nI d := (b2.2 5 (by decide)).trans h5
    have C1 : k_lc g g1 := k_lc.f16 a2
    have i240 : ¬ (240 : Int32) ≤ nI i := nI_ge (b := 240) (by omega) (by decide)
    have E : k_g B l r = (124 : Int32) ↔ k_b B l r = 124 := k_g_b hBB (c := 124) (by decide) (by decide)
    have nw : ¬ ¬ (-1 : Int32) = (-1 : Int32) := fun z => z rfl
    rw [l_LText_moreTruths_2, if_neg i240, z_r25_0 hS, Option.bind_some, a1, Option.bind_some, l_Mod_goOnOr_0, z_i68_4 hm.1.1, Option.bind_some, hm.2.2.2, if_neg nw, b1, Option.bind_some]
    dsimp only
    by_cases e1 : k_b B l r = 124
    · have hlt := k_b_lt (B := B) (l := l) (q := r) (by omega)
      have ns : ¬ ¬ k_g B l r = (124 : Int32) := fun z => z (E.mpr e1)
      obtain ⟨g2, c1, c2, c3⟩ := z_skip a3 hlt
      have m2 := b3.to (q := r + 1) (by omega)
      have mE2 : k_mE (z_sI m1 68 3 (nI (r + 1))) k R := mE1.f68 (z_fr.refl.sI (by simp))
      obtain ⟨g3, m3, s1, s2, s3, s4, s5⟩ := hs g2 (z_sI m1 68 3 (nI (r + 1))) (r + 1) L R c3 m2 ((z_I_sI_nk (by decide)).trans i5) ((z_I_sI_nk (by decide)).trans i14) (cE1.f16 c2) mE2 (by omega) (by omega)
      have s1' : fc 3 g2 (some 25) (nI d) = some g3 := s1
      have S3 : z_Sh g3 := c3.1.1.fr s3.1 (by decide)
      have T3 : z_Sh m3 := m2.1.1.fr s4.1 (by decide)
      have j14 : z_I m3 68 14 = nI k := (s4.2.1 14 (by decide) (by decide) (by decide)).trans ((z_I_sI_nk (by decide)).trans i14)
      have C3 : k_lc g g3 := C1.trans ((k_lc.f16 c2).trans s3)
      have P3 : k_pf k m m3 := (b2.pf.trans k_e3.s3.pf).trans s4
      rw [if_neg ns, z_r25_0 S1, Option.bind_some, c1, Option.bind_some, s1', Option.bind_some, z_r25_1 S3, Option.bind_some, if_neg ns, z_i68_3 T1, Option.bind_some, b3.2.2.1, nI_1 r, z_w68_3 T1, Option.bind_some]
      have s2' : ((fm 3 (z_sI m1 68 3 (nI (r + 1))) (some 68)).bind fun h => fm 1 h (some 68)) = some m3 := s2
      have s2b : ∀ K : fw_H → Option fw_H, ((fm 3 (z_sI m1 68 3 (nI (r + 1))) (some 68)).bind fun h28 => (fm 1 h28 (some 68)).bind K) = K m3 := fun K => by
        cases e0 : fm 3 (z_sI m1 68 3 (nI (r + 1))) (some 68) with
        | none => rw [e0] at s2'; cases s2'
        | some mx =>
          rw [e0, Option.bind_some] at s2'
          rw [Option.bind_some, s2', Option.bind_some]
      rw [s2b]
      rcases s5 with ⟨p', N, y1, y2, y3, y4, y5, y6, y7, y8⟩ | ⟨q, R', y1, y2, y3, y4⟩
      · have hp'l := y3.2.1
        have lLN : (L ++ N).length + 1 ≤ p' := by rw [List.length_append]; omega
        have lRN : (R ++ N).length + 1 ≤ p' := by rw [List.length_append]; omega
        obtain ⟨g4, u1, u2, u3, u4⟩ := z_emit (o := (10, 0)) S3 y6 (by omega) (by show 10 < 12; decide) (by show 0 < 10000; decide)
        obtain ⟨m4, w1, w2, w3, w4⟩ := z_mput (o := (10, 0)) (R := R ++ N) T3 hk5 j14 y7 (by omega)
        have u1' : s_Law_emit g3 (some 26) (10 : Int32) (0 : Int32) = some g4 := u1
        have w1' : s_Mod_put m3 (some 68) (11 : Int32) (0 : Int32) = some m4 := w1
        rw [u1', Option.bind_some, nI_1, w1', Option.bind_some]
        obtain ⟨g6, m6, v1, v2, v3, v4, v5⟩ := ih mm (i + 1) p' g4 m4 (L ++ N ++ [(10, 0)]) (R ++ N ++ [(10, 0)]) (by omega) (by omega) (by omega) (y3.ef u2) (y4.fr w2.1 (by decide) (by decide) (fun k _ => w3 k)) ((w3 5).trans y5) ((w3 14).trans j14) u4 w4 (by rw [List.length_append]; show (L ++ N).length + 1 ≤ p'; exact lLN) (by rw [List.length_append]; show (R ++ N).length + 1 ≤ p'; exact lRN)
        refine ⟨g6, m6, v1, v2, (C3.trans ⟨u2.mono (by simp), u3⟩).trans v3, (P3.trans w2).trans v4, ?_⟩
        rw [List.append_assoc L, List.append_assoc R] at v5
        refine v5.seq (N := N ++ [(10, 0)]) (I2 := [true]) ?_ (by omega) (Nat.le_refl _) (fun τ hτ => ?_)
        · rw [List.length_append]
          show p + (N.length + 1) ≤ p'
          omega
        · have y9 := y8 (true :: τ) (by rw [List.length_cons]; omega)
          rw [q_ty_app, show q_ty N ([true] ++ τ) = some (true :: true :: τ) from y9, Option.bind_some]
          rfl
      · obtain ⟨g4, u1, u2, u3⟩ := z_emitN (x := (10 : Int32)) (y := (0 : Int32)) S3
        obtain ⟨m4, w1, w2, w3, w4⟩ := z_mput (o := (10, 0)) (R := R') T3 hk5 j14 y3 (by omega)
        have w1' : s_Mod_put m3 (some 68) (11 : Int32) (0 : Int32) = some m4 := w1
        have no4 : k_no g4 B l q := y1.ef u2
        have mn4 : k_mn m4 B l q := y2.fr w2.1 (by decide) (by decide) (fun k _ => w3 k)
        obtain ⟨nn, rfl⟩ : ∃ k, nn = k + 1 := ⟨nn - 1, by omega⟩
        obtain ⟨mm, rfl⟩ : ∃ k, mm = k + 1 := ⟨mm - 1, by omega⟩
        refine ⟨g4, m4, ?_, ?_, C3.trans ⟨u2.mono (by simp), u3 (by decide) (by decide)⟩, P3.trans w2, .inr ⟨q, R' ++ [(10, 0)], no4, mn4, w4, ?_⟩⟩
        · rw [u1, Option.bind_some, l_LText_moreTruths_2]
          by_cases e : (240 : Int32) ≤ nI i + (1 : Int32)
          · rw [if_pos e]
          · rw [if_neg e, z_r25_0 no4.1.1, Option.bind_some, z_peekN no4, Option.bind_some]
            exact if_pos (show ¬ (-1 : Int32) = (124 : Int32) from by decide)
        · rw [w1', Option.bind_some, l_Mod_goOnOr_0, z_i68_4 mn4.1.1, Option.bind_some, if_pos mn4.ne]
        · rw [List.length_append]
          show R'.length + 1 ≤ _
          omega
    · have ns : ¬ k_g B l r = (124 : Int32) := fun z => e1 (E.mp z)
      rw [if_pos ns, if_pos ns]
      refine ⟨g1, m1, rfl, rfl, C1, b2.pf, .inl ⟨r, [], ?_, by omega, a3, b3, i5, ?_, ?_, fun τ _ => rfl⟩⟩
      · show p + 0 ≤ r; omega
      · rw [List.append_nil]; exact cE1
      · rw [List.append_nil]; exact mE1
theorem k_andS (hF : 70000 ≤ F) (hk5 : k < 5) (hd : d ≤ 6) (hs : k_SP (fun g => gr_LText_condition F Dc 4 g (some 25) (nI d)) (fun m => gr_Mod_condition F Dm 3 m (some 68)) B l k d 3 true) :
    k_SL (fun g => gr_LText_condition F (Dc + 1) 2 g (some 25) (nI d)) (fun m => gr_Mod_condition F (Dm + 1) 1 m (some 68)) B l k d 4 := by
  intro g m p L R hk hm h5 h14 hL hR hLl hRl
  have := hk.1.2.1
  show ∃ g' m', b_LText_moreUnits F (gr_LText_condition F Dc) g (some 25) (nI d) = some g' ∧ b_Mod_goOnAnd F (gr_Mod_condition F Dm) m (some 68) = some m' ∧ _
  unfold b_LText_moreUnits b_Mod_goOnAnd
  rw [z_c25 hk.1.1, Option.bind_some, z_c68 hm.1.1, Option.bind_some]
  exact k_andL hF hk5 hd hs F F 0 p g m L R (by omega) (by omega) (by omega) hk hm h5 h14 hL hR hLl hRl
theorem k_orS (hF : 70000 ≤ F) (hk5 : k < 5) (hd : d ≤ 6) (hs : k_SP (fun g => gr_LText_condition F Dc 3 g (some 25) (nI d)) (fun m => (gr_Mod_condition F Dm 3 m (some 68)).bind fun h => gr_Mod_condition F Dm 1 h (some 68)) B l k d 4 true) :
    k_SL (fun g => gr_LText_condition F (Dc + 1) 1 g (some 25) (nI d)) (fun m => gr_Mod_condition F (Dm + 1) 2 m (some 68)) B l k d 5 := by
  intro g m p L R hk hm h5 h14 hL hR hLl hRl
  have := hk.1.2.1
  show ∃ g' m', b_LText_moreTruths F (gr_LText_condition F Dc) g (some 25) (nI d) = some g' ∧ b_Mod_goOnOr F (gr_Mod_condition F Dm) m (some 68) = some m' ∧ _
  unfold b_LText_moreTruths b_Mod_goOnOr
  rw [z_c25 hk.1.1, Option.bind_some, z_c68 hm.1.1, Option.bind_some]
  exact k_orL hF hk5 hd hs F F 0 p g m L R (by omega) (by omega) (by omega) hk hm h5 h14 hL hR hLl hRl
/-- the same, of functions that are the same -/
theorem k_SP.cong (h : k_SP fc fm B l k d c b) (h1 : ∀ g, z_Sh g → fc1 g = fc g) (h2 : ∀ m, z_Sh m → fm1 m = fm m) : k_SP fc1 fm1 B l k d c b := by
  intro g m p L R hk hm h5 h14 hL hR hLl hRl
  rw [h1 g hk.1.1, h2 m hm.1.1]
  exact h g m p L R hk hm h5 h14 hL hR hLl hRl
theorem k_bind_some {α : Type} {X : Option α} : (X.bind fun h => some h) = X := by cases X <;> rfl
/-- a truth -/
theorem k_truth (hF : 70000 ≤ F) (hk5 : k < 5) (hd : d ≤ 6) (hu : k_SP (fun g => gr_LText_condition F (Dc + 1) 4 g (some 25) (nI d)) (fun m => gr_Mod_condition F (Dm + 1) 3 m (some 68)) B l k d 3 true) (hu2 : k_SP (fun g => gr_LText_condition F Dc 4 g (some 25) (nI d)) (fun m => gr_Mod_condition F Dm 3 m (some 68)) B l k d 3 true) :
    k_SP (fun g => gr_LText_condition F (Dc + 2) 3 g (some 25) (nI d)) (fun m => (gr_Mod_condition F (Dm + 1) 3 m (some 68)).bind fun h => gr_Mod_condition F (Dm + 1) 1 h (some 68)) B l k d 4 true := by
  refine (k_seq (c := 4) hu (k_andS hF hk5 hd hu2) (fun g q h => z_unitsN hF h) (fun m q h => z_goAndN hF h) (by omega) (by omega)).cong (fun g hS => ?_) (fun m hS => rfl)
  show b_LText_truth F (gr_LText_condition F (Dc + 1)) g (some 25) (nI d) = _
  unfold b_LText_truth
  rw [z_c25 hS, Option.bind_some]
  simp only [k_bind_some]
/-- a condition -/
theorem k_cond (hF : 70000 ≤ F) (hk5 : k < 5) (hd : d ≤ 6) (hu : ∀ j, j ≤ 3 → k_SP (fun g => gr_LText_condition F (Dc + j) 4 g (some 25) (nI d)) (fun m => gr_Mod_condition F (Dm + j) 3 m (some 68)) B l k d 3 true) :
    k_SP (fun g => gr_LText_condition F (Dc + 4) 0 g (some 25) (nI d)) (fun m => gr_Mod_condition F (Dm + 3) 0 m (some 68)) B l k d 5 true := by
  refine (k_seq (c := 5) (k_truth (Dc := Dc + 1) (Dm := Dm + 1) hF hk5 hd (hu 2 (by omega)) (hu 1 (by omega))) (k_orS (Dc := Dc + 2) (Dm := Dm + 1) hF hk5 hd (k_truth (Dc := Dc) (Dm := Dm) hF hk5 hd (hu 1 (by omega)) (hu 0 (by omega)))) (fun g q h => z_truthsN hF h) (fun m q h => z_goOrN hF h) (by omega) (by omega)).cong (fun g hS => ?_) (fun m hS => ?_)
  · show b_LText_condition F (gr_LText_condition F (Dc + 3)) g (some 25) (nI d) = _
    unfold b_LText_condition
    rw [z_c25 hS, Option.bind_some]
    simp only [k_bind_some]
  · show b_Mod_condition F (gr_Mod_condition F (Dm + 2)) m (some 68) = _
    unfold b_Mod_condition
    rw [z_c68 hS, Option.bind_some]
    simp only [k_bind_some]
    cases gr_Mod_condition F (Dm + 2) 3 m (some 68) <;> rfl
/-- a unit -/
theorem k_unit (hF : 70000 ≤ F) (hk5 : k < 5) (hd : d ≤ 6) (hu : d < 6 → k_SP (fun g => gr_LText_condition F Dc 4 g (some 25) (nI (d + 1))) (fun m => gr_Mod_condition F Dm 3 m (some 68)) B l k (d + 1) 3 true) (hc : d < 6 → k_SP (fun g => gr_LText_condition F Dc 0 g (some 25) (nI (d + 1))) (fun m => gr_Mod_condition F Dm 0 m (some 68)) B l k (d + 1) 5 true) :
    k_SP (fun g => gr_LText_condition F (Dc + 1) 4 g (some 25) (nI d)) (fun m => gr_Mod_condition F (Dm + 1) 3 m (some 68)) B l k d 3 true := by
  intro g m p L R hk hm h5 h14 hL hR hLl hRl
  have hS := hk.1.1
  have hl := hk.1.2.1
  have hBB := hk.1.2.2.2.1
  obtain ⟨r, hr⟩ : ∃ r, r = k_n B l p := ⟨_, rfl⟩
  have hle := k_n_le (B := B) hk.2.1
  obtain ⟨g1, a1, a2, a3⟩ := z_peek hF hk
  obtain ⟨m1, b1, b2, b3⟩ := z_look hF hm
  rw [← hr] at hle a1 a3 b1 b3
  have S1 := a3.1.1
  have T1 := b3.1.1
  have cE1 : k_cE g1 L := hL.f16 a2
  have mE1 : k_mE m1 k R := hR.f68 b2.1
  have i14 : z_I m1 68 14 = nI k := (b2.2 14 (by decide)).trans h14
  have i5 : z_I m1 68 5 = nI d := (b2.2 5 (by decide)).trans h5
  have C1 : k_lc g g1 := k_lc.f16 a2
  have E : ∀ c, 1 ≤ c → c < 256 → (k_g B l r = nI c ↔ k_b B l r = c) := fun c h1 h2 => k_g_b hBB h1 h2
  show ∃ g' m', b_LText_unit F (gr_LText_condition F Dc) g (some 25) (nI d) = some g' ∧ b_Mod_unit F (gr_Mod_condition F Dm) m (some 68) = some m' ∧ _
  unfold b_LText_unit b_Mod_unit
  rw [z_c25 hS, Option.bind_some, z_r25_0 hS, Option.bind_some, a1, Option.bind_some, z_c68 hm.1.1, Option.bind_some, b1, Option.bind_some]
  dsimp only
  by_cases e33 : k_b B l r = 33
  · have hlt := k_b_lt (B := B) (l := l) (q := r) (by omega)
    have g33 : k_g B l r = (33 : Int32) := (E 33 (by decide) (by decide)).mpr e33
    have n33 : ¬ ¬ k_g B l r = (33 : Int32) := fun z => z g33
    rw [if_pos g33, if_neg n33, if_neg n33]
    by_cases h6 : d < 6
    · have l6 : nI d < (6 : Int32) := nI_lt (b := 6) h6 (by decide)
      obtain ⟨g2, c1, c2, c3⟩ := z_skip a3 hlt
      obtain ⟨m2, d1, d2, d3, d4⟩ := z_opens b3 hlt i5 h6
      obtain ⟨g3, m3, s1, s2, s3, s4, s5⟩ := hu h6 g2 m2 (r + 1) L R c3 d3 d4 ((d2.2 14 (by decide) (by decide) (by decide)).trans i14) (cE1.f16 c2) (mE1.f68 d2.1) (by omega) (by omega)
      have s1' : gr_LText_condition F Dc 4 g2 (some 25) (nI (d + 1)) = some g3 := s1
      have s2' : gr_Mod_condition F Dm 3 m2 (some 68) = some m3 := s2
      have S3 : z_Sh g3 := c3.1.1.fr s3.1 (by decide)
      have T3 : z_Sh m3 := d3.1.1.fr s4.1 (by decide)
      have j14 : z_I m3 68 14 = nI k := (s4.2.1 14 (by decide) (by decide) (by decide)).trans ((d2.2 14 (by decide) (by decide) (by decide)).trans i14)
      have C3 : k_lc g g3 := C1.trans ((k_lc.f16 c2).trans s3)
      have P3 : k_pf k m m3 := (b2.e3.trans d2).pf.trans s4
      rw [if_pos l6, z_r25_0 S1, Option.bind_some, c1, Option.bind_some, nI_1, s1', Option.bind_some, z_r25_1 S3, Option.bind_some, d1, Option.bind_some, z_i68_4 d3.1.1, Option.bind_some, d3.2.2.2, if_neg (fun z => z rfl), s2', Option.bind_some]
      rcases s5 with ⟨p', N, y1, y2, y3, y4, y5, y6, y7, y8⟩ | ⟨q, R', y1, y2, y3, y4⟩
      · have hp'l := y3.2.1
        have lLN : (L ++ N).length + 1 ≤ p' := by rw [List.length_append]; omega
        have lRN : (R ++ N).length + 1 ≤ p' := by rw [List.length_append]; omega
        obtain ⟨g4, u1, u2, u3, u4⟩ := z_emit (o := (11, 0)) S3 y6 (by omega) (by show 11 < 12; decide) (by show 0 < 10000; decide)
        obtain ⟨m4, w1, w2, w3, w4⟩ := z_mput (o := (11, 0)) (R := R ++ N) T3 hk5 j14 y7 (by omega)
        have u1' : s_Law_emit g3 (some 26) (11 : Int32) (0 : Int32) = some g4 := u1
        have w1' : s_Mod_put m3 (some 68) (9 : Int32) (0 : Int32) = some m4 := w1
        have T4 := T3.fr w2.1 (by decide)
        rw [u1', Option.bind_some, w1', Option.bind_some, z_i68_5 T4, Option.bind_some, z_w68_5 T4, Option.bind_some]
        have k4 : k_mo m4 B l p' := y4.fr w2.1 (by decide) (by decide) (fun k _ => w3 k)
        refine ⟨g4, _, rfl, rfl, C3.trans ⟨u2.mono (by simp), u3⟩, (P3.trans w2).trans k_e3.s5.pf, .inl ⟨p', N ++ [(11, 0)], ?_, by omega, y3.ef u2, k4.s5, ?_, ?_, ?_, fun τ hτ => ?_⟩⟩
        · rw [List.length_append]
          show p + (N.length + 1) ≤ p'
          omega
        · rw [z_II T4 12 rfl, w3, y5]
          exact pk_sub (b := 1) (by omega)
        · rw [← List.append_assoc]; exact u4
        · rw [← List.append_assoc]; exact w4.f68 (z_fr.refl.sI (by simp))
        · have y9 := y8 τ (by omega)
          rw [q_ty_app, y9, Option.bind_some]
          rfl
      · obtain ⟨g4, u1, u2, u3⟩ := z_emitN (x := (11 : Int32)) (y := (0 : Int32)) S3
        obtain ⟨m4, w1, w2, w3, w4⟩ := z_mput (o := (11, 0)) (R := R') T3 hk5 j14 y3 (by omega)
        have w1' : s_Mod_put m3 (some 68) (9 : Int32) (0 : Int32) = some m4 := w1
        have T4 := T3.fr w2.1 (by decide)
        rw [u1, Option.bind_some, w1', Option.bind_some, z_i68_5 T4, Option.bind_some, z_w68_5 T4, Option.bind_some]
        have k4 : k_mn m4 B l q := y2.fr w2.1 (by decide) (by decide) (fun k _ => w3 k)
        refine ⟨g4, _, rfl, rfl, C3.trans ⟨u2.mono (by simp), u3 (by decide) (by decide)⟩, (P3.trans w2).trans k_e3.s5.pf, .inr ⟨q, R' ++ [(11, 0)], y1.ef u2, k4.s5, w4.f68 (z_fr.refl.sI (by simp)), ?_⟩⟩
        rw [List.length_append]
        show R'.length + 1 ≤ _
        omega
    · obtain rfl : d = 6 := by omega
      have l6 : ¬ nI 6 < (6 : Int32) := by decide
      obtain ⟨g2, c1, c2, c3⟩ := z_fail a3
      obtain ⟨m2, d1, d2, d3⟩ := z_opens6 b3 i5
      rw [if_neg l6, z_r25_0 S1, Option.bind_some, c1, Option.bind_some, d1, Option.bind_some, z_i68_4 d3.1.1, Option.bind_some, if_pos d3.ne]
      exact ⟨g2, m2, rfl, rfl, C1.trans (k_lc.f16 c2), (b2.e3.trans d2).pf, .inr ⟨r, R, c3, d3, mE1.f68 d2.1, by omega⟩⟩
  · have g33 : ¬ k_g B l r = (33 : Int32) := fun z => e33 ((E 33 (by decide) (by decide)).mp z)
    rw [if_neg g33, if_pos g33]
    by_cases e40 : k_b B l r = 40
    · have hlt := k_b_lt (B := B) (l := l) (q := r) (by omega)
      have g40 : k_g B l r = (40 : Int32) := (E 40 (by decide) (by decide)).mpr e40
      have n40 : ¬ ¬ k_g B l r = (40 : Int32) := fun z => z g40
      rw [if_pos g40, if_neg n40, if_pos g33]
      by_cases h6 : d < 6
      · have l6 : nI d < (6 : Int32) := nI_lt (b := 6) h6 (by decide)
        obtain ⟨g2, c1, c2, c3⟩ := z_skip a3 hlt
        obtain ⟨m2, d1, d2, d3, d4⟩ := z_opens b3 hlt i5 h6
        have C2 := C1.trans (k_lc.f16 c2)
        have E2 := b2.e3.trans d2
        obtain ⟨g3, m3, s1, s2, s3, s4, s5⟩ := hc h6 g2 m2 (r + 1) L R c3 d3 d4 ((d2.2 14 (by decide) (by decide) (by decide)).trans i14) (cE1.f16 c2) (mE1.f68 d2.1) (by omega) (by omega)
        have s1' : gr_LText_condition F Dc 0 g2 (some 25) (nI (d + 1)) = some g3 := s1
        have s2' : gr_Mod_condition F Dm 0 m2 (some 68) = some m3 := s2
        rw [if_pos l6, z_r25_0 S1, Option.bind_some, c1, Option.bind_some, nI_1, s1', Option.bind_some, d1, Option.bind_some, z_i68_4 d3.1.1, Option.bind_some, d3.2.2.2, if_neg (fun z => z rfl), s2', Option.bind_some]
        rcases s5 with ⟨p', N, y1, y2, y3, y4, y5, y6, y7, y8⟩ | ⟨q, R', y1, y2, y3, y4⟩
        · obtain ⟨g4, u1, u2, u3⟩ := z_expect (c := 41) hF y3 (by decide) (by decide)
          obtain ⟨m4, w1, w2, w3⟩ := z_closes (c := 41) hF y4 y5 (by decide) (by decide)
          have u1' : s_Tape_expect F g3 (some 16) (41 : Int32) = some g4 := u1
          have w1' : s_Mod_closes F m3 (some 68) (41 : Int32) = some m4 := w1
          have hlp := k_n_le (B := B) y3.2.1
          rw [z_r25_0 y3.1.1, Option.bind_some, u1', Option.bind_some, w1', Option.bind_some]
          refine ⟨g4, m4, rfl, rfl, C2.trans (s3.trans (k_lc.f16 u2)), (E2.pf.trans s4).trans w2.pf, ?_⟩
          rcases u3 with ⟨u3, u4⟩ | ⟨u3, u4⟩
          · rcases w3 with ⟨w3, w4, w5⟩ | ⟨w3, w4⟩
            · exact .inl ⟨k_n B l p' + 1, N, by omega, by omega, u4, w4, w5, y6.f16 u2, y7.f68 w2.1, fun τ ht => y8 τ (by omega)⟩
            · exact absurd u3 w3
          · rcases w3 with ⟨w3, w4, w5⟩ | ⟨w3, w4⟩
            · exact absurd w3 u3
            · refine .inr ⟨k_n B l p', R ++ N, u4, w4, y7.f68 w2.1, ?_⟩
              rw [List.length_append]
              omega
        · obtain ⟨m4, w1, w2, w3⟩ := z_closesN (F := F) (x := (41 : Int32)) y2
          have u1 : s_Tape_expect F g3 (some 16) (41 : Int32) = some g3 := z_expectN (c := 41) y1 (by decide) (by decide)
          rw [z_r25_0 y1.1.1, Option.bind_some, u1, Option.bind_some, w1, Option.bind_some]
          exact ⟨g3, m4, rfl, rfl, C2.trans s3, (E2.pf.trans s4).trans w2.pf, .inr ⟨q, R', y1, w3, y3.f68 w2.1, by omega⟩⟩
      · obtain rfl : d = 6 := by omega
        have l6 : ¬ nI 6 < (6 : Int32) := by decide
        obtain ⟨g2, c1, c2, c3⟩ := z_fail a3
        obtain ⟨m2, d1, d2, d3⟩ := z_opens6 b3 i5
        rw [if_neg l6, z_r25_0 S1, Option.bind_some, c1, Option.bind_some, d1, Option.bind_some, z_i68_4 d3.1.1, Option.bind_some, if_pos d3.ne]
        exact ⟨g2, m2, rfl, rfl, C1.trans (k_lc.f16 c2), (b2.e3.trans d2).pf, .inr ⟨r, R, c3, d3, mE1.f68 d2.1, by omega⟩⟩
    · have g40 : ¬ k_g B l r = (40 : Int32) := fun z => e40 ((E 40 (by decide) (by decide)).mp z)
      rw [if_neg g40, if_pos g33, if_pos g40]
      obtain ⟨g2, m2, s1, s2, s3, s4, s5⟩ := k_sumS (l := l) hF hk5 hd g1 m1 r L R a3 b3 i5 i14 cE1 mE1 (by omega) (by omega)
      have s1' : s_LText_sum F g1 (some 25) (nI d) = some g2 := s1
      have s2' : s_Mod_sum F m1 (some 68) = some m2 := s2
      rw [s1', Option.bind_some, s2', Option.bind_some]
      rcases s5 with ⟨p', N, y1, y2, y3, y4, y5, y6, y7, y8⟩ | ⟨q, R', y1, y2, y3, y4⟩
      · obtain ⟨g3, m3, t1, t2, t3, t4, t5⟩ := k_cmp hF hk5 hd y3 y4 y5 ((s4.2.1 14 (by decide) (by decide) (by decide)).trans i14) y6 y7 (by rw [List.length_append]; omega) (by rw [List.length_append]; omega)
        rw [t1, Option.bind_some, z_i68_4 y4.1.1, Option.bind_some, y4.2.2.2, if_neg (fun z => z rfl), t2, Option.bind_some]
        exact ⟨g3, m3, rfl, rfl, (C1.trans s3).trans t3, (b2.pf.trans s4).trans t4, t5.seq (by omega) (by omega) (Nat.le_refl _) (fun τ hτ => y8 τ (by omega))⟩
      · rw [z_comparisonN y1, Option.bind_some, z_i68_4 y2.1.1, Option.bind_some, if_pos y2.ne]
        exact ⟨g2, m2, rfl, rfl, C1.trans s3, b2.pf.trans s4, .inr ⟨q, R', y1, y2, y3, by omega⟩⟩
theorem k_units (hF : 70000 ≤ F) (hk5 : k < 5) : ∀ (e d Dc Dm : Nat), d + e = 6 → 5 * e + 1 ≤ Dc → 5 * e + 1 ≤ Dm → k_SP (fun g => gr_LText_condition F Dc 4 g (some 25) (nI d)) (fun m => gr_Mod_condition F Dm 3 m (some 68)) B l k d 3 true := by
  intro e
  induction e with
  | zero =>
    intro d Dc Dm hd h1 h2
    obtain ⟨Dc, rfl⟩ : ∃ k, Dc = k + 1 := ⟨Dc - 1, by omega⟩
    obtain ⟨Dm, rfl⟩ : ∃ k, Dm = k + 1 := ⟨Dm - 1, by omega⟩
    exact k_unit hF hk5 (by omega) (fun z => by omega) (fun z => by omega)
  | succ e ih =>
    intro d Dc Dm hd h1 h2
    obtain ⟨Dc, rfl⟩ : ∃ k, Dc = k + 5 := ⟨Dc - 5, by omega⟩
    obtain ⟨Dm, rfl⟩ : ∃ k, Dm = k + 4 := ⟨Dm - 4, by omega⟩
    exact k_unit (Dc := Dc + 4) (Dm := Dm + 3) hF hk5 (by omega) (fun z => ih (d + 1) (Dc + 4) (Dm + 3) (by omega) (by omega) (by omega)) (fun z => k_cond hF hk5 (by omega) (fun j hj => ih (d + 1) (Dc + j) (Dm + j) (by omega) (by omega) (by omega)))
theorem k_condS (hF : 70000 ≤ F) (hk5 : k < 5) : k_SP (fun g => s_LText_condition F g (some 25) (nI 0)) (fun m => s_Mod_condition F m (some 68)) B l k 0 5 true :=
  k_cond (Dc := 76) (Dm := 77) hF hk5 (by omega) (fun j hj => k_units hF hk5 6 0 (76 + j) (77 + j) (by omega) (by omega) (by omega))
theorem k_moreS (hF : 70000 ≤ F) (hk5 : k < 5) : k_SL (fun g => s_LText_moreUnits F g (some 25) (nI 0)) (fun m => s_Mod_goOnAnd F m (some 68)) B l k 0 4 ∧ k_SL (fun g => s_LText_moreTruths F g (some 25) (nI 0)) (fun m => s_Mod_goOnOr F m (some 68)) B l k 0 5 :=
  ⟨k_andS (Dc := 79) (Dm := 79) hF hk5 (by omega) (k_units hF hk5 6 0 79 79 (by omega) (by omega) (by omega)), k_orS (Dc := 79) (Dm := 79) hF hk5 (by omega) (k_truth (Dc := 77) (Dm := 78) hF hk5 (by omega) (k_units hF hk5 6 0 78 79 (by omega) (by omega) (by omega)) (k_units hF hk5 6 0 77 78 (by omega) (by omega) (by omega)))⟩
end CO
