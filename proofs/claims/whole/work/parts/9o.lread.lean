-- A LAW'S TEXT (6): read whole
def k_pr (k : Nat) (m m' : fw_H) : Prop := z_fr [68, 70, 71, 72, 73, 74, 75, 76] m m' ∧ (∀ j, j ≠ 3 → j ≠ 4 → j ≠ 5 → j ≠ 14 → z_I m' 68 j = z_I m 68 j) ∧ (∀ x, (x < 520 * k ∨ 520 * k + 520 ≤ x) → z_A m' 70 x = z_A m 70 x ∧ z_A m' 71 x = z_A m 71 x) ∧ (∀ j, j ≠ k → z_A m' 72 j = z_A m 72 j ∧ z_A m' 73 j = z_A m 73 j) ∧ ∀ x, (x < 140 * k ∨ 140 * k + 140 ≤ x) → z_A m' 74 x = z_A m 74 x ∧ z_A m' 75 x = z_A m 75 x ∧ z_A m' 76 x = z_A m 76 x
section LR
variable {g g' g'' h m m' m'' M : fw_H} {B : Nat → Nat} {l p p' q d D v mo i j k nn mm F c C n f r s P : Nat} {x y x4 x16 : Int32} {As : List Nat} {L R N E0 R0 c1 c2 : List q_O} {o : q_O} {b : Bool} {cls : List q_C} {u : q_C}
theorem k_pr.refl : k_pr k m m := ⟨z_fr.refl, fun _ _ _ _ _ => rfl, fun _ _ => ⟨rfl, rfl⟩, fun _ _ => ⟨rfl, rfl⟩, fun _ _ => ⟨rfl, rfl, rfl⟩⟩
theorem k_pr.trans (h1 : k_pr k m m') (h2 : k_pr k m' m'') : k_pr k m m'' := ⟨h1.1.trans h2.1, fun j a b c d => (h2.2.1 j a b c d).trans (h1.2.1 j a b c d), fun x hx => ⟨(h2.2.2.1 x hx).1.trans (h1.2.2.1 x hx).1, (h2.2.2.1 x hx).2.trans (h1.2.2.1 x hx).2⟩, fun j hj => ⟨(h2.2.2.2.1 j hj).1.trans (h1.2.2.2.1 j hj).1, (h2.2.2.2.1 j hj).2.trans (h1.2.2.2.1 j hj).2⟩, fun x hx => ⟨(h2.2.2.2.2 x hx).1.trans (h1.2.2.2.2 x hx).1, (h2.2.2.2.2 x hx).2.1.trans (h1.2.2.2.2 x hx).2.1, (h2.2.2.2.2 x hx).2.2.trans (h1.2.2.2.2 x hx).2.2⟩⟩
theorem k_pg.pr (h : k_pg k C m m') (hC : C < 140) : k_pr k m m' := ⟨h.1, fun j a b c _ => h.2.1 j a b c, h.2.2.1, h.2.2.2.1, fun x hx => h.2.2.2.2 x (by omega)⟩
theorem k_pf.pr (h : k_pf k m m') : k_pr k m m' := (h.pg (C := 0)).pr (by decide)
theorem z_m71N (hk : k_mn m B l q) : ∃ m', k_m71 F x4 x16 m = some m' ∧ (k_e3 m m' ∧ k_mn m' B l q) := by
  have k1 : k_mn (z_sI m 68 3 (z_I m 68 3 + (1 : Int32))) B l q := hk.s3
  unfold k_m71
  rw [z_i68_3 hk.1.1, Option.bind_some, z_w68_3 hk.1.1, Option.bind_some, z_i68_4 k1.1.1, Option.bind_some, if_neg k1.ne]
  exact ⟨_, rfl, k_e3.s3, k1⟩
theorem z_m40N (hk : k_mn m B l q) : ∃ m', k_m40 F x4 x16 m = some m' ∧ (k_e3 m m' ∧ k_mn m' B l q) := by
  have k1 : k_mn (z_sI m 68 3 (z_I m 68 3 + (1 : Int32))) B l q := hk.s3
  obtain ⟨m', a1, a2, a3⟩ := z_m71N (F := F) (x4 := x4) (x16 := x16) k1
  unfold k_m40
  rw [z_i68_3 hk.1.1, Option.bind_some, z_w68_3 hk.1.1, Option.bind_some, z_i68_4 k1.1.1, Option.bind_some, if_pos k1.ne]
  exact ⟨m', a1, k_e3.s3.trans a2, a3⟩
theorem z_lclauseN (hF : 70000 ≤ F) (hk : k_no g B l q) : ∃ g', s_LText_clause F g (some 25) = some g' ∧ (z_fr [16, 26, 27] g g' ∧ k_no g' B l q) := by
  obtain ⟨g', a1, a2⟩ := k_tailN hF hk
  have e1 : s_Tape_expect F g (some 16) (121 : Int32) = some g := z_expectN (c := 121) hk (by decide) (by decide)
  have e2 : s_Tape_expect F g (some 16) (58 : Int32) = some g := z_expectN (c := 58) hk (by decide) (by decide)
  refine ⟨g', ?_, a2⟩
  rw [k_clause_eq, z_c25 hk.1.1, Option.bind_some, z_r25_0 hk.1.1, Option.bind_some, e1, Option.bind_some, z_r25_0 hk.1.1, Option.bind_some, e2, Option.bind_some, a1]
theorem k_LD.ff (hf : z_fr [16] g g') (he : z_fr [68] m m') (hD : k_LD g m k cls) : k_LD g' m' k cls := by
  obtain ⟨d1, d2, d3, d4, d5, d6⟩ := hD
  exact ⟨d1.f16 hf, (hf.I (by decide)).trans d2, d3.f68 he, d4.of (fun x _ => ⟨he.A (by decide), he.A (by decide), he.A (by decide)⟩), (he.A (by decide)).trans d5, d6⟩
theorem z_lclause (hF : 70000 ≤ F) (hk5 : k < 5) (hC : cls.length < 140) (hk : k_ok g B l p) (hm : k_mo m B l p) (h5 : z_I m 68 5 = nI 0) (h14 : z_I m 68 14 = nI k) (hD : k_LD g m k cls) (hLl : (q_enc 0 cls).length ≤ p) (hRl : (k_R cls).length ≤ p) :
    ∃ g' m', s_LText_clause F g (some 25) = some g' ∧ s_Mod_clause F m (some 68) = some m' ∧ (z_fr [16, 26, 27] g g' ∧ (k_pr k m m' ∧ z_I m' 68 14 = nI k) ∧ ((∃ p' u, (q_enc 0 (cls ++ [u])).length ≤ p' ∧ (k_R (cls ++ [u])).length ≤ p' ∧ p + 3 ≤ p' ∧ k_ok g' B l p' ∧ k_mo m' B l p' ∧ z_I m' 68 5 = nI 0 ∧ k_LD g' m' k (cls ++ [u])) ∨ ∃ q, k_no g' B l q ∧ k_mn m' B l q)) := by
  have hS := hk.1.1
  have hSm := hm.1.1
  have hl := hk.1.2.1
  have hBB := hk.1.2.2.2.1
  have d73 := hD.2.2.2.2.1
  obtain ⟨r, hr⟩ : ∃ r, r = k_n B l p := ⟨_, rfl⟩
  have hle := k_n_le (B := B) hk.2.1
  obtain ⟨g1, a1, a2, a3⟩ := z_expect (c := 121) hF hk (by decide) (by decide)
  obtain ⟨m1, b1, b2, b3⟩ := z_look hF hm
  rw [← hr] at hle a3 b1 b3
  have a1' : s_Tape_expect F g (some 16) (121 : Int32) = some g1 := a1
  have Sg1 := hS.fr a2 (by decide)
  have nw : ¬ ¬ (-1 : Int32) = (-1 : Int32) := fun z => z rfl
  have E1 : k_g B l r = (121 : Int32) ↔ k_b B l r = 121 := k_g_b hBB (c := 121) (by decide) (by decide)
  rw [k_clause_eq, z_c25 hS, Option.bind_some, z_r25_0 hS, Option.bind_some, a1', Option.bind_some, z_r25_0 Sg1, Option.bind_some, k_mclause_eq, z_c68 hSm, Option.bind_some, z_i68_14 hSm, Option.bind_some, z_r68_9 hSm, Option.bind_some, Option.bind_some, h14, z_a73 hSm hk5, Option.bind_some, d73, z_i68_4 hSm, Option.bind_some, hm.2.2.2, if_neg nw, b1, Option.bind_some]
  dsimp only
  rcases a3 with ⟨e1, a3⟩ | ⟨e1, a3⟩
  · have hlt := k_b_lt (B := B) (l := l) (q := r) (by omega)
    have k2 := b3.to (q := r + 1) (by omega)
    obtain ⟨m2, hm2⟩ : ∃ m2, m2 = z_sI m1 68 3 (nI (r + 1)) := ⟨_, rfl⟩
    rw [← hm2] at k2
    have e2 : k_e3 m m2 := b2.e3.trans (by rw [hm2]; exact k_e3.s3)
    obtain ⟨t, ht⟩ : ∃ t, t = k_n B l (r + 1) := ⟨_, rfl⟩
    have hle2 := k_n_le (B := B) (l := l) (p := r + 1) (by omega)
    obtain ⟨g2, c1, c2, c3⟩ := z_expect (c := 58) hF a3 (by decide) (by decide)
    obtain ⟨m3, d1, d2, d3⟩ := z_look hF k2
    rw [← ht] at hle2 c3 d1 d3
    have c1' : s_Tape_expect F g1 (some 16) (58 : Int32) = some g2 := c1
    have E2 : k_g B l t = (58 : Int32) ↔ k_b B l t = 58 := k_g_b hBB (c := 58) (by decide) (by decide)
    have F2 : z_fr [16] g g2 := a2.trans c2
    have e3 : k_e3 m m3 := e2.trans d2.e3
    rw [if_pos (E1.mpr e1), c1', Option.bind_some]
    unfold k_m40
    rw [z_i68_3 b3.1.1, Option.bind_some, b3.2.2.1, nI_1, z_w68_3 b3.1.1, Option.bind_some, ← hm2, z_i68_4 k2.1.1, Option.bind_some, k2.2.2.2, if_neg nw, d1, Option.bind_some]
    dsimp only
    rcases c3 with ⟨e4, c3⟩ | ⟨e4, c3⟩
    · have hlt2 := k_b_lt (B := B) (l := l) (q := t) (by omega)
      have k4 := d3.to (q := t + 1) (by omega)
      obtain ⟨m4, hm4⟩ : ∃ m4, m4 = z_sI m3 68 3 (nI (t + 1)) := ⟨_, rfl⟩
      rw [← hm4] at k4
      have e5 : k_e3 m m4 := e3.trans (by rw [hm4]; exact k_e3.s3)
      rw [if_pos (E2.mpr e4)]
      unfold k_m71
      rw [z_i68_3 d3.1.1, Option.bind_some, d3.2.2.1, nI_1, z_w68_3 d3.1.1, Option.bind_some, ← hm4, z_i68_4 k4.1.1, Option.bind_some, k4.2.2.2, if_pos rfl]
      have j5 : z_I m4 68 5 = nI 0 := by rw [hm4, z_I_sI_nk (by decide), d2.2 5 (by decide), hm2, z_I_sI_nk (by decide), b2.2 5 (by decide), h5]
      have j14 : z_I m4 68 14 = nI k := (e5.2 14 (by decide) (by decide) (by decide)).trans h14
      obtain ⟨g', m', s1, s2, s3, s4, s5⟩ := z_tail hF hk5 hC c3 k4 j5 j14 (hD.ff F2 e5.1) (by omega) (by omega)
      refine ⟨g', m', s1, s2, (F2.mono (by simp)).trans s3, ⟨e5.pf.pr.trans (s4.pr hC), (s4.2.1 14 (by decide) (by decide) (by decide)).trans j14⟩, ?_⟩
      rcases s5 with ⟨p', u, y1, y2, y3, y4, y5, y6, y7⟩ | ⟨q, y1, y2⟩
      · exact .inl ⟨p', u, y1, y2, by omega, y4, y5, y6, y7⟩
      · exact .inr ⟨q, y1, y2⟩
    · obtain ⟨g', s1, s2, s3⟩ := k_tailN hF c3
      obtain ⟨m4, t1, t2, t3, -⟩ := z_bad d3
      obtain ⟨m5, u1, u2, u3⟩ := z_m71N (F := F) (x4 := nI k) (x16 := nI cls.length) t3
      have e6 := (e3.trans t2.e3).trans u2
      rw [if_neg (fun z => e4 (E2.mp z)), t1, Option.bind_some]
      exact ⟨g', m5, s1, u1, (F2.mono (by simp)).trans s2, ⟨e6.pf.pr, (e6.2 14 (by decide) (by decide) (by decide)).trans h14⟩, .inr ⟨t, s3, u3⟩⟩
  · have ex : s_Tape_expect F g1 (some 16) (58 : Int32) = some g1 := z_expectN (c := 58) a3 (by decide) (by decide)
    obtain ⟨g', s1, s2, s3⟩ := k_tailN hF a3
    obtain ⟨m2, t1, t2, t3, -⟩ := z_bad b3
    obtain ⟨m3, u1, u2, u3⟩ := z_m40N (F := F) (x4 := nI k) (x16 := nI cls.length) t3
    have e6 := (b2.e3.trans t2.e3).trans u2
    rw [ex, Option.bind_some, if_neg (fun z => e1 (E1.mp z)), t1, Option.bind_some]
    exact ⟨g', m3, s1, u1, (a2.mono (by simp)).trans s2, ⟨e6.pf.pr, (e6.2 14 (by decide) (by decide) (by decide)).trans h14⟩, .inr ⟨r, s3, u3⟩⟩
/-- how the two stand when all is read -/
def k_LR (g m : fw_H) (B : Nat → Nat) (l k : Nat) : Prop :=
  (∃ q, k_no g B l q ∧ (k_mn m B l q ∨ (k_mo m B l q ∧ q < l ∧ B q ≠ 32))) ∨ ∃ cls, k_ok g B l l ∧ k_mo m B l l ∧ k_LD g m k cls ∧ cls ≠ [] ∧ (q_enc 0 cls).length ≤ l ∧ (k_R cls).length ≤ l ∧ 4 * cls.length ≤ l + 1
theorem z_lreadL (hF : 70000 ≤ F) (hk5 : k < 5) {Kc Km : fw_H → Option (Int32 × fw_H)} : ∀ (nn mm i p : Nat) (g m : fw_H) (cls : List q_C), l - p < nn → l - p < mm → 2 * i ≤ p → k_ok g B l p → k_mo m B l p → z_I m 68 5 = nI 0 → z_I m 68 14 = nI k → k_LD g m k cls → (q_enc 0 cls).length ≤ p → (k_R cls).length ≤ p → 4 * cls.length ≤ p →
    ∃ g', l_LText_read_16 F (some 25) Kc Kc nn (nI i) g = Kc g' ∧ (z_fr [16, 26, 27] g g' ∧ ∃ m', ((s_Mod_clause F m (some 68)).bind fun h => l_Mod_readLaw_9 F (some 68) Km mm h) = Km m' ∧ (k_pr k m m' ∧ k_LR g' m' B l k)) := by
  intro nn
  induction nn with
  | zero => intro mm i p g m cls h; omega
  | succ nn ih =>
    intro mm i p g m cls hnn hmm hi hk hm h5 h14 hD hLl hRl hc4
    obtain ⟨mm, rfl⟩ : ∃ k, mm = k + 1 := ⟨mm - 1, by omega⟩
    have hl := hk.1.2.1
    have hpl := hk.2.1
    have hBB := hk.1.2.2.2.1
    have i240 : ¬ (240 : Int32) ≤ nI i := nI_ge (b := 240) (by omega) (by decide)
    have nw : ¬ ¬ (-1 : Int32) = (-1 : Int32) := fun z => z rfl
    obtain ⟨g1, m1, a1, a2, a3, ⟨a4, a14⟩, a5⟩ := z_lclause hF hk5 (by omega) hk hm h5 h14 hD hLl hRl
    rw [l_LText_read_16, if_neg i240, a1, Option.bind_some, a2, Option.bind_some, l_Mod_readLaw_9]
    rcases a5 with ⟨p', u, y1, y2, y3, y4, y5, y6, y7⟩ | ⟨q, y1, y2⟩
    · obtain ⟨g2, b1, b2, b3⟩ := z_peek hF y4
      obtain ⟨m2, c1, c2, c3⟩ := z_look hF y5
      obtain ⟨s, hs⟩ : ∃ s, s = k_n B l p' := ⟨_, rfl⟩
      have hle := k_n_le (B := B) y4.2.1
      rw [← hs] at b1 b3 c1 c3 hle
      have hsn : k_n B l s = s := by rw [hs]; exact k_n_id y4.2.1
      have F2 : z_fr [16, 26, 27] g g2 := a3.trans (b2.mono (by simp))
      have P2 : k_pr k m m2 := a4.trans c2.pf.pr
      have D2 : k_LD g2 m2 k (cls ++ [u]) := y7.ff b2 c2.1
      have cl : (cls ++ [u]).length = cls.length + 1 := by rw [List.length_append]; rfl
      rw [z_r25_0 y4.1.1, Option.bind_some, b1, Option.bind_some, z_i68_4 y5.1.1, Option.bind_some, y5.2.2.2, if_neg nw, c1, Option.bind_some]
      dsimp only
      by_cases e0 : k_b B l s = 0
      · have hsl : s = l := by
          by_cases z : s < l
          · have := hBB s z
            have z2 : k_b B l s = B s := if_pos z
            omega
          · omega
        have eg : ¬ ¬ k_g B l s = (-1 : Int32) := fun z => z ((k_g_end hBB).mpr e0)
        have ng : ¬ k_g B l s = (59 : Int32) := by rw [(k_g_end hBB).mpr e0]; decide
        rw [if_neg eg, if_pos ng]
        rw [hsl] at b3 c3
        exact ⟨g2, rfl, F2, m2, rfl, P2, .inr ⟨cls ++ [u], b3, c3, D2, by simp, by omega, by omega, by omega⟩⟩
      · have hlt := k_b_lt e0
        have eg : ¬ k_g B l s = (-1 : Int32) := fun z => e0 ((k_g_end hBB).mp z)
        obtain ⟨g3, d1, d2, d3⟩ := z_expect (c := 59) hF b3 (by decide) (by decide)
        rw [hsn] at d3
        have d1' : s_Tape_expect F g2 (some 16) (59 : Int32) = some g3 := d1
        have E : k_g B l s = (59 : Int32) ↔ k_b B l s = 59 := k_g_b hBB (c := 59) (by decide) (by decide)
        rw [if_pos eg, z_r25_0 b3.1.1, Option.bind_some, d1', Option.bind_some, nI_1]
        rcases d3 with ⟨e59, d3⟩ | ⟨e59, d3⟩
        · have ng : ¬ ¬ k_g B l s = (59 : Int32) := fun z => z (E.mpr e59)
          have k3 := c3.to (q := s + 1) (by omega)
          obtain ⟨m3, hm3⟩ : ∃ m3, m3 = z_sI m2 68 3 (nI (s + 1)) := ⟨_, rfl⟩
          have f3 : z_fr [68] m2 m3 := by rw [hm3]; exact z_fr.refl.sI (by simp)
          rw [← hm3] at k3
          have P3 : k_pr k m m3 := P2.trans (by rw [hm3]; exact k_e3.s3.pf.pr)
          rw [if_neg ng, z_i68_3 c3.1.1, Option.bind_some, c3.2.2.1, nI_1, z_w68_3 c3.1.1, Option.bind_some, ← hm3]
          obtain ⟨g4, t1, t2, m4, t3, t4, t5⟩ := ih mm (i + 1) (s + 1) g3 m3 (cls ++ [u]) (by omega) (by omega) (by omega) d3 k3 (by rw [hm3, z_I_sI_nk (by decide), c2.2 5 (by decide), y6]) (by rw [hm3, z_I_sI_nk (by decide), c2.2 14 (by decide), a14]) (D2.ff d2 f3) (by omega) (by omega) (by omega)
          exact ⟨g4, t1, (F2.trans (d2.mono (by simp))).trans t2, m4, t3, P3.trans t4, t5⟩
        · have ng : ¬ k_g B l s = (59 : Int32) := fun z => e59 (E.mp z)
          obtain ⟨nn, rfl⟩ : ∃ k, nn = k + 1 := ⟨nn - 1, by omega⟩
          have i241 : ¬ (240 : Int32) ≤ nI (i + 1) := nI_ge (b := 240) (by omega) (by decide)
          have hs32 : B s ≠ 32 := by
            rw [hs] at hlt ⊢
            exact k_n_stop y4.2.1 hlt
          obtain ⟨g4, t1, t2, t3⟩ := z_lclauseN hF d3
          rw [if_pos ng, l_LText_read_16, if_neg i241, t1, Option.bind_some, z_r25_0 t3.1.1, Option.bind_some, z_peekN t3, Option.bind_some, if_neg nw]
          exact ⟨g4, rfl, (F2.trans (d2.mono (by simp))).trans t2, m2, rfl, P2, .inl ⟨s, t3, .inr ⟨c3, hlt, hs32⟩⟩⟩
    · rw [z_r25_0 y1.1.1, Option.bind_some, z_peekN y1, Option.bind_some, if_neg nw, z_i68_4 y2.1.1, Option.bind_some, if_pos y2.ne]
      exact ⟨g1, rfl, a3, m1, rfl, a4, .inl ⟨q, y1, .inl y2⟩⟩
def k_lKc (he : fw_H) : Option (Int32 × fw_H) := (f_gR he (some 25) 2 0).bind fun x57 => (s_Tape_faultFound he x57).bind fun x60 => some (x60, he)
def k_lKm (F : Nat) (he43 : fw_H) : Option (Int32 × fw_H) := (s_Mod_atEnd F he43 (some 68)).bind fun x44 => some (x44.1, x44.2)
theorem z_lread (hF : 70000 ≤ F) (hk5 : k < 5) (hA : k_A h B l) (hM : k_M M B l) : ∃ g v, s_LText_read F h (some 25) = some (v, g) ∧ (z_fr [16, 26, 27] h g ∧ z_I g 16 1 = z_I h 16 1 ∧ ∃ m, s_Mod_readLaw F M (some 68) (nI k) = some (v, m) ∧ (k_pr k M m ∧ ((∃ q, q ≤ 240 ∧ v = nI q) ∨ (v = -1 ∧ ∃ cls, k_LD g m k cls ∧ cls ≠ [] ∧ (q_enc 0 cls).length ≤ 240 ∧ (k_R cls).length ≤ 240 ∧ cls.length ≤ 60)))) := by
  have hS := hA.1
  have hSM := hM.1
  have hl := hA.2.1
  -- the class begins
  obtain ⟨h1, hh1⟩ : ∃ h1, h1 = z_sI h 16 2 (0 : Int32) := ⟨_, rfl⟩
  obtain ⟨h2, hh2⟩ : ∃ h2, h2 = z_sI h1 16 3 (-1 : Int32) := ⟨_, rfl⟩
  obtain ⟨h3, hh3⟩ : ∃ h3, h3 = z_sI h2 26 2 (0 : Int32) := ⟨_, rfl⟩
  obtain ⟨h4, hh4⟩ : ∃ h4, h4 = z_sI h3 26 3 (-1 : Int32) := ⟨_, rfl⟩
  obtain ⟨h5, hh5⟩ : ∃ h5, h5 = z_sI h4 26 4 (fw_b false) := ⟨_, rfl⟩
  have S1 : z_Sh h1 := by rw [hh1]; exact z_Sh_sI hS
  have S2 : z_Sh h2 := by rw [hh2]; exact z_Sh_sI S1
  have S3 : z_Sh h3 := by rw [hh3]; exact z_Sh_sI S2
  have S4 : z_Sh h4 := by rw [hh4]; exact z_Sh_sI S3
  have f2 : z_fr [16] h h2 := by rw [hh2, hh1]; exact (z_fr.refl.sI (by simp)).sI (by simp)
  have f25 : z_fr [26] h2 h5 := by rw [hh5, hh4, hh3]; exact ((z_fr.refl.sI (by simp)).sI (by simp)).sI (by simp)
  have f05 : z_fr [16, 26, 27] h h5 := (f2.mono (by simp)).trans (f25.mono (by simp))
  have e1 : z_I h2 16 1 = z_I h 16 1 := by rw [hh2, z_I_sI_nk (by decide), hh1, z_I_sI_nk (by decide)]
  have k2 : k_ok h2 B l 0 := ⟨hA.fr (As := [16]) f2 (by decide) (by decide) e1, Nat.zero_le _, by rw [hh2, z_I_sI_nk (by decide), hh1, z_II hS 6 rfl]; rfl, by rw [hh2, z_II S1 6 rfl]⟩
  have k5 : k_ok h5 B l 0 := k2.fr f25 (by decide) (by decide) (by decide)
  have cE : k_cE h5 [] := ⟨by rw [hh5, z_I_sI_nk (by decide), hh4, z_I_sI_nk (by decide), hh3, z_II S2 1 rfl]; rfl, fun i o e => (by cases e), false, by rw [hh5, z_II S4 1 rfl], fun _ o ho => absurd ho (List.not_mem_nil)⟩
  have c3 : z_I h5 26 3 = -1 := by rw [hh5, z_I_sI_nk (by decide), hh4, z_II S3 1 rfl]
  -- the reference begins
  obtain ⟨M1, hM1⟩ : ∃ M1, M1 = z_sI M 68 14 (nI k) := ⟨_, rfl⟩
  obtain ⟨M2, hM2⟩ : ∃ M2, M2 = z_sI M1 68 3 (0 : Int32) := ⟨_, rfl⟩
  obtain ⟨M3, hM3⟩ : ∃ M3, M3 = z_sI M2 68 4 (-1 : Int32) := ⟨_, rfl⟩
  obtain ⟨M4, hM4⟩ : ∃ M4, M4 = z_sI M3 68 5 (0 : Int32) := ⟨_, rfl⟩
  obtain ⟨M5, hM5⟩ : ∃ M5, M5 = z_sA M4 72 k (0 : Int32) := ⟨_, rfl⟩
  obtain ⟨M6, hM6⟩ : ∃ M6, M6 = z_sA M5 73 k (0 : Int32) := ⟨_, rfl⟩
  have T1 : z_Sh M1 := by rw [hM1]; exact z_Sh_sI hSM
  have T2 : z_Sh M2 := by rw [hM2]; exact z_Sh_sI T1
  have T3 : z_Sh M3 := by rw [hM3]; exact z_Sh_sI T2
  have T4 : z_Sh M4 := by rw [hM4]; exact z_Sh_sI T3
  have T5 : z_Sh M5 := by rw [hM5]; exact z_Sh_sA T4
  have ck2 := z_ckT (a := 72) T4 rfl
  have ck3 := z_ckT (a := 73) T5 rfl
  have F4 : z_fr [68] M M4 := by rw [hM4, hM3, hM2, hM1]; exact (((z_fr.refl.sI (by simp)).sI (by simp)).sI (by simp)).sI (by simp)
  have F46 : z_fr [72, 73] M4 M6 := by rw [hM6, hM5]; exact (z_fr.refl.sA (by simp)).sA (by simp)
  have i4 : ∀ j, j ≠ 3 → j ≠ 4 → j ≠ 5 → j ≠ 14 → z_I M4 68 j = z_I M 68 j := fun j a b c d => by rw [hM4, z_I_sI_nk c, hM3, z_I_sI_nk b, hM2, z_I_sI_nk a, hM1, z_I_sI_nk d]
  have m4 : k_mo M4 B l 0 := ⟨hM.fr (As := [68]) F4 (by decide) (by decide) (i4 2 (by decide) (by decide) (by decide) (by decide)), Nat.zero_le _, by rw [hM4, z_I_sI_nk (by decide), hM3, z_I_sI_nk (by decide), hM2, z_II T1 12 rfl]; rfl, by rw [hM4, z_I_sI_nk (by decide), hM3, z_II T2 12 rfl]⟩
  have m6 : k_mo M6 B l 0 := m4.fr F46 (by decide) (by decide) (fun k _ => F46.I (by decide))
  have p6 : k_pr k M M6 := ⟨(F4.mono (by simp)).trans (F46.mono (by simp)), fun j a b c d => (F46.I (by decide)).trans (i4 j a b c d), fun x _ => ⟨(F46.A (by decide)).trans (F4.A (by decide)), (F46.A (by decide)).trans (F4.A (by decide))⟩, fun j hj => ⟨?_, ?_⟩, fun x _ => ⟨(F46.A (by decide)).trans (F4.A (by decide)), (F46.A (by decide)).trans (F4.A (by decide)), (F46.A (by decide)).trans (F4.A (by decide))⟩⟩
  rotate_left
  · rw [hM6, z_A_sA_ne (by decide), hM5, z_A_sA ck2, if_neg hj, F4.A (by decide)]
  · rw [hM6, z_A_sA ck3, if_neg hj, hM5, z_A_sA_ne (by decide), F4.A (by decide)]
  have j5 : z_I M6 68 5 = nI 0 := by rw [F46.I (by decide), hM4, z_II T3 12 rfl]; rfl
  have j14 : z_I M6 68 14 = nI k := by rw [F46.I (by decide), hM4, z_I_sI_nk (by decide), hM3, z_I_sI_nk (by decide), hM2, z_I_sI_nk (by decide), hM1, z_II hSM 12 rfl]
  have j72 : z_A M6 72 k = 0 := by rw [hM6, z_A_sA_ne (by decide), hM5, z_A_sA ck2, if_pos rfl]
  have j73 : z_A M6 73 k = 0 := by rw [hM6, z_A_sA ck3, if_pos rfl]
  have D0 : k_LD h5 M6 k [] := ⟨cE, c3, ⟨j72, fun i o e => (by cases e)⟩, trivial, j73, fun c hc => absurd hc (List.not_mem_nil)⟩
  obtain ⟨g', r1, r2, m', r3, r4, r5⟩ := z_lreadL (Kc := k_lKc) (Km := k_lKm F) hF hk5 F F 0 0 h5 M6 [] (by omega) (by omega) (by omega) k5 m6 j5 j14 D0 (by decide) (by decide) (by decide)
  have run : s_LText_read F h (some 25) = k_lKc g' := by
    unfold s_LText_read s_Tape_rewind s_Law_clear
    rw [z_c25 hS, Option.bind_some, z_r25_0 hS, Option.bind_some, z_c16 hS, Option.bind_some, z_w16_2 hS, Option.bind_some, ← hh1, z_w16_3 S1, Option.bind_some, ← hh2, Option.bind_some, z_r25_1 S2, Option.bind_some, z_c26 S2, Option.bind_some, z_w26_2 S2, Option.bind_some, ← hh3, z_w26_3 S3, Option.bind_some, ← hh4, z_pBS S4 rfl, Option.bind_some, ← hh5, Option.bind_some]
    exact r1
  have mrun : s_Mod_readLaw F M (some 68) (nI k) = k_lKm F m' := by
    unfold s_Mod_readLaw s_Mod_open
    rw [z_c68 hSM, Option.bind_some, Option.bind_some, z_w68_14 hSM, Option.bind_some, ← hM1, z_w68_3 T1, Option.bind_some, ← hM2, z_w68_4 T2, Option.bind_some, ← hM3, z_w68_5 T3, Option.bind_some, ← hM4, z_r68_8 T4, Option.bind_some, z_s72 T4 hk5, Option.bind_some, ← hM5, z_r68_9 T5, Option.bind_some, z_s73 T5 hk5, Option.bind_some, ← hM6, Option.bind_some]
    exact r3
  have P : k_pr k M m' := p6.trans r4
  have Fg : z_fr [16, 26, 27] h g' := f05.trans r2
  have kc : ∀ v, z_Sh g' → z_I g' 16 3 = v → k_lKc g' = some (v, g') := fun v hS hv => by
    unfold k_lKc
    rw [z_r25_0 hS, Option.bind_some, z_faultFound hS, Option.bind_some, hv]
  rw [run, mrun]
  rcases r5 with ⟨q, ko, alt⟩ | ⟨cls, ko, mo, hD, hne, l1, l2, l3⟩
  · refine ⟨g', nI q, kc _ ko.1.1 ko.2.2, Fg, ko.1.2.2.1.trans hA.2.2.1.symm, ?_⟩
    rcases alt with kn | ⟨km, q1, q2⟩
    · refine ⟨m', ?_, P, .inl ⟨q, ko.2.1, rfl⟩⟩
      unfold k_lKm s_Mod_atEnd
      rw [z_c68 kn.1.1, Option.bind_some, z_i68_4 kn.1.1, Option.bind_some, if_pos kn.ne, Option.bind_some, Option.bind_some, kn.2.2]
    · have hn : k_n B l q = q := by rw [k_n_step q1, if_neg q2]
      obtain ⟨m2, b1, b2, b3⟩ := z_look hF km
      rw [hn] at b1 b3
      obtain ⟨m3, d1, d2, d3, -⟩ := z_bad b3
      have hg : ¬ k_g B l q = (-1 : Int32) := by
        unfold k_g
        rw [if_pos q1]
        exact nI_ne_m1 (by have := km.1.2.2.2.1 q q1; omega)
      have nw : ¬ ¬ (-1 : Int32) = (-1 : Int32) := fun z => z rfl
      refine ⟨m3, ?_, P.trans (b2.pf.trans d2.pf).pr, .inl ⟨q, ko.2.1, rfl⟩⟩
      unfold k_lKm s_Mod_atEnd
      rw [z_c68 km.1.1, Option.bind_some, z_i68_4 km.1.1, Option.bind_some, km.2.2.2, if_neg nw, b1, Option.bind_some, if_neg hg]
      show ((s_Mod_bad m2 (some 68)).bind fun h17 => _).bind _ = _
      rw [d1, Option.bind_some, z_i68_4 d3.1.1, Option.bind_some, Option.bind_some, d3.2.2]
  · have hn : k_n B l l = l := k_n_end (Nat.le_refl _)
    obtain ⟨m2, b1, b2, b3⟩ := z_look hF mo
    rw [hn] at b1 b3
    have hg : k_g B l l = (-1 : Int32) := if_neg (Nat.lt_irrefl _)
    have nw : ¬ ¬ (-1 : Int32) = (-1 : Int32) := fun z => z rfl
    refine ⟨g', -1, kc _ ko.1.1 ko.2.2.2, Fg, ko.1.2.2.1.trans hA.2.2.1.symm, m2, ?_, P.trans b2.pf.pr, .inr ⟨rfl, cls, hD.ff z_fr.refl b2.1, hne, by omega, by omega, by omega⟩⟩
    unfold k_lKm s_Mod_atEnd
    rw [z_c68 mo.1.1, Option.bind_some, z_i68_4 mo.1.1, Option.bind_some, mo.2.2.2, if_neg nw, b1, Option.bind_some, if_pos hg]
    show ((f_gI m2 (some 68) 12 4).bind fun x21 => _).bind _ = _
    rw [z_i68_4 b3.1.1, Option.bind_some, Option.bind_some, b3.2.2.2]
end LR
