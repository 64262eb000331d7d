-- STAND, the class
abbrev o_W : Type := Nat × (Nat × ((Nat → Int32) × ((Nat → Int32) × ((Nat → Int32) × Option (List q_C)))))
/-- the walk's numbers by who turns the back -/
def o_E (P : o_W) (b : Nat) : z_E := v_E P.1 P.2.1 P.2.2.1 P.2.2.2.1 P.2.2.2.2.1 P.2.2.2.2.2 (v_op P.2.2.2.2.1) (2 ^ P.1 - 1) b
/-- sets that go with what is settled, by which it is there -/
def o_D (P : o_W) (m go s t N : Nat) (p : e_P) (X : Nat) : Prop := X < 2 ^ P.1 ∧ X &&& s = t ∧ (e_it (o_E P (m ||| X)) N p).1 = go
def o_st (P : o_W) (m go t : Nat) (p : e_P) (r : Option Nat) (g : fw_H) : Prop := z_Sh g ∧ z_CV g P.1 P.2.1 P.2.2.1 P.2.2.2.1 P.2.2.2.2.1 P.2.2.2.2.2 (v_op P.2.2.2.2.1) ∧ z_I g 48 6 = nI (2 ^ P.1 - 1) ∧ z_I g 59 1 = nI go ∧ z_I g 48 5 = nI (m ||| t) ∧ z_ps g p ∧ z_I g 59 2 = g_on r (-1)
def o_fr (g g' : fw_H) : Prop := z_fr [48, 59] g g' ∧ (∀ k, k ≠ 2 → k ≠ 3 → k ≠ 4 → k ≠ 5 → z_I g' 48 k = z_I g 48 k) ∧ ∀ k, k ≠ 2 → z_I g' 59 k = z_I g 59 k
def o_res (P : o_W) (m go : Nat) (Q : Nat → Prop) (s t N : Nat) (p : e_P) (g : fw_H) (R : Option fw_H) : Prop := ∃ g' r', R = some g' ∧ (o_fr g g' ∧ z_I g' 48 5 = nI (m ||| t) ∧ z_I g' 59 2 = g_on r' (-1) ∧ (∀ y, r' = some y → y < 2 ^ P.1) ∧ o_is (fun X => Q X ∨ o_D P m go s t N p X) r')
section ST2
variable {P : o_W} {m go s t N k d D dep o F nn x : Nat} {p q : e_P} {r : Option Nat} {Q : Nat → Prop} {g g' g'' h : fw_H} {K164 : fw_H → Option fw_H} {K37 : Int32 → Int32 → fw_H → Option fw_H} {R : Option fw_H}
theorem o_fr.refl : o_fr g g := ⟨z_fr.refl, fun _ _ _ _ _ => rfl, fun _ _ => rfl⟩
theorem o_fr.trans (h1 : o_fr g g') (h2 : o_fr g' g'') : o_fr g g'' := ⟨h1.1.trans h2.1, fun k a b c e => (h2.2.1 k a b c e).trans (h1.2.1 k a b c e), fun k a => (h2.2.2 k a).trans (h1.2.2 k a)⟩
theorem o_fr.ofw (h1 : z_w g g') : o_fr g g' := ⟨h1.1.mono (by simp), fun k a b c _ => h1.2.1 k a b c, fun k _ => h1.1.I (by decide)⟩
theorem o_fr.sh (h1 : o_fr g g') (hS : z_Sh g) : z_Sh g' := hS.fr h1.1 (by decide)
theorem o_fr.s5 {v : Int32} : o_fr g (z_sI g 48 5 v) := ⟨z_fr.refl.sI (by simp), fun k _ _ _ h5 => z_I_sI_nk h5, fun k _ => z_I_sI_ne (by decide)⟩
theorem o_fr.s2 {v : Int32} : o_fr g (z_sI g 59 2 v) := ⟨z_fr.refl.sI (by simp), fun k _ _ _ _ => z_I_sI_ne (by decide), fun k h2 => z_I_sI_nk h2⟩
theorem o_st.of (h1 : o_fr g g') (hs : o_st P m go t p r g) {t' : Nat} {p' : e_P} {r' : Option Nat} (h5 : z_I g' 48 5 = nI (m ||| t')) (hp : z_ps g' p') (h2 : z_I g' 59 2 = g_on r' (-1)) : o_st P m go t' p' r' g' := by
  obtain ⟨s1, s2, s3, s4, s5, s6, s7⟩ := hs
  exact ⟨h1.sh s1, s2.fr h1.1 (by decide) (by decide) (by decide) (by decide) (by decide), (h1.2.1 6 (by decide) (by decide) (by decide) (by decide)).trans s3, (h1.2.2 1 (by decide)).trans s4, h5, hp, h2⟩
theorem o_st.cw (hok : v_ok P.1 P.2.1 P.2.2.2.1) (hmt : m ||| t < 2 ^ 12) (hs : o_st P m go t p r g) : z_CW g (o_E P (m ||| t)) := hs.2.1.go hok hmt hs.2.2.2.2.1 hs.2.2.1
theorem o_res.of (h1 : o_fr g g') (h : o_res P m go Q s t N p g' R) : o_res P m go Q s t N p g R := by
  obtain ⟨g2, r', a1, a2, a3⟩ := h
  exact ⟨g2, r', a1, h1.trans a2, a3⟩
theorem o_res.cong {s' t' N' : Nat} {p' : e_P} {Q' : Nat → Prop} (ht : t' = t) (hq : ∀ X, (Q' X ∨ o_D P m go s' t' N' p' X) ↔ (Q X ∨ o_D P m go s t N p X)) (h : o_res P m go Q s t N p g R) : o_res P m go Q' s' t' N' p' g R := by
  obtain ⟨g2, r', a1, a2, a3, a4, a5, a6⟩ := h
  exact ⟨g2, r', a1, a2, by rw [ht]; exact a3, a4, a5, a6.cong hq⟩
/-- no one asked: all sets go the same way -/
theorem o_go (hc : e_sum (o_E P (m ||| t)) 0 (e_ds (o_E P (m ||| t)) p.1) < (o_E P (m ||| t)).2.2.2.1 p.1 ∨ o_ch p.2.1 (e_ds (o_E P (m ||| t)) p.1) ≤ 1 ∨ ∀ x, x ∈ e_ds (o_E P (m ||| t)) p.1 → x ≠ p.2.1 → s.testBit x = true) (X : Nat) (hX : X &&& s = t) : e_go (o_E P (m ||| t)) p = e_go (o_E P (m ||| X)) p := by
  refine e_go_ask rfl rfl rfl rfl ?_
  rcases hc with hc | hc | hc
  · exact .inl hc
  · exact .inr (.inl hc)
  · refine .inr (.inr fun x hx hb => ?_)
    have h1 := hc x hx hb
    have h2 := o_bit hX x
    rw [h1, Bool.and_true] at h2
    show v_wish _ _ _ x (fw_b ((m ||| t).testBit x)) _ = v_wish _ _ _ x (fw_b ((m ||| X).testBit x)) _
    rw [Nat.testBit_or, Nat.testBit_or, h2]
theorem o_tryL (hF : 70000 ≤ F) (hok : v_ok P.1 P.2.1 P.2.2.2.1) (hmt : m ||| t < 2 ^ 12) (hs : s < 2 ^ 12)
    (h164 : ∀ g p, o_st P m go t p r g → e_ok (o_E P m) p → o_res P m go Q s t 0 p g (K164 g))
    (h37 : ∀ k o g p, k ≤ 30 → o_st P m go t p r g → e_ok (o_E P m) p → o < P.1 → s.testBit o = false → o_res P m go Q s t k p g (K37 (nI k) (nI o) g)) :
    ∀ (k nn : Nat) (g : fw_H) (p : e_P), k ≤ 30 → k < nn → o_st P m go t p r g → e_ok (o_E P m) p → o_res P m go Q s t k p g (l_Ways_tryTurns_19 F (some 59) (nI s) K164 K37 nn (nI k) g) := by
  have hn12 := hok.1
  intro k
  induction k with
  | zero =>
    intro nn g p hk hnn hst hp
    obtain ⟨nn, rfl⟩ : ∃ k, nn = k + 1 := ⟨nn - 1, by omega⟩
    rw [l_Ways_tryTurns_19, if_pos (by decide)]
    exact h164 g p hst hp
  | succ k ih =>
    intro nn g p hk hnn hst hp
    obtain ⟨nn, rfl⟩ : ∃ k, nn = k + 1 := ⟨nn - 1, by omega⟩
    have hC := hst.cw hok hmt
    obtain ⟨o, o1, o2, o3, o4⟩ := z_unsettled hF hst.1 hC hst.2.2.2.2.2.1 hp hs
    rw [l_Ways_tryTurns_19, if_neg (nI_nle (by omega) (by omega)), o1, Option.bind_some]
    by_cases h12 : o = 12
    · rw [if_pos (by rw [h12]; rfl), z_r59_0 hst.1, Option.bind_some]
      obtain ⟨g1, a1, a2, a3⟩ := z_hour hF hst.1 hC hst.2.2.2.2.2.1 hp
      rw [a1, Option.bind_some, pk_m1]
      have hst1 : o_st P m go t (e_go (o_E P (m ||| t)) p) r g1 := hst.of (o_fr.ofw a2) ((a2.2.1 5 (by decide) (by decide) (by decide)).trans hst.2.2.2.2.1) a3 ((a2.1.I (by decide)).trans hst.2.2.2.2.2.2)
      have h1 := ih nn g1 _ (by omega) (by omega) hst1 (e_go_ok (E := o_E P (m ||| t)) hp)
      refine (h1.of (o_fr.ofw a2)).cong rfl fun X => ?_
      unfold o_D
      constructor
      · rintro (z | ⟨z1, z2, z3⟩)
        · exact .inl z
        · refine .inr ⟨z1, z2, ?_⟩
          rw [o_go (o3 h12) X z2]
          exact z3
      · rintro (z | ⟨z1, z2, z3⟩)
        · exact .inl z
        · refine .inr ⟨z1, z2, ?_⟩
          rw [o_go (o3 h12) X z2] at z3
          exact z3
    · have h4 := o4 h12
      rw [if_neg (by rw [z_bn h12]; exact z_neg1 (by omega)), z_bn h12]
      exact h37 (k + 1) o g p hk hst hp h4.1 h4.2
theorem o_try (hF : 70000 ≤ F) (hok : v_ok P.1 P.2.1 P.2.2.2.1) (hm : m < 2 ^ 12) (hgo : go < 12) :
    ∀ (d D s t N dep : Nat) (g : fw_H) (p : e_P) (r : Option Nat) (Q : Nat → Prop), 12 ≤ d + c_pc 16 s → d < D → dep ≤ c_pc 16 s → N ≤ 30 → s < 2 ^ 12 → m &&& s = m → t &&& s = t → t < 2 ^ P.1 → o_st P m go t p r g → e_ok (o_E P m) p → (∀ y, r = some y → y < 2 ^ P.1) → o_is Q r →
    o_res P m go Q s t N p g (gr_Ways_tryTurns F D 0 g (some 59) (nI N) (nI s) (nI t) (nI dep)) := by
  have hn12 := hok.1
  have hpow : 2 ^ P.1 ≤ 2 ^ 12 := z_pole hn12
  intro d
  induction d using Nat.strongRecOn with
  | _ d ih =>
  intro D s t N dep g p r Q h1 h2 h3 h4 hs hms hts ht hst hp hr hq
  obtain ⟨D, rfl⟩ : ∃ k, D = k + 1 := ⟨D - 1, by omega⟩
  have hpc := c_pc_lt 16 12 s hs
  have hmt : m ||| t < 2 ^ 12 := z_orlt hm (by omega)
  rw [gr_Ways_tryTurns]
  unfold b_Ways_tryTurns
  obtain ⟨b, b1, b2⟩ := z_isWorse (t := t) hst.1 hst.2.2.2.2.2.2 (by omega) (fun y hy => by have := hr y hy; omega)
  rw [z_c59 hst.1, Option.bind_some, if_neg (show ¬ (12 : Int32) < nI dep from nI_nlt (b := dep) (a := 12) (by omega) (by decide)), b1, Option.bind_some]
  by_cases hb : b = true
  · rw [if_pos hb]
    obtain ⟨y, y1, y2⟩ := b2.mp hb
    refine ⟨g, r, rfl, o_fr.refl, hst.2.2.2.2.1, hst.2.2.2.2.2.2, hr, hq.keep fun X hX => ⟨y, y1, fun hc => ?_⟩⟩
    have e := c_lt_tri (o_sub hX.2.1) (c_lt_trans hc y2)
    rw [e] at hc
    exact y2 hc
  · rw [if_neg hb]
    have hbt : ∀ y, r = some y → c_lt t y := fun y hy => Classical.byContradiction fun hc => hb (b2.mpr ⟨y, hy, hc⟩)
    refine o_tryL hF hok hmt hs (fun g p hst hp => ?_) (fun k o g p hk hst hp ho hso => ?_) N F g p h4 (by omega) hst hp
    · rw [z_r59_0 hst.1, Option.bind_some, z_i48_2 hst.1, Option.bind_some, hst.2.2.2.2.2.1.1, z_i59_1 hst.1, Option.bind_some, hst.2.2.2.1]
      have hp1 : p.1 < P.1 := hp.1
      by_cases hgt : p.1 = go
      · rw [if_neg (fun z => z (by rw [hgt])), z_w59_2 hst.1, Option.bind_some]
        refine ⟨_, some t, rfl, o_fr.s2, (z_I_sI_ne (by decide)).trans hst.2.2.2.2.1, z_II hst.1 10 rfl, fun y hy => (by cases hy; exact ht), hq.new ⟨ht, hts, hgt⟩ hbt (fun X hX => o_sub hX.2.1)⟩
      · rw [if_pos (fun z => hgt ((nI_eq (by omega) (by omega)).mp z))]
        exact ⟨g, r, rfl, o_fr.refl, hst.2.2.2.2.1, hst.2.2.2.2.2.2, hr, hq.keep fun X hX => absurd hX.2.2 hgt⟩
    · have ho12 : o < 12 := by omega
      have hpcs := o_pcs (s := s) hso (show o < 16 by omega)
      have hs2 : s ||| 2 ^ o < 2 ^ 12 := z_orlt hs (z_pow ho12)
      have hpc2 := c_pc_lt 16 12 _ hs2
      have ht2 : t ||| 2 ^ o < 2 ^ P.1 := z_orlt ht (z_pow ho)
      obtain ⟨tt1, tt2⟩ := o_tt (o := o) hts
      have mm1 := (o_tt (o := o) hms).1
      have hmo : m.testBit o = false := by
        have := o_bit hms o
        rw [hso, Bool.and_false] at this
        exact this.symm
      have hto : t.testBit o = false := by
        have := o_bit hts o
        rw [hso, Bool.and_false] at this
        exact this.symm
      obtain ⟨P1, P2, P3⟩ := hst.2.2.2.2.2.1
      have es : nI s ||| ((1 : Int32) <<< (nI o &&& 31)) = nI (s ||| 2 ^ o) := by rw [z_sh1 (by omega), fa_or]
      have et : nI t ||| ((1 : Int32) <<< (nI o &&& 31)) = nI (t ||| 2 ^ o) := by rw [z_sh1 (by omega), fa_or]
      rw [z_r59_0 hst.1, Option.bind_some, z_i48_2 hst.1, Option.bind_some, P1, Option.bind_some, z_i48_3 hst.1, Option.bind_some, P2, Option.bind_some, z_i48_4 hst.1, Option.bind_some, P3, es, et, show nI dep + (1 : Int32) = nI (dep + 1) from nI_1 dep]
      obtain ⟨g1, r1, a1, a2, a3, a4, a5, a6⟩ := ih (d - 1) (by omega) D (s ||| 2 ^ o) t k (dep + 1) g p r Q (by omega) (by omega) (by omega) hk hs2 mm1 tt1 ht hst hp hr hq
      have S1 := a2.sh hst.1
      obtain ⟨g2, c1, c2, c3⟩ := z_standAt (p := p) S1
      have S2 := c2.sh S1
      have e5 : z_I g2 48 5 = nI (m ||| t) := (c2.2.1 5 (by decide) (by decide) (by decide)).trans a3
      obtain ⟨g3, hg3⟩ : ∃ g3, g3 = z_sI g2 48 5 (nI (m ||| (t ||| 2 ^ o))) := ⟨_, rfl⟩
      have S3 : z_Sh g3 := by rw [hg3]; exact z_Sh_sI S2
      have f3 : o_fr g g3 := by rw [hg3]; exact (a2.trans (o_fr.ofw c2)).trans o_fr.s5
      have hst3 : o_st P m go (t ||| 2 ^ o) p r1 g3 := by
        refine hst.of f3 (by rw [hg3, z_II S2 9 rfl]) ?_ ?_
        · rw [hg3]
          exact ⟨(z_I_sI_nk (by decide)).trans c3.1, (z_I_sI_nk (by decide)).trans c3.2.1, (z_I_sI_nk (by decide)).trans c3.2.2⟩
        · rw [hg3, z_I_sI_ne (by decide), c2.1.I (by decide)]; exact a4
      rw [a1, Option.bind_some, z_r59_0 S1, Option.bind_some, c1, Option.bind_some, z_r59_0 S2, Option.bind_some, z_i48_5 S2, Option.bind_some, e5, show nI (m ||| t) ||| ((1 : Int32) <<< (nI o &&& 31)) = nI (m ||| (t ||| 2 ^ o)) by rw [z_sh1 (by omega), fa_or, Nat.or_assoc], z_w48_5 S2, Option.bind_some, ← hg3]
      obtain ⟨g4, r2, d1, d2, d3, d4, d5, d6⟩ := ih (d - 1) (by omega) D (s ||| 2 ^ o) (t ||| 2 ^ o) k (dep + 1) g3 p r1 _ (by omega) (by omega) (by omega) hk hs2 mm1 tt2 ht2 hst3 hp a5 a6
      have S4 := d2.sh S3
      have e6 : nI (m ||| (t ||| 2 ^ o)) &&& (((1 : Int32) <<< (nI o &&& 31)) ^^^ (-1 : Int32)) = nI (m ||| t) := by
        rw [← Nat.or_assoc]
        exact o_out (by rw [Nat.testBit_or, hmo, hto]; rfl) (by omega) (by omega)
      rw [d1, Option.bind_some, z_r59_0 S4, Option.bind_some, z_i48_5 S4, Option.bind_some, d3, e6, z_w48_5 S4, Option.bind_some]
      refine ⟨z_sI g4 48 5 (nI (m ||| t)), r2, rfl, (f3.trans d2).trans o_fr.s5, z_II S4 9 rfl, (z_I_sI_ne (by decide)).trans d4, d5, d6.cong fun X => ?_⟩
      unfold o_D
      constructor
      · rintro (z | ⟨z1, z2, z3⟩)
        · exact .inl (.inl z)
        · rcases (o_two hts hso).mp z2 with z4 | z4
          · exact .inl (.inr ⟨z1, z4, z3⟩)
          · exact .inr ⟨z1, z4, z3⟩
      · rintro ((z | ⟨z1, z2, z3⟩) | ⟨z1, z2, z3⟩)
        · exact .inl z
        · exact .inr ⟨z1, (o_two hts hso).mpr (.inl z2), z3⟩
        · exact .inr ⟨z1, (o_two hts hso).mpr (.inr z2), z3⟩
/-- fewestTurns -/
theorem z_fewestTurns (hF : 70000 ≤ F) (hok : v_ok P.1 P.2.1 P.2.2.2.1) (hm : m < 2 ^ 12) (hgo : go < 12) (hN : N ≤ 30) (hS : z_Sh h) (hC : z_CV h P.1 P.2.1 P.2.2.1 P.2.2.2.1 P.2.2.2.2.1 P.2.2.2.2.2 (v_op P.2.2.2.2.1)) (h6 : z_I h 48 6 = nI (2 ^ P.1 - 1)) (h5 : z_I h 48 5 = nI m) (hps : z_ps h p) (hp : e_ok (o_E P m) p) :
    ∃ g r, s_Ways_fewestTurns F h (some 59) (nI go) (nI N) = some (g_on r (-1), g) ∧ (z_fr [48, 59] h g ∧ z_I g 48 12 = z_I h 48 12 ∧ (∀ y, r = some y → y < 2 ^ P.1) ∧ o_is (fun X => X < 2 ^ P.1 ∧ X &&& m = 0 ∧ (e_it (o_E P (m ||| X)) N p).1 = go) r) := by
  have hn12 := hok.1
  obtain ⟨g1, hg1⟩ : ∃ g1, g1 = z_sI h 59 1 (nI go) := ⟨_, rfl⟩
  have S1 : z_Sh g1 := by rw [hg1]; exact z_Sh_sI hS
  obtain ⟨g2, hg2⟩ : ∃ g2, g2 = z_sI g1 59 2 (-1) := ⟨_, rfl⟩
  have S2 : z_Sh g2 := by rw [hg2]; exact z_Sh_sI S1
  have f2 : z_fr [59] h g2 := by rw [hg2, hg1]; exact (z_fr.refl.sI (by simp)).sI (by simp)
  have hst : o_st P m go 0 p none g2 := by
    refine ⟨S2, hC.fr f2 (by decide) (by decide) (by decide) (by decide) (by decide), by rw [f2.I (by decide)]; exact h6, by rw [hg2, z_I_sI_nk (by decide), hg1, z_II hS 10 rfl], by rw [f2.I (by decide), Nat.or_zero]; exact h5, ⟨by rw [f2.I (by decide)]; exact hps.1, by rw [f2.I (by decide)]; exact hps.2.1, by rw [f2.I (by decide)]; exact hps.2.2⟩, by rw [hg2, z_II S1 10 rfl]; rfl⟩
  obtain ⟨g3, r3, a1, a2, a3, a4, a5, a6⟩ := o_try (F := F) (go := go) (m := m) (P := P) hF hok hm hgo 12 80 m 0 N 0 g2 p none (fun _ => False) (by omega) (by decide) (Nat.zero_le _) hN hm (Nat.and_self m) (Nat.zero_and m) (Nat.two_pow_pos _) hst hp (fun y hy => by cases hy) (fun X hX => hX)
  have S3 := a2.sh S2
  refine ⟨g3, r3, ?_, (f2.mono (by simp)).trans a2.1, ?_, a5, a6.cong fun X => ⟨fun z => .inr z, fun z => z.elim (fun z => z.elim) id⟩⟩
  · unfold s_Ways_fewestTurns s_Ways_tryTurns
    rw [z_c59 hS, Option.bind_some, z_w59_1 hS, Option.bind_some, ← hg1, z_w59_2 S1, Option.bind_some, ← hg2, z_r59_0 S2, Option.bind_some, z_i48_5 S2, Option.bind_some, show z_I g2 48 5 = nI m by rw [f2.I (by decide)]; exact h5, show (0 : Int32) = nI 0 from rfl, a1, Option.bind_some, z_i59_2 S3, Option.bind_some, a4]
  · rw [a2.2.1 12 (by decide) (by decide) (by decide) (by decide), f2.I (by decide)]
end ST2
