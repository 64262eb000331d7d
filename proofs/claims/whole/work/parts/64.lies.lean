-- LIES: the fewest by place, an hour of them as numbers; both sides
def g_put (B : Nat → Nat) (k v : Nat) : Nat → Nat := fun j => if j = k then min (B k) v else B j
def g_lie (E : z_E) (t : Nat) (L : Nat → Nat) (k : Nat) (B : Nat → Nat) : Nat → Nat :=
  if L k < 1000 then (if (k / 13 + 3) % E.1 = k / 13 then g_put B (g_to E t k) (L k) else g_put (g_put B (g_to E t k) (L k)) (g_s (e_go E ((k / 13 + 3) % E.1, (k / 13, t)))) (L k + 1)) else B
def g_lieN (E : z_E) (t : Nat) (L : Nat → Nat) : Nat → Nat → Nat
  | 0 => fun _ => 1000
  | k + 1 => g_lie E t L k (g_lieN E t L k)
def g_L (E : z_E) (p : e_P) (hr : Nat) : Nat → Nat → Nat
  | 0 => fun j => if j = g_s p then 0 else 1000
  | i + 1 => g_lieN E ((hr + i) % 24) (g_L E p hr i) 156
def g_min (L : Nat → Nat) (a : Nat) : Nat → Nat
  | 0 => 1000
  | j + 1 => min (g_min L a j) (L (13 * a + j))
/-- the reference's number of so many lies -/
def g_n (v : Nat) : Int32 := if v = 1000 then -1 else nI v
/-- what holds of the numbers of lies behind i hours -/
def g_lok (n i : Nat) (L : Nat → Nat) : Prop := ∀ k, (¬ g_ok n k → L k = 1000) ∧ (L k = 1000 ∨ L k ≤ i)
def g_SL (h : fw_H) (L : Nat → Nat) (t : Nat) : Prop := ∃ a b, ((a = 62 ∧ b = 63) ∨ (a = 63 ∧ b = 62)) ∧ z_R h 61 1 = some a ∧ z_R h 61 2 = some b ∧ (∀ i, i < 156 → z_J h a i = lN (L i)) ∧ z_I h 48 4 = nI t
def g_ML (h : fw_H) (L : Nat → Nat) : Prop := ∀ i, i < 156 → z_A h 89 i = g_n (L i)
section LI
variable {E : z_E} {p q : e_P} {i j k n w m e c t F a b nn N hr pp v : Nat} {h h' g g' : fw_H} {T Wd f : Nat → Int32} {lw : Option (List q_C)} {L B : Nat → Nat} {x y z : Int32}
theorem g_SL.spr (hP : g_SL h L t) : w_spr h := by
  obtain ⟨a, b, hab, p1, p2, -⟩ := hP
  rcases hab with ⟨rfl, rfl⟩ | ⟨rfl, rfl⟩
  · exact .inl ⟨p1, p2⟩
  · exact .inr ⟨p1, p2⟩
theorem g_put_ok {i : Nat} (hB : g_lok n i B) (hk : g_ok n k) (hv : v ≤ i) : g_lok n i (g_put B k v) := by
  intro j
  unfold g_put
  by_cases e : j = k
  · rw [if_pos e]
    exact ⟨fun z => absurd (e ▸ hk) z, .inr (by omega)⟩
  · rw [if_neg e]; exact hB j
theorem g_lieN_ok (hE : E.1 = n) (h12 : n ≤ 12) (ht : t < 24) (hi : i ≤ 100) (hL : g_lok n i L) : ∀ m, g_lok n (i + 1) (g_lieN E t L m)
  | 0 => fun k => ⟨fun _ => rfl, .inl rfl⟩
  | m + 1 => by
    have ih := g_lieN_ok hE h12 ht hi hL m
    show g_lok n (i + 1) (g_lie E t L m (g_lieN E t L m))
    unfold g_lie
    split
    · next h1 =>
      have hm : g_ok n m := Classical.byContradiction fun z => by have := (hL m).1 z; omega
      have hv : L m ≤ i := by rcases (hL m).2 with z | z <;> omega
      have hto : g_ok n (g_to E t m) := g_s_ok (e_go_ok (g_P_ok hm hE ht)) hE h12
      have h2 := g_put_ok ih hto (show L m ≤ i + 1 by omega)
      split
      · exact h2
      · have hn0 : 0 < n := by have := hm.1; omega
        have hk2 : e_ok E ((m / 13 + 3) % E.1, (m / 13, t)) := ⟨by rw [hE]; exact Nat.mod_lt _ hn0, .inr (by rw [hE]; exact hm.1), ht⟩
        exact g_put_ok h2 (g_s_ok (e_go_ok hk2) hE h12) (by omega)
    · exact ih
theorem g_L_ok (hE : E.1 = n) (h12 : n ≤ 12) (hk : e_ok E p) : ∀ i, i ≤ 60 → g_lok n i (g_L E p hr i)
  | 0, _ => fun k => by
    show (¬ g_ok n k → (if k = g_s p then 0 else 1000) = 1000) ∧ ((if k = g_s p then 0 else 1000) = 1000 ∨ (if k = g_s p then 0 else 1000) ≤ 0)
    by_cases e : k = g_s p
    · rw [if_pos e]; exact ⟨fun z => absurd (e ▸ g_s_ok hk hE h12) z, .inr (Nat.le_refl _)⟩
    · rw [if_neg e]; exact ⟨fun _ => rfl, .inl rfl⟩
  | i + 1, hi => g_lieN_ok hE h12 (Nat.mod_lt _ (by decide)) (by omega) (g_L_ok hE h12 hk i (by omega)) 156
theorem g_minJ (ha : a < 2 ^ 31) (hb : b < 2 ^ 31) : fw_minJ (lN a) (lN b) = lN (min a b) := by
  unfold fw_minJ
  by_cases hh : b < a
  · rw [if_pos ((lN_lt hb ha).mpr hh), Nat.min_eq_right (by omega)]
  · rw [if_neg (fun z => hh ((lN_lt hb ha).mp z)), Nat.min_eq_left (by omega)]
/-- Spread.reach -/
theorem z_reach (hF : 70000 ≤ F) (hS : z_Sh h) (hC : z_CW h E) (hp : z_ps h p) (hk : e_ok E p) (hb : b = 62 ∨ b = 63) (h2 : z_R h 61 2 = some b) (hB : ∀ i, i < 156 → z_J h b i = lN (B i)) (hB1 : ∀ i, B i ≤ 1000) (hv : v ≤ 1000) :
    ∃ h', s_Spread_reach F h (some 61) (lN v) = some h' ∧ (g_w h h' ∧ (∀ k, z_R h' 61 k = z_R h 61 k) ∧ (∀ x i, x ≠ b → (x = 62 ∨ x = 63) → z_J h' x i = z_J h x i) ∧ ∀ i, i < 156 → z_J h' b i = lN (g_put B (g_s (e_go E p)) v i)) := by
  obtain ⟨g1, a1, a2, a3⟩ := z_hour hF hS hC hp hk
  have S1 := a2.sh hS
  have hko := e_go_ok hk
  have hE := hC.1.1
  have hlt : g_s (e_go E p) < 156 := g_s_lt hko hE
  have hJ1 : z_J g1 b (g_s (e_go E p)) = lN (B (g_s (e_go E p))) := by rw [a2.1.J (by simp; omega)]; exact hB _ hlt
  unfold s_Spread_reach
  have hB1' := hB1 (g_s (e_go E p))
  rw [z_c61 hS, Option.bind_some, z_r61_0 hS, Option.bind_some, a1, Option.bind_some, z_r61_0 S1, Option.bind_some, z_placeNow S1 a3 hE hko, Option.bind_some, z_r61_2 S1, Option.bind_some, a2.1.R (by decide), h2, Option.bind_some, show nI ((e_go E p).1 * 13 + (e_go E p).2.1) = nI (g_s (e_go E p)) from rfl, z_sget (z_ck62 S1 hb) hlt (by decide), Option.bind_some, hJ1, g_minJ (by omega) (by omega), z_sput (z_ck62 S1 hb) hlt (by decide), Option.bind_some]
  refine ⟨_, rfl, (g_w.ofw a2).trans (g_w.sJ hb), fun k => by rw [z_R_sJ, a2.1.R (by decide)], fun x i hx hx2 => by rw [z_J_sJ_ne hx, a2.1.J (by simp; omega)], fun i hi => ?_⟩
  rw [z_J_sJ (z_ck62 S1 hb)]
  unfold g_put
  by_cases e : i = g_s (e_go E p)
  · rw [if_pos e, if_pos e]
  · rw [if_neg e, if_neg e, a2.1.J (by simp; omega)]; exact hB i hi
theorem z_threeOn (hS : z_Sh h) (h49 : z_I h 49 0 = nI n) (h0 : 0 < n) (h12 : n ≤ 12) (ha : a < 12) : s_Vil_threeOn h (some 49) (nI a) = some (nI ((a + 3) % n)) := by
  unfold s_Vil_threeOn
  rw [z_c49 hS, Option.bind_some, z_i49_0 hS, Option.bind_some, h49, if_neg (nI_nle h0 (by omega)), Option.bind_some, show nI a + (3 : Int32) = nI (a + 3) from nI_add a 3, z_irem (by omega) h0 (by omega)]
  rfl
theorem z_lieL (hF : 70000 ≤ F) (hE : E.1 = n) (h12 : n ≤ 12) (ht : t < 24) (hi : i ≤ 60) (hL : g_lok n i L) (hab : (a = 62 ∧ b = 63) ∨ (a = 63 ∧ b = 62)) {K : fw_H → Option fw_H} :
    ∀ (k j nn : Nat) (g : fw_H), j + k = 156 → k < nn → z_Sh g → z_CW g E → z_R g 61 1 = some a → z_R g 61 2 = some b → (∀ i, i < 156 → z_J g a i = lN (L i)) → (∀ i, i < 156 → z_J g b i = lN (g_lieN E t L j i)) →
    ∃ g', l_Spread_lieHour_20 F (some 61) (nI t) K nn (nI j) g = K g' ∧ (g_w g g' ∧ (∀ k, z_R g' 61 k = z_R g 61 k) ∧ ∀ i, i < 156 → z_J g' b i = lN (g_lieN E t L 156 i)) := by
  have ha : a = 62 ∨ a = 63 := by omega
  have hb : b = 62 ∨ b = 63 := by omega
  have hab' : a ≠ b := by omega
  have hle : ∀ m k, g_lieN E t L m k ≤ 1000 := fun m k => by rcases ((g_lieN_ok hE h12 ht (by omega) hL m) k).2 with z | z <;> omega
  have hleL : ∀ k, L k ≤ 1000 := fun k => by rcases (hL k).2 with z | z <;> omega
  intro k
  induction k with
  | zero =>
    intro j nn g hj hnn hS hC h1 h2 hJa hJb
    obtain ⟨nn, rfl⟩ : ∃ k, nn = k + 1 := ⟨nn - 1, by omega⟩
    obtain rfl : j = 156 := by omega
    refine ⟨g, ?_, g_w.refl, fun _ => rfl, hJb⟩
    rw [l_Spread_lieHour_20, if_pos (by decide)]
  | succ k ih =>
    intro j nn g hj hnn hS hC h1 h2 hJa hJb
    obtain ⟨nn, rfl⟩ : ∃ k, nn = k + 1 := ⟨nn - 1, by omega⟩
    have hLj := hleL j
    rw [l_Spread_lieHour_20, if_neg (show ¬ (156 : Int32) ≤ nI j from nI_ge (b := 156) (by omega) (by decide)), z_r61_1 hS, Option.bind_some, h1, z_sget (z_ck62 hS ha) (show j < 156 by omega) (by decide), Option.bind_some, hJa j (by omega)]
    rw [show nI j + 1 = nI (j + 1) from nI_1 j]
    by_cases h0 : L j < 1000
    · have hjo : g_ok n j := Classical.byContradiction fun z => by have := (hL j).1 z; omega
      have hkP : e_ok E (g_P j t) := g_P_ok hjo hE ht
      have hn0 : 0 < n := by have := hjo.1; omega
      have hLi : L j ≤ i := by rcases (hL j).2 with z | z <;> omega
      rw [if_neg (show ¬ (0 : Int32) ≤ lg_cmp (lN (L j)) (1000 : Int64) from fun z => by have := (q_cge _ _).mp z; have := (lN_le (a := 1000) (by decide) (by omega)).mp this; omega)]
      obtain ⟨g1, a1, a2, a3⟩ := z_walkFrom (k := j) (t := t) hS (by omega)
      have w1 : g_w g g1 := g_w.ofw a2
      have S1 := w1.sh hS
      have r1 : ∀ k, z_R g1 61 k = z_R g 61 k := fun k => a2.1.R (by decide)
      have j1 : ∀ x i, (x = 62 ∨ x = 63) → z_J g1 x i = z_J g x i := fun x i hx => a2.1.J (by simp; omega)
      obtain ⟨g2, b1, b2, b3, b4, b5⟩ := z_reach (b := b) (B := g_lieN E t L j) (v := L j) hF S1 (w1.cw hC) a3 hkP hb ((r1 2).trans h2) (fun i hi => (j1 b i hb).trans (hJb i hi)) (hle j) hLj
      have w2 := w1.trans b2
      have S2 := w2.sh hS
      obtain ⟨g3, c1, c2, c3⟩ := z_walkFrom (k := j) (t := t) S2 (by omega)
      have w3 := w2.trans (g_w.ofw c2)
      have S3 := w3.sh hS
      have r3 : ∀ k, z_R g3 61 k = z_R g 61 k := fun k => by rw [c2.1.R (by decide), b3, r1]
      have j3 : ∀ x i, (x = 62 ∨ x = 63) → z_J g3 x i = z_J g2 x i := fun x i hx => c2.1.J (by simp; omega)
      have h493 : z_I g3 49 0 = nI n := by rw [w3.1.I (by decide), ← hE]; exact hC.2.1
      rw [a1, Option.bind_some, b1, Option.bind_some, c1, Option.bind_some, z_r61_0 S3, Option.bind_some, z_i48_2 S3, Option.bind_some, c3.1, Option.bind_some, z_r48_0 S3, Option.bind_some, show (g_P j t).1 = j / 13 from rfl, z_threeOn S3 h493 hn0 h12 (by have := hjo.1; omega), Option.bind_some]
      have hj13 : j / 13 < n := hjo.1
      have hm3 : (j / 13 + 3) % n < n := Nat.mod_lt _ hn0
      by_cases h3 : (j / 13 + 3) % n = j / 13
      · rw [if_pos (by rw [h3])]
        obtain ⟨g5, d1, d2, d3, d4⟩ := ih (j + 1) nn g3 (by omega) (by omega) S3 (w3.cw hC) ((r3 1).trans h1) ((r3 2).trans h2) (fun i hi => by rw [j3 a i ha, b4 a i hab' ha, j1 a i ha]; exact hJa i hi) (fun i hi => by
          rw [j3 b i hb, b5 i hi]
          show _ = lN (g_lie E t L j (g_lieN E t L j) i)
          unfold g_lie
          rw [if_pos h0, hE, if_pos h3]
          rfl)
        exact ⟨g5, d1, w3.trans d2, fun k => (d3 k).trans (r3 k), d4⟩
      · have hk2 : e_ok E ((j / 13 + 3) % n, (j / 13, t)) := ⟨by rw [hE]; exact hm3, .inr (by rw [hE]; exact hj13), ht⟩
        obtain ⟨g4, d1, d2, d3⟩ := z_standAt (p := ((j / 13 + 3) % n, (j / 13, t))) S3
        have w4 := w3.trans (g_w.ofw d2)
        have S4 := w4.sh hS
        have r4 : ∀ k, z_R g4 61 k = z_R g 61 k := fun k => by rw [d2.1.R (by decide), r3]
        have j4 : ∀ x i, (x = 62 ∨ x = 63) → z_J g4 x i = z_J g3 x i := fun x i hx => d2.1.J (by simp; omega)
        obtain ⟨g5, f1, f2, f3, f4, f5⟩ := z_reach (b := b) (B := g_put (g_lieN E t L j) (g_to E t j) (L j)) (v := L j + 1) hF S4 (w4.cw hC) d3 hk2 hb ((r4 2).trans h2) (fun i hi => by rw [j4 b i hb, j3 b i hb]; exact b5 i hi) (fun i => by unfold g_put; split; omega; exact hle j i) (by omega)
        have w5 := w4.trans f2
        have S5 := w5.sh hS
        have d1' : s_Walk_standAt g3 (some 48) (nI ((j / 13 + 3) % n)) (nI (j / 13)) (nI t) = some g4 := by
          rw [← d1]; show _ = s_Walk_standAt g3 (some 48) (nI ((j / 13 + 3) % n)) (z_b (j / 13)) (nI t); rw [z_bn (by omega)]
        rw [if_neg (fun z => h3 ((nI_eq (by omega) (by omega)).mp z)), Option.bind_some, d1', Option.bind_some, show lN (L j) + (1 : Int64) = lN (L j + 1) from lN_1 _, f1, Option.bind_some]
        obtain ⟨g6, e1, e2, e3, e4⟩ := ih (j + 1) nn g5 (by omega) (by omega) S5 (w5.cw hC) (by rw [f3, r4]; exact h1) (by rw [f3, r4]; exact h2) (fun i hi => by rw [f4 a i hab' ha, j4 a i ha, j3 a i ha, b4 a i hab' ha, j1 a i ha]; exact hJa i hi) (fun i hi => by
          rw [f5 i hi]
          show _ = lN (g_lie E t L j (g_lieN E t L j) i)
          unfold g_lie
          rw [if_pos h0, hE, if_neg h3])
        exact ⟨g6, e1, w5.trans e2, fun k => by rw [e3, f3, r4], e4⟩
    · have hj1000 : L j = 1000 := by omega
      rw [hj1000, if_pos (show (0 : Int32) ≤ lg_cmp (lN 1000) (1000 : Int64) by decide)]
      exact ih (j + 1) nn g (by omega) (by omega) hS hC h1 h2 hJa (fun i hi => by rw [hJb i hi]; show _ = lN (g_lie E t L j _ i); unfold g_lie; rw [if_neg h0])
/-- Spread.lieHour -/
theorem z_lieHour (hF : 70000 ≤ F) (hE : E.1 = n) (h12 : n ≤ 12) (ht : t < 24) (hi : i ≤ 60) (hL : g_lok n i L) (hS : z_Sh h) (hC : z_CW h E) (hP : g_SL h L t) :
    ∃ h', s_Spread_lieHour F h (some 61) = some h' ∧ (g_w h h' ∧ g_SL h' (g_lieN E t L 156) ((t + 1) % 24)) := by
  obtain ⟨a, b, hab, p1, p2, p3, p4⟩ := hP
  have ha : a = 62 ∨ a = 63 := by omega
  have hb : b = 62 ∨ b = 63 := by omega
  have hab' : a ≠ b := by omega
  obtain ⟨g1, a1, a2, a3⟩ := z_fillJ (y := 1000) (F := F) (h := h) (b := b) (n := 156) hF (by decide) (z_ck62 hS hb)
  have hb' : ∀ j, j ∈ [b] → j ∈ [48, 61, 62, 63] := by simp; omega
  have w1 : g_w h g1 := ⟨a2.mono hb', fun k _ _ _ => a2.I (by simp; omega), fun k => a2.R (by simp; omega)⟩
  have S1 := w1.sh hS
  unfold s_Spread_lieHour
  rw [z_c61 hS, Option.bind_some, z_r61_0 hS, Option.bind_some, z_i48_4 hS, Option.bind_some, p4, z_r61_2 hS, Option.bind_some, p2, a1, Option.bind_some]
  refine z_k (z_lieL (n := n) hF hE h12 ht hi hL hab 156 0 F g1 (by omega) (by omega) S1 (w1.cw hC) (by rw [a2.R (by simp; omega)]; exact p1) (by rw [a2.R (by simp; omega)]; exact p2) (fun i hi => by rw [a2.J (by simpa using hab')]; exact p3 i hi) (fun i hi => a3 i hi)) fun g2 ⟨b1, b2, b3⟩ => ?_
  have w2 := w1.trans b1
  have S2 := w2.sh hS
  have S3 : z_Sh (z_sI g2 48 4 (nI ((t + 1) % 24))) := z_Sh_sI S2
  rw [z_r61_0 S2, Option.bind_some, nI_1, show (24 : Int32) = nI 24 from rfl, z_irem (by omega) (by decide) (by decide), Option.bind_some, z_w48_4 S2, Option.bind_some]
  obtain ⟨g4, d1, d2, d3, d4⟩ := z_turnOver (a := a) (b := b) S3 (by rw [z_R_sI, b2, a2.R (by simp; omega)]; exact p1) (by rw [z_R_sI, b2, a2.R (by simp; omega)]; exact p2)
  rw [d1, Option.bind_some]
  refine ⟨g4, rfl, (w2.trans (g_w.ofw (z_w.s2 (by omega)))).trans ⟨d2.mono (by simp), fun k _ _ _ => d2.I (by decide), fun k => d2.R (by decide)⟩, b, a, by omega, d3, d4, fun i hi => ?_, ?_⟩
  · rw [d2.J (by simp; omega), z_J_sI]; exact b3 i hi
  · rw [d2.I (by decide), z_II S2 9 rfl]
theorem z_liesC (hF : 70000 ≤ F) (hE : E.1 = n) (h12 : n ≤ 12) (hk : e_ok E p) (hN : N ≤ 30) {K : fw_H → Option (Int32 × fw_H)} :
    ∀ (k i nn : Nat) (g : fw_H), i + k = N → k < nn → z_Sh g → z_CW g E → g_SL g (g_L E p hr i) ((hr + i) % 24) →
    ∃ g', l_Spread_fewestLies_10 F (some 61) (nI N) K nn (nI i) g = K g' ∧ (g_w g g' ∧ g_SL g' (g_L E p hr N) ((hr + N) % 24)) := by
  intro k
  induction k with
  | zero =>
    intro i nn g hi hnn hS hC hP
    obtain ⟨nn, rfl⟩ : ∃ k, nn = k + 1 := ⟨nn - 1, by omega⟩
    obtain rfl : i = N := by omega
    refine ⟨g, ?_, g_w.refl, hP⟩
    rw [l_Spread_fewestLies_10, if_pos (nI_le (Nat.le_refl _) (by omega))]
  | succ k ih =>
    intro i nn g hi hnn hS hC hP
    obtain ⟨nn, rfl⟩ : ∃ k, nn = k + 1 := ⟨nn - 1, by omega⟩
    obtain ⟨g1, a1, a2, a3⟩ := z_lieHour hF hE h12 (Nat.mod_lt _ (by decide)) (show i ≤ 60 by omega) (g_L_ok hE h12 hk i (by omega)) hS hC hP
    rw [l_Spread_fewestLies_10, if_neg (nI_ge (by omega) (by omega)), a1, Option.bind_some, show nI i + 1 = nI (i + 1) from nI_1 i]
    obtain ⟨g2, b1, b2, b3⟩ := ih (i + 1) nn g1 (by omega) (by omega) (a2.sh hS) (a2.cw hC) (by rw [← g_mod]; exact a3)
    exact ⟨g2, b1, a2.trans b2, b3⟩
theorem g_min_le : ∀ j, g_min L a j ≤ 1000
  | 0 => Nat.le_refl _
  | j + 1 => Nat.le_trans (Nat.min_le_left _ _) (g_min_le j)
theorem z_minC (hS : z_Sh h) (hP : g_SL h L t) (hL : ∀ k, L k ≤ 1000) (ha : a < 12) {K : Int64 → Option (Int32 × fw_H)} : ∀ (k j nn : Nat), j + k = 13 → k < nn → l_Spread_fewestLies_32 (some 61) (nI a) h K nn (lN (g_min L a j)) (nI j) = K (lN (g_min L a 13)) := by
  obtain ⟨x, y, hxy, p1, p2, p3, p4⟩ := hP
  have hx : x = 62 ∨ x = 63 := by omega
  intro k
  induction k with
  | zero =>
    intro j nn hj hnn
    obtain ⟨nn, rfl⟩ : ∃ k, nn = k + 1 := ⟨nn - 1, by omega⟩
    obtain rfl : j = 13 := by omega
    rw [l_Spread_fewestLies_32, if_pos (by decide)]
  | succ k ih =>
    intro j nn hj hnn
    obtain ⟨nn, rfl⟩ : ∃ k, nn = k + 1 := ⟨nn - 1, by omega⟩
    have h1 := g_min_le (L := L) (a := a) j
    have h2 := hL (13 * a + j)
    rw [l_Spread_fewestLies_32, if_neg (show ¬ (12 : Int32) < nI j from nI_nlt (a := 12) (by omega) (by decide)), z_r61_1 hS, Option.bind_some, p1, show nI a * (13 : Int32) + nI j = nI (13 * a + j) by rw [show (13 : Int32) = nI 13 from rfl, pk_mul, nI_add, Nat.mul_comm], z_sget (z_ck62 hS hx) (show 13 * a + j < 156 by omega) (by decide), Option.bind_some, p3 _ (by omega), g_minJ (by omega) (by omega), show nI j + 1 = nI (j + 1) from nI_1 j]
    exact ih (j + 1) nn (by omega) (by omega)
end LI
