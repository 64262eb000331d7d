-- FOG'S PARTS: an hour of them as numbers; both sides do it
def g_s (p : e_P) : Nat := p.1 * 13 + p.2.1
def g_P (k t : Nat) : e_P := (k / 13, (k % 13, t))
def g_to (E : z_E) (t k : Nat) : Nat := g_s (e_go E (g_P k t))
def g_ok (n k : Nat) : Prop := k / 13 < n ∧ (k % 13 = 12 ∨ k % 13 < n)
def g_fog (E : z_E) (t : Nat) (ch : Int64) (A : Nat → Int64) (k : Nat) (B : Nat → Int64) : Nat → Int64 :=
  if A k ≤ 0 then B else vp_updL (vp_updL B k (B k + A k * ch / 100)) (g_to E t k) (vp_updL B k (B k + A k * ch / 100) (g_to E t k) + (A k - A k * ch / 100))
def g_fogN (E : z_E) (t : Nat) (ch : Int64) (A : Nat → Int64) : Nat → Nat → Int64
  | 0 => fun _ => 0
  | k + 1 => g_fog E t ch A k (g_fogN E t ch A k)
/-- the parts' sum, 13 places from 13 a on -/
def g_sum (A : Nat → Int64) (a : Nat) : Nat → Int64
  | 0 => 0
  | k + 1 => g_sum A a k + A (13 * a + k)
/-- the class's Spread holds A; the time is t -/
def g_SP (h : fw_H) (A : Nat → Int64) (t : Nat) : Prop := ∃ a b, ((a = 62 ∧ b = 63) ∨ (a = 63 ∧ b = 62)) ∧ z_R h 61 1 = some a ∧ z_R h 61 2 = some b ∧ (∀ i, i < 156 → z_J h a i = A i) ∧ z_I h 48 4 = nI t
/-- nothing but the walk's place and the Spread's rows -/
def g_w (h h' : fw_H) : Prop := z_fr [48, 61, 62, 63] h h' ∧ (∀ k, k ≠ 2 → k ≠ 3 → k ≠ 4 → z_I h' 48 k = z_I h 48 k) ∧ ∀ k, z_R h' 48 k = z_R h 48 k
section FG
variable {E : z_E} {p q : e_P} {i j k n w m e c t F a b nn : Nat} {h h' g g' : fw_H} {T Wd f : Nat → Int32} {lw : Option (List q_C)} {A B : Nat → Int64} {ch v : Int64}
theorem g_w.refl : g_w h h := ⟨z_fr.refl, fun _ _ _ _ => rfl, fun _ => rfl⟩
theorem g_w.trans {h'' : fw_H} (h1 : g_w h h') (h2 : g_w h' h'') : g_w h h'' := ⟨h1.1.trans h2.1, fun k a b c => (h2.2.1 k a b c).trans (h1.2.1 k a b c), fun k => (h2.2.2 k).trans (h1.2.2 k)⟩
theorem g_w.sh (h1 : g_w h h') (hS : z_Sh h) : z_Sh h' := hS.fr h1.1 (by decide)
theorem g_w.cw (h1 : g_w h h') (hC : z_CW h E) : z_CW h' E := hC.of h1.1 (by decide) (h1.2.1 5 (by decide) (by decide) (by decide)) (h1.2.1 6 (by decide) (by decide) (by decide))
theorem g_w.ofw (h1 : z_w h h') : g_w h h' := ⟨h1.1.mono (by simp), h1.2.1, h1.2.2⟩
theorem g_w.sJ (hb : b = 62 ∨ b = 63) : g_w h (z_sJ h b i v) := ⟨z_fr.refl.sJ (by simp; omega), fun _ _ _ _ => z_I_sJ, fun _ => z_R_sJ⟩
theorem g_s_lt (h : e_ok E p) (hE : E.1 ≤ 12) : g_s p < 156 := by
  obtain ⟨a, b, c⟩ := h
  unfold g_s
  omega
theorem g_P_ok (hk : g_ok n k) (hE : E.1 = n) (ht : t < 24) : e_ok E (g_P k t) := by
  obtain ⟨a, b⟩ := hk
  exact ⟨hE ▸ a, hE ▸ b, ht⟩
theorem g_s_ok (h : e_ok E p) (hE : E.1 = n) (h12 : n ≤ 12) : g_ok n (g_s p) := by
  obtain ⟨a, b, c⟩ := h
  unfold g_ok g_s
  omega
theorem g_fogN_ok (hE : E.1 = n) (h12 : n ≤ 12) (ht : t < 24) (hA : ∀ k, ¬ g_ok n k → A k = 0) : ∀ (m k : Nat), ¬ g_ok n k → g_fogN E t ch A m k = 0
  | 0, _, _ => rfl
  | m + 1, k, hk => by
    have ih := g_fogN_ok hE h12 ht hA m
    show g_fog E t ch A m (g_fogN E t ch A m) k = 0
    unfold g_fog
    split
    · exact ih k hk
    · next h1 =>
      have hm : g_ok n m := Classical.byContradiction fun z => h1 (by rw [hA m z]; decide)
      have hto : g_ok n (g_to E t m) := g_s_ok (e_go_ok (g_P_ok hm hE ht)) hE h12
      rw [pk_uLn (fun z => hk (by rw [z]; exact hto)), pk_uLn (fun z => hk (by rw [z]; exact hm))]
      exact ih k hk
theorem z_sget {N : Nat} (e : z_ck h a = some (2, (N, []))) (hi : i < N) (hn : N < 2 ^ 31) : s_Spread_get h (some a) (nI i) = some (z_J h a i) := by
  unfold s_Spread_get
  rw [if_neg (by simp), if_neg (nI_pos (by omega)), z_lnJ e, Option.bind_some, if_neg (nI_ge hi hn), z_aJ e hi (by omega)]
  rfl
theorem z_sput {N : Nat} (e : z_ck h a = some (2, (N, []))) (hi : i < N) (hn : N < 2 ^ 31) : s_Spread_put h (some a) (nI i) v = some (z_sJ h a i v) := by
  unfold s_Spread_put
  rw [if_neg (by simp), if_neg (nI_pos (by omega)), z_lnJ e, Option.bind_some, if_neg (nI_ge hi hn), z_sJx e hi (by omega)]
  rfl
theorem z_ck62 (hS : z_Sh h) (hb : b = 62 ∨ b = 63) : z_ck h b = some (2, (156, [])) := by
  rcases hb with rfl | rfl
  · exact z_ckT hS rfl
  · exact z_ckT hS rfl
/-- Spread.walkFrom -/
theorem z_walkFrom (hS : z_Sh h) (hk : k < 156) : ∃ h', s_Spread_walkFrom h (some 61) (nI k) (nI t) = some h' ∧ (z_w h h' ∧ z_ps h' (g_P k t)) := by
  obtain ⟨g, a1, a2⟩ := z_standAt (p := g_P k t) hS
  unfold s_Spread_walkFrom
  rw [z_c61 hS, Option.bind_some, show (13 : Int32) = nI 13 from rfl, z_irem (by omega) (by decide) (by decide), Option.bind_some, z_r61_0 hS, Option.bind_some, z_idiv (by omega) (by decide) (by decide), Option.bind_some]
  by_cases h12 : k % 13 = 12
  · rw [if_neg (by rw [h12]; decide)]
    have e : s_Walk_standAt h (some 48) (nI (k / 13)) (-1 : Int32) (nI t) = some g := by
      rw [← a1]; show _ = s_Walk_standAt h (some 48) (nI (k / 13)) (z_b (k % 13)) (nI t); rw [h12]; rfl
    rw [e]
    exact ⟨g, rfl, a2⟩
  · rw [if_pos (show ¬ nI (k % 13) = (12 : Int32) from fun z => h12 ((nI_eq (b := 12) (by omega) (by decide)).mp z))]
    have e : s_Walk_standAt h (some 48) (nI (k / 13)) (nI (k % 13)) (nI t) = some g := by
      rw [← a1]; show _ = s_Walk_standAt h (some 48) (nI (k / 13)) (z_b (k % 13)) (nI t); rw [z_bn h12]
    rw [e]
    exact ⟨g, rfl, a2⟩
theorem z_turnOver (hS : z_Sh h) (h1 : z_R h 61 1 = some a) (h2 : z_R h 61 2 = some b) : ∃ h', s_Spread_turnOver h (some 61) = some h' ∧ (z_fr [61] h h' ∧ z_R h' 61 1 = some b ∧ z_R h' 61 2 = some a) := by
  unfold s_Spread_turnOver
  rw [z_c61 hS, Option.bind_some, z_r61_1 hS, Option.bind_some, h1, z_r61_2 hS, Option.bind_some, h2, z_pRS hS (x := 2) rfl (by decide) rfl, Option.bind_some, z_pRS (z_Sh_sR hS) (x := 2) rfl (by decide) rfl, Option.bind_some]
  obtain ⟨ks, k1, k2⟩ := z_fkT (a := 61) (c := 5) (k := 1) (x := 2) rfl
  obtain ⟨ks', k1', k2'⟩ := z_fkT (a := 61) (c := 5) (k := 2) (x := 2) rfl
  refine ⟨_, rfl, (z_fr.refl.sR (by simp)).sR (by simp), ?_, ?_⟩
  · rw [z_R_sR_nk (by decide), z_R_sR (z_ckT hS k1) k2 (by decide) rfl]
  · rw [z_R_sR (z_ckT (z_Sh_sR hS) k1') k2' (by decide) rfl]
theorem g_sub (x y z : Int64) : (x + y) - z = x + (y - z) := by rw [Int64.sub_eq_add_neg, Int64.sub_eq_add_neg, Int64.add_assoc]
theorem g_div (x : Int64) : f_ldiv x (100 : Int64) = some (x / 100) := by unfold f_ldiv; rw [if_neg (by decide)]
theorem z_fogL (hF : 70000 ≤ F) (hE : E.1 = n) (h12 : n ≤ 12) (ht : t < 24) (hA : ∀ k, ¬ g_ok n k → A k = 0) (hab : (a = 62 ∧ b = 63) ∨ (a = 63 ∧ b = 62)) {K : fw_H → Option fw_H} (hc : ch = (nI c).toInt64) :
    ∀ (k j nn : Nat) (g : fw_H), j + k = 156 → k < nn → z_Sh g → z_CW g E → z_R g 61 1 = some a → z_R g 61 2 = some b → (∀ i, i < 156 → z_J g a i = A i) → (∀ i, i < 156 → z_J g b i = g_fogN E t ch A j i) →
    ∃ g', l_Spread_fogHour_18 F (some 61) (nI c) (nI t) K nn (nI j) g = K g' ∧ (g_w g g' ∧ (∀ k, z_R g' 61 k = z_R g 61 k) ∧ ∀ i, i < 156 → z_J g' b i = g_fogN E t ch A 156 i) := by
  have hab' : a ≠ b := by omega
  have ha : a = 62 ∨ a = 63 := by omega
  have hb : b = 62 ∨ b = 63 := by omega
  intro k
  induction k with
  | zero =>
    intro j nn g hj hnn hS hC h1 h2 hJa hJb
    obtain ⟨nn, rfl⟩ : ∃ k, nn = k + 1 := ⟨nn - 1, by omega⟩
    obtain rfl : j = 156 := by omega
    refine ⟨g, ?_, g_w.refl, fun _ => rfl, hJb⟩
    rw [l_Spread_fogHour_18, if_pos (by decide)]
  | succ k ih =>
    intro j nn g hj hnn hS hC h1 h2 hJa hJb
    obtain ⟨nn, rfl⟩ : ∃ k, nn = k + 1 := ⟨nn - 1, by omega⟩
    rw [l_Spread_fogHour_18, if_neg (show ¬ (156 : Int32) ≤ nI j from nI_ge (b := 156) (by omega) (by decide)), z_r61_1 hS, Option.bind_some, h1, z_sget (z_ck62 hS ha) (show j < 156 by omega) (by decide), Option.bind_some, hJa j (by omega)]
    rw [show nI j + 1 = nI (j + 1) from nI_1 j]
    by_cases h0 : A j ≤ 0
    · rw [if_pos ((q_cle _ _).mpr h0)]
      exact ih (j + 1) nn g (by omega) (by omega) hS hC h1 h2 hJa (fun i hi => by rw [hJb i hi]; show _ = g_fog E t ch A j _ i; unfold g_fog; rw [if_pos h0])
    · have hjo : g_ok n j := Classical.byContradiction fun z => h0 (by rw [hA j z]; decide)
      have hkP : e_ok E (g_P j t) := g_P_ok hjo hE ht
      have hko : e_ok E (e_go E (g_P j t)) := e_go_ok hkP
      have hlt : g_to E t j < 156 := g_s_lt hko (hE ▸ h12)
      obtain ⟨g1, hg1⟩ : ∃ g1, g1 = z_sJ g b j (z_J g b j + A j * ch / 100) := ⟨_, rfl⟩
      have w1 : g_w g g1 := by rw [hg1]; exact g_w.sJ hb
      have S1 := w1.sh hS
      obtain ⟨g2, a1, a2, a3⟩ := z_walkFrom (k := j) (t := t) S1 (by omega)
      have w2 : g_w g g2 := w1.trans (g_w.ofw a2)
      have S2 := w2.sh hS
      obtain ⟨g3, b1, b2, b3⟩ := z_hour hF S2 (w2.cw hC) a3 hkP
      have w3 : g_w g g3 := w2.trans (g_w.ofw b2)
      have S3 := w3.sh hS
      have r3 : ∀ k, z_R g3 61 k = z_R g 61 k := fun k => by rw [b2.1.R (by decide), a2.1.R (by decide), hg1, z_R_sJ]
      have j3 : ∀ x i, z_J g3 x i = z_J g1 x i := fun x i => by
        by_cases hx : x = 48
        · have e48 : ∀ g0 : fw_H, z_Sh g0 → z_J g0 48 i = 0 := by
            intro g0 hg0
            obtain ⟨fs, q1, -⟩ := z_obj (z_ckT (a := 48) hg0 rfl)
            unfold z_J
            rw [q1]
          rw [hx, e48 g3 S3, e48 g1 S1]
        · rw [b2.1.J (by simpa using hx), a2.1.J (by simpa using hx)]
      rw [if_neg (fun z => h0 ((q_cle _ _).mp z)), ← hc, g_div, Option.bind_some, z_r61_2 hS, Option.bind_some, h2, Option.bind_some, z_sget (z_ck62 hS hb) (show j < 156 by omega) (by decide), Option.bind_some, z_sput (z_ck62 hS hb) (show j < 156 by omega) (by decide), Option.bind_some, ← hg1, a1, Option.bind_some, z_r61_0 S2, Option.bind_some, b1, Option.bind_some, z_r61_0 S3, Option.bind_some, z_placeNow S3 b3 (hE ▸ h12) hko, Option.bind_some, z_r61_2 S3, Option.bind_some, r3, h2, Option.bind_some]
      rw [show nI ((e_go E (g_P j t)).1 * 13 + (e_go E (g_P j t)).2.1) = nI (g_to E t j) from rfl, z_sget (z_ck62 S3 hb) hlt (by decide), Option.bind_some, z_sput (z_ck62 S3 hb) hlt (by decide), Option.bind_some]
      have w4 : g_w g (z_sJ g3 b (g_to E t j) (z_J g3 b (g_to E t j) + A j - A j * ch / 100)) := w3.trans (g_w.sJ hb)
      obtain ⟨g5, d1, d2, d3, d4⟩ := ih (j + 1) nn _ (by omega) (by omega) (w4.sh hS) (w4.cw hC) (by rw [z_R_sJ, r3]; exact h1) (by rw [z_R_sJ, r3]; exact h2) (fun i hi => by rw [z_J_sJ_ne hab', j3, hg1, z_J_sJ_ne hab']; exact hJa i hi) (fun i hi => by
        rw [z_J_sJ (z_ck62 S3 hb), g_sub, j3, j3, hg1, z_J_sJ (z_ck62 hS hb), z_J_sJ (z_ck62 hS hb), hJb j (by omega), hJb i hi, hJb _ hlt]
        show _ = g_fog E t ch A j _ i
        unfold g_fog
        rw [if_neg h0]
        rfl)
      exact ⟨g5, d1, w4.trans d2, fun k => by rw [d3, z_R_sJ, r3], d4⟩
/-- Spread.fogHour -/
theorem z_fogHour (hF : 70000 ≤ F) (hE : E.1 = n) (h12 : n ≤ 12) (ht : t < 24) (hA : ∀ k, ¬ g_ok n k → A k = 0) (hc : ch = (nI c).toInt64) (hS : z_Sh h) (hC : z_CW h E) (hP : g_SP h A t) :
    ∃ h', s_Spread_fogHour F h (some 61) (nI c) = some h' ∧ (g_w h h' ∧ g_SP h' (g_fogN E t ch A 156) ((t + 1) % 24)) := by
  obtain ⟨a, b, hab, p1, p2, p3, p4⟩ := hP
  have ha : a = 62 ∨ a = 63 := by omega
  have hb : b = 62 ∨ b = 63 := by omega
  have hab' : a ≠ b := by omega
  obtain ⟨g1, a1, a2, a3⟩ := z_fillJ (y := 0) (F := F) (h := h) (b := b) (n := 156) hF (by decide) (z_ck62 hS hb)
  have hb' : ∀ j, j ∈ [b] → j ∈ [48, 61, 62, 63] := by simp; omega
  have w1 : g_w h g1 := ⟨a2.mono hb', fun k _ _ _ => a2.I (by simp; omega), fun k => a2.R (by simp; omega)⟩
  have S1 := w1.sh hS
  unfold s_Spread_fogHour
  rw [z_c61 hS, Option.bind_some, z_r61_0 hS, Option.bind_some, z_i48_4 hS, Option.bind_some, p4, z_r61_2 hS, Option.bind_some, p2, a1, Option.bind_some]
  refine z_k (z_fogL (n := n) hF hE h12 ht hA hab hc 156 0 F g1 (by omega) (by omega) S1 (w1.cw hC) (by rw [a2.R (by simp; omega)]; exact p1) (by rw [a2.R (by simp; omega)]; exact p2) (fun i hi => by rw [a2.J (by simpa using hab')]; exact p3 i hi) (fun i hi => a3 i hi)) fun g2 ⟨b1, b2, b3⟩ => ?_
  have w2 := w1.trans b1
  have S2 := w2.sh hS
  have S3 : z_Sh (z_sI g2 48 4 (nI ((t + 1) % 24))) := z_Sh_sI S2
  rw [z_r61_0 S2, Option.bind_some, nI_1, show (24 : Int32) = nI 24 from rfl, z_irem (by omega) (by decide) (by decide), Option.bind_some, z_w48_4 S2, Option.bind_some]
  obtain ⟨g4, d1, d2, d3, d4⟩ := z_turnOver (a := a) (b := b) S3 (by rw [z_R_sI, b2, a2.R (by simp; omega)]; exact p1) (by rw [z_R_sI, b2, a2.R (by simp; omega)]; exact p2)
  rw [d1, Option.bind_some]
  refine ⟨g4, rfl, (w2.trans (g_w.ofw (z_w.s2 (by omega)))).trans ⟨d2.mono (by simp), fun k _ _ _ => d2.I (by decide), fun k => d2.R (by decide)⟩, b, a, by omega, d3, d4, fun i hi => ?_, ?_⟩
  · rw [d2.J (by simp; omega), z_J_sI]; exact b3 i hi
  · rw [d2.I (by decide), z_II S2 9 rfl]
/-- the parts of a house -/
theorem z_partsL (hS : z_Sh h) (hP : g_SP h A t) (ha : a < 12) : ∀ (k j nn : Nat), j + k = 13 → k < nn → l_Spread_partsOf_5 h (some 61) (nI a) nn (g_sum A a j) (nI j) = some (g_sum A a 13) := by
  obtain ⟨x, y, hxy, p1, p2, p3, p4⟩ := hP
  have hx : x = 62 ∨ x = 63 := by omega
  intro k
  induction k with
  | zero =>
    intro j nn hj hnn
    obtain ⟨nn, rfl⟩ : ∃ k, nn = k + 1 := ⟨nn - 1, by omega⟩
    obtain rfl : j = 13 := by omega
    rw [l_Spread_partsOf_5, if_pos (by decide)]
  | succ k ih =>
    intro j nn hj hnn
    obtain ⟨nn, rfl⟩ : ∃ k, nn = k + 1 := ⟨nn - 1, by omega⟩
    rw [l_Spread_partsOf_5, if_neg (show ¬ (12 : Int32) < nI j from nI_nlt (a := 12) (by omega) (by decide)), z_r61_1 hS, Option.bind_some, p1, show nI a * (13 : Int32) + nI j = nI (13 * a + j) by rw [show (13 : Int32) = nI 13 from rfl, pk_mul, nI_add, Nat.mul_comm], z_sget (z_ck62 hS hx) (show 13 * a + j < 156 by omega) (by decide), Option.bind_some, p3 _ (by omega), show nI j + 1 = nI (j + 1) from nI_1 j]
    exact ih (j + 1) nn (by omega) (by omega)
theorem z_partsOf (hF : 70000 ≤ F) (hS : z_Sh h) (hP : g_SP h A t) (ha : a < 12) : s_Spread_partsOf F h (some 61) (nI a) = some (g_sum A a 13) := by
  unfold s_Spread_partsOf
  rw [z_c61 hS, Option.bind_some]
  exact z_partsL hS hP ha 13 0 F (by omega) (by omega)
/-- Spread.begin -/
theorem z_begin {x y : Int64} (hF : 70000 ≤ F) (hS : z_Sh h) (hspr : w_spr h) (hp : z_ps h p) (hE : E.1 ≤ 12) (hk : e_ok E p) : ∃ h', s_Spread_begin F h (some 61) x y = some h' ∧ (g_w h h' ∧ g_SP h' (vp_updL (fun _ => x) (g_s p) y) p.2.2) := by
  obtain ⟨a, b, hab, p1, p2⟩ : ∃ a b, ((a = 62 ∧ b = 63) ∨ (a = 63 ∧ b = 62)) ∧ z_R h 61 1 = some a ∧ z_R h 61 2 = some b := by
    rcases hspr with ⟨x1, x2⟩ | ⟨x1, x2⟩
    · exact ⟨62, 63, .inl ⟨rfl, rfl⟩, x1, x2⟩
    · exact ⟨63, 62, .inr ⟨rfl, rfl⟩, x1, x2⟩
  have ha : a = 62 ∨ a = 63 := by omega
  obtain ⟨g1, a1, a2, a3⟩ := z_fillJ (y := x) (F := F) (h := h) (b := a) (n := 156) hF (by decide) (z_ck62 hS ha)
  have ha' : ∀ j, j ∈ [a] → j ∈ [48, 61, 62, 63] := by simp; omega
  have w1 : g_w h g1 := ⟨a2.mono ha', fun k _ _ _ => a2.I (by simp; omega), fun k => a2.R (by simp; omega)⟩
  have S1 := w1.sh hS
  have P1 : z_ps g1 p := ⟨by rw [a2.I (by simp; omega)]; exact hp.1, by rw [a2.I (by simp; omega)]; exact hp.2.1, by rw [a2.I (by simp; omega)]; exact hp.2.2⟩
  have hlt : g_s p < 156 := g_s_lt hk hE
  unfold s_Spread_begin
  rw [z_c61 hS, Option.bind_some, z_r61_1 hS, Option.bind_some, p1, a1, Option.bind_some, z_r61_1 S1, Option.bind_some, a2.R (by simp; omega), p1, z_r61_0 S1, Option.bind_some, z_placeNow S1 P1 hE hk, Option.bind_some, show nI (p.1 * 13 + p.2.1) = nI (g_s p) from rfl, z_sput (z_ck62 S1 ha) hlt (by decide), Option.bind_some]
  refine ⟨_, rfl, w1.trans (g_w.sJ ha), a, b, hab, by rw [z_R_sJ, a2.R (by simp; omega)]; exact p1, by rw [z_R_sJ, a2.R (by simp; omega)]; exact p2, fun i hi => ?_, by rw [z_I_sJ]; exact P1.2.2⟩
  rw [z_J_sJ (z_ck62 S1 ha), a3 i hi]
  rfl
end FG
