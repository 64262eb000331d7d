-- CALLS (6): pretend, rests
section C6
variable {E E' : z_E} {p q : e_P} {i j k n w m m' e c d t F a b nn N hr pp v : Nat} {h h' g g' : fw_H} {T Wd f f' : Nat → Int32} {lw : Option (List q_C)} {op : Nat → Bool} {x y z u : Int32}
theorem z_mareTwo (hS : z_Sh h) (hn : z_I h 68 24 = nI n) (h12 : n ≤ 12) : s_Mod_areTwo h (some 68) x y = some (v_in x n && (v_in y n && !decide (x = y))) := by
  unfold s_Mod_areTwo
  rw [z_c68 hS, Option.bind_some, z_isHouse hS hn h12, Option.bind_some]
  cases h1 : v_in x n
  · rfl
  · rw [if_pos rfl, z_isHouse hS hn h12, Option.bind_some]
    cases h2 : v_in y n
    · rfl
    · rw [if_pos rfl]
      by_cases e : x = y
      · rw [if_pos e]; simp [e]
      · rw [if_neg e]; simp [e]
theorem v_two (h : (v_in x n && (v_in y n && !decide (x = y))) = true) (hn : n < 2 ^ 31) : ∃ a b, a < n ∧ b < n ∧ a ≠ b ∧ x = nI a ∧ y = nI b := by
  simp only [Bool.and_eq_true, Bool.not_eq_true', decide_eq_false_iff_not] at h
  obtain ⟨a, ha, rfl⟩ := v_in_t h.1 hn
  obtain ⟨b, hb, rfl⟩ := v_in_t h.2.1 hn
  exact ⟨a, b, ha, hb, fun z => h.2.2 (by rw [z]), rfl, rfl⟩
/-- what the class's trials need, at a walk's beginning -/
theorem w_trial (hF : 70000 ≤ F) (hR : w_S h n w T Wd f lw pp) (h0 : 0 < n) : ∃ m h1, m < 2 ^ 12 ∧ z_MB f n m ∧ s_Joy_startWalk F h (some 15) = some h1 ∧ w_k h h1 ∧ w_S h1 n w T Wd f lw pp ∧ g_W h1 n w T Wd f lw ∧ z_I h1 49 7 = nI m := by
  obtain ⟨m, h1, m1, m2, a1, a2, a3, a4, a5, a6, a7, a8, a9, a10⟩ := w_start hF hR h0
  have h5 := a5
  obtain ⟨-, -, -, -, -, -, -, ⟨o, n1, n2, n3⟩, -⟩ := h5
  exact ⟨o, h1, n1, fun i hi => n3 i hi, a1, a2, a3, ⟨a3.1, a4, a5, a9⟩, n2⟩
theorem v_01 (h : ¬ x < 0) (h2 : ¬ (1 : Int32) < x) : ∃ c, c < 2 ∧ x = nI c := by
  obtain ⟨c, hc, rfl⟩ := v_le_t (N := 1) h h2 (by decide)
  exact ⟨c, by omega, rfl⟩
/-- pretend -/
theorem call_pretend (hF : 70000 ≤ F) (hR : w_R h) : ∃ v h1 h2, s_Joy_pretend F h (some 15) x y z u = some (v, h1) ∧ s_Mod_pretend F h1 (some 68) x y z u = some (v, h2) ∧ w_call h h1 h2 := by
  obtain ⟨n, w, T, Wd, f, lw, p, hR⟩ := hR
  have hS := hR.1
  have hok := hR.ok
  have hn12 := hok.1
  have hn := hR.2.1.2.1.1
  have hnm := hR.2.1.2.2.1
  have em : ∀ g, z_Sh g → z_I g 68 24 = nI n → s_Mod_pretend F g (some 68) x y z u = if (v_in x n && (v_in y n && !decide (x = y))) = true then (if decide (¬ z < 0 ∧ ¬ (1 : Int32) < z) = true then (if decide (¬ u < 0 ∧ ¬ (1 : Int32) < u) = true then ((s_Mod_pretendOf F g (some 68) x y z u).bind fun x34 => some (x34.1, x34.2)) else some ((-1000000 : Int32), g)) else some ((-1000000 : Int32), g)) else some ((-1000000 : Int32), g) := by
    intro g hg e
    unfold s_Mod_pretend
    rw [z_c68 hg, Option.bind_some, z_mareTwo hg e hn12, Option.bind_some, z_in, Option.bind_some, z_in, Option.bind_some]
  unfold s_Joy_pretend
  rw [z_c15 hS, Option.bind_some, z_r15_3 hS, Option.bind_some, z_areTwo hS (.inr (.inl rfl)) hn, Option.bind_some]
  by_cases hx : (v_in x n && (v_in y n && !decide (x = y))) = true
  · rw [if_pos hx]
    by_cases z0 : z < 0
    · rw [if_pos z0]; exact ⟨_, h, h, rfl, by rw [em h hS hnm, if_pos hx, if_neg (by simp [z0])], w_call.rr hR⟩
    rw [if_neg z0]
    by_cases z1 : (1 : Int32) < z
    · rw [if_pos z1]; exact ⟨_, h, h, rfl, by rw [em h hS hnm, if_pos hx, if_neg (by simp [z1])], w_call.rr hR⟩
    rw [if_neg z1]
    by_cases u0 : u < 0
    · rw [if_pos u0]; exact ⟨_, h, h, rfl, by rw [em h hS hnm, if_pos hx, if_pos (decide_eq_true ⟨z0, z1⟩), if_neg (by simp [u0])], w_call.rr hR⟩
    rw [if_neg u0]
    by_cases u1 : (1 : Int32) < u
    · rw [if_neg (q_lt_iff.mpr u1)]; exact ⟨_, h, h, rfl, by rw [em h hS hnm, if_pos hx, if_pos (decide_eq_true ⟨z0, z1⟩), if_neg (by simp [u1])], w_call.rr hR⟩
    rw [if_pos (fa_of_nlt u1)]
    obtain ⟨a, b, ha, hb, hab, rfl, rfl⟩ := v_two hx (by omega)
    obtain ⟨c, hc, rfl⟩ := v_01 z0 z1
    obtain ⟨d, hd, rfl⟩ := v_01 u0 u1
    have hpos : 0 < n := by omega
    obtain ⟨m, h1, m1, m2, a1, a2, a3, a4, a5⟩ := w_trial hF hR hpos
    obtain ⟨h2, b1, b2⟩ := z_gain hF hok hpos a4 m1 a5 ha hb hc hd
    have hR2 := a3.kp (w_k.wb b2)
    obtain ⟨h3, c1, c2⟩ := z_pretendOf hF hok m2 m1 hR2.MC hR2.2.1.2.1 ha hb hab hc hd
    rw [a1, Option.bind_some, z_r15_13 a3.1, Option.bind_some, b1, Option.bind_some]
    exact ⟨_, h2, h3, rfl, by rw [em h2 hR2.1 hR2.2.1.2.2.1, if_pos hx, if_pos (decide_eq_true ⟨z0, z1⟩), if_pos (decide_eq_true ⟨u0, u1⟩), c1]; rfl, w_call.kk hR (a2.trans (w_k.wb b2)) (w_k.mw c2)⟩
  · rw [if_neg hx]
    exact ⟨_, h, h, rfl, by rw [em h hS hnm, if_neg hx], w_call.rr hR⟩
-- rests
/-- the rest found, if any; else how many -/
def g_rs (G : Nat → Nat → Int32) (i : Int32) : Nat → Nat → Int32 → Option Int32 × Int32
  | 0, _, s => (none, s)
  | k + 1, j, s => if G (j / 2) (j % 2) < G (1 - j / 2) (j % 2) then g_rs G i k (j + 1) s else if G (j / 2) (1 - j % 2) < G (j / 2) (j % 2) then g_rs G i k (j + 1) s else
    if ¬ s = i then g_rs G i k (j + 1) (s + 1) else (some (nI (10 * (j / 2) + j % 2)), s)
def g_rv (i : Int32) (r : Option Int32 × Int32) : Int32 := match r with
  | (some v, _) => v
  | (none, s) => if ¬ i = (-1 : Int32) then -1 else s
theorem z_rest48 (hS : z_Sh h) {G : Nat → Nat → Int32} (hG : ∀ k, k < 4 → z_A h 60 k = G (k / 2) (k % 2)) : ∀ (k j nn : Nat) (s : Int32), j + k = 4 → k < nn →
    l_Ways_rest_48 (some 59) x h (fun e129_4 => if ¬ x = (-1 : Int32) then (some ((-1 : Int32), h)) else some (e129_4, h)) nn s (nI j) = some (g_rv x (g_rs G x k j s), h) := by
  intro k
  induction k with
  | zero =>
    intro j nn s hj hnn
    obtain ⟨nn, rfl⟩ : ∃ k, nn = k + 1 := ⟨nn - 1, by omega⟩
    obtain rfl : j = 4 := by omega
    rw [l_Ways_rest_48, z_r59_4 hS, Option.bind_some, z_l60 hS, Option.bind_some, if_pos (by decide)]
    show _ = some (if ¬ x = (-1 : Int32) then -1 else s, h)
    by_cases hx : x = -1
    · rw [if_neg (fun z => z hx), if_neg (fun z => z hx)]
    · rw [if_pos hx, if_pos hx]
  | succ k ih =>
    intro j nn s hj hnn
    obtain ⟨nn, rfl⟩ : ∃ k, nn = k + 1 := ⟨nn - 1, by omega⟩
    have r : ∀ i, i < 4 → s_Rows_get h (some 60) (nI i) = some (G (i / 2) (i % 2)) := fun i hi => by rw [z_rget (z_ckT hS rfl) hi (by decide), hG i hi]
    have x2 : nI j ^^^ (2 : Int32) = nI (j ^^^ 2) := nx_xor j 2
    have x1 : nI j ^^^ (1 : Int32) = nI (j ^^^ 1) := nx_xor j 1
    have hj4 : j = 0 ∨ j = 1 ∨ j = 2 ∨ j = 3 := by omega
    have y2 : j ^^^ 2 < 4 ∧ (j ^^^ 2) / 2 = 1 - j / 2 ∧ (j ^^^ 2) % 2 = j % 2 := by rcases hj4 with rfl | rfl | rfl | rfl <;> decide
    have y1 : j ^^^ 1 < 4 ∧ (j ^^^ 1) / 2 = j / 2 ∧ (j ^^^ 1) % 2 = 1 - j % 2 := by rcases hj4 with rfl | rfl | rfl | rfl <;> decide
    have e10 : (10 : Int32) * (nI j >>> ((1 : Int32) &&& 31)) + (nI j &&& (1 : Int32)) = nI (10 * (j / 2) + j % 2) := by rcases hj4 with rfl | rfl | rfl | rfl <;> decide
    rw [l_Ways_rest_48, z_r59_4 hS, Option.bind_some, z_l60 hS, Option.bind_some, if_neg (nI_ge (by omega) (by decide)), Option.bind_some, r j (by omega), Option.bind_some, Option.bind_some, x2, r _ y2.1, Option.bind_some, Option.bind_some, x1, r _ y1.1, Option.bind_some, y2.2.1, y2.2.2, y1.2.1, y1.2.2, show nI j + 1 = nI (j + 1) from nI_1 j, e10]
    unfold g_rs
    by_cases c1 : G (j / 2) (j % 2) < G (1 - j / 2) (j % 2)
    · rw [if_pos c1, if_pos c1]; exact ih (j + 1) nn s (by omega) (by omega)
    · rw [if_neg c1, if_neg c1]
      by_cases c2 : G (j / 2) (1 - j % 2) < G (j / 2) (j % 2)
      · rw [if_pos c2, if_pos c2]; exact ih (j + 1) nn s (by omega) (by omega)
      · rw [if_neg c2, if_neg c2]
        by_cases c3 : s = x
        · rw [if_neg (fun z => z c3), if_neg (fun z => z c3)]; rfl
        · rw [if_pos c3, if_pos c3]; exact ih (j + 1) nn _ (by omega) (by omega)
/-- the gain as a function of both -/
def g_G (n w : Nat) (T Wd f : Nat → Int32) (lw : Option (List q_C)) (m a b : Nat) (c d : Nat) : Int32 := g_gain (v_E n w T Wd f lw (v_op f) (2 ^ n - 1) (g_bk m a b c d)) (v_pos f) a b 24
theorem z_rest3 (hF : 70000 ≤ F) (hok : v_ok n w Wd) (h0 : 0 < n) (hm : m < 2 ^ 12) (ha : a < n) (hb : b < n) {K : fw_H → Option (Int32 × fw_H)} (hW0 : g_W h n w T Wd f lw) (h497 : z_I h 49 7 = nI m) :
    ∀ (k j nn : Nat) (g : fw_H), j + k = 4 → k < nn → z_fr [48, 60] h g → (∀ k, k ≠ 2 → k ≠ 3 → k ≠ 4 → k ≠ 5 → z_I g 48 k = z_I h 48 k) → (∀ i, i < j → z_A g 60 i = g_G n w T Wd f lw m a b (i / 2) (i % 2)) →
    ∃ g', l_Ways_rest_3 F (some 59) (nI a) (nI b) K nn (nI j) g = K g' ∧ (z_fr [48, 60] h g' ∧ (∀ k, k ≠ 2 → k ≠ 3 → k ≠ 4 → k ≠ 5 → z_I g' 48 k = z_I h 48 k) ∧ ∀ i, i < 4 → z_A g' 60 i = g_G n w T Wd f lw m a b (i / 2) (i % 2)) := by
  intro k
  induction k with
  | zero =>
    intro j nn g hj hnn hf hk hA
    obtain ⟨nn, rfl⟩ : ∃ k, nn = k + 1 := ⟨nn - 1, by omega⟩
    obtain rfl : j = 4 := by omega
    have hS := hW0.1.fr hf (by decide)
    refine ⟨g, ?_, hf, hk, hA⟩
    rw [l_Ways_rest_3, z_r59_4 hS, Option.bind_some, z_l60 hS, Option.bind_some, if_pos (by decide)]
  | succ k ih =>
    intro j nn g hj hnn hf hk hA
    obtain ⟨nn, rfl⟩ : ∃ k, nn = k + 1 := ⟨nn - 1, by omega⟩
    have hS := hW0.1.fr hf (by decide)
    have hWg : g_W g n w T Wd f lw := ⟨hS, hW0.2.1.fr hf (by decide) (by decide) (by decide) (by decide) (by decide), hW0.2.2.1.fr hok.1 hok.2.1 hf (fun d hd => by simp; omega), (hk 6 (by decide) (by decide) (by decide) (by decide)).trans hW0.2.2.2⟩
    have hj4 : j = 0 ∨ j = 1 ∨ j = 2 ∨ j = 3 := by omega
    have e1 : nI j >>> ((1 : Int32) &&& 31) = nI (j / 2) := by rcases hj4 with rfl | rfl | rfl | rfl <;> decide
    have e2 : nI j &&& (1 : Int32) = nI (j % 2) := by rcases hj4 with rfl | rfl | rfl | rfl <;> decide
    obtain ⟨g1, b1, b2⟩ := z_gain (c := j / 2) (d := j % 2) hF hok h0 hWg hm (by rw [hf.I (by decide)]; exact h497) ha hb (by omega) (by omega)
    have S1 := hS.fr b2.1 (by decide)
    rw [l_Ways_rest_3, z_r59_4 hS, Option.bind_some, z_l60 hS, Option.bind_some, if_neg (nI_ge (by omega) (by decide)), Option.bind_some, e1, e2, b1, Option.bind_some, z_rput (z_ckT S1 rfl) (show j < 4 by omega) (by decide), Option.bind_some, show nI j + 1 = nI (j + 1) from nI_1 j]
    refine ih (j + 1) nn _ (by omega) (by omega) ((hf.trans (b2.1.mono (by simp))).sA (by simp)) (fun k x1 x2 x3 x4 => by rw [z_I_sA, b2.2.1 k x1 x2 x3 x4, hk k x1 x2 x3 x4]) (fun i hi => ?_)
    rw [z_A_sA (z_ckT S1 rfl)]
    by_cases e : i = j
    · subst e; rw [if_pos rfl]; rfl
    · rw [if_neg e, b2.1.A (by decide)]; exact hA i (by omega)
/-- the reference's inner run over y, then the outer one -/
theorem z_rests31 (hF : 70000 ≤ F) (hok : v_ok n w Wd) (hm : m < 2 ^ 12) (hB : z_MB f n m) (hR : v_R h 29 n w T Wd f) (ha : a < n) (hb : b < n) (hab : a ≠ b) (hc : c < 2) {K : Int32 → fw_H → Option (Int32 × fw_H)} {R : Option Int32 × Int32}
    (hK : ∀ g s, z_MC g n w T Wd f lw (2 ^ n - 1) → g_rs (g_G n w T Wd f lw m a b) x (2 * (1 - c)) (2 * c + 2) s = R → ∃ g', K s g = some (g_rv x R, g') ∧ z_mw g g') :
    ∀ (k d nn : Nat) (g : fw_H) (s : Int32), d + k = 2 → k < nn → z_MC g n w T Wd f lw (2 ^ n - 1) → g_rs (g_G n w T Wd f lw m a b) x (k + 2 * (1 - c)) (2 * c + d) s = R →
    ∃ g', l_Mod_rests_31 F (some 68) (nI a) (nI b) x (nI c) K nn s (nI d) g = some (g_rv x R, g') ∧ z_mw g g' := by
  have h0 : 0 < n := by omega
  intro k
  induction k with
  | zero =>
    intro d nn g s hd hnn hC hr
    obtain ⟨nn, rfl⟩ : ∃ k, nn = k + 1 := ⟨nn - 1, by omega⟩
    obtain rfl : d = 2 := by omega
    rw [l_Mod_rests_31, if_pos (by decide)]
    rw [Nat.zero_add] at hr
    exact hK g s hC hr
  | succ k ih =>
    intro d nn g s hd hnn hC hr
    obtain ⟨nn, rfl⟩ : ∃ k, nn = k + 1 := ⟨nn - 1, by omega⟩
    have hd2 : d < 2 := by omega
    have n1 : ∀ c, c < 2 → (1 : Int32) - nI c = nI (1 - c) := by decide
    have hj2 : (2 * c + d) / 2 = c := by omega
    have hj3 : (2 * c + d) % 2 = d := by omega
    obtain ⟨g1, a1, a2⟩ := z_pretendOf hF hok hB hm hC hR ha hb hab hc hd2
    have C1 := hC.mw a2
    obtain ⟨g2, b1, b2⟩ := z_pretendOf (c := 1 - c) hF hok hB hm C1 hR ha hb hab (by omega) hd2
    have C2 := C1.mw b2
    obtain ⟨g3, d1, d2⟩ := z_pretendOf (d := 1 - d) hF hok hB hm C2 hR ha hb hab hc (by omega)
    have C3 := C2.mw d2
    have e10 : (10 : Int32) * nI c + nI d = nI (10 * c + d) := by rw [show (10 : Int32) = nI 10 from rfl, pk_mul, nI_add]
    have hr' := hr
    rw [show k + 1 + 2 * (1 - c) = (k + 2 * (1 - c)) + 1 by omega] at hr'
    unfold g_rs at hr'
    rw [hj2, hj3, show 2 * c + d + 1 = 2 * c + (d + 1) by omega] at hr'
    rw [l_Mod_rests_31, if_neg (show ¬ (2 : Int32) ≤ nI d from nI_ge (b := 2) (by omega) (by decide)), a1, Option.bind_some, n1 c hc, n1 d hd2, b1, Option.bind_some, show nI d + 1 = nI (d + 1) from nI_1 d]
    simp only []
    by_cases c1 : g_G n w T Wd f lw m a b c d < g_G n w T Wd f lw m a b (1 - c) d
    · rw [if_pos c1] at hr'
      obtain ⟨g4, f1, f2⟩ := ih (d + 1) nn g2 s (by omega) (by omega) C2 hr'
      rw [if_pos (show g_gain (v_E n w T Wd f lw (v_op f) (2 ^ n - 1) (g_bk m a b c d)) (v_pos f) a b 24 < g_gain (v_E n w T Wd f lw (v_op f) (2 ^ n - 1) (g_bk m a b (1 - c) d)) (v_pos f) a b 24 from c1)]
      exact ⟨g4, f1, (a2.trans b2).trans f2⟩
    · rw [if_neg c1] at hr'
      rw [if_neg (show ¬ g_gain (v_E n w T Wd f lw (v_op f) (2 ^ n - 1) (g_bk m a b c d)) (v_pos f) a b 24 < g_gain (v_E n w T Wd f lw (v_op f) (2 ^ n - 1) (g_bk m a b (1 - c) d)) (v_pos f) a b 24 from c1), d1, Option.bind_some]
      simp only []
      by_cases c2 : g_G n w T Wd f lw m a b c (1 - d) < g_G n w T Wd f lw m a b c d
      · rw [if_pos c2] at hr'
        obtain ⟨g4, f1, f2⟩ := ih (d + 1) nn g3 s (by omega) (by omega) C3 hr'
        rw [if_pos (show g_gain (v_E n w T Wd f lw (v_op f) (2 ^ n - 1) (g_bk m a b c (1 - d))) (v_pos f) a b 24 < g_gain (v_E n w T Wd f lw (v_op f) (2 ^ n - 1) (g_bk m a b c d)) (v_pos f) a b 24 from c2)]
        exact ⟨g4, f1, ((a2.trans b2).trans d2).trans f2⟩
      · rw [if_neg c2] at hr'
        rw [if_neg (show ¬ g_gain (v_E n w T Wd f lw (v_op f) (2 ^ n - 1) (g_bk m a b c (1 - d))) (v_pos f) a b 24 < g_gain (v_E n w T Wd f lw (v_op f) (2 ^ n - 1) (g_bk m a b c d)) (v_pos f) a b 24 from c2)]
        by_cases c3 : s = x
        · rw [if_neg (fun z => z c3)] at hr'
          rw [if_neg (fun z => z c3), e10, ← hr']
          exact ⟨g3, rfl, (a2.trans b2).trans d2⟩
        · rw [if_pos c3] at hr'
          obtain ⟨g4, f1, f2⟩ := ih (d + 1) nn g3 (s + 1) (by omega) (by omega) C3 hr'
          rw [if_pos c3]
          exact ⟨g4, f1, ((a2.trans b2).trans d2).trans f2⟩
/-- rests -/
theorem call_rests (hF : 70000 ≤ F) (hR : w_R h) : ∃ v h1 h2, s_Joy_rests F h (some 15) x y z = some (v, h1) ∧ s_Mod_rests F h1 (some 68) x y z = some (v, h2) ∧ w_call h h1 h2 := by
  obtain ⟨n, w, T, Wd, f, lw, p, hR⟩ := hR
  have hS := hR.1
  have hok := hR.ok
  have hn12 := hok.1
  have hn := hR.2.1.2.1.1
  have hnm := hR.2.1.2.2.1
  have em : ∀ g, z_Sh g → z_I g 68 24 = nI n → s_Mod_rests F g (some 68) x y z = if (v_in x n && (v_in y n && !decide (x = y))) = true then (if (-1 : Int32) ≤ z then (l_Mod_rests_22 F (some 68) x y z (fun e113_4 he113 => if ¬ z = (-1 : Int32) then (some ((-1 : Int32), he113)) else some (e113_4, he113)) F (0 : Int32) (0 : Int32) g) else some ((-1 : Int32), g)) else some ((-1 : Int32), g) := by
    intro g hg e
    unfold s_Mod_rests
    rw [z_c68 hg, Option.bind_some, z_mareTwo hg e hn12, Option.bind_some]
  unfold s_Joy_rests
  rw [z_c15 hS, Option.bind_some, z_r15_3 hS, Option.bind_some, z_areTwo hS (.inr (.inl rfl)) hn, Option.bind_some]
  by_cases hx : (v_in x n && (v_in y n && !decide (x = y))) = true
  · rw [if_pos hx]
    by_cases z0 : (-1 : Int32) ≤ z
    · rw [if_pos z0]
      obtain ⟨a, b, ha, hb, hab, rfl, rfl⟩ := v_two hx (by omega)
      have hpos : 0 < n := by omega
      obtain ⟨m, h1, m1, m2, a1, a2, a3, a4, a5⟩ := w_trial hF hR hpos
      rw [a1, Option.bind_some, z_r15_13 a3.1, Option.bind_some]
      unfold s_Ways_rest
      rw [z_c59 a3.1, Option.bind_some]
      obtain ⟨h2, b1, b2, b3, b4⟩ := z_rest3 (K := fun he42 => l_Ways_rest_48 (some 59) z he42 (fun e129_4 => if ¬ z = (-1 : Int32) then (some ((-1 : Int32), he42)) else some (e129_4, he42)) F (0 : Int32) (0 : Int32)) hF hok hpos m1 ha hb a4 a5 4 0 F h1 (by omega) (by omega) z_fr.refl (fun _ _ _ _ _ => rfl) (fun i hi => absurd hi (Nat.not_lt_zero _))
      have S2 := a3.1.fr b2 (by decide)
      have hf48 : w_k h1 h2 := by
        refine ⟨b2.1, fun j j1 j2 j3 j4 j5 j6 j7 => b2.2 j (fun zz => ?_), fun k _ => b2.I (by decide), b2.I (by decide), b2.I (by decide), fun hT => hT.of (b3 12 (by decide) (by decide) (by decide) (by decide)) (fun j => b2.A (by decide)) (fun k => b2.R (by decide))⟩
        simp only [List.mem_cons, List.not_mem_nil, or_false] at zz
        rcases zz with zz | zz
        · exact j3 zz
        · subst zz; exact j1 (by decide)
      have hR2 := a3.kp hf48
      have hJ := z_rest48 (x := z) (G := g_G n w T Wd f lw m a b) S2 b4 4 0 F 0 (by omega) (by omega)
      have c1 : l_Ways_rest_3 F (some 59) (nI a) (nI b) (fun he42 => l_Ways_rest_48 (some 59) z he42 (fun e129_4 => if ¬ z = (-1 : Int32) then (some ((-1 : Int32), he42)) else some (e129_4, he42)) F (0 : Int32) (0 : Int32)) F (0 : Int32) h1 = some (g_rv z (g_rs (g_G n w T Wd f lw m a b) z 4 0 0), h2) := b1.trans hJ
      rw [c1, Option.bind_some]
      -- the reference
      obtain ⟨F', rfl⟩ : ∃ k, F = k + 3 := ⟨F - 3, by omega⟩
      have C2 := hR2.MC
      have hM := z_rests31 (x := z) (c := 0) (R := g_rs (g_G n w T Wd f lw m a b) z 4 0 0) (K := fun e107_4 he107 => l_Mod_rests_22 (F' + 3) (some 68) (nI a) (nI b) z (fun e113_4 he113 => if ¬ z = (-1 : Int32) then (some ((-1 : Int32), he113)) else some (e113_4, he113)) (F' + 2) e107_4 (nI 0 + (1 : Int32)) he107) hF hok m1 m2 hR2.2.1.2.1 ha hb hab (by decide) (fun g s hC hr => by
        show ∃ g', l_Mod_rests_22 (F' + 3) (some 68) (nI a) (nI b) z _ (F' + 1 + 1) s (nI 1) g = _ ∧ _
        rw [l_Mod_rests_22, if_neg (by decide)]
        refine z_rests31 (x := z) (c := 1) (R := g_rs (g_G n w T Wd f lw m a b) z 4 0 0) hF hok m1 m2 hR2.2.1.2.1 ha hb hab (by decide) (fun g s hC hr => ?_) 2 0 _ g s (by omega) (by omega) hC hr
        show ∃ g', l_Mod_rests_22 (F' + 3) (some 68) (nI a) (nI b) z _ (F' + 1) s (nI 2) g = _ ∧ _
        rw [l_Mod_rests_22, if_pos (by decide), ← hr]
        refine ⟨g, ?_, z_mw.refl⟩
        show (if ¬ z = (-1 : Int32) then some ((-1 : Int32), g) else some (s, g)) = some (if ¬ z = (-1 : Int32) then -1 else s, g)
        by_cases hz : z = -1
        · rw [if_neg (fun zz => zz hz), if_neg (fun zz => zz hz)]
        · rw [if_pos hz, if_pos hz]) 2 0 (F' + 3) h2 0 (by omega) (by omega) C2 rfl
      obtain ⟨h3, d1, d2⟩ := hM
      refine ⟨_, h2, h3, rfl, ?_, w_call.kk hR (a2.trans hf48) (w_k.mw d2)⟩
      rw [em h2 S2 hR2.2.1.2.2.1, if_pos hx, if_pos z0, l_Mod_rests_22, if_neg (by decide)]
      exact d1
    · rw [if_neg z0]
      exact ⟨_, h, h, rfl, by rw [em h hS hnm, if_pos hx, if_neg z0], w_call.rr hR⟩
  · rw [if_neg hx]
    exact ⟨_, h, h, rfl, by rw [em h hS hnm, if_neg hx], w_call.rr hR⟩
end C6
