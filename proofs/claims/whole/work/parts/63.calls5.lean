-- CALLS (5): odds, mean
section C5
variable {E : z_E} {p q : e_P} {i j k n w m e c t F a b nn N hr pp : Nat} {h h' g g' : fw_H} {T Wd f : Nat → Int32} {lw : Option (List q_C)} {A B : Nat → Int64} {ch v : Int64} {x y z : Int32}
theorem g_SP.spr (hP : g_SP h A t) : w_spr h := by
  obtain ⟨a, b, hab, p1, p2, -⟩ := hP
  rcases hab with ⟨rfl, rfl⟩ | ⟨rfl, rfl⟩
  · exact .inl ⟨p1, p2⟩
  · exact .inr ⟨p1, p2⟩
theorem w_k.gw (hg : g_w h h') (hs : w_spr h') : w_k h h' := by
  have h12 : z_I h' 48 12 = z_I h 48 12 := hg.2.1 12 (by decide) (by decide) (by decide)
  refine ⟨hg.1.1, fun j h1 h2 h3 h4 h5 h6 h7 => hg.1.2 j (fun z => ?_), fun k _ => hg.1.I (by decide), hg.1.I (by decide), hg.1.I (by decide), fun hT => ⟨hT.1.of h12 (fun j => hg.1.A (by decide)), hs⟩⟩
  simp only [List.mem_cons, List.not_mem_nil, or_false] at z
  rcases z with z | z | z | z
  · exact h3 z
  · subst z; exact h1 (by decide)
  · subst z; exact h1 (by decide)
  · subst z; exact h1 (by decide)
theorem w_k.m4 (hf : z_fr [77, 78, 91, 92] h h') : w_k h h' := w_k.fr hf (by decide) (fun j hj => .inl (by simp only [List.mem_cons, List.not_mem_nil, or_false] at hj; rcases hj with rfl | rfl | rfl | rfl <;> decide))
theorem g_mod (hr i : Nat) : ((hr + i) % 24 + 1) % 24 = (hr + (i + 1)) % 24 := by omega
theorem z_oddsC (hF : 70000 ≤ F) (hE : E.1 = n) (h12 : n ≤ 12) (hk : e_ok E p) (hc : ch = (nI c).toInt64) (hN : N ≤ 30) {K : fw_H → Option (Int64 × fw_H)} :
    ∀ (k i nn : Nat) (g : fw_H), i + k = N → k < nn → z_Sh g → z_CW g E → g_SP g (g_A E ch p hr i) ((hr + i) % 24) →
    ∃ g', l_Spread_partsAt_11 F (some 61) (nI N) (nI c) K nn (nI i) g = K g' ∧ (g_w g g' ∧ g_SP g' (g_A E ch p hr N) ((hr + N) % 24)) := by
  intro k
  induction k with
  | zero =>
    intro i nn g hi hnn hS hC hP
    obtain ⟨nn, rfl⟩ : ∃ k, nn = k + 1 := ⟨nn - 1, by omega⟩
    obtain rfl : i = N := by omega
    refine ⟨g, ?_, g_w.refl, hP⟩
    rw [l_Spread_partsAt_11, if_pos (nI_le (Nat.le_refl _) (by omega))]
  | succ k ih =>
    intro i nn g hi hnn hS hC hP
    obtain ⟨nn, rfl⟩ : ∃ k, nn = k + 1 := ⟨nn - 1, by omega⟩
    obtain ⟨g1, a1, a2, a3⟩ := z_fogHour hF hE h12 (Nat.mod_lt _ (by decide)) (g_A_ok hE h12 hk i) hc hS hC hP
    rw [l_Spread_partsAt_11, if_neg (nI_ge (by omega) (by omega)), a1, Option.bind_some, show nI i + 1 = nI (i + 1) from nI_1 i]
    obtain ⟨g2, b1, b2, b3⟩ := ih (i + 1) nn g1 (by omega) (by omega) (a2.sh hS) (a2.cw hC) (by rw [← g_mod]; exact a3)
    exact ⟨g2, b1, a2.trans b2, b3⟩
theorem z_meanC (hF : 70000 ≤ F) (hE : E.1 = n) (h12 : n ≤ 12) (hk : e_ok E p) (hc : ch = (nI c).toInt64) (hN : N ≤ 30) (ha : a < 12) :
    ∀ (k i nn : Nat) (g : fw_H), i + k = N → k < nn → z_Sh g → z_CW g E → g_SP g (g_A E ch p hr i) ((hr + i) % 24) →
    ∃ g', l_Spread_partsTogether_14 F (some 61) (nI a) (nI N) (nI c) nn (g_T E ch p hr a i) (nI i) g = some (g_T E ch p hr a N, g') ∧ (g_w g g' ∧ g_SP g' (g_A E ch p hr N) ((hr + N) % 24)) := by
  intro k
  induction k with
  | zero =>
    intro i nn g hi hnn hS hC hP
    obtain ⟨nn, rfl⟩ : ∃ k, nn = k + 1 := ⟨nn - 1, by omega⟩
    obtain rfl : i = N := by omega
    refine ⟨g, ?_, g_w.refl, hP⟩
    rw [l_Spread_partsTogether_14, if_pos (nI_le (Nat.le_refl _) (by omega))]
  | succ k ih =>
    intro i nn g hi hnn hS hC hP
    obtain ⟨nn, rfl⟩ : ∃ k, nn = k + 1 := ⟨nn - 1, by omega⟩
    obtain ⟨g1, a1, a2, a3⟩ := z_fogHour hF hE h12 (Nat.mod_lt _ (by decide)) (g_A_ok hE h12 hk i) hc hS hC hP
    have P1 : g_SP g1 (g_A E ch p hr (i + 1)) ((hr + (i + 1)) % 24) := by rw [← g_mod]; exact a3
    rw [l_Spread_partsTogether_14, if_neg (nI_ge (by omega) (by omega)), a1, Option.bind_some, z_partsOf hF (a2.sh hS) P1 ha, Option.bind_some, show nI i + 1 = nI (i + 1) from nI_1 i]
    obtain ⟨g2, b1, b2, b3⟩ := ih (i + 1) nn g1 (by omega) (by omega) (a2.sh hS) (a2.cw hC) P1
    exact ⟨g2, b1, a2.trans b2, b3⟩
theorem z_oddsM (hF : 70000 ≤ F) (hok : v_ok n w Wd) (hE : E = v_E n w T Wd f lw (v_op f) e m) (hB : z_MB f n m) (hk : e_ok E p) (hc : ch = (nI c).toInt64) (hN : N ≤ 30) (hf56 : f 56 = nI hr) (hhr : hr ≤ 9999) {K : fw_H → Option (Int32 × fw_H)} :
    ∀ (k i nn : Nat) (g : fw_H), i + k = N → k < nn → z_MC g n w T Wd f lw e → g_MP g (g_A E ch p hr i) →
    ∃ g', l_Mod_odds_37 F (some 68) (nI N) (nI c) K nn (nI i) g = K g' ∧ (z_fr [77, 78, 91, 92] g g' ∧ g_MP g' (g_A E ch p hr N)) := by
  have hE1 : E.1 = n := by rw [hE]; rfl
  intro k
  induction k with
  | zero =>
    intro i nn g hi hnn hC hP
    obtain ⟨nn, rfl⟩ : ∃ k, nn = k + 1 := ⟨nn - 1, by omega⟩
    obtain rfl : i = N := by omega
    refine ⟨g, ?_, z_fr.refl, hP⟩
    rw [l_Mod_odds_37, if_pos (nI_le (Nat.le_refl _) (by omega))]
  | succ k ih =>
    intro i nn g hi hnn hC hP
    obtain ⟨nn, rfl⟩ : ∃ k, nn = k + 1 := ⟨nn - 1, by omega⟩
    obtain ⟨g1, a1, a2, a3⟩ := z_fogOn hF hok hE hB (Nat.mod_lt (hr + i) (by decide)) (g_A_ok hE1 hok.1 hk i) hc hC hP
    rw [l_Mod_odds_37, if_neg (nI_ge (by omega) (by omega)), z_r68_26 hC.1, Option.bind_some, show (56 : Int32) = nI 56 from rfl, z_a84 hC.1 (by decide), Option.bind_some, hC.2.1.2.1.2.2 56 (by decide), hf56, nI_add, show (24 : Int32) = nI 24 from rfl, z_irem (by omega) (by decide) (by decide), Option.bind_some, a1, Option.bind_some, show nI i + 1 = nI (i + 1) from nI_1 i]
    obtain ⟨g2, b1, b2, b3⟩ := ih (i + 1) nn g1 (by omega) (by omega) (hC.fr a2) a3
    exact ⟨g2, b1, a2.trans b2, b3⟩
theorem z_meanM (hF : 70000 ≤ F) (hok : v_ok n w Wd) (hE : E = v_E n w T Wd f lw (v_op f) e m) (hB : z_MB f n m) (hk : e_ok E p) (hc : ch = (nI c).toInt64) (hN : N ≤ 30) (hf56 : f 56 = nI hr) (hhr : hr ≤ 9999) (ha : a < 12) :
    ∀ (k i nn : Nat) (g : fw_H), i + k = N → k < nn → z_MC g n w T Wd f lw e → g_MP g (g_A E ch p hr i) →
    ∃ g', l_Mod_mean_40 F (some 68) (nI a) (nI N) (nI c) nn (g_T E ch p hr a i) (nI i) g = ((f_ldiv (g_T E ch p hr a N) (1000 : Int64)).bind fun x85 => some ((Int64.toInt32 x85), g')) ∧ (z_fr [77, 78, 91, 92] g g' ∧ g_MP g' (g_A E ch p hr N)) := by
  have hE1 : E.1 = n := by rw [hE]; rfl
  intro k
  induction k with
  | zero =>
    intro i nn g hi hnn hC hP
    obtain ⟨nn, rfl⟩ : ∃ k, nn = k + 1 := ⟨nn - 1, by omega⟩
    obtain rfl : i = N := by omega
    refine ⟨g, ?_, z_fr.refl, hP⟩
    rw [l_Mod_mean_40, if_pos (nI_le (Nat.le_refl _) (by omega))]
  | succ k ih =>
    intro i nn g hi hnn hC hP
    obtain ⟨nn, rfl⟩ : ∃ k, nn = k + 1 := ⟨nn - 1, by omega⟩
    obtain ⟨g1, a1, a2, a3⟩ := z_fogOn hF hok hE hB (Nat.mod_lt (hr + i) (by decide)) (g_A_ok hE1 hok.1 hk i) hc hC hP
    have P1 : g_MP g1 (g_A E ch p hr (i + 1)) := a3
    rw [l_Mod_mean_40, if_neg (nI_ge (by omega) (by omega)), z_r68_26 hC.1, Option.bind_some, show (56 : Int32) = nI 56 from rfl, z_a84 hC.1 (by decide), Option.bind_some, hC.2.1.2.1.2.2 56 (by decide), hf56, nI_add, show (24 : Int32) = nI 24 from rfl, z_irem (by omega) (by decide) (by decide), Option.bind_some, a1, Option.bind_some, z_mpartsAt hF (hC.1.fr a2 (by decide)) P1 ha, Option.bind_some, show nI i + 1 = nI (i + 1) from nI_1 i]
    obtain ⟨g2, b1, b2, b3⟩ := ih (i + 1) nn g1 (by omega) (by omega) (hC.fr a2) P1
    exact ⟨g2, b1, a2.trans b2, b3⟩
/-- odds -/
theorem call_odds (hF : 70000 ≤ F) (hR : w_R h) : ∃ v h1 h2, s_Joy_odds F h (some 15) x y z = some (v, h1) ∧ s_Mod_odds F h1 (some 68) x y z = some (v, h2) ∧ w_call h h1 h2 := by
  obtain ⟨n, w, T, Wd, f, lw, p, hR⟩ := hR
  have hS := hR.1
  have hok := hR.ok
  have hn12 := hok.1
  have hn := hR.2.1.2.1.1
  have hnm := hR.2.1.2.2.1
  have em : ∀ g, z_Sh g → z_I g 68 24 = nI n → s_Mod_odds F g (some 68) x y z = if v_in x n = true then (if decide (¬ y < 0 ∧ ¬ (30 : Int32) < y) = true then (if decide (¬ z < 0 ∧ ¬ (100 : Int32) < z) = true then ((s_Mod_beginParts F g (some 68)).bind fun h31 => l_Mod_odds_37 F (some 68) y z (fun he67 => (s_Mod_partsAt F he67 (some 68) x).bind fun x69 => some ((Int64.toInt32 x69), he67)) F (0 : Int32) h31) else some ((-1 : Int32), g)) else some ((-1 : Int32), g)) else some ((-1 : Int32), g) := by
    intro g hg e
    unfold s_Mod_odds
    rw [z_c68 hg, Option.bind_some, z_isHouse hg e hn12, Option.bind_some, z_in, Option.bind_some, z_in, Option.bind_some]
  unfold s_Joy_odds
  rw [z_c15 hS, Option.bind_some, z_r15_3 hS, Option.bind_some, z_hasHouse hS (.inr (.inl rfl)) hn, Option.bind_some]
  by_cases hx : v_in x n = true
  · rw [if_pos hx]
    by_cases y0 : y < 0
    · rw [if_pos y0]; exact ⟨_, h, h, rfl, by rw [em h hS hnm, if_pos hx, if_neg (by simp [y0])], w_call.rr hR⟩
    rw [if_neg y0]
    by_cases y1 : (30 : Int32) < y
    · rw [if_pos y1]; exact ⟨_, h, h, rfl, by rw [em h hS hnm, if_pos hx, if_neg (by simp [y1])], w_call.rr hR⟩
    rw [if_neg y1]
    by_cases z0 : z < 0
    · rw [if_pos z0]; exact ⟨_, h, h, rfl, by rw [em h hS hnm, if_pos hx, if_pos (decide_eq_true ⟨y0, y1⟩), if_neg (by simp [z0])], w_call.rr hR⟩
    rw [if_neg z0]
    by_cases z1 : (100 : Int32) < z
    · rw [if_neg (q_lt_iff.mpr z1)]; exact ⟨_, h, h, rfl, by rw [em h hS hnm, if_pos hx, if_pos (decide_eq_true ⟨y0, y1⟩), if_neg (by simp [z1])], w_call.rr hR⟩
    rw [if_pos (fa_of_nlt z1)]
    obtain ⟨a, ha, rfl⟩ := v_in_t hx (by omega)
    obtain ⟨N, hN, rfl⟩ := v_le_t (N := 30) y0 y1 (by decide)
    obtain ⟨c, hc, rfl⟩ := v_le_t (N := 100) z0 z1 (by decide)
    have hpos : 0 < n := by omega
    obtain ⟨m, h1, m1, m2, a1, a2, a3, a4, a5, a6, a7, a8, a9, a10⟩ := w_start hF hR hpos
    obtain ⟨E, hE⟩ : ∃ E, E = v_E n w T Wd f lw (v_op f) (2 ^ n - 1) m := ⟨_, rfl⟩
    have hC : z_CW h1 E := by rw [hE]; exact a4.go hok m1 a8 a9
    have hE1 : E.1 = n := by rw [hE]; rfl
    have hk0 : e_ok E (v_pos f) := a5.ok hpos hok.1 hE1
    obtain ⟨-, -, -, -, p5, p6, -⟩ := a5.pos hpos hn12
    obtain ⟨g1, b1, b2, b3⟩ := z_begin (x := 0) (y := 1000000000) hF a3.1 a3.2.2.2.2.2.2.2.2.2 a10 (hE1 ▸ hn12) hk0
    have S1 := b2.sh a3.1
    rw [a1, Option.bind_some, z_r15_14 a3.1, Option.bind_some]
    unfold s_Spread_partsAt
    rw [z_c61 a3.1, Option.bind_some, b1, Option.bind_some]
    obtain ⟨g2, c1, c2, c3⟩ := z_oddsC (K := fun he28 => (s_Spread_partsOf F he28 (some 61) (nI a)).bind fun x30 => some (x30, he28)) (hr := v_hr f) (p := v_pos f) (ch := (nI c).toInt64) hF hE1 hn12 hk0 rfl hN N 0 F g1 (by omega) (by omega) S1 (b2.cw hC) b3
    have w2 := b2.trans c2
    have S2 := w2.sh a3.1
    have k2 : w_k h1 g2 := w_k.gw w2 c3.spr
    have hR2 := a3.kp k2
    obtain ⟨g3, d1, d2, d3⟩ := z_mbegin hF hE1 hR2.MC hR2.2.1.2.1 hpos hn12
    have C3 := hR2.MC.fr d2
    obtain ⟨g4, f1, f2, f3⟩ := z_oddsM (K := fun he67 => (s_Mod_partsAt F he67 (some 68) (nI a)).bind fun x69 => some ((Int64.toInt32 x69), he67)) (p := v_pos f) (ch := (nI c).toInt64) hF hok hE m2 hk0 rfl hN p5 p6 N 0 F g3 (by omega) (by omega) C3 d3
    have S4 := C3.1.fr f2 (by decide)
    refine ⟨(g_sum (g_A E (nI c).toInt64 (v_pos f) (v_hr f) N) a 13).toInt32, g2, g4, ?_, ?_, w_call.kk hR (a2.trans k2) (w_k.m4 (d2.trans f2))⟩
    · rw [show (0 : Int32) = nI 0 from rfl, c1, z_partsOf hF S2 c3 (by omega)]; rfl
    · rw [em g2 S2 hR2.2.1.2.2.1, if_pos hx, if_pos (decide_eq_true ⟨y0, y1⟩), if_pos (decide_eq_true ⟨z0, z1⟩), d1, Option.bind_some, show (0 : Int32) = nI 0 from rfl, f1, z_mpartsAt hF S4 f3 (by omega)]; rfl
  · rw [if_neg hx]
    exact ⟨_, h, h, rfl, by rw [em h hS hnm, if_neg hx], w_call.rr hR⟩
/-- mean -/
theorem call_mean (hF : 70000 ≤ F) (hR : w_R h) : ∃ v h1 h2, s_Joy_mean F h (some 15) x y z = some (v, h1) ∧ s_Mod_mean F h1 (some 68) x y z = some (v, h2) ∧ w_call h h1 h2 := by
  obtain ⟨n, w, T, Wd, f, lw, p, hR⟩ := hR
  have hS := hR.1
  have hok := hR.ok
  have hn12 := hok.1
  have hn := hR.2.1.2.1.1
  have hnm := hR.2.1.2.2.1
  have em : ∀ g, z_Sh g → z_I g 68 24 = nI n → s_Mod_mean F g (some 68) x y z = if v_in x n = true then (if decide (¬ y < 1 ∧ ¬ (30 : Int32) < y) = true then (if decide (¬ z < 0 ∧ ¬ (100 : Int32) < z) = true then ((s_Mod_beginParts F g (some 68)).bind fun h31 => l_Mod_mean_40 F (some 68) x y z F (0 : Int64) (0 : Int32) h31) else some ((-1 : Int32), g)) else some ((-1 : Int32), g)) else some ((-1 : Int32), g) := by
    intro g hg e
    unfold s_Mod_mean
    rw [z_c68 hg, Option.bind_some, z_isHouse hg e hn12, Option.bind_some, z_in, Option.bind_some, z_in, Option.bind_some]
  unfold s_Joy_mean
  rw [z_c15 hS, Option.bind_some, z_r15_3 hS, Option.bind_some, z_hasHouse hS (.inr (.inl rfl)) hn, Option.bind_some]
  by_cases hx : v_in x n = true
  · rw [if_pos hx]
    by_cases y0 : y < 1
    · rw [if_pos y0]; exact ⟨_, h, h, rfl, by rw [em h hS hnm, if_pos hx, if_neg (by simp [y0])], w_call.rr hR⟩
    rw [if_neg y0]
    by_cases y1 : (30 : Int32) < y
    · rw [if_pos y1]; exact ⟨_, h, h, rfl, by rw [em h hS hnm, if_pos hx, if_neg (by simp [y1])], w_call.rr hR⟩
    rw [if_neg y1]
    by_cases z0 : z < 0
    · rw [if_pos z0]; exact ⟨_, h, h, rfl, by rw [em h hS hnm, if_pos hx, if_pos (decide_eq_true ⟨y0, y1⟩), if_neg (by simp [z0])], w_call.rr hR⟩
    rw [if_neg z0]
    by_cases z1 : (100 : Int32) < z
    · rw [if_neg (q_lt_iff.mpr z1)]; exact ⟨_, h, h, rfl, by rw [em h hS hnm, if_pos hx, if_pos (decide_eq_true ⟨y0, y1⟩), if_neg (by simp [z1])], w_call.rr hR⟩
    rw [if_pos (fa_of_nlt z1)]
    have y00 : ¬ y < 0 := by
      rw [fa_lt] at y0 ⊢
      have e0 : (0 : Int32).toInt = 0 := by decide
      have e1 : (1 : Int32).toInt = 1 := by decide
      omega
    obtain ⟨a, ha, rfl⟩ := v_in_t hx (by omega)
    obtain ⟨N, hN, rfl⟩ := v_le_t (N := 30) y00 y1 (by decide)
    obtain ⟨c, hc, rfl⟩ := v_le_t (N := 100) z0 z1 (by decide)
    have hpos : 0 < n := by omega
    obtain ⟨m, h1, m1, m2, a1, a2, a3, a4, a5, a6, a7, a8, a9, a10⟩ := w_start hF hR hpos
    obtain ⟨E, hE⟩ : ∃ E, E = v_E n w T Wd f lw (v_op f) (2 ^ n - 1) m := ⟨_, rfl⟩
    have hC : z_CW h1 E := by rw [hE]; exact a4.go hok m1 a8 a9
    have hE1 : E.1 = n := by rw [hE]; rfl
    have hk0 : e_ok E (v_pos f) := a5.ok hpos hok.1 hE1
    obtain ⟨-, -, -, -, p5, p6, -⟩ := a5.pos hpos hn12
    obtain ⟨g1, b1, b2, b3⟩ := z_begin (x := 0) (y := 1000000000) hF a3.1 a3.2.2.2.2.2.2.2.2.2 a10 (hE1 ▸ hn12) hk0
    have S1 := b2.sh a3.1
    rw [a1, Option.bind_some, z_r15_14 a3.1, Option.bind_some]
    unfold s_Spread_partsTogether
    rw [z_c61 a3.1, Option.bind_some, b1, Option.bind_some]
    obtain ⟨g2, c1, c2, c3⟩ := z_meanC (a := a) (hr := v_hr f) (p := v_pos f) (ch := (nI c).toInt64) hF hE1 hn12 hk0 rfl hN (by omega) N 0 F g1 (by omega) (by omega) S1 (b2.cw hC) b3
    have w2 := b2.trans c2
    have S2 := w2.sh a3.1
    have k2 : w_k h1 g2 := w_k.gw w2 c3.spr
    have hR2 := a3.kp k2
    obtain ⟨g3, d1, d2, d3⟩ := z_mbegin hF hE1 hR2.MC hR2.2.1.2.1 hpos hn12
    have C3 := hR2.MC.fr d2
    obtain ⟨g4, f1, f2, f3⟩ := z_meanM (a := a) (p := v_pos f) (ch := (nI c).toInt64) hF hok hE m2 hk0 rfl hN p5 p6 (by omega) N 0 F g3 (by omega) (by omega) C3 d3
    have hdiv : ∀ v : Int64, f_ldiv v (1000 : Int64) = some (v / 1000) := fun v => by unfold f_ldiv; rw [if_neg (by decide)]
    refine ⟨(g_T E (nI c).toInt64 (v_pos f) (v_hr f) a N / 1000).toInt32, g2, g4, ?_, ?_, w_call.kk hR (a2.trans k2) (w_k.m4 (d2.trans f2))⟩
    · rw [show (0 : Int32) = nI 0 from rfl, show (0 : Int64) = g_T E ((nI c).toInt64) (v_pos f) (v_hr f) a 0 from rfl, c1, Option.bind_some, hdiv, Option.bind_some]
    · rw [em g2 S2 hR2.2.1.2.2.1, if_pos hx, if_pos (decide_eq_true ⟨y0, y1⟩), if_pos (decide_eq_true ⟨z0, z1⟩), d1, Option.bind_some, show (0 : Int32) = nI 0 from rfl, show (0 : Int64) = g_T E ((nI c).toInt64) (v_pos f) (v_hr f) a 0 from rfl, f1, hdiv, Option.bind_some]
  · rw [if_neg hx]
    exact ⟨_, h, h, rfl, by rw [em h hS hnm, if_neg hx], w_call.rr hR⟩
end C5
