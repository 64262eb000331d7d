-- CALLS (7): envied, sure
/-- the reference's search -/
def g_env (P : Nat → Bool) (x : Int32) : Nat → Nat → Nat → Int32
  | 0, _, c => if ¬ x = (-1 : Int32) then -1 else nI c
  | k + 1, e, c => if P e = true then (if ¬ nI c = x then g_env P x k (e + 1) (c + 1) else nI e) else g_env P x k (e + 1) c
def g_sur (P : Nat → Bool) : Nat → Nat → Int32 → Int32
  | 0, _, u => u
  | k + 1, e, u => if P e = true then g_sur P k (e + 1) (if ¬ u = (-1 : Int32) then u &&& nI e else nI e) else g_sur P k (e + 1) u
section C7
variable {E : z_E} {p : e_P} {i j k n w m a b o e s nn N F pp c mm : Nat} {h h' g g' : fw_H} {T Wd f : Nat → Int32} {lw : Option (List q_C)} {op : Nat → Bool} {v x y z cm ch u : Int32} {P Q B : Nat → Bool} {J X : Nat → Nat}
theorem nI_ne_m1 (h : c < 2 ^ 31) : ¬ nI c = (-1 : Int32) := fun z => by
  have h1 := congrArg Int32.toInt z
  rw [nI_toInt h] at h1
  have h2 : (-1 : Int32).toInt = -1 := rfl
  omega
theorem g_ask_keep : ∀ (k e c : Nat) (cm ch : Int32), (∀ d, c ≤ d → d ≤ c + k → ¬ nI d = x) → (g_ask P x k e c cm ch).2.2 = ch
  | 0, _, _, _, _, _ => rfl
  | k + 1, e, c, cm, ch, hd => by
    unfold g_ask
    by_cases h : P e = true
    · rw [if_pos h, if_neg (hd c (Nat.le_refl _) (by omega))]
      exact g_ask_keep k (e + 1) (c + 1) _ ch (fun d h1 h2 => hd d (by omega) (by omega))
    · rw [if_neg h]
      exact g_ask_keep k (e + 1) c _ ch (fun d h1 h2 => hd d (by omega) (by omega))
theorem g_env_eq : ∀ (k e c : Nat) (cm : Int32), c + k < 2 ^ 31 → g_env P x k e c = if ¬ x = (-1 : Int32) then (g_ask P x k e c cm (-1)).2.2 else nI (g_ask P x k e c cm (-1)).1
  | 0, _, _, _, _ => rfl
  | k + 1, e, c, cm, hc => by
    unfold g_env g_ask
    by_cases h : P e = true
    · rw [if_pos h, if_pos h]
      by_cases hx : nI c = x
      · rw [if_neg (fun z => z hx), if_pos hx, if_pos (fun z => nI_ne_m1 (show c < 2 ^ 31 by omega) (hx.trans z))]
        rw [g_ask_keep k (e + 1) (c + 1) _ (nI e) (fun d h1 h2 z => by
          have := (nI_eq (show d < 2 ^ 31 by omega) (show c < 2 ^ 31 by omega)).mp (z.trans hx.symm)
          omega)]
      · rw [if_pos hx, if_neg hx]
        exact g_env_eq k (e + 1) (c + 1) _ (by omega)
    · rw [if_neg h, if_neg h]
      exact g_env_eq k (e + 1) c cm (by omega)
theorem g_sur_eq (hn : n ≤ 12) : ∀ (k e c mm : Nat) (ch u : Int32), e + k = 2 ^ n → c + k < 2 ^ 31 → ((c = 0 ∧ u = -1 ∧ mm = 2 ^ n - 1) ∨ (0 < c ∧ u = nI mm ∧ mm < 2 ^ 12)) →
    g_sur P k e u = if ¬ nI (g_ask P x k e c (nI mm) ch).1 = 0 then (g_ask P x k e c (nI mm) ch).2.1 else -1
  | 0, e, c, mm, ch, u, _, hc, hu => by
    show u = if ¬ nI c = 0 then nI mm else -1
    rcases hu with ⟨h1, h2, -⟩ | ⟨h1, h2, -⟩
    · rw [h1, h2, if_neg (fun z => z rfl)]
    · rw [if_pos (fun z => by have := (nI_eq (b := 0) (show c < 2 ^ 31 by omega) (by decide)).mp z; omega), h2]
  | k + 1, e, c, mm, ch, u, he, hc, hu => by
    have hp := z_pole hn
    unfold g_sur g_ask
    by_cases h : P e = true
    · rw [if_pos h, if_pos h, fa_and]
      have hm2 : mm &&& e < 2 ^ 12 := Nat.lt_of_le_of_lt Nat.and_le_right (by omega)
      refine g_sur_eq hn k (e + 1) (c + 1) (mm &&& e) _ _ (by omega) (by omega) (.inr ⟨by omega, ?_, hm2⟩)
      rcases hu with ⟨h1, h2, h3⟩ | ⟨h1, h2, h3⟩
      · rw [if_neg (fun z => z h2), h3]
        have : (2 ^ n - 1) &&& e = e := by rw [Nat.and_comm, Nat.and_two_pow_sub_one_eq_mod, Nat.mod_eq_of_lt (by omega)]
        rw [this]
      · rw [h2, if_pos (nI_ne_m1 (by omega)), fa_and]
    · rw [if_neg h, if_neg h]
      exact g_sur_eq hn k (e + 1) c mm ch u (by omega) (by omega) hu
theorem w_seen.get (hs : w_seen h) : ∃ s J X, g_sn h J X s ∧ g_mn h J X s := by
  obtain ⟨s, s1, s2, s3, s4⟩ := hs
  refine ⟨s, fun i => (z_A h 65 i).toNatClampNeg, fun i => (z_A h 66 i).toNatClampNeg, ⟨s1, s2, fun i hi => ?_⟩, s1, s3, fun i hi => ?_⟩
  · obtain ⟨j, x, j1, j2, j3, j4, j5, j6, j7⟩ := s4 i hi
    simp only [j4, j6, nI_clamp (show j < 2 ^ 31 by omega), nI_clamp (show x < 2 ^ 31 by omega)]
    exact ⟨j1, j2, j3, trivial, trivial⟩
  · obtain ⟨j, x, j1, j2, j3, j4, j5, j6, j7⟩ := s4 i hi
    simp only [j4, j5, j6, j7, nI_clamp (show j < 2 ^ 31 by omega), nI_clamp (show x < 2 ^ 31 by omega)]
    exact ⟨j1, j2, j3, trivial, trivial⟩
theorem w_k.ask (hf : z_fr [48, 64, 67] h h') (h12 : z_I h' 48 12 = z_I h 48 12) (h3 : z_I h' 64 3 = z_I h 64 3) : w_k h h' :=
  ⟨hf.1, fun j j1 _ j3 _ j5 _ _ => hf.2 j (fun z => by
    simp only [List.mem_cons, List.not_mem_nil, or_false] at z
    rcases z with z | z | z
    · exact j3 z
    · exact j5 z
    · subst z; exact j1 (by decide)), fun k _ => hf.I (by decide), h3, hf.I (by decide), fun hT => hT.of h12 (fun j => hf.A (by decide)) (fun k => hf.R (by decide))⟩
theorem z_every (hS : z_Sh h) (hn : z_I h 68 24 = nI n) (h12 : n ≤ 12) : s_Mod_everyHouse h (some 68) = some (nI (2 ^ n - 1)) := by
  unfold s_Mod_everyHouse
  have := Nat.two_pow_pos n
  rw [z_c68 hS, Option.bind_some, z_i68_24 hS, Option.bind_some, hn, z_sh1 (by omega), show nI (2 ^ n) - (1 : Int32) = nI (2 ^ n - 1) from pk_sub Nat.one_le_two_pow]
theorem g_mn.mw (h1 : z_mw h g) (hN : g_mn h J X s) : g_mn g J X s := ⟨hN.1, (h1.2 47 (by decide) (by decide) (by decide)).trans hN.2.1, fun i hi => by rw [h1.1.A (by decide), h1.1.A (by decide)]; exact hN.2.2 i hi⟩
theorem z_env18 (hF : 70000 ≤ F) (hok : v_ok n w Wd) (h0 : 0 < n) (hB : z_MB f n m) (hR : v_R g' 29 n w T Wd f) : ∀ (k e c nn : Nat) (g : fw_H), e + k = 2 ^ n → k < nn → z_MC g n w T Wd f lw (2 ^ n - 1) → g_mn g J X s →
    ∃ g', l_Mod_envied_18 F (some 68) x (fun e50_2 he50 => if ¬ x = (-1 : Int32) then (some ((-1 : Int32), he50)) else some (e50_2, he50)) nn (nI c) (nI e) g = some (g_env (fun e => g_so J X s (v_E n w T Wd f lw (v_op f) e m) (v_pos f)) x k e c, g') ∧ z_mw g g' := by
  have hn12 := hok.1
  have hp12 := z_pole hok.1
  have hp0 := Nat.two_pow_pos n
  intro k
  induction k with
  | zero =>
    intro e c nn g he hnn hC hN
    obtain ⟨nn, rfl⟩ : ∃ k, nn = k + 1 := ⟨nn - 1, by omega⟩
    refine ⟨g, ?_, z_mw.refl⟩
    rw [l_Mod_envied_18, z_every hC.1 hC.2.1.1 hn12, Option.bind_some, if_pos (nI_lt (by omega) (by omega))]
    show (if ¬ x = (-1 : Int32) then some ((-1 : Int32), g) else some (nI c, g)) = some (if ¬ x = (-1 : Int32) then -1 else nI c, g)
    by_cases hx : x = -1
    · rw [if_neg (fun z => z hx), if_neg (fun z => z hx)]
    · rw [if_pos hx, if_pos hx]
  | succ k ih =>
    intro e c nn g he hnn hC hN
    obtain ⟨nn, rfl⟩ : ∃ k, nn = k + 1 := ⟨nn - 1, by omega⟩
    obtain ⟨g1, a1, a2⟩ := z_isSoBy (e := e) hF hok h0 hB (by omega) hC hR hN
    have C1 := hC.mw a2
    rw [l_Mod_envied_18, z_every hC.1 hC.2.1.1 hn12, Option.bind_some, if_neg (nI_nlt (by omega) (by omega)), a1, Option.bind_some, show nI e + 1 = nI (e + 1) from nI_1 e, show nI c + 1 = nI (c + 1) from nI_1 c]
    simp only []
    unfold g_env
    by_cases hq : g_so J X s (v_E n w T Wd f lw (v_op f) e m) (v_pos f) = true
    · rw [if_pos hq, if_pos hq]
      by_cases hx : nI c = x
      · rw [if_neg (fun z => z hx), if_neg (fun z => z hx)]
        exact ⟨g1, rfl, a2⟩
      · rw [if_pos hx, if_pos hx]
        obtain ⟨g2, b1, b2⟩ := ih (e + 1) (c + 1) nn g1 (by omega) (by omega) C1 (hN.mw a2)
        exact ⟨g2, b1, a2.trans b2⟩
    · rw [if_neg hq, if_neg hq]
      obtain ⟨g2, b1, b2⟩ := ih (e + 1) c nn g1 (by omega) (by omega) C1 (hN.mw a2)
      exact ⟨g2, b1, a2.trans b2⟩
theorem z_sure4 (hF : 70000 ≤ F) (hok : v_ok n w Wd) (h0 : 0 < n) (hB : z_MB f n m) (hR : v_R g' 29 n w T Wd f) : ∀ (k e nn : Nat) (u : Int32) (g : fw_H), e + k = 2 ^ n → k < nn → z_MC g n w T Wd f lw (2 ^ n - 1) → g_mn g J X s →
    ∃ g', l_Mod_sure_4 F (some 68) nn u (nI e) g = some (g_sur (fun e => g_so J X s (v_E n w T Wd f lw (v_op f) e m) (v_pos f)) k e u, g') ∧ z_mw g g' := by
  have hn12 := hok.1
  have hp12 := z_pole hok.1
  have hp0 := Nat.two_pow_pos n
  intro k
  induction k with
  | zero =>
    intro e nn u g he hnn hC hN
    obtain ⟨nn, rfl⟩ : ∃ k, nn = k + 1 := ⟨nn - 1, by omega⟩
    refine ⟨g, ?_, z_mw.refl⟩
    rw [l_Mod_sure_4, z_i68_24 hC.1, Option.bind_some, hC.2.1.1, if_neg (nI_nle h0 (by omega)), z_every hC.1 hC.2.1.1 hn12, Option.bind_some, if_pos (nI_lt (by omega) (by omega))]
    rfl
  | succ k ih =>
    intro e nn u g he hnn hC hN
    obtain ⟨nn, rfl⟩ : ∃ k, nn = k + 1 := ⟨nn - 1, by omega⟩
    obtain ⟨g1, a1, a2⟩ := z_isSoBy (e := e) hF hok h0 hB (by omega) hC hR hN
    have C1 := hC.mw a2
    rw [l_Mod_sure_4, z_i68_24 hC.1, Option.bind_some, hC.2.1.1, if_neg (nI_nle h0 (by omega)), z_every hC.1 hC.2.1.1 hn12, Option.bind_some, if_neg (nI_nlt (by omega) (by omega)), a1, Option.bind_some, show nI e + 1 = nI (e + 1) from nI_1 e]
    simp only []
    unfold g_sur
    by_cases hq : g_so J X s (v_E n w T Wd f lw (v_op f) e m) (v_pos f) = true
    · rw [if_pos hq, if_pos hq]
      by_cases hx : u = -1
      · rw [if_neg (fun z => z hx), if_neg (fun z => z hx)]
        obtain ⟨g2, b1, b2⟩ := ih (e + 1) nn (nI e) g1 (by omega) (by omega) C1 (hN.mw a2)
        exact ⟨g2, b1, a2.trans b2⟩
      · rw [if_pos hx, if_pos hx]
        obtain ⟨g2, b1, b2⟩ := ih (e + 1) nn (u &&& nI e) g1 (by omega) (by omega) C1 (hN.mw a2)
        exact ⟨g2, b1, a2.trans b2⟩
    · rw [if_neg hq, if_neg hq]
      obtain ⟨g2, b1, b2⟩ := ih (e + 1) nn u g1 (by omega) (by omega) C1 (hN.mw a2)
      exact ⟨g2, b1, a2.trans b2⟩
/-- envied -/
theorem call_envied (hF : 70000 ≤ F) (hR : w_R h) : ∃ v h1 h2, s_Joy_envied F h (some 15) x = some (v, h1) ∧ s_Mod_envied F h1 (some 68) x = some (v, h2) ∧ w_call h h1 h2 := by
  obtain ⟨n, w, T, Wd, f, lw, pp, hR⟩ := hR
  have hS := hR.1
  have hok := hR.ok
  have hn12 := hok.1
  have hn := hR.2.1.2.1.1
  have hnm := hR.2.1.2.2.1
  unfold s_Joy_envied
  rw [z_c15 hS, Option.bind_some, z_r15_3 hS, Option.bind_some, z_isNone hS (.inr (.inl rfl)) hn hok.1, Option.bind_some]
  by_cases h0 : n = 0
  · rw [if_pos (decide_eq_true h0)]
    refine ⟨-1, h, h, rfl, ?_, w_call.rr hR⟩
    unfold s_Mod_envied
    rw [z_c68 hS, Option.bind_some, z_i68_24 hS, Option.bind_some, hnm, h0, if_pos (show nI 0 = (0 : Int32) from rfl)]
  · rw [if_neg (by rw [decide_eq_true_eq]; exact h0)]
    have hpos : 0 < n := by omega
    have hne : ¬ nI n = (0 : Int32) := fun z => h0 ((nI_eq (b := 0) (by omega) (by omega)).mp z)
    by_cases hx : (-1 : Int32) ≤ x
    · rw [if_pos hx]
      obtain ⟨m', h1, m1', m2', a1, a2, a3, a4, a5, a6, a7, a8, a9, a10⟩ := w_start hF hR hpos
      obtain ⟨s, J, X, sn, mn⟩ := a3.2.2.2.2.2.2.1.get
      obtain ⟨r, hr⟩ : ∃ r, r = g_ask (fun e => g_so J X s (v_E n w T Wd f lw (v_op f) e m') (v_pos f)) x (2 ^ n) 0 0 (nI (2 ^ n - 1)) (-1) := ⟨_, rfl⟩
      obtain ⟨h2, b1, b2, b3, b4, b5, b6, b7⟩ := z_ask hF hok hpos m1' ⟨a3.1, a4, a5, a8⟩ sn hr
      have hk2 : w_k h1 h2 := w_k.ask b2 b3 b4
      have hR2 := a3.kp hk2
      have S2 := hR2.1
      have mn2 : g_mn h2 J X s := ⟨mn.1, (b2.I (by decide)).trans mn.2.1, fun i hi => by rw [b2.A (by decide), b2.A (by decide)]; exact mn.2.2 i hi⟩
      have hp12 := z_pole hn12
      obtain ⟨h3, c1, c2⟩ := z_env18 (x := x) hF hok hpos m2' hR2.2.1.2.1 (2 ^ n) 0 0 F h2 (by omega) (by omega) hR2.MC mn2
      rw [g_env_eq (2 ^ n) 0 0 (nI (2 ^ n - 1)) (by omega), ← hr] at c1
      rw [a1, Option.bind_some, z_r15_15 a3.1, Option.bind_some, z_r15_3 a3.1, Option.bind_some, z_all a3.1 (.inr (.inl rfl)) a3.2.1.2.1.1 hn12, Option.bind_some, b1, Option.bind_some]
      refine ⟨if ¬ x = (-1 : Int32) then r.2.2 else nI r.1, h2, h3, ?_, ?_, w_call.kk hR (a2.trans hk2) (w_k.mw c2)⟩
      · by_cases hm : x = -1
        · rw [if_neg (fun z => z hm), if_neg (fun z => z hm), z_r15_15 S2, Option.bind_some, z_i64_6 S2, Option.bind_some, b5]
        · rw [if_pos hm, if_pos hm, z_r15_15 S2, Option.bind_some, z_i64_8 S2, Option.bind_some, b7]
      · unfold s_Mod_envied
        rw [z_c68 S2, Option.bind_some, z_i68_24 S2, Option.bind_some, hR2.2.1.2.2.1, if_neg hne, if_pos hx]
        exact c1
    · rw [if_neg hx]
      refine ⟨-1, h, h, rfl, ?_, w_call.rr hR⟩
      unfold s_Mod_envied
      rw [z_c68 hS, Option.bind_some, z_i68_24 hS, Option.bind_some, hnm, if_neg hne, if_neg hx]
/-- sure -/
theorem call_sure (hF : 70000 ≤ F) (hR : w_R h) : ∃ v h1 h2, s_Joy_sure F h (some 15) = some (v, h1) ∧ s_Mod_sure F h1 (some 68) = some (v, h2) ∧ w_call h h1 h2 := by
  obtain ⟨n, w, T, Wd, f, lw, pp, hR⟩ := hR
  have hS := hR.1
  have hok := hR.ok
  have hn12 := hok.1
  have hn := hR.2.1.2.1.1
  have hnm := hR.2.1.2.2.1
  unfold s_Joy_sure
  rw [z_c15 hS, Option.bind_some, z_r15_3 hS, Option.bind_some, z_isNone hS (.inr (.inl rfl)) hn hok.1, Option.bind_some]
  by_cases h0 : n = 0
  · rw [if_pos (decide_eq_true h0)]
    refine ⟨-1, h, h, rfl, ?_, w_call.rr hR⟩
    obtain ⟨F', rfl⟩ : ∃ k, F = k + 1 := ⟨F - 1, by omega⟩
    unfold s_Mod_sure
    rw [z_c68 hS, Option.bind_some, l_Mod_sure_4, z_i68_24 hS, Option.bind_some, hnm, h0, if_pos (by decide)]
  · rw [if_neg (by rw [decide_eq_true_eq]; exact h0)]
    have hpos : 0 < n := by omega
    obtain ⟨m', h1, m1', m2', a1, a2, a3, a4, a5, a6, a7, a8, a9, a10⟩ := w_start hF hR hpos
    obtain ⟨s, J, X, sn, mn⟩ := a3.2.2.2.2.2.2.1.get
    obtain ⟨r, hr⟩ : ∃ r, r = g_ask (fun e => g_so J X s (v_E n w T Wd f lw (v_op f) e m') (v_pos f)) (-1) (2 ^ n) 0 0 (nI (2 ^ n - 1)) (-1) := ⟨_, rfl⟩
    obtain ⟨h2, b1, b2, b3, b4, b5, b6, b7⟩ := z_ask hF hok hpos m1' ⟨a3.1, a4, a5, a8⟩ sn hr
    have hk2 : w_k h1 h2 := w_k.ask b2 b3 b4
    have hR2 := a3.kp hk2
    have S2 := hR2.1
    have mn2 : g_mn h2 J X s := ⟨mn.1, (b2.I (by decide)).trans mn.2.1, fun i hi => by rw [b2.A (by decide), b2.A (by decide)]; exact mn.2.2 i hi⟩
    have hp12 := z_pole hn12
    obtain ⟨h3, c1, c2⟩ := z_sure4 hF hok hpos m2' hR2.2.1.2.1 (2 ^ n) 0 F (-1) h2 (by omega) (by omega) hR2.MC mn2
    rw [g_sur_eq (x := -1) hn12 (2 ^ n) 0 0 (2 ^ n - 1) (-1) (-1) (by omega) (by omega) (.inl ⟨rfl, rfl, rfl⟩), ← hr] at c1
    rw [a1, Option.bind_some, z_r15_15 a3.1, Option.bind_some, z_r15_3 a3.1, Option.bind_some, z_all a3.1 (.inr (.inl rfl)) a3.2.1.2.1.1 hn12, Option.bind_some, b1, Option.bind_some, z_r15_15 S2, Option.bind_some, z_i64_6 S2, Option.bind_some, b5]
    refine ⟨if ¬ nI r.1 = 0 then r.2.1 else -1, h2, h3, ?_, ?_, w_call.kk hR (a2.trans hk2) (w_k.mw c2)⟩
    · by_cases hm : nI r.1 = 0
      · rw [if_neg (fun z => z hm), if_neg (fun z => z hm)]
      · rw [if_pos hm, if_pos hm, Option.bind_some, z_i64_7 S2, Option.bind_some, b6]
    · unfold s_Mod_sure
      rw [z_c68 S2, Option.bind_some]
      exact c1
end C7
