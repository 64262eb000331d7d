-- CALLS (4): when, round, never, feud
section C4
variable {h g : fw_H} {n w p k m e F i t a : Nat} {T Wd f : Nat → Int32} {lw : Option (List q_C)} {x y : Int32} {E : z_E}
/-- both circles, from one start -/
theorem w_ring (hF : 70000 ≤ F) (hR : w_S h n w T Wd f lw p) (h0 : 0 < n) : ∃ (E : z_E) (j u : Nat) (h1 : fw_H), E.1 = n ∧ e_ok E (v_pos f) ∧ c_R (c_x E (v_pos f)) j u ∧ s_Joy_startWalk F h (some 15) = some h1 ∧ w_k h h1 ∧ w_S h1 n w T Wd f lw p ∧ z_CW h1 E ∧ z_ps h1 (v_pos f) ∧
    (∃ h2, s_Walk_circle F h1 (some 48) = some h2 ∧ w_k h1 h2 ∧ z_Sh h2 ∧ z_CW h2 E ∧ z_ps h2 (c_x E (v_pos f) u) ∧ z_I h2 48 13 = nI j ∧ z_I h2 48 14 = nI (u - j) ∧ z_I h2 48 15 = nI (c_m (c_x E (v_pos f)) u)) ∧
    ∀ g, w_S g n w T Wd f lw p → ∃ g', s_Mod_layRing F g (some 68) = some g' ∧ w_k g g' ∧ z_MC g' n w T Wd f lw (2 ^ n - 1) ∧ (∀ h', w_S h' n w T Wd f lw p → v_R h' 29 n w T Wd f) ∧ z_I g' 68 36 = nI j ∧ z_I g' 68 37 = nI (u - j) ∧ z_I g' 68 38 = nI (c_m (c_x E (v_pos f)) u) ∧ z_I g' 68 39 = nI (c_m (c_x E (c_x E (v_pos f) u)) (u - j)) ∧
      ∃ m, E = v_E n w T Wd f lw (v_op f) (2 ^ n - 1) m ∧ z_MB f n m := by
  have hok := hR.ok
  obtain ⟨m, h1, m1, m2, a1, a2, a3, a4, a5, a6, a7, a8, a9, a10⟩ := w_start hF hR h0
  have hC := a4.go hok m1 a8 a9
  obtain ⟨E, hE⟩ : ∃ E, E = v_E n w T Wd f lw (v_op f) (2 ^ n - 1) m := ⟨_, rfl⟩
  rw [← hE] at hC
  have hE1 : E.1 = n := by rw [hE]; rfl
  have hk0 : e_ok E (v_pos f) := a5.ok h0 hok.1 hE1
  obtain ⟨j, u, hr⟩ := c_ex (hE1 ▸ hok.1) hk0
  refine ⟨E, j, u, h1, hE1, hk0, hr, a1, a2, a3, hC, a10, ?_, fun g hg => ?_⟩
  · obtain ⟨h2, b1, b2, b3, b4⟩ := z_circle hF a3.1 hC a10 hk0 a3.2.2.2.2.2.2.2.2.1 hr
    exact ⟨h2, b1, w_k.tr b2 b3, a3.1.fr b2 (by decide), b4⟩
  · obtain ⟨g', c1, c2, c3, c4⟩ := z_layRing hF hok hE m2 hg.MC hg.2.1.2.1 h0 hr
    have hk : w_k g g' := w_k.mm c2 (by decide) (by decide) (fun k hk => c3 k (by omega) (by omega) (by omega) (by omega) (by omega) (by omega) (by omega))
    exact ⟨g', c1, hk, (hg.kp hk).MC, fun h' z => z.2.1.2.1, c4.1, c4.2.1, c4.2.2.1, c4.2.2.2, m, hE, m2⟩
/-- round -/
theorem call_round (hF : 70000 ≤ F) (hR : w_R h) : ∃ v h1 h2, s_Joy_round F h (some 15) x = some (v, h1) ∧ s_Mod_round F h1 (some 68) x = some (v, h2) ∧ w_call h h1 h2 := by
  obtain ⟨n, w, T, Wd, f, lw, p, hR⟩ := hR
  have hS := hR.1
  have hok := hR.ok
  have hn := hR.2.1.2.1.1
  have hnm := hR.2.1.2.2.1
  have em : ∀ g, z_Sh g → z_I g 68 24 = nI n → s_Mod_round F g (some 68) x = if nI n = (0 : Int32) then (some ((-1 : Int32), g)) else if decide (¬ x < 0 ∧ ¬ (1 : Int32) < x) = true then ((s_Mod_layRing F g (some 68)).bind fun h19 => if ¬ x = (0 : Int32) then ((f_gI h19 (some 68) 12 37).bind fun x34 => some (x34, h19)) else (f_gI h19 (some 68) 12 36).bind fun x27 => some (x27, h19)) else some ((-1 : Int32), g) := by
    intro g hg e
    unfold s_Mod_round
    rw [z_c68 hg, Option.bind_some, z_i68_24 hg, Option.bind_some, e, z_in, Option.bind_some]
  unfold s_Joy_round
  rw [z_c15 hS, Option.bind_some, z_r15_3 hS, Option.bind_some, z_isNone hS (.inr (.inl rfl)) hn hok.1, Option.bind_some]
  by_cases h0 : n = 0
  · rw [if_pos (decide_eq_true h0)]
    exact ⟨_, h, h, rfl, by rw [em h hS hnm, if_pos (by rw [h0]; decide)], w_call.rr hR⟩
  · have hpos : 0 < n := by omega
    have hnz : ¬ nI n = (0 : Int32) := nI_ne0 hpos (by have := hok.1; omega)
    rw [if_neg (by simpa using h0)]
    by_cases hx0 : x < 0
    · rw [if_pos hx0]
      exact ⟨_, h, h, rfl, by rw [em h hS hnm, if_neg hnz, if_neg (by simp [hx0])], w_call.rr hR⟩
    · rw [if_neg hx0]
      by_cases hx1 : (1 : Int32) < x
      · rw [if_neg (q_lt_iff.mpr hx1)]
        exact ⟨_, h, h, rfl, by rw [em h hS hnm, if_neg hnz, if_neg (by simp [hx1])], w_call.rr hR⟩
      · rw [if_pos (fa_of_nlt hx1)]
        obtain ⟨E, j, u, h1, e1, e2, e3, e4, e5, e6, e7, e8, ⟨h2, b1, b2, b3, b4, b5, b6, b7, b8⟩, hm⟩ := w_ring hF hR hpos
        have hR2 := e6.kp b2
        obtain ⟨h3, c1, c2, c3, -, c4, c5, c6, c7, -⟩ := hm h2 hR2
        rw [e4, Option.bind_some, z_r15_12 e6.1, Option.bind_some, b1, Option.bind_some]
        have eM : s_Mod_round F h2 (some 68) x = some (if ¬ x = (0 : Int32) then nI (u - j) else nI j, h3) := by
          rw [em h2 b3 hR2.2.1.2.2.1, if_neg hnz, if_pos (decide_eq_true ⟨hx0, hx1⟩), c1, Option.bind_some, z_i68_37 c3.1, z_i68_36 c3.1, c4, c5]
          by_cases hx : x = 0
          · rw [if_neg (fun z => z hx), if_neg (fun z => z hx)]; rfl
          · rw [if_pos hx, if_pos hx]; rfl
        refine ⟨_, h2, h3, ?_, eM, w_call.kk hR (e5.trans b2) c2⟩
        simp only [z_r15_12 b3, Option.bind_some, z_i48_14 b3, z_i48_13 b3, b6, b7]
        by_cases hx : x = 0
        · rw [if_neg (fun z => z hx), if_neg (fun z => z hx)]
        · rw [if_pos hx, if_pos hx]
/-- never -/
theorem call_never (hF : 70000 ≤ F) (hR : w_R h) : ∃ v h1 h2, s_Joy_never F h (some 15) = some (v, h1) ∧ s_Mod_never F h1 (some 68) = some (v, h2) ∧ w_call h h1 h2 := by
  obtain ⟨n, w, T, Wd, f, lw, p, hR⟩ := hR
  have hS := hR.1
  have hok := hR.ok
  have hn12 := hok.1
  have hn := hR.2.1.2.1.1
  have hnm := hR.2.1.2.2.1
  have em : ∀ g, z_Sh g → z_I g 68 24 = nI n → s_Mod_never F g (some 68) = if ¬ nI n = (0 : Int32) then ((s_Mod_layRing F g (some 68)).bind fun h10 => (s_Mod_everyHouse h10 (some 68)).bind fun x14 => (f_gI h10 (some 68) 12 38).bind fun x18 => some ((x14 &&& (x18 ^^^ (-1 : Int32))), h10)) else some ((-1 : Int32), g) := by
    intro g hg e
    unfold s_Mod_never
    rw [z_c68 hg, Option.bind_some, z_i68_24 hg, Option.bind_some, e]
  unfold s_Joy_never
  rw [z_c15 hS, Option.bind_some, z_r15_3 hS, Option.bind_some, z_isNone hS (.inr (.inl rfl)) hn hok.1, Option.bind_some]
  by_cases h0 : n = 0
  · rw [if_pos (decide_eq_true h0)]
    exact ⟨_, h, h, rfl, by rw [em h hS hnm, if_neg (by rw [h0]; decide)], w_call.rr hR⟩
  · have hpos : 0 < n := by omega
    have hnz : ¬ nI n = (0 : Int32) := nI_ne0 hpos (by omega)
    rw [if_neg (by simpa using h0)]
    obtain ⟨E, j, u, h1, e1, e2, e3, e4, e5, e6, e7, e8, ⟨h2, b1, b2, b3, b4, b5, b6, b7, b8⟩, hm⟩ := w_ring hF hR hpos
    have hR2 := e6.kp b2
    obtain ⟨h3, c1, c2, c3, -, c4, c5, c6, c7, -⟩ := hm h2 hR2
    have hR3 := hR2.kp c2
    rw [e4, Option.bind_some, z_r15_12 e6.1, Option.bind_some, b1, Option.bind_some, z_r15_3 b3, Option.bind_some, z_all b3 (.inr (.inl rfl)) hR2.2.1.2.1.1 hn12, Option.bind_some, z_r15_12 b3, Option.bind_some, z_i48_15 b3, Option.bind_some, b8]
    refine ⟨_, h2, h3, rfl, ?_, w_call.kk hR (e5.trans b2) c2⟩
    rw [em h2 b3 hR2.2.1.2.2.1, if_pos hnz, c1, Option.bind_some]
    unfold s_Mod_everyHouse
    rw [z_c68 c3.1, Option.bind_some, z_i68_24 c3.1, Option.bind_some, c3.2.1.1, Option.bind_some, z_i68_38 c3.1, Option.bind_some, c6, z_sh1 (by omega), show nI (2 ^ n) - (1 : Int32) = nI (2 ^ n - 1) from pk_sub Nat.one_le_two_pow]
/-- feud -/
theorem call_feud (hF : 70000 ≤ F) (hR : w_R h) : ∃ v h1 h2, s_Joy_feud F h (some 15) = some (v, h1) ∧ s_Mod_feud F h1 (some 68) = some (v, h2) ∧ w_call h h1 h2 := by
  obtain ⟨n, w, T, Wd, f, lw, p, hR⟩ := hR
  have hS := hR.1
  have hok := hR.ok
  have hn12 := hok.1
  have hn := hR.2.1.2.1.1
  have hnm := hR.2.1.2.2.1
  have em : ∀ g, z_Sh g → z_I g 68 24 = nI n → s_Mod_feud F g (some 68) = if ¬ nI n = (0 : Int32) then ((s_Mod_layRing F g (some 68)).bind fun h10 => (f_gI h10 (some 68) 12 39).bind fun x14 => some (x14, h10)) else some ((-1 : Int32), g) := by
    intro g hg e
    unfold s_Mod_feud
    rw [z_c68 hg, Option.bind_some, z_i68_24 hg, Option.bind_some, e]
  unfold s_Joy_feud
  rw [z_c15 hS, Option.bind_some, z_r15_3 hS, Option.bind_some, z_isNone hS (.inr (.inl rfl)) hn hok.1, Option.bind_some]
  by_cases h0 : n = 0
  · rw [if_pos (decide_eq_true h0)]
    exact ⟨_, h, h, rfl, by rw [em h hS hnm, if_neg (by rw [h0]; decide)], w_call.rr hR⟩
  · have hpos : 0 < n := by omega
    have hnz : ¬ nI n = (0 : Int32) := nI_ne0 hpos (by omega)
    rw [if_neg (by simpa using h0)]
    obtain ⟨E, j, u, h1, e1, e2, e3, e4, e5, e6, e7, e8, ⟨h2, b1, b2, b3, b4, b5, b6, b7, b8⟩, hm⟩ := w_ring hF hR hpos
    have hR2 := e6.kp b2
    have hu := e3.2.1
    obtain ⟨h3, d1, d2⟩ := z_metL (n := u - j) (p := c_x E (v_pos f) u) hF (by omega) (c_x_ok e2) (u - j) 0 F h2 (by omega) (by omega) b3 b4 b5 b7
    have hS3 := d2.sh b3
    have hR3 := hR2.kp (w_k.ww d2)
    obtain ⟨h4, c1, c2, c3, -, c4, c5, c6, c7, -⟩ := hm h3 hR3
    have d1' : s_Walk_metInLoop F h2 (some 48) = some (nI (c_m (c_x E (c_x E (v_pos f) u)) (u - j)), h3) := by
      unfold s_Walk_metInLoop
      rw [z_c48 b3, Option.bind_some]
      exact d1
    rw [e4, Option.bind_some, z_r15_12 e6.1, Option.bind_some, b1, Option.bind_some, z_r15_12 b3, Option.bind_some, d1', Option.bind_some]
    refine ⟨_, h3, h4, rfl, ?_, w_call.kk hR ((e5.trans b2).trans (w_k.ww d2)) c2⟩
    rw [em h3 hS3 hR3.2.1.2.2.1, if_pos hnz, c1, Option.bind_some, z_i68_39 c3.1, Option.bind_some, c7]
theorem z_whenL (hF : 70000 ≤ F) (hok : v_ok n w Wd) (hE : E = v_E n w T Wd f lw (v_op f) e m) (hB : z_MB f n m) {q : e_P} (hp0 : e_ok E q) (hN : t ≤ 3744) (ha : a < 12) (h1 : (c_x E q t).1 = a) (h2 : ∀ i, i < t → (c_x E q i).1 ≠ a) :
    ∀ (k i nn : Nat) (g : fw_H), i + k = t → k < nn → z_MC g n w T Wd f lw e → z_mps g (c_x E q i) → ∃ g', l_Mod_when_33 F (some 68) (nI a) nn (nI i) g = some (nI t, g') ∧ z_mw g g' := by
  have hE12 : E.1 ≤ 12 := by rw [hE]; exact hok.1
  intro k
  induction k with
  | zero =>
    intro i nn g hi hnn hC hp
    obtain ⟨nn, rfl⟩ : ∃ k, nn = k + 1 := ⟨nn - 1, by omega⟩
    obtain rfl : i = t := by omega
    refine ⟨g, ?_, z_mw.refl⟩
    rw [l_Mod_when_33, z_i68_32 hC.1, Option.bind_some, hp.1, h1, if_pos rfl]
  | succ k ih =>
    intro i nn g hi hnn hC hp
    obtain ⟨nn, rfl⟩ : ∃ k, nn = k + 1 := ⟨nn - 1, by omega⟩
    have hat : (c_x E q i).1 < 12 := Nat.lt_of_lt_of_le (c_x_ok (i := i) hp0).1 hE12
    obtain ⟨g3, a1, a2, a3⟩ := z_mwalk hF hok hE hB hC hp (c_x_ok hp0)
    rw [l_Mod_when_33, z_i68_32 hC.1, Option.bind_some, hp.1, if_neg (fun z => h2 i (by omega) ((nI_eq (by omega) (by omega)).mp z)), a1, Option.bind_some, show nI i + 1 = nI (i + 1) from nI_1 i]
    obtain ⟨g4, b1, b2⟩ := ih (i + 1) nn g3 (by omega) (by omega) (hC.mw a2) (by rw [c_x_succ]; exact a3)
    exact ⟨g4, b1, a2.trans b2⟩
/-- when -/
theorem call_when (hF : 70000 ≤ F) (hR : w_R h) : ∃ v h1 h2, s_Joy_when F h (some 15) x = some (v, h1) ∧ s_Mod_when F h1 (some 68) x = some (v, h2) ∧ w_call h h1 h2 := by
  obtain ⟨n, w, T, Wd, f, lw, p, hR⟩ := hR
  have hS := hR.1
  have hok := hR.ok
  have hn12 := hok.1
  have hn := hR.2.1.2.1.1
  have hnm := hR.2.1.2.2.1
  have em : ∀ g, z_Sh g → z_I g 68 24 = nI n → s_Mod_when F g (some 68) x = if v_in x n = true then ((s_Mod_layRing F g (some 68)).bind fun h11 => (f_gI h11 (some 68) 12 38).bind fun x15 => (s_Mod_has x15 x).bind fun x19 => if x19 = true then ((s_Mod_startWalk h11 (some 68)).bind fun h28 => l_Mod_when_33 F (some 68) x F (0 : Int32) h28) else some ((-1 : Int32), h11)) else some ((-1 : Int32), g) := by
    intro g hg e
    unfold s_Mod_when
    rw [z_c68 hg, Option.bind_some, z_isHouse hg e hn12, Option.bind_some]
  unfold s_Joy_when
  rw [z_c15 hS, Option.bind_some, z_r15_3 hS, Option.bind_some, z_hasHouse hS (.inr (.inl rfl)) hn, Option.bind_some]
  by_cases hx : v_in x n = true
  · obtain ⟨a, ha, rfl⟩ := v_in_t hx (by omega)
    have hpos : 0 < n := by omega
    obtain ⟨E, j, u, h1, e1, e2, e3, e4, e5, e6, e7, e8, -, hm⟩ := w_ring hF hR hpos
    have hu := e3.2.1
    have hlt12 : ∀ i, (c_x E (v_pos f) i).1 < 12 := fun i => Nat.lt_of_lt_of_le (c_x_ok (i := i) e2).1 (e1 ▸ hn12)
    rw [if_pos hx, e4, Option.bind_some, z_r15_12 e6.1, Option.bind_some]
    by_cases hex : ∃ t, t < u ∧ (c_x E (v_pos f) t).1 = a
    · obtain ⟨t, ⟨t1, t2⟩, t3⟩ := pk_least (fun t => t < u ∧ (c_x E (v_pos f) t).1 = a) hex
      have t4 : ∀ i, i < t → (c_x E (v_pos f) i).1 ≠ a := fun i hi z => t3 i hi ⟨by omega, z⟩
      obtain ⟨h2, b1, b2, b3, b4⟩ := z_hoursTo (r := some t) hF e6.1 e7 e8 e2 e6.2.2.2.2.2.2.2.2.1 e3 (show a < 12 by omega) ⟨t1, t2, t4⟩
      have k2 : w_k h1 h2 := w_k.tr b2 b3
      have hR2 := e6.kp k2
      obtain ⟨h3, c1, c2, c3, -, c4, c5, c6, c7, m, hE, m2⟩ := hm h2 hR2
      have hR3 := hR2.kp c2
      obtain ⟨h4, d1, d2, d3⟩ := z_mstart c3.1 c3.2.1.2.1.2.2 hR3.2.1.2.1 hpos hn12
      obtain ⟨h5, f1, f2⟩ := z_whenL (q := v_pos f) hF hok hE m2 e2 (show t ≤ 3744 by omega) (show a < 12 by omega) t2 t4 t 0 F h4 (by omega) (by omega) (c3.mw d2) d3
      rw [b1, Option.bind_some]
      refine ⟨_, h2, h5, rfl, ?_, w_call.kk hR (e5.trans k2) ((c2.trans (w_k.mw d2)).trans (w_k.mw f2))⟩
      have hbit : (c_m (c_x E (v_pos f)) u).testBit a = true := c_m_bit.mpr ⟨t, t1, t2⟩
      rw [em h2 hR2.1 hR2.2.1.2.2.1, if_pos hx, c1, Option.bind_some, z_i68_38 c3.1, Option.bind_some, c6, z_mhas (Nat.lt_trans (c_m_lt hlt12 u) (by decide)) (by omega), Option.bind_some, if_pos hbit, d1, Option.bind_some]
      exact f1
    · obtain ⟨h2, b1, b2, b3, b4⟩ := z_hoursTo (r := none) hF e6.1 e7 e8 e2 e6.2.2.2.2.2.2.2.2.1 e3 (show a < 12 by omega) (fun i hi z => hex ⟨i, hi, z⟩)
      have k2 : w_k h1 h2 := w_k.tr b2 b3
      have hR2 := e6.kp k2
      obtain ⟨h3, c1, c2, c3, -, c4, c5, c6, c7, m, hE, m2⟩ := hm h2 hR2
      rw [b1, Option.bind_some]
      refine ⟨_, h2, h3, rfl, ?_, w_call.kk hR (e5.trans k2) c2⟩
      have hbit : ¬ (c_m (c_x E (v_pos f)) u).testBit a = true := fun z => hex (by obtain ⟨t, t1, t2⟩ := c_m_bit.mp z; exact ⟨t, t1, t2⟩)
      rw [em h2 hR2.1 hR2.2.1.2.2.1, if_pos hx, c1, Option.bind_some, z_i68_38 c3.1, Option.bind_some, c6, z_mhas (Nat.lt_trans (c_m_lt hlt12 u) (by decide)) (by omega), Option.bind_some, if_neg hbit]
  · rw [if_neg hx]
    exact ⟨_, h, h, rfl, by rw [em h hS hnm, if_neg hx], w_call.rr hR⟩
end C4
