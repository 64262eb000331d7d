-- HOURS GO BY (3): go, mists
section GO
variable {h g g' h1 h2 : fw_H} {n w i k t x a b l p m e F nn c nx N hr : Nat} {T Wd f f' f0 A H : Nat → Int32} {S : Nat → Nat → Int32} {v ms xx : Int32} {E : z_E} {lw : Option (List q_C)} {fog fg : Bool} {X : j_X} {y : Int64}
theorem j_cf.cells (hf : j_cf g g') : w_q j_C [] [31] g g' := w_q.fr hf.1 (fun j hj => .inl (by revert j; decide)) (by decide) (by decide)
theorem j_mf.cells (hf : j_mf g g') : w_q j_C [] [31] g g' := w_q.m68 hf.1 (by decide) (by decide) (fun k hk => hf.2 k (by simpa using hk))
/-- the mist's word on an hour -/
def j_B (fg : Bool) (ms : Int32) (x : Int64) : Bool := fg || decide (¬ (0 : Int32) ≤ lg_cmp (j_dr x) (Int32.toInt64 ms))
/-- the class has let N hours go; what the reference is to do -/
theorem j_hours (hF : 70000 ≤ F) (hR : w_S h n w T Wd f lw p) (h0 : 0 < n) (hN : N ≤ 240) (ht : v_hr f + N ≤ 9999) (y : Int64) :
    ∃ (E : z_E) (m : Nat) (fg : Bool) (h1 h2 : fw_H) (X : j_X), E = v_E n w T Wd f lw (v_op f) (2 ^ n - 1) m ∧ z_MB f n m ∧ X.1 = f ∧ f 53 = fw_b fg ∧ s_Joy_startWalk F h (some 15) = some h1 ∧
      l_Joy_letHoursGo_49 F (some 15) (nI N) ms F y (nI 0) h1 = some (nI (v_hr (j_run n T E (j_B fg ms) N y X).1), h2) ∧ z_Sh h2 ∧ z_I h2 68 24 = nI n ∧ z_A h2 84 56 = nI (v_hr f) ∧ z_I h2 68 29 = z_I h 68 29 ∧ j_MI h2 n w T Wd f lw X ∧
      ∀ h3, j_mf h2 h3 → j_MI h3 n w T Wd f lw (j_run n T E (j_B fg ms) N y X) → w_call h h2 h3 := by
  have hok := hR.ok
  have hn12 := hok.1
  obtain ⟨m, h1, m1, m2, a1, a2, a3, a4, a5, a6, a7, a8, a9, a10⟩ := w_start hF hR h0
  obtain ⟨c, nx, H, S, l, hA, hM, hf⟩ := a3.2.2.2.2.1.unf
  obtain ⟨E, hE⟩ : ∃ E, E = v_E n w T Wd f lw (v_op f) (2 ^ n - 1) m := ⟨_, rfl⟩
  have hE1 : E.1 = n := by rw [hE]; rfl
  have hC : z_CW h1 E := by rw [hE]; exact a4.go hok m1 a8 a9
  have hR1 := a3.2.1.2.1
  have hR0 := hR1
  obtain ⟨-, -, -, -, -, -, -, -, -, ⟨fg, -, hfg⟩, -⟩ := hR0
  obtain ⟨X, hX⟩ : ∃ X : j_X, X = (f, (c, (S, l c))) := ⟨_, rfl⟩
  have hX1 : X.1 = f := by rw [hX]
  have hCI : j_CI h1 E n w T Wd X := by
    rw [hX]
    exact ⟨a3.1, hR1, ⟨nx, H, l, hA, rfl⟩, hf, hC, a10⟩
  obtain ⟨h2, b1, b2, b3⟩ := j_loopC (ms := ms) (fg := fg) (B := j_B fg ms) hF hok h0 hE1 (fun x => rfl) hN N 0 F y h1 X (by omega) (by omega) hCI (by rw [hX1]; exact ht) (by rw [hX1]; exact hfg)
  have q2 := b2.cells
  have hS2 := b3.1
  have hMC := a3.MC
  have hMI : j_MI h2 n w T Wd f lw X := by
    rw [hX]
    refine ⟨hMC.of b2.1 (by decide) (by decide) (fun k _ => b2.1.I (by decide)), hM.fr b2.1 (by decide) (b2.1.I (by decide)), hA.1, hf, ?_, fun _ _ => rfl⟩
    obtain ⟨p1, p2, p3, p4, p5, p6, -⟩ := hR1.pos h0 hn12
    have hlog := hA.2.2.2.2.1 c (Nat.le_refl _)
    rw [hf] at hlog
    exact ⟨p1, p2, p3, p4, p5, p6, hlog.1.1⟩
  obtain ⟨-, -, -, -, p5, -⟩ := hR1.pos h0 hn12
  refine ⟨E, m, fg, h1, h2, X, hE, m2, hX1, hfg, a1, b1, hS2, hMI.1.2.1.1, ?_, ?_, hMI, fun h3 d1 d2 => ?_⟩
  · rw [b2.1.A (by decide), a3.2.1.2.2.2.1.2.2 56 (by decide)]; exact p5
  · rw [b2.1.I (by decide)]; exact a2.2.2.1 29 (by omega)
  · have q3 := q2.trans d1.cells
    obtain ⟨nx', H', l', e1, e2⟩ := b3.2.2.1
    have hv3 : v_R h3 29 n w T Wd (j_run n T E (j_B fg ms) N y X).1 := b3.2.1.fr hn12 hok.2.1 d1.1 (fun d hd => by simp; omega)
    have hac := e1.fr d1.1 (by decide)
    have ha : w_acts h3 n T (j_run n T E (j_B fg ms) N y X).1 := hac.shut d2.2.1 d2.2.2.2.1
    have ht : w_trail h3 := a3.2.2.2.2.2.2.2.2.of (by rw [d1.1.I (by decide)]; exact b2.2 12 (by decide) (by decide) (by decide)) (fun j => by rw [d1.1.A (by decide), b2.1.A (by decide)]) (fun k => by rw [d1.1.R (by decide), b2.1.R (by decide)])
    exact ⟨(q2.c0 (by decide)).trans a2.c0, ⟨n, w, T, Wd, _, lw, p, j_done a3 q3 hv3 d2.1.2.1.2.1.2.2 ha ht⟩, (q3.c0 (by decide)).trans a2.c0⟩
theorem z_areHours (hS : z_Sh g) (h24 : z_I g 68 24 = nI n) (hn : n ≤ 12) (h56 : 0 < n → z_A g 84 56 = nI hr) : s_Mod_areHours g (some 68) xx = some (!decide (n = 0) && (decide (¬ xx < 1 ∧ ¬ (240 : Int32) < xx) && !decide ((9999 : Int32) < nI hr + xx))) := by
  unfold s_Mod_areHours
  rw [z_c68 hS, Option.bind_some, z_i68_24 hS, Option.bind_some, h24]
  by_cases h0 : n = 0
  · rw [if_pos (by rw [h0]; decide), decide_eq_true h0]; rfl
  · rw [if_neg (nI_nle (by omega) (by omega)), z_in, Option.bind_some, decide_eq_false h0]
    by_cases h1 : ¬ xx < 1 ∧ ¬ (240 : Int32) < xx
    · rw [if_pos (decide_eq_true h1), decide_eq_true h1, z_r68_26 hS, Option.bind_some, show (56 : Int32) = nI 56 from rfl, z_a84 hS (by decide), Option.bind_some, h56 (by omega)]
      by_cases h2 : (9999 : Int32) < nI hr + xx
      · rw [if_pos h2, decide_eq_true h2]; rfl
      · rw [if_neg h2, decide_eq_false h2]; rfl
    · rw [if_neg (by simpa using h1), decide_eq_false h1]; rfl
/-- go and mists, the class, and whether the reference's hours are in bounds -/
theorem j_let (hF : 70000 ≤ F) (hR : w_S h n w T Wd f lw p) (y : Int64) :
    (s_Joy_letHoursGo F h (some 15) xx ms y = some (-1, h) ∧ s_Mod_areHours h (some 68) xx = some false) ∨
    ∃ (N : Nat) (E : z_E) (m : Nat) (fg : Bool) (h2 : fw_H) (X : j_X), 0 < n ∧ N ≤ 240 ∧ xx = nI N ∧ v_hr f + N ≤ 9999 ∧ E = v_E n w T Wd f lw (v_op f) (2 ^ n - 1) m ∧ z_MB f n m ∧ X.1 = f ∧ f 53 = fw_b fg ∧
      s_Joy_letHoursGo F h (some 15) xx ms y = some (nI (v_hr (j_run n T E (j_B fg ms) N y X).1), h2) ∧ z_Sh h2 ∧ s_Mod_areHours h2 (some 68) xx = some true ∧ z_I h2 68 29 = z_I h 68 29 ∧ j_MI h2 n w T Wd f lw X ∧
      ∀ h3, j_mf h2 h3 → j_MI h3 n w T Wd f lw (j_run n T E (j_B fg ms) N y X) → w_call h h2 h3 := by
  have hS := hR.1
  have hok := hR.ok
  have hn := hR.2.1.2.1.1
  have hnm := hR.2.1.2.2.1
  have hn12 := hok.1
  unfold s_Joy_letHoursGo
  rw [z_c15 hS, Option.bind_some, z_r15_3 hS, Option.bind_some, z_isNone hS (.inr (.inl rfl)) hn hn12, Option.bind_some]
  by_cases h0 : n = 0
  · refine .inl ⟨by rw [if_pos (decide_eq_true h0)], ?_⟩
    rw [z_areHours (hr := 0) hS hnm hn12 (fun z => by omega), decide_eq_true h0]; rfl
  · have hpos : 0 < n := by omega
    obtain ⟨-, -, -, -, p5, p6, -, -, p9⟩ := hR.2.1.2.1.pos hpos hn12
    have h56 : 0 < n → z_A h 84 56 = nI (v_hr f) := fun _ => (hR.2.1.2.2.2.1.2.2 56 (by decide)).trans p5
    rw [if_neg (by simpa using h0)]
    have har := z_areHours (xx := xx) hS hnm hn12 h56
    rw [decide_eq_false h0] at har
    by_cases h1 : xx < 1
    · refine .inl ⟨by rw [if_pos h1], ?_⟩
      rw [har, decide_eq_false (fun z => z.1 h1)]; rfl
    · rw [if_neg h1]
      by_cases h2 : (240 : Int32) < xx
      · refine .inl ⟨by rw [if_pos h2], ?_⟩
        rw [har, decide_eq_false (fun z => z.2 h2)]; rfl
      · rw [if_neg h2, Option.bind_some, z_i29_12 hS, Option.bind_some, p9]
        have hx0 : ¬ xx < 0 := by
          rw [fa_lt] at h1 ⊢
          have e0 : (0 : Int32).toInt = 0 := by decide
          have e1 : (1 : Int32).toInt = 1 := by decide
          omega
        obtain ⟨N, hN, rfl⟩ := v_le_t (N := 240) hx0 h2 (by decide)
        rw [show nI (v_hr f) + nI N = nI (v_hr f + N) from nI_add _ _]
        by_cases h3 : v_hr f + N ≤ 9999
        · rw [if_pos (show nI (v_hr f + N) ≤ (9999 : Int32) from nI_le (b := 9999) h3 (by decide))]
          obtain ⟨E, m, fg, h1', h2', X, c1, c2, c3, c4, c5, c6, c7, c8, c9, c10, c11, c12⟩ := j_hours (ms := ms) hF hR hpos hN h3 y
          refine .inr ⟨N, E, m, fg, h2', X, hpos, hN, rfl, h3, c1, c2, c3, c4, by rw [c5, Option.bind_some]; exact c6, c7, ?_, c10, c11, c12⟩
          rw [z_areHours c7 c8 hn12 (fun _ => c9), decide_eq_false h0, decide_eq_true ⟨h1, h2⟩, decide_eq_false (by rw [show nI (v_hr f) + nI N = nI (v_hr f + N) from nI_add _ _]; exact nI_nlt (b := v_hr f + N) (a := 9999) h3 (by decide))]
          rfl
        · refine .inl ⟨by rw [if_neg (show ¬ nI (v_hr f + N) ≤ (9999 : Int32) from nI_ge (a := 9999) (by omega) (by omega))], ?_⟩
          rw [har, decide_eq_true ⟨h1, h2⟩, decide_eq_true (by rw [show nI (v_hr f) + nI N = nI (v_hr f + N) from nI_add _ _]; exact nI_lt (a := 9999) (by omega) (by omega))]
          rfl
/-- go -/
theorem call_go (hF : 70000 ≤ F) (hR : w_R h) : ∃ v h1 h2, s_Joy_go F h (some 15) xx = some (v, h1) ∧ s_Mod_go F h1 (some 68) xx = some (v, h2) ∧ w_call h h1 h2 := by
  obtain ⟨n, w, T, Wd, f, lw, p, hR⟩ := hR
  have hS := hR.1
  unfold s_Joy_go
  rw [z_c15 hS, Option.bind_some]
  rcases j_let (xx := xx) (ms := 0) hF hR (0 : Int64) with ⟨a1, a2⟩ | ⟨N, E, m, fg, h2, X, hpos, hN, hx, h3, c1, c2, c3, c4, c5, c6, c7, c8, c9, c10⟩
  · refine ⟨-1, h, h, by rw [a1]; rfl, ?_, w_call.rr hR⟩
    unfold s_Mod_go
    rw [z_c68 hS, Option.bind_some, a2, Option.bind_some, if_neg (by decide)]
  · have hB : ∀ x, j_B fg 0 x = fg := fun x => by
      unfold j_B
      rw [decide_eq_false (fun z => z (j_dr_0 x)), Bool.or_false]
    obtain ⟨g', d1, d2, d3⟩ := j_loopG (B := j_B fg 0) hF hR.ok hpos c1 c2 hB hN N 0 F (0 : Int64) h2 X (by omega) (by omega) c9 (by rw [c3]; exact h3) (by rw [c3]; exact c4)
    refine ⟨_, h2, g', by rw [c5]; rfl, ?_, c10 g' d2 d3⟩
    unfold s_Mod_go
    rw [z_c68 c6, Option.bind_some, c7, Option.bind_some, if_pos rfl, hx]
    exact d1
/-- mists -/
theorem call_mists (hF : 70000 ≤ F) (hR : w_R h) : ∃ v h1 h2, s_Joy_mists F h (some 15) xx y = some (v, h1) ∧ s_Mod_mists F h1 (some 68) xx y = some (v, h2) ∧ w_call h h1 h2 := by
  obtain ⟨n, w, T, Wd, f, lw, p, hR⟩ := hR
  have hS := hR.1
  obtain ⟨ms, ms1, ms2, ms3⟩ := hR.2.2.2.2.2.2.2.1
  unfold s_Joy_mists
  rw [z_c15 hS, Option.bind_some, z_i15_11 hS, Option.bind_some, ms2]
  rcases j_let (xx := xx) (ms := nI ms) hF hR y with ⟨a1, a2⟩ | ⟨N, E, m, fg, h2, X, hpos, hN, hx, h3, c1, c2, c3, c4, c5, c6, c7, c8, c9, c10⟩
  · refine ⟨-1, h, h, by rw [a1]; rfl, ?_, w_call.rr hR⟩
    unfold s_Mod_mists
    rw [z_c68 hS, Option.bind_some, a2, Option.bind_some, if_neg (by decide)]
  · obtain ⟨g', d1, d2, d3⟩ := j_loopM (ms := nI ms) (fg := fg) (B := j_B fg (nI ms)) hF hR.ok hpos c1 c2 (fun x => rfl) hN N 0 F y h2 X (by omega) (by omega) c9 (by rw [c3]; exact h3) (by rw [c3]; exact c4) (by rw [c8]; exact ms3)
    refine ⟨_, h2, g', by rw [c5]; rfl, ?_, c10 g' d2 d3⟩
    unfold s_Mod_mists
    rw [z_c68 c6, Option.bind_some, c7, Option.bind_some, if_pos rfl, hx]
    exact d1
end GO
