-- CALLS (1): the walks begun on both sides; wish, ahead; the simplest ones
/-- both sides have done a call: the script is untouched, the relation stands -/
def w_call (h h1 h2 : fw_H) : Prop := h1[0]? = h[0]? ∧ w_R h2 ∧ h2[0]? = h[0]?
section C1
variable {h h1 h2 g g' : fw_H} {n w p k m e F i t a : Nat} {T Wd f : Nat → Int32} {lw : Option (List q_C)} {x y lo hi : Int32} {E : z_E} {q : e_P}
theorem w_call.kk (hR : w_S h n w T Wd f lw p) (k1 : w_k h h1) (k2 : w_k h1 h2) : w_call h h1 h2 := ⟨k1.c0, ⟨n, w, T, Wd, f, lw, p, hR.kp (k1.trans k2)⟩, (k1.trans k2).c0⟩
theorem w_call.rr (hR : w_S h n w T Wd f lw p) : w_call h h h := ⟨rfl, ⟨n, w, T, Wd, f, lw, p, hR⟩, rfl⟩
theorem z_in : s_Mod_in x lo hi = some (decide (¬ x < lo ∧ ¬ hi < x)) := by
  unfold s_Mod_in
  by_cases h1 : x < lo
  · rw [if_pos h1, decide_eq_false (fun z => z.1 h1)]
  · rw [if_neg h1]
    by_cases h2 : hi < x
    · rw [if_pos h2, decide_eq_false (fun z => z.2 h2)]
    · rw [if_neg h2, decide_eq_true ⟨h1, h2⟩]
theorem v_in_m1 (hn : n < 2 ^ 30) : decide (¬ x < 0 ∧ ¬ (nI n - 1) < x) = v_in x n := by
  unfold v_in
  have e1 : (nI n - 1).toInt = (n : Int) - 1 := pk_sub_toInt (a := n) (b := 1) hn (by decide)
  have e2 : (nI n).toInt = (n : Int) := nI_toInt (by omega)
  congr 1
  rw [fa_lt, fa_lt, fa_lt, e1, e2]
  apply propext
  constructor
  · rintro ⟨a, b⟩; exact ⟨a, by omega⟩
  · rintro ⟨a, b⟩; exact ⟨a, by omega⟩
theorem z_isHouse (hS : z_Sh h) (hn : z_I h 68 24 = nI n) (h12 : n ≤ 12) : s_Mod_isHouse h (some 68) x = some (v_in x n) := by
  unfold s_Mod_isHouse
  rw [z_c68 hS, Option.bind_some, z_i68_24 hS, Option.bind_some, hn, z_in, Option.bind_some, v_in_m1 (by omega)]
theorem z_isWindow (hS : z_Sh h) (hn : z_I h 68 25 = nI n) (h12 : n ≤ 16) : s_Mod_isWindow h (some 68) x = some (v_in x n) := by
  unfold s_Mod_isWindow
  rw [z_c68 hS, Option.bind_some, z_i68_25 hS, Option.bind_some, hn, z_in, Option.bind_some, v_in_m1 (by omega)]
/-- the numbers between two bounds -/
theorem v_le_t {N : Nat} (h : ¬ x < 0) (h2 : ¬ nI N < x) (hN : N < 2 ^ 31) : ∃ i, i ≤ N ∧ x = nI i := by
  obtain ⟨i, hi, rfl⟩ := nI_of h
  exact ⟨i, Nat.le_of_not_lt fun z => h2 (nI_lt z hi), rfl⟩
theorem w_S.ok (hR : w_S h n w T Wd f lw p) : v_ok n w Wd := hR.2.1.1
/-- the class's walk begun -/
theorem w_start (hF : 70000 ≤ F) (hR : w_S h n w T Wd f lw p) (h0 : 0 < n) : ∃ m h1, m < 2 ^ 12 ∧ z_MB f n m ∧ s_Joy_startWalk F h (some 15) = some h1 ∧ w_k h h1 ∧ w_S h1 n w T Wd f lw p ∧ z_CV h1 n w T Wd f lw (v_op f) ∧ v_R h1 49 n w T Wd f ∧ z_R h1 48 1 = some p ∧ z_LF h1 p lw ∧ z_I h1 48 5 = nI m ∧ z_I h1 48 6 = nI (2 ^ n - 1) ∧ z_ps h1 (v_pos f) := by
  have hR0 := hR
  obtain ⟨r1, ⟨v1, v2, v3, v4, v5, v6⟩, r3, -, -, -, -, -, r9⟩ := hR0
  have hL := r3.LH
  obtain ⟨h1, a1, a2, a3, a4, a5, a6, a7, a8, a9, a10⟩ := z_startWalk hF r1 v1 h0 v2 hL
  have hv2 := v2
  obtain ⟨-, -, -, -, -, -, -, ⟨m, m1, m2, m3⟩, -⟩ := hv2
  have hLW := hL.1.1
  have h97 := hL.1.2.1
  have hk : w_k h h1 := by
    have hn48 : ∀ j, j ∈ z_SA p → j ≠ 48 → j ∈ w_sc ∨ (97 ≤ j ∧ z_ck h j = some (1, (40, []))) := by
      intro j hj hne
      simp only [z_SA, List.mem_cons, List.not_mem_nil, or_false] at hj
      rcases hj with rfl | rfl | rfl | rfl | rfl | rfl | rfl | rfl | rfl | rfl | rfl
      · exact absurd rfl hne
      all_goals first | exact .inl (by decide) | skip
      rcases h97 with z | rfl
      · exact .inr ⟨by omega, hLW.2.2⟩
      · exact .inl (by decide)
    refine ⟨a2.1, fun j j1 j2 j3 j4 j5 j6 j7 => a2.2 j (fun z => ?_), fun k _ => a2.I (by simp [z_SA]; omega), a2.I (by simp [z_SA]; omega), a2.I (by simp [z_SA]; omega), fun hT => hT.of (a10 12 (by omega)) (fun j => a2.A (by simp [z_SA]; omega)) (fun k => a2.R (by simp [z_SA]; omega))⟩
    rcases hn48 j z j3 with z1 | ⟨z1, z2⟩
    · exact j1 z1
    · rcases j7 with z3 | z3
      · exact z3 z2
      · omega
  exact ⟨m, h1, m1, m3, a1, hk, hR.kp hk, a3, a4, a5, a6, a7.trans m2, a8, a9⟩
theorem v_full (h12 : n ≤ 12) : 2 ^ n - 1 < 2 ^ 12 := by
  have := z_pole h12
  omega
theorem z_CV.go (hok : v_ok n w Wd) (hc : z_CV h n w T Wd f lw (v_op f)) (hm : m < 2 ^ 12) (h5 : z_I h 48 5 = nI m) (h6 : z_I h 48 6 = nI (2 ^ n - 1)) : z_CW h (v_E n w T Wd f lw (v_op f) (2 ^ n - 1) m) := hc.cw hok (v_full hok.1) hm h6 h5
/-- n hours on, the class -/
theorem z_hoursL (hF : 70000 ≤ F) {N : Nat} (hN : N < 2 ^ 31) : ∀ (k i nn : Nat) (g : fw_H) (q : e_P), z_Sh g → z_CW g E → z_ps g q → e_ok E q → i + k = N → k < nn → ∃ g', l_Walk_hours_2 F (some 48) (nI N) nn (nI i) g = some g' ∧ (z_w g g' ∧ z_ps g' (e_it E k q)) := by
  intro k
  induction k with
  | zero =>
    intro i nn g q hS hC hp hk hi hnn
    obtain ⟨nn, rfl⟩ : ∃ k, nn = k + 1 := ⟨nn - 1, by omega⟩
    refine ⟨g, ?_, z_w.refl, hp⟩
    rw [l_Walk_hours_2, if_pos (nI_le (by omega) (by omega))]
  | succ k ih =>
    intro i nn g q hS hC hp hk hi hnn
    obtain ⟨nn, rfl⟩ : ∃ k, nn = k + 1 := ⟨nn - 1, by omega⟩
    obtain ⟨g1, a1, a2, a3⟩ := z_hour hF hS hC hp hk
    rw [l_Walk_hours_2, if_neg (nI_ge (by omega) (by omega)), a1, Option.bind_some, show nI i + 1 = nI (i + 1) from nI_1 i]
    obtain ⟨g2, b1, b2, b3⟩ := ih (i + 1) nn g1 _ (a2.sh hS) (a2.cw hC) a3 (e_go_ok hk) (by omega) (by omega)
    exact ⟨g2, b1, a2.trans b2, b3⟩
theorem z_hours (hF : 70000 ≤ F) {N : Nat} (hN : N < 60000) (hS : z_Sh h) (hC : z_CW h E) (hp : z_ps h q) (hk : e_ok E q) : ∃ h', s_Walk_hours F h (some 48) (nI N) = some h' ∧ (z_w h h' ∧ z_ps h' (e_it E N q)) := by
  unfold s_Walk_hours
  rw [z_c48 hS, Option.bind_some]
  exact z_hoursL hF (by omega) N 0 F h q hS hC hp hk (by omega) (by omega)
/-- n hours on, the reference -/
theorem z_behindL (hF : 70000 ≤ F) (hok : v_ok n w Wd) (hE : E = v_E n w T Wd f lw (v_op f) e m) (hB : z_MB f n m) {N : Nat} (hN : N < 2 ^ 31) : ∀ (k i nn : Nat) (g : fw_H) (q : e_P), z_MC g n w T Wd f lw e → z_mps g q → e_ok E q → i + k = N → k < nn →
    ∃ g', l_Mod_whereBehind_6 F (some 68) (nI N) nn (nI i) g = some (nI (e_it E k q).1, g') ∧ z_mw g g' := by
  intro k
  induction k with
  | zero =>
    intro i nn g q hC hp hk hi hnn
    obtain ⟨nn, rfl⟩ : ∃ k, nn = k + 1 := ⟨nn - 1, by omega⟩
    refine ⟨g, ?_, z_mw.refl⟩
    rw [l_Mod_whereBehind_6, if_pos (nI_le (by omega) (by omega)), z_i68_32 hC.1, Option.bind_some, hp.1]
    rfl
  | succ k ih =>
    intro i nn g q hC hp hk hi hnn
    obtain ⟨nn, rfl⟩ : ∃ k, nn = k + 1 := ⟨nn - 1, by omega⟩
    obtain ⟨g1, a1, a2, a3⟩ := z_mwalk hF hok hE hB hC hp hk
    rw [l_Mod_whereBehind_6, if_neg (nI_ge (by omega) (by omega)), a1, Option.bind_some, show nI i + 1 = nI (i + 1) from nI_1 i]
    obtain ⟨g2, b1, b2⟩ := ih (i + 1) nn g1 _ (hC.mw a2) a3 (e_go_ok hk) (by omega) (by omega)
    exact ⟨g2, b1, a2.trans b2⟩
theorem z_behind (hF : 70000 ≤ F) (hok : v_ok n w Wd) (hE : E = v_E n w T Wd f lw (v_op f) e m) (hB : z_MB f n m) {N : Nat} (hN : N < 60000) (hC : z_MC h n w T Wd f lw e) (hR : v_R g a n w T Wd f) (h0 : 0 < n) :
    ∃ h', s_Mod_whereBehind F h (some 68) (nI N) = some (nI (e_it E N (v_pos f)).1, h') ∧ z_mw h h' := by
  have hE1 : E.1 = n := by rw [hE]; rfl
  unfold s_Mod_whereBehind
  obtain ⟨g1, a1, a2, a3⟩ := z_mstart hC.1 hC.2.1.2.1.2.2 hR h0 hok.1
  rw [z_c68 hC.1, Option.bind_some, a1, Option.bind_some]
  obtain ⟨g2, b1, b2⟩ := z_behindL (N := N) hF hok hE hB (by omega) N 0 F g1 _ (hC.mw a2) a3 (hR.ok h0 hok.1 hE1) (by omega) (by omega)
  exact ⟨g2, b1, a2.trans b2⟩
/-- ahead -/
theorem call_ahead (hF : 70000 ≤ F) (hR : w_R h) : ∃ v h1 h2, s_Joy_ahead F h (some 15) x = some (v, h1) ∧ s_Mod_ahead F h1 (some 68) x = some (v, h2) ∧ w_call h h1 h2 := by
  obtain ⟨n, w, T, Wd, f, lw, p, hR⟩ := hR
  have hS := hR.1
  have hok := hR.ok
  have hn := hR.2.1.2.1.1
  have hnm := hR.2.1.2.2.1
  unfold s_Joy_ahead s_Mod_ahead
  rw [z_c15 hS, Option.bind_some, z_r15_3 hS, Option.bind_some, z_isNone hS (.inr (.inl rfl)) hn hok.1, Option.bind_some]
  by_cases h0 : n = 0
  · rw [if_pos (decide_eq_true h0)]
    refine ⟨-1, h, h, rfl, ?_, w_call.rr hR⟩
    rw [z_c68 hS, Option.bind_some, z_i68_24 hS, Option.bind_some, hnm, h0, if_pos (by decide)]
  · have hpos : 0 < n := by omega
    have hno : ∀ g, z_Sh g → z_I g 68 24 = nI n → (f_ck g (some 68) 12).bind (fun _ => (f_gI g (some 68) 12 24).bind fun x1 => if x1 ≤ (0 : Int32) then (some ((-1 : Int32), g)) else (s_Mod_in x (0 : Int32) (99 : Int32)).bind fun x11 => if x11 = true then ((s_Mod_whereBehind F g (some 68) x).bind fun x19 => some (x19.1, x19.2)) else some ((-1 : Int32), g)) = if decide (¬ x < 0 ∧ ¬ (99 : Int32) < x) = true then ((s_Mod_whereBehind F g (some 68) x).bind fun x19 => some (x19.1, x19.2)) else some ((-1 : Int32), g) := by
      intro g hg hgn
      rw [z_c68 hg, Option.bind_some, z_i68_24 hg, Option.bind_some, hgn, if_neg (nI_nle hpos (by have := hok.1; omega)), z_in, Option.bind_some]
    rw [if_neg (by simpa using h0)]
    by_cases hx0 : x < 0
    · rw [if_pos hx0]
      exact ⟨-1, h, h, rfl, by rw [hno h hS hnm, if_neg (by simp [hx0])], w_call.rr hR⟩
    · rw [if_neg hx0]
      by_cases hx9 : x ≤ (99 : Int32)
      · have hx9' : ¬ (99 : Int32) < x := by rw [fa_lt]; rw [fa_le] at hx9; omega
        obtain ⟨N, hN, rfl⟩ := v_le_t (N := 99) hx0 hx9' (by decide)
        obtain ⟨m, h1, m1, m2, a1, a2, a3, a4, a5, a6, a7, a8, a9, a10⟩ := w_start hF hR hpos
        have hC := a4.go hok m1 a8 a9
        obtain ⟨h2, b1, b2, b3⟩ := z_hours hF (N := N) (by omega) a3.1 hC a10 (a5.ok hpos hok.1 rfl)
        have hS2 := b2.sh a3.1
        have k2 : w_k h h2 := a2.trans (w_k.ww b2)
        have hR2 := hR.kp k2
        obtain ⟨h3, c1, c2⟩ := z_behind hF hok rfl m2 (N := N) (by omega) hR2.MC hR2.2.1.2.1 hpos
        rw [if_pos hx9, a1, Option.bind_some, z_r15_12 a3.1, Option.bind_some, b1, Option.bind_some, z_r15_12 hS2, Option.bind_some, z_i48_2 hS2, Option.bind_some, b3.1]
        refine ⟨_, h2, h3, rfl, ?_, w_call.kk hR k2 (w_k.mw c2)⟩
        rw [hno h2 hS2 hR2.2.1.2.2.1, if_pos (by simp [hx0, hx9']), c1]
        rfl
      · rw [if_neg hx9]
        refine ⟨-1, h, h, rfl, ?_, w_call.rr hR⟩
        have : (99 : Int32) < x := fa_of_nle hx9
        rw [hno h hS hnm, if_neg (by simp [this])]
/-- wish -/
theorem call_wish (hF : 70000 ≤ F) (hR : w_R h) : ∃ v h1 h2, s_Joy_wish F h (some 15) x = some (v, h1) ∧ s_Mod_wish F h1 (some 68) x = some (v, h2) ∧ w_call h h1 h2 := by
  obtain ⟨n, w, T, Wd, f, lw, p, hR⟩ := hR
  have hS := hR.1
  have hok := hR.ok
  have hn := hR.2.1.2.1.1
  have hnm := hR.2.1.2.2.1
  have hn12 := hok.1
  unfold s_Joy_wish s_Mod_wish
  rw [z_c15 hS, Option.bind_some, z_r15_3 hS, Option.bind_some, z_hasHouse hS (.inr (.inl rfl)) hn, Option.bind_some]
  by_cases hx : v_in x n = true
  · obtain ⟨i, hi, rfl⟩ := v_in_t hx (by omega)
    have hpos : 0 < n := by omega
    obtain ⟨m, h1, m1, m2, a1, a2, a3, a4, a5, a6, a7, a8, a9, a10⟩ := w_start hF hR hpos
    obtain ⟨-, -, -, -, p5, p6, -⟩ := a5.pos hpos hn12
    have ht : v_hr f % 24 < 24 := Nat.mod_lt _ (by decide)
    have e1 := z_wishOf (x := i) (t := v_hr f % 24) a3.1 m1 a8 a10.2.2 (by omega) ht
    have e2 := a4.2.1 i hi (m.testBit i) _ ht
    obtain ⟨h2, c1, c2⟩ := z_wishAt (t := v_hr f % 24) hF a3.1 a3.MC.2.1 hn12 hi
    rw [if_pos hx, a1, Option.bind_some, z_r15_12 a3.1, Option.bind_some, e1, Option.bind_some, e2]
    refine ⟨_, h1, h2, rfl, ?_, w_call.kk hR a2 (w_k.fr c2 (by decide) (fun j hj => .inl (by simp only [List.mem_cons, List.not_mem_nil, or_false] at hj; rcases hj with rfl | rfl <;> decide)))⟩
    rw [z_c68 a3.1, Option.bind_some, z_isHouse a3.1 a3.2.1.2.2.1 hn12, Option.bind_some, if_pos hx, z_r68_26 a3.1, Option.bind_some, show (56 : Int32) = nI 56 from rfl, z_a84 a3.1 (by decide), Option.bind_some, a3.2.1.2.2.2.1.2.2 56 (by decide), p5, show (24 : Int32) = nI 24 from rfl, z_irem (by omega) (by decide) (by decide), Option.bind_some, c1, Option.bind_some, m2 i hi]
  · rw [if_neg hx]
    refine ⟨_, h, h, rfl, ?_, w_call.rr hR⟩
    rw [z_c68 hS, Option.bind_some, z_isHouse hS hnm hn12, Option.bind_some, if_neg hx]
/-- sees -/
theorem call_sees (hF : 70000 ≤ F) (hR : w_R h) : ∃ v, s_Joy_sees F h (some 15) x = some v ∧ s_Mod_sees F h (some 68) x = some v := by
  obtain ⟨n, w, T, Wd, f, lw, p, hR⟩ := hR
  have hS := hR.1
  have hok := hR.ok
  have hn := hR.2.1.2.1.1
  have hnm := hR.2.1.2.2.1
  have hn12 := hok.1
  have e1 : s_Joy_sees F h (some 15) x = if v_in x n = true then (f_gI h (some 29) 7 6).bind fun x22 => (s_Vil_watchers F h (some 29) x x22).bind fun x25 => some x25 else some (-1 : Int32) := by
    unfold s_Joy_sees
    rw [z_c15 hS, Option.bind_some, z_r15_3 hS, Option.bind_some, z_hasHouse hS (.inr (.inl rfl)) hn]
    rfl
  have e2 : s_Mod_sees F h (some 68) x = if v_in x n = true then (s_Mod_seenFrom F h (some 68) x).bind fun x10 => some x10 else some (-1 : Int32) := by
    unfold s_Mod_sees
    rw [z_c68 hS, Option.bind_some, z_isHouse hS hnm hn12]
    rfl
  rw [e1, e2]
  by_cases hx : v_in x n = true
  · obtain ⟨i, hi, rfl⟩ := v_in_t hx (by omega)
    obtain ⟨s, s1, s2, s3⟩ := hR.2.1.2.1.opn
    obtain ⟨c, c1, c2, c3⟩ := z_watchers (a := i) hF hS (.inr (.inl rfl)) hok hR.2.1.2.1.W (by omega) s1
    obtain ⟨d, d1, d2, d3⟩ := z_seenFrom (a := i) hF hS hok hR.2.1.2.2.2.1 (by omega)
    have : c = d := Nat.eq_of_testBit_eq fun j => by rw [c3, d3]; exact v_door_cong (fun j hj => (s3 j hj).symm)
    rw [if_pos hx, if_pos hx, z_i29_6 hS, Option.bind_some, s2, c1, d1, this]
    exact ⟨_, rfl, rfl⟩
  · rw [if_neg hx, if_neg hx]
    exact ⟨_, rfl, rfl⟩
end C1
