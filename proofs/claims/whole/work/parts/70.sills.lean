-- SILLS: which windows it goes through
section SL
variable {E : z_E} {p : e_P} {i j k n w m a b o x e nn N F pp : Nat} {h h' g g' : fw_H} {T Wd f : Nat → Int32} {lw : Option (List q_C)} {s y z : Int32} {P : Nat → Bool}
theorem g_fi_last : ∀ (k o : Nat), g_fi P (k + 1) o = match g_fi P k o with
    | some b => some b
    | none => if P (o + k) = true then some (o + k) else none
  | 0, o => rfl
  | k + 1, o => by
    have ih := g_fi_last k (o + 1)
    show (if P o = true then some o else g_fi P (k + 1) (o + 1)) = match (if P o = true then some o else g_fi P k (o + 1)) with
      | some b => some b
      | none => if P (o + (k + 1)) = true then some (o + (k + 1)) else none
    by_cases h : P o = true
    · rw [if_pos h, if_pos h]
    · rw [if_neg h, if_neg h, ih, show o + 1 + k = o + (k + 1) by omega]
theorem g_fi_lt : ∀ (k o : Nat) {b : Nat}, g_fi P k o = some b → b < o + k
  | 0, _, _, h => (by cases h)
  | k + 1, o, b, h => by
    unfold g_fi at h
    by_cases hp : P o = true
    · rw [if_pos hp] at h; cases h; omega
    · rw [if_neg hp] at h; have := g_fi_lt k (o + 1) h; omega
theorem g_fi_none : ∀ (k o : Nat), (∀ j, j < o + k → P j = false) → g_fi P k o = none
  | 0, _, _ => rfl
  | k + 1, o, h => by
    unfold g_fi
    rw [if_neg (by rw [h o (by omega)]; decide)]
    exact g_fi_none k (o + 1) (fun j hj => h j (by omega))
theorem v_goes_self {Wd : Nat → Int32} {op : Nat → Bool} (hok : v_ok n w Wd) : ∀ j, j < 0 + w → v_goes Wd op j a a = false := fun j hj => by
  match e : v_goes Wd op j a a with
  | false => rfl
  | true => exact absurd rfl (v_goes_lt hok (by omega) e).2.2
/-- the number found, else -1 -/
def g_on (r : Option Nat) (d : Int32) : Int32 := match r with
  | some b => nI b
  | none => d
def g_sb (s : Int32) (r : Option Nat) : Int32 := match r with
  | some b => s ||| ((1 : Int32) <<< (nI b &&& 31))
  | none => s
/-- the windows behind hours i .. i + k -/
def g_sl (E : z_E) (p : e_P) (w : Nat) (Wd : Nat → Int32) (op : Nat → Bool) : Nat → Nat → Int32 → Int32
  | 0, _, s => s
  | k + 1, i, s => g_sl E p w Wd op k (i + 1) (g_sb s (g_fi (fun j => v_goes Wd op j (c_x E p i).1 (c_x E p (i + 1)).1) w 0))
theorem z_leads (hS : z_Sh h) (hok : v_ok n w Wd) (hW : v_W h 29 w Wd) (hj : j < w) (ha : a < 12) (hx : x < 12) : s_Vil_leads h (some 29) (nI j) (nI a) (nI x) = some ((decide (v_A Wd j = a) && decide (v_B Wd j = x)) || (decide (v_A Wd j = x) && (decide (v_B Wd j = a) && !v_ow Wd j))) := by
  obtain ⟨w1, w2, o, w3, w4, w5⟩ := hW
  obtain ⟨v1, v2, v3, v4, v5, v6⟩ := v_ends hok hj
  have hn12 := hok.1
  have hw16 := hok.2.1
  have hv : z_V 29 := .inr (.inl rfl)
  have how : o.testBit j = v_ow Wd j := fw_b_inj ((w5 j hj).symm.trans v6)
  have e0 : s_Vil_endOf h (some 29) (nI j) (0 : Int32) = some (nI (v_A Wd j)) := by rw [show (0 : Int32) = nI 0 from rfl, z_endOf hS hv (by omega) (by omega), show 2 * j + 0 = 2 * j from rfl, (w2 j (by omega)).1, v1]
  have e1 : s_Vil_endOf h (some 29) (nI j) (1 : Int32) = some (nI (v_B Wd j)) := by rw [show (1 : Int32) = nI 1 from rfl, z_endOf hS hv (by omega) (by omega), (w2 j (by omega)).2, v2]
  unfold s_Vil_leads
  simp only [zv_c hS hv, zv_i5 hS hv, Option.bind_some, e0, e1, w4, z_has (show o < 2 ^ 31 by omega) (show j < 31 by omega), how]
  have eA : ∀ y, y < 12 → (nI (v_A Wd j) = nI y ↔ v_A Wd j = y) := fun y hy => nI_eq (by omega) (by omega)
  have eB : ∀ y, y < 12 → (nI (v_B Wd j) = nI y ↔ v_B Wd j = y) := fun y hy => nI_eq (by omega) (by omega)
  simp only [eA a ha, eA x hx, eB a ha, eB x hx]
  by_cases h1 : v_A Wd j = a <;> by_cases h2 : v_B Wd j = x <;> by_cases h3 : v_A Wd j = x <;> by_cases h4 : v_B Wd j = a <;> by_cases h5 : v_ow Wd j = true <;> first | (simp [h1, h2, h3, h4, h5]; done) | (have e : ¬ x = a := (fun z => h1 (h3.trans z)); simp [h1, h2, h3, h4, h5, e]; done) | (have e : ¬ a = x := (fun z => h3 (h1.trans z)); simp [h1, h2, h3, h4, h5, e]; done) | (have e : a = x := h1.symm.trans h3; subst e; simp [h1, h2, h4, h5]; done)
/-- Village.lowestOpen -/
theorem z_lowestL (hS : z_Sh h) (hok : v_ok n w Wd) (hR : v_R h 29 n w T Wd f) (ha : a < 12) (hx : x < 12) :
    ∀ (k j nn : Nat), j + k = w → k < nn → l_Vil_lowestOpen_2 h (some 29) (nI a) (nI x) nn (nI j) = some (g_on (g_fi (fun j => v_goes Wd (v_op f) j a x) k j) (-1)) := by
  have hv : z_V 29 := .inr (.inl rfl)
  have hw16 := hok.2.1
  obtain ⟨o, o1, o2, o3⟩ := hR.2.2.2.2.2.2.1
  intro k
  induction k with
  | zero =>
    intro j nn hj hnn
    obtain ⟨nn, rfl⟩ : ∃ k, nn = k + 1 := ⟨nn - 1, by omega⟩
    obtain rfl : j = w := by omega
    rw [l_Vil_lowestOpen_2, zv_i1 hS hv, Option.bind_some, hR.2.1, if_pos (nI_le (Nat.le_refl _) (by omega))]
    rfl
  | succ k ih =>
    intro j nn hj hnn
    obtain ⟨nn, rfl⟩ : ∃ k, nn = k + 1 := ⟨nn - 1, by omega⟩
    have hop : v_op f j = !o.testBit j := by
      unfold v_op
      rw [o3 j (by omega)]
      cases o.testBit j <;> decide
    have ih' := ih (j + 1) nn (by omega) (by omega)
    rw [l_Vil_lowestOpen_2, zv_i1 hS hv, Option.bind_some, hR.2.1, if_neg (nI_ge (by omega) (by omega)), zv_i6 hS hv, Option.bind_some, o2, z_has (by omega) (by omega), Option.bind_some, show nI j + 1 = nI (j + 1) from nI_1 j]
    unfold g_fi
    by_cases hs : o.testBit j = true
    · rw [if_pos hs, if_neg (by simp only [v_goes, hop, hs]; simp)]
      exact ih'
    · rw [if_neg hs, z_leads hS hok hR.W (by omega) ha hx, Option.bind_some]
      have e : v_goes Wd (v_op f) j a x = ((decide (v_A Wd j = a) && decide (v_B Wd j = x)) || (decide (v_A Wd j = x) && (decide (v_B Wd j = a) && !v_ow Wd j))) := by
        unfold v_goes
        rw [hop, Bool.eq_false_iff.mpr hs]
        rfl
      rw [← e]
      by_cases hg : v_goes Wd (v_op f) j a x = true
      · rw [if_pos hg, if_pos hg]; rfl
      · rw [if_neg hg, if_neg hg]; exact ih'
theorem g_on_m1 {r : Option Nat} (hr : ∀ b, r = some b → b < 16) : g_on r (-1) = (-1 : Int32) ↔ r = none := by
  match r, hr with
  | none, _ => exact ⟨fun _ => rfl, fun _ => rfl⟩
  | some b, hr =>
    have hb := hr b rfl
    have : ∀ b, b < 16 → nI b ≠ (-1 : Int32) := by decide
    exact ⟨fun z => absurd z (this b hb), fun z => (by cases z)⟩
theorem g_sb_on {r : Option Nat} (hr : ∀ b, r = some b → b < 16) {α : Type} {K : Int32 → α} : (if g_on r (-1) = (-1 : Int32) then K s else K (s ||| ((1 : Int32) <<< (g_on r (-1) &&& 31)))) = K (g_sb s r) := by
  by_cases h : g_on r (-1) = (-1 : Int32)
  · rw [if_pos h, (g_on_m1 hr).mp h]; rfl
  · rw [if_neg h]
    match r, h with
    | none, h => exact absurd rfl h
    | some b, h => rfl
/-- the class -/
theorem z_sills (hF : 70000 ≤ F) (hok : v_ok n w Wd) (hE : E.1 ≤ 12) (hp0 : e_ok E p) :
    ∀ (k i nn : Nat) (g : fw_H) (s : Int32), i + k = 48 → k < nn → z_Sh g → z_CW g E → v_R g 29 n w T Wd f → z_ps g (c_x E p i) →
    ∃ g', l_Joy_sills_20 F (some 15) nn s (nI i) g = some (g_sl E p w Wd (v_op f) k i s, g') ∧ z_w g g' := by
  have hw16 := hok.2.1
  intro k
  induction k with
  | zero =>
    intro i nn g s hi hnn hS hC hR hp
    obtain ⟨nn, rfl⟩ : ∃ k, nn = k + 1 := ⟨nn - 1, by omega⟩
    obtain rfl : i = 48 := by omega
    refine ⟨g, ?_, z_w.refl⟩
    rw [l_Joy_sills_20, if_pos (by decide)]
    rfl
  | succ k ih =>
    intro i nn g s hi hnn hS hC hR hp
    obtain ⟨nn, rfl⟩ : ∃ k, nn = k + 1 := ⟨nn - 1, by omega⟩
    obtain ⟨g1, a1, a2, a3⟩ := z_hour hF hS hC hp (c_x_ok hp0)
    rw [← c_x_succ] at a3
    have S1 := a2.sh hS
    have R1 : v_R g1 29 n w T Wd f := hR.fr hok.1 hok.2.1 a2.1 (fun d hd => by simp; omega)
    have h1 : (c_x E p i).1 < 12 := Nat.lt_of_lt_of_le (c_x_ok (i := i) hp0).1 hE
    have h2 : (c_x E p (i + 1)).1 < 12 := Nat.lt_of_lt_of_le (c_x_ok (i := i + 1) hp0).1 hE
    obtain ⟨r, hr⟩ : ∃ r, r = g_fi (fun j => v_goes Wd (v_op f) j (c_x E p i).1 (c_x E p (i + 1)).1) w 0 := ⟨_, rfl⟩
    have hr16 : ∀ b, r = some b → b < 16 := fun b hb => by have := g_fi_lt w 0 (hr.symm.trans hb); omega
    have ih' := ih (i + 1) nn g1 (g_sb s r) (by omega) (by omega) S1 (a2.cw hC) R1 a3
    obtain ⟨g4, b1, b2⟩ := ih'
    have hgo : g_sl E p w Wd (v_op f) (k + 1) i s = g_sl E p w Wd (v_op f) k (i + 1) (g_sb s r) := by rw [hr]; rfl
    rw [l_Joy_sills_20, if_neg (show ¬ (48 : Int32) ≤ nI i from nI_ge (b := 48) (by omega) (by decide)), z_r15_12 hS, Option.bind_some, z_i48_2 hS, Option.bind_some, Option.bind_some, a1, Option.bind_some, z_r15_12 S1, Option.bind_some, z_i48_2 S1, Option.bind_some, hp.1, a3.1, show nI i + 1 = nI (i + 1) from nI_1 i, hgo]
    have hlow : s_Vil_lowestOpen F g1 (some 29) (nI (c_x E p i).1) (nI (c_x E p (i + 1)).1) = some (g_on r (-1)) := by
      unfold s_Vil_lowestOpen
      rw [zv_c S1 (.inr (.inl rfl)), Option.bind_some, hr]
      exact z_lowestL S1 hok R1 h1 h2 w 0 F (by omega) (by omega)
    refine ⟨g4, ?_, a2.trans b2⟩
    by_cases hm : (c_x E p (i + 1)).1 = (c_x E p i).1
    · rw [if_neg (fun z => z (by rw [hm])), if_pos rfl]
      have hn : r = none := by
        rw [hr]
        rw [hm]
        exact g_fi_none w 0 (v_goes_self hok)
      rw [hn] at b1
      rw [hn]
      exact b1
    · rw [if_pos (fun z => hm ((nI_eq (by omega) (by omega)).mp z)), z_r15_3 S1, Option.bind_some, Option.bind_some, z_i48_2 S1, Option.bind_some, a3.1, hlow, Option.bind_some]
      exact (g_sb_on (K := fun v => l_Joy_sills_20 F (some 15) nn v (nI (i + 1)) g1) hr16).trans b1
/-- the reference's lowest one -/
theorem z_m43 (hS : z_Sh h) (hok : v_ok n w Wd) (hW : v_MW h w Wd f) (ha : a < 12) (hx : x < 12) (h32 : z_I h 68 32 = nI x) {K : Int32 → Option (Int32 × fw_H)} :
    ∀ (j nn : Nat) (d : Int32), j ≤ w → j < nn → l_Mod_sills_43 (some 68) (nI a) h K nn d (nI j - 1) = K (g_on (g_fi (fun j => v_goes Wd (v_op f) j a x) j 0) d) := by
  have hw16 := hok.2.1
  intro j
  induction j with
  | zero =>
    intro nn d hj hnn
    obtain ⟨nn, rfl⟩ : ∃ k, nn = k + 1 := ⟨nn - 1, by omega⟩
    rw [l_Mod_sills_43, if_pos (by decide)]
    rfl
  | succ j ih =>
    intro nn d hj hnn
    obtain ⟨nn, rfl⟩ : ∃ k, nn = k + 1 := ⟨nn - 1, by omega⟩
    have e1 : nI (j + 1) - (1 : Int32) = nI j := by rw [show nI (j + 1) = nI j + 1 from (nI_1 j).symm, Int32.sub_eq_add_neg, Int32.add_assoc, Int32.add_right_neg, Int32.add_zero]
    have e2 : nI j + (-1 : Int32) = nI j - 1 := (Int32.sub_eq_add_neg _ _).symm
    rw [e1, l_Mod_sills_43, if_neg (nI_pos (by omega)), z_i68_32 hS, Option.bind_some, Option.bind_some, h32, e2, z_goes hS hok hW (by omega) ha hx, Option.bind_some, g_fi_last, Nat.zero_add]
    have hK : ∀ r : Option Nat, K (g_on r (g_on (if v_goes Wd (v_op f) j a x = true then some j else none) d)) = K (g_on (match r with
      | some b => some b
      | none => if v_goes Wd (v_op f) j a x = true then some j else none) d) := fun r => by
      match r with
      | some b => rfl
      | none => rfl
    by_cases he : a = x
    · subst he
      rw [if_pos rfl, ih nn d (by omega) (by omega), g_fi_none j 0 (fun i hi => v_goes_self hok i (by omega)), if_neg (by rw [v_goes_self hok j (by omega)]; decide)]
    · rw [if_neg (fun z => he ((nI_eq (by omega) (by omega)).mp z)), ← hK]
      by_cases hg : v_goes Wd (v_op f) j a x = true
      · rw [if_pos hg, if_pos hg, ih nn _ (by omega) (by omega)]; rfl
      · rw [if_neg hg, if_neg hg, ih nn _ (by omega) (by omega)]; rfl
theorem g_sb_on2 {r : Option Nat} (hr : ∀ b, r = some b → b < 16) {α : Type} {K : Int32 → α} : (if ¬ g_on r (-1) = (-1 : Int32) then K (s ||| ((1 : Int32) <<< (g_on r (-1) &&& 31))) else K (s ||| (0 : Int32))) = K (g_sb s r) := by
  by_cases h : g_on r (-1) = (-1 : Int32)
  · rw [if_neg (fun z => z h), (g_on_m1 hr).mp h, Int32.or_zero]; rfl
  · rw [if_pos h]
    match r, h with
    | none, h => exact absurd rfl h
    | some b, h => rfl
/-- the reference -/
theorem z_msills (hF : 70000 ≤ F) (hok : v_ok n w Wd) (hE : E = v_E n w T Wd f lw (v_op f) e m) (hB : z_MB f n m) (hp0 : e_ok E p) :
    ∀ (k i nn : Nat) (g : fw_H) (s : Int32), i + k = 48 → k < nn → z_MC g n w T Wd f lw e → z_mps g (c_x E p i) →
    ∃ g', l_Mod_sills_17 F (some 68) nn s (nI i) g = some (g_sl E p w Wd (v_op f) k i s, g') ∧ z_mw g g' := by
  have hE12 : E.1 ≤ 12 := by rw [hE]; exact hok.1
  have hw16 := hok.2.1
  intro k
  induction k with
  | zero =>
    intro i nn g s hi hnn hC hp
    obtain ⟨nn, rfl⟩ : ∃ k, nn = k + 1 := ⟨nn - 1, by omega⟩
    obtain rfl : i = 48 := by omega
    refine ⟨g, ?_, z_mw.refl⟩
    rw [l_Mod_sills_17, if_pos (by decide)]
    rfl
  | succ k ih =>
    intro i nn g s hi hnn hC hp
    obtain ⟨nn, rfl⟩ : ∃ k, nn = k + 1 := ⟨nn - 1, by omega⟩
    obtain ⟨g1, a1, a2, a3⟩ := z_mwalk hF hok hE hB hC hp (c_x_ok hp0)
    rw [← c_x_succ] at a3
    have C1 := hC.mw a2
    have h1 : (c_x E p i).1 < 12 := Nat.lt_of_lt_of_le (c_x_ok (i := i) hp0).1 hE12
    have h2 : (c_x E p (i + 1)).1 < 12 := Nat.lt_of_lt_of_le (c_x_ok (i := i + 1) hp0).1 hE12
    obtain ⟨r, hr⟩ : ∃ r, r = g_fi (fun j => v_goes Wd (v_op f) j (c_x E p i).1 (c_x E p (i + 1)).1) w 0 := ⟨_, rfl⟩
    have hr16 : ∀ b, r = some b → b < 16 := fun b hb => by have := g_fi_lt w 0 (hr.symm.trans hb); omega
    obtain ⟨g4, b1, b2⟩ := ih (i + 1) nn g1 (g_sb s r) (by omega) (by omega) C1 a3
    have hgo : g_sl E p w Wd (v_op f) (k + 1) i s = g_sl E p w Wd (v_op f) k (i + 1) (g_sb s r) := by rw [hr]; rfl
    have hW1 : v_MW g1 w Wd f := C1.2.1.2.1
    rw [l_Mod_sills_17, if_neg (show ¬ (48 : Int32) ≤ nI i from nI_ge (b := 48) (by omega) (by decide)), z_i68_32 hC.1, Option.bind_some, a1, Option.bind_some, z_i68_25 C1.1, Option.bind_some, hW1.1, hp.1, show nI i + 1 = nI (i + 1) from nI_1 i, hgo]
    refine ⟨g4, ?_, a2.trans b2⟩
    rw [z_m43 C1.1 hok hW1 h1 h2 a3.1 w F (-1) (Nat.le_refl _) (by omega), ← hr]
    exact (g_sb_on2 (K := fun v => l_Mod_sills_17 F (some 68) nn v (nI (i + 1)) g1) hr16).trans b1
/-- sills -/
theorem call_sills (hF : 70000 ≤ F) (hR : w_R h) : ∃ v h1 h2, s_Joy_sills F h (some 15) = some (v, h1) ∧ s_Mod_sills F h1 (some 68) = some (v, h2) ∧ w_call h h1 h2 := by
  obtain ⟨n, w, T, Wd, f, lw, pp, hR⟩ := hR
  have hS := hR.1
  have hok := hR.ok
  have hn12 := hok.1
  have hn := hR.2.1.2.1.1
  have hnm := hR.2.1.2.2.1
  unfold s_Joy_sills
  rw [z_c15 hS, Option.bind_some, z_r15_3 hS, Option.bind_some, z_isNone hS (.inr (.inl rfl)) hn hok.1, Option.bind_some]
  by_cases h0 : n = 0
  · rw [if_pos (decide_eq_true h0)]
    refine ⟨-1, h, h, rfl, ?_, w_call.rr hR⟩
    unfold s_Mod_sills
    rw [z_c68 hS, Option.bind_some, z_i68_24 hS, Option.bind_some, hnm, h0, if_neg (fun z => z rfl)]
  · rw [if_neg (by rw [decide_eq_true_eq]; exact h0)]
    have hpos : 0 < n := by omega
    obtain ⟨m', h1, m1', m2', a1, a2, a3, a4, a5, a6, a7, a8, a9, a10⟩ := w_start hF hR hpos
    have hC := a4.go hok m1' a8 a9
    have hk0 : e_ok (v_E n w T Wd f lw (v_op f) (2 ^ n - 1) m') (v_pos f) := a5.ok hpos hn12 rfl
    obtain ⟨h2, b1, b2⟩ := z_sills hF hok (show (v_E n w T Wd f lw (v_op f) (2 ^ n - 1) m').1 ≤ 12 from hn12) hk0 48 0 F h1 0 (by omega) (by omega) a3.1 hC a3.2.1.2.1 a10
    have hR2 := a3.kp (w_k.ww b2)
    have S2 := hR2.1
    obtain ⟨g1, c1, c2, c3⟩ := z_mstart S2 hR2.MC.2.1.2.1.2.2 hR2.2.1.2.1 hpos hn12
    have C1 := hR2.MC.mw c2
    obtain ⟨h3, d1, d2⟩ := z_msills hF hok rfl m2' hk0 48 0 F g1 0 (by omega) (by omega) C1 c3
    rw [a1, Option.bind_some]
    refine ⟨_, h2, h3, b1, ?_, w_call.kk hR (a2.trans (w_k.ww b2)) (w_k.mw (c2.trans d2))⟩
    unfold s_Mod_sills
    rw [z_c68 S2, Option.bind_some, z_i68_24 S2, Option.bind_some, hR2.2.1.2.2.1, if_pos (show ¬ nI n = (0 : Int32) from fun z => h0 ((nI_eq (b := 0) (by omega) (by omega)).mp z)), c1, Option.bind_some]
    exact d1
end SL
