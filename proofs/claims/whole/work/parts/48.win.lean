-- WINDOWS: who sees it from where, both sides
def v_A (Wd : Nat → Int32) (j : Nat) : Nat := (Wd (3 * j)).toNatClampNeg
def v_B (Wd : Nat → Int32) (j : Nat) : Nat := (Wd (3 * j + 1)).toNatClampNeg
def v_ow (Wd : Nat → Int32) (j : Nat) : Bool := decide (Wd (3 * j + 2) = 1)
/-- a window (open: op) goes from a to x -/
def v_goes (Wd : Nat → Int32) (op : Nat → Bool) (j a x : Nat) : Bool := op j && ((decide (v_A Wd j = a) && decide (v_B Wd j = x)) || (decide (v_A Wd j = x) && (decide (v_B Wd j = a) && !v_ow Wd j)))
def v_any (p : Nat → Bool) : Nat → Bool
  | 0 => false
  | j + 1 => v_any p j || p j
def v_door (w : Nat) (Wd : Nat → Int32) (op : Nat → Bool) (a x : Nat) : Bool := v_any (fun j => v_goes Wd op j a x) w
def v_op (f : Nat → Int32) (j : Nat) : Bool := decide (f (36 + j) = 0)
section WN
variable {h g : fw_H} {a a0 n w i j k m x y F nn o s : Nat} {T Wd f : Nat → Int32} {op op' : Nat → Bool} {p q : Nat → Bool}
theorem v_any_cong : ∀ {w : Nat}, (∀ j, j < w → p j = q j) → v_any p w = v_any q w
  | 0, _ => rfl
  | w + 1, h => by
    show (v_any p w || p w) = (v_any q w || q w)
    rw [v_any_cong (fun j hj => h j (Nat.lt_succ_of_lt hj)), h w (Nat.lt_succ_self w)]
theorem v_any_iff : ∀ {w : Nat}, v_any p w = true ↔ ∃ j, j < w ∧ p j = true
  | 0 => ⟨fun h => (by cases h), fun ⟨j, hj, _⟩ => absurd hj (Nat.not_lt_zero _)⟩
  | w + 1 => by
    show (v_any p w || p w) = true ↔ _
    rw [Bool.or_eq_true, v_any_iff]
    constructor
    · rintro (⟨j, hj, e⟩ | e)
      · exact ⟨j, by omega, e⟩
      · exact ⟨w, by omega, e⟩
    · rintro ⟨j, hj, e⟩
      by_cases h : j = w
      · subst h; exact .inr e
      · exact .inl ⟨j, by omega, e⟩
theorem v_ends (hok : v_ok n w Wd) (hj : j < w) : Wd (3 * j) = nI (v_A Wd j) ∧ Wd (3 * j + 1) = nI (v_B Wd j) ∧ v_A Wd j < n ∧ v_B Wd j < n ∧ v_A Wd j ≠ v_B Wd j ∧ Wd (3 * j + 2) = fw_b (v_ow Wd j) := by
  obtain ⟨hn, hw, hs⟩ := hok
  obtain ⟨⟨x, y, h1, h2, h3, h4, h5⟩, m, h6⟩ := hs j hj
  have e1 : v_A Wd j = x := by unfold v_A; rw [h4, nI_clamp (by omega)]
  have e2 : v_B Wd j = y := by unfold v_B; rw [h5, nI_clamp (by omega)]
  have e3 : v_ow Wd j = m := by unfold v_ow; rw [h6]; cases m <;> rfl
  rw [e1, e2, e3]
  exact ⟨h4, h5, h1, h2, h3, h6⟩
theorem v_goes_lt (hok : v_ok n w Wd) (hj : j < w) (h : v_goes Wd op j a x = true) : x < n ∧ a < n ∧ a ≠ x := by
  obtain ⟨-, -, h1, h2, h3, -⟩ := v_ends hok hj
  unfold v_goes at h
  simp only [Bool.and_eq_true, Bool.or_eq_true, decide_eq_true_eq] at h
  rcases h.2 with ⟨e1, e2⟩ | ⟨e1, e2, -⟩
  · subst e1; subst e2; exact ⟨h2, h1, h3⟩
  · subst e1; subst e2; exact ⟨h1, h2, Ne.symm h3⟩
theorem v_door_lt (hok : v_ok n w Wd) (h : v_door w Wd op a x = true) : x < n ∧ a < n ∧ a ≠ x := by
  obtain ⟨j, hj, e⟩ := v_any_iff.mp h
  exact v_goes_lt hok hj e
theorem v_door_self (hok : v_ok n w Wd) : v_door w Wd op a a = false := by
  match h : v_door w Wd op a a with
  | false => rfl
  | true => exact absurd rfl (v_door_lt hok h).2.2
theorem v_door_cong (h : ∀ j, j < w → op j = op' j) : v_door w Wd op a x = v_door w Wd op' a x := v_any_cong fun j hj => by unfold v_goes; rw [h j hj]
theorem v_or_bit (m y x : Nat) : (m ||| 2 ^ y).testBit x = (m.testBit x || decide (y = x)) := by
  rw [Nat.testBit_or, Nat.testBit_two_pow]
/-- the windows' cells of the class's village -/
def v_W (h : fw_H) (a0 w : Nat) (Wd : Nat → Int32) : Prop := z_I h a0 1 = nI w ∧ (∀ j, j < w → z_A h (a0 + 3) (2 * j) = Wd (3 * j) ∧ z_A h (a0 + 3) (2 * j + 1) = Wd (3 * j + 1)) ∧ ∃ o, o < 2 ^ 16 ∧ z_I h a0 5 = nI o ∧ ∀ j, j < w → Wd (3 * j + 2) = fw_b (o.testBit j)
theorem v_R.W (hR : v_R h a0 n w T Wd f) : v_W h a0 w Wd := ⟨hR.2.1, hR.2.2.2.2.1, hR.2.2.2.2.2.1⟩
theorem fw_b_inj {b c : Bool} (h : fw_b b = fw_b c) : b = c := by
  cases b <;> cases c <;> first | rfl | exact absurd h (by decide)
theorem v_watchL (hS : z_Sh h) (ha : z_V a0) (hok : v_ok n w Wd) (hW : v_W h a0 w Wd) (haa : a < 12) (hs : s < 2 ^ 16) :
    ∀ (k j m nn : Nat), j + k = w → k < nn → m < 2 ^ 12 → (∀ x, m.testBit x = v_any (fun j => v_goes Wd (fun j => !s.testBit j) j a x) j) →
    ∃ m', l_Vil_watchers_5 h (some a0) (nI a) (nI s) nn (nI m) (nI j) = some (nI m') ∧ m' < 2 ^ 12 ∧ ∀ x, m'.testBit x = v_door w Wd (fun j => !s.testBit j) a x := by
  obtain ⟨w1, w2, o, w3, w4, w5⟩ := hW
  have hw16 := hok.2.1
  intro k
  induction k with
  | zero =>
    intro j m nn hj hnn hm hb
    obtain ⟨nn, rfl⟩ : ∃ k, nn = k + 1 := ⟨nn - 1, by omega⟩
    obtain rfl : j = w := by omega
    refine ⟨m, ?_, hm, hb⟩
    rw [l_Vil_watchers_5, zv_i1 hS ha, Option.bind_some, w1, if_pos (nI_le (Nat.le_refl _) (by omega))]
  | succ k ih =>
    intro j m nn hj hnn hm hb
    obtain ⟨nn, rfl⟩ : ∃ k, nn = k + 1 := ⟨nn - 1, by omega⟩
    obtain ⟨v1, v2, v3, v4, v5, v6⟩ := v_ends hok (show j < w by omega)
    have how : o.testBit j = v_ow Wd j := fw_b_inj ((w5 j (by omega)).symm.trans v6)
    have hgo : ∀ m', m' < 2 ^ 12 → (∀ x, m'.testBit x = (m.testBit x || v_goes Wd (fun j => !s.testBit j) j a x)) → ∃ m'', l_Vil_watchers_5 h (some a0) (nI a) (nI s) nn (nI m') (nI j + 1) = some (nI m'') ∧ m'' < 2 ^ 12 ∧ ∀ x, m''.testBit x = v_door w Wd (fun j => !s.testBit j) a x := by
      intro m' hm' hb'
      rw [show nI j + 1 = nI (j + 1) from nI_1 j]
      refine ih (j + 1) m' nn (by omega) (by omega) hm' (fun x => ?_)
      rw [hb' x, hb x]; rfl
    have hno : (∀ x, v_goes Wd (fun j => !s.testBit j) j a x = false) → ∃ m'', l_Vil_watchers_5 h (some a0) (nI a) (nI s) nn (nI m) (nI j + 1) = some (nI m'') ∧ m'' < 2 ^ 12 ∧ ∀ x, m''.testBit x = v_door w Wd (fun j => !s.testBit j) a x := fun hz => hgo m hm (fun x => by rw [hz x, Bool.or_false])
    have hlt : ∀ y, y < 12 → m ||| 2 ^ y < 2 ^ 12 := fun y hy => z_orlt hm (z_pow hy)
    have hn12 := hok.1
    rw [l_Vil_watchers_5, zv_i1 hS ha, Option.bind_some, w1, if_neg (nI_ge (by omega) (by omega)), z_has (by omega) (by omega), Option.bind_some]
    by_cases hsj : s.testBit j = true
    · rw [if_pos hsj]
      exact hno (fun x => by unfold v_goes; simp [hsj])
    · have e0 : s_Vil_endOf h (some a0) (nI j) (0 : Int32) = some (nI (v_A Wd j)) := by rw [show (0 : Int32) = nI 0 from rfl, z_endOf hS ha (by omega) (by omega), show 2 * j + 0 = 2 * j from rfl, (w2 j (by omega)).1, v1]
      have e1 : s_Vil_endOf h (some a0) (nI j) (1 : Int32) = some (nI (v_B Wd j)) := by rw [show (1 : Int32) = nI 1 from rfl, z_endOf hS ha (by omega) (by omega), (w2 j (by omega)).2, v2]
      rw [if_neg hsj, e0, Option.bind_some, e1, Option.bind_some]
      by_cases hA : v_A Wd j = a
      · rw [if_neg (fun z => z (by rw [hA]))]
        rw [z_sh1 (by omega), fa_or]
        refine hgo _ (hlt _ (by omega)) (fun x => ?_)
        rw [v_or_bit]
        congr 1
        unfold v_goes
        have hB : ¬ v_B Wd j = a := fun z => v5 (by rw [hA, z])
        simp [hsj, hA, hB]
      · rw [if_pos (fun z => hA ((nI_eq (by omega) (by omega)).mp z))]
        by_cases hB : v_B Wd j = a
        · rw [if_neg (fun z => z (by rw [hB])), zv_i5 hS ha, Option.bind_some, w4, z_has (by omega) (by omega), Option.bind_some, how]
          by_cases hO : v_ow Wd j = true
          · rw [if_pos hO]
            exact hno (fun x => by unfold v_goes; simp [hA, hO])
          · rw [if_neg hO, z_sh1 (by omega), fa_or]
            refine hgo _ (hlt _ (by omega)) (fun x => ?_)
            rw [v_or_bit]
            congr 1
            unfold v_goes
            simp [hsj, hA, hB, hO]
        · rw [if_pos (fun z => hB ((nI_eq (by omega) (by omega)).mp z))]
          exact hno (fun x => by unfold v_goes; simp [hA, hB])
theorem z_watchers (hF : 70000 ≤ F) (hS : z_Sh h) (ha : z_V a0) (hok : v_ok n w Wd) (hW : v_W h a0 w Wd) (haa : a < 12) (hs : s < 2 ^ 16) :
    ∃ m, s_Vil_watchers F h (some a0) (nI a) (nI s) = some (nI m) ∧ m < 2 ^ 12 ∧ ∀ x, m.testBit x = v_door w Wd (fun j => !s.testBit j) a x := by
  unfold s_Vil_watchers
  rw [zv_c hS ha, Option.bind_some]
  have := hok.2.1
  exact v_watchL hS ha hok hW haa hs w 0 0 F (by omega) (by omega) (by decide) (fun x => by rw [Nat.zero_testBit]; rfl)
-- the reference
/-- the reference's windows -/
def v_MW (h : fw_H) (w : Nat) (Wd f : Nat → Int32) : Prop := z_I h 68 25 = nI w ∧ (∀ j, j < 48 → z_A h 83 j = Wd j) ∧ ∀ j, j < 118 → z_A h 84 j = f j
theorem z_goes (hS : z_Sh h) (hok : v_ok n w Wd) (hW : v_MW h w Wd f) (hj : j < w) (ha : a < 12) (hx : x < 12) : s_Mod_goes h (some 68) (nI j) (nI a) (nI x) = some (v_goes Wd (v_op f) j a x) := by
  obtain ⟨w1, w2, w3⟩ := hW
  obtain ⟨v1, v2, v3, v4, v5, v6⟩ := v_ends hok hj
  have hn12 := hok.1
  have hw16 := hok.2.1
  have i0 : (3 : Int32) * nI j = nI (3 * j) := pk_mul 3 j
  have i1 : nI (3 * j) + (1 : Int32) = nI (3 * j + 1) := nI_1 _
  have i2 : nI (3 * j) + (2 : Int32) = nI (3 * j + 2) := nI_add _ 2
  have i3 : (36 : Int32) + nI j = nI (36 + j) := nI_add 36 j
  have r0 : f_aI h (some 83) (nI (3 * j)) = some (nI (v_A Wd j)) := by rw [z_a83 hS (by omega), w2 _ (by omega), v1]
  have r1 : f_aI h (some 83) (nI (3 * j + 1)) = some (nI (v_B Wd j)) := by rw [z_a83 hS (by omega), w2 _ (by omega), v2]
  have r2 : f_aI h (some 83) (nI (3 * j + 2)) = some (fw_b (v_ow Wd j)) := by rw [z_a83 hS (by omega), w2 _ (by omega), v6]
  have r3 : f_aI h (some 84) (nI (36 + j)) = some (f (36 + j)) := by rw [z_a84 hS (by omega), w3 _ (by omega)]
  unfold s_Mod_goes
  simp only [z_c68 hS, z_r68_23 hS, z_r68_26 hS, Option.bind_some, i0, i1, i2, i3, r0, r1, r2, r3]
  have eA : ∀ y, y < 12 → (nI (v_A Wd j) = nI y ↔ v_A Wd j = y) := fun y hy => nI_eq (by omega) (by omega)
  have eB : ∀ y, y < 12 → (nI (v_B Wd j) = nI y ↔ v_B Wd j = y) := fun y hy => nI_eq (by omega) (by omega)
  have eO : fw_b (v_ow Wd j) = 0 ↔ v_ow Wd j = false := by cases v_ow Wd j <;> decide
  simp only [eA a ha, eA x hx, eB a ha, eB x hx, eO]
  unfold v_goes v_op
  by_cases h1 : v_A Wd j = a <;> by_cases h2 : v_B Wd j = x <;> by_cases h3 : v_A Wd j = x <;> by_cases h4 : v_B Wd j = a <;> by_cases h5 : v_ow Wd j = false <;> by_cases h6 : f (36 + j) = 0 <;> first | (simp [h1, h2, h3, h4, h5, h6]; done) | (have e : ¬ x = a := (fun z => h1 (h3.trans z)); simp [h1, h2, h3, h4, h5, h6, e]; done) | (have e : ¬ a = x := (fun z => h3 (h1.trans z)); simp [h1, h2, h3, h4, h5, h6, e]; done) | (have e : a = x := h1.symm.trans h3; subst e; simp [h1, h2, h4, h5, h6]; done)
theorem z_seenL (hS : z_Sh h) (hok : v_ok n w Wd) (hW : v_MW h w Wd f) (haa : a < 12) :
    ∀ (k j m nn : Nat), j + k = w → k < nn → m < 2 ^ 12 → (∀ x, m.testBit x = v_any (fun j => v_goes Wd (v_op f) j a x) j) →
    ∃ m', l_Mod_seenFrom_4 h (some 68) (nI a) nn (nI m) (nI j) = some (nI m') ∧ m' < 2 ^ 12 ∧ ∀ x, m'.testBit x = v_door w Wd (v_op f) a x := by
  have hW0 := hW
  obtain ⟨w1, w2, w3⟩ := hW
  have hw16 := hok.2.1
  have hn12 := hok.1
  intro k
  induction k with
  | zero =>
    intro j m nn hj hnn hm hb
    obtain ⟨nn, rfl⟩ : ∃ k, nn = k + 1 := ⟨nn - 1, by omega⟩
    obtain rfl : j = w := by omega
    refine ⟨m, ?_, hm, hb⟩
    rw [l_Mod_seenFrom_4, z_i68_25 hS, Option.bind_some, w1, if_pos (nI_le (Nat.le_refl _) (by omega))]
  | succ k ih =>
    intro j m nn hj hnn hm hb
    obtain ⟨nn, rfl⟩ : ∃ k, nn = k + 1 := ⟨nn - 1, by omega⟩
    obtain ⟨v1, v2, v3, v4, v5, v6⟩ := v_ends hok (show j < w by omega)
    have i0 : (3 : Int32) * nI j = nI (3 * j) := pk_mul 3 j
    have i1 : nI (3 * j) + (1 : Int32) = nI (3 * j + 1) := nI_1 _
    have r0 : f_aI h (some 83) (nI (3 * j)) = some (nI (v_A Wd j)) := by rw [z_a83 hS (by omega), w2 _ (by omega), v1]
    have r1 : f_aI h (some 83) (nI (3 * j + 1)) = some (nI (v_B Wd j)) := by rw [z_a83 hS (by omega), w2 _ (by omega), v2]
    -- the end it may go to
    have hgo : ∀ to, to < 12 → (∀ x, v_goes Wd (v_op f) j a x = (v_goes Wd (v_op f) j a to && decide (to = x))) →
        ∃ m', ((s_Mod_goes h (some 68) (nI j) (nI a) (nI to)).bind fun x53 => if x53 = true then (l_Mod_seenFrom_4 h (some 68) (nI a) nn (nI m ||| ((1 : Int32) <<< (nI to &&& 31))) (nI j + (1 : Int32))) else l_Mod_seenFrom_4 h (some 68) (nI a) nn (nI m ||| (0 : Int32)) (nI j + (1 : Int32))) = some (nI m') ∧ m' < 2 ^ 12 ∧ ∀ x, m'.testBit x = v_door w Wd (v_op f) a x := by
      intro to hto hx
      rw [z_goes hS hok hW0 (by omega) haa hto, Option.bind_some, z_sh1 (by omega), fa_or, show (0 : Int32) = nI 0 from rfl, fa_or, Nat.or_zero, show nI j + 1 = nI (j + 1) from nI_1 j]
      by_cases hg : v_goes Wd (v_op f) j a to = true
      · rw [if_pos hg]
        refine ih (j + 1) _ nn (by omega) (by omega) (z_orlt hm (z_pow hto)) (fun x => ?_)
        rw [v_or_bit, hb x]
        show _ = (v_any _ j || v_goes Wd (v_op f) j a x)
        rw [hx x, hg, Bool.true_and]
      · rw [if_neg hg]
        refine ih (j + 1) _ nn (by omega) (by omega) hm (fun x => ?_)
        rw [hb x]
        show _ = (v_any _ j || v_goes Wd (v_op f) j a x)
        rw [hx x, Bool.eq_false_iff.mpr hg, Bool.false_and, Bool.or_false]
    rw [l_Mod_seenFrom_4, z_i68_25 hS, Option.bind_some, w1, if_neg (nI_ge (by omega) (by omega))]
    simp only [z_r68_23 hS, Option.bind_some, i0, i1, r0, r1, fw_jn]
    by_cases hA : v_A Wd j = a
    · rw [if_neg (fun z => z (by rw [hA]))]
      refine hgo _ (by omega) (fun x => ?_)
      have hB : ¬ v_B Wd j = a := fun z => v5 (by rw [hA, z])
      unfold v_goes
      simp [hA, hB]
    · rw [if_pos (fun z => hA ((nI_eq (by omega) (by omega)).mp z))]
      refine hgo _ (by omega) (fun x => ?_)
      unfold v_goes
      by_cases hx : v_A Wd j = x
      · simp [hA, hx]
      · simp [hA, hx]
theorem z_seenFrom (hF : 70000 ≤ F) (hS : z_Sh h) (hok : v_ok n w Wd) (hW : v_MW h w Wd f) (haa : a < 12) :
    ∃ m, s_Mod_seenFrom F h (some 68) (nI a) = some (nI m) ∧ m < 2 ^ 12 ∧ ∀ x, m.testBit x = v_door w Wd (v_op f) a x := by
  unfold s_Mod_seenFrom
  rw [z_c68 hS, Option.bind_some]
  have := hok.2.1
  exact z_seenL hS hok hW haa w 0 0 F (by omega) (by omega) (by decide) (fun x => by rw [Nat.zero_testBit]; rfl)
end WN
