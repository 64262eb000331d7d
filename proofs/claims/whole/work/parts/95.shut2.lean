-- SHUTTERS, the class (2): shutMore, fewestShutters
section SJ
variable {P : o_W} {m sh a k b x y z Y Z i j u d D F nn N w : Nat} {p : e_P} {r : Option Nat} {Q Q' : Nat → Prop} {g g' g'' h : fw_H} {E : z_E} {gg : Nat → fw_H → Option Nat → Int32 → Int32 → Int32 → Int32 → Option (Int32 × fw_H)}
theorem o_hi (h1 : Y < 2 ^ (i + 1)) (h2 : Y.testBit i = false) : Y < 2 ^ i := by
  have h3 : Y / 2 ^ i < 2 := Nat.div_lt_of_lt_mul (by rw [Nat.pow_succ] at h1; exact h1)
  rw [Nat.testBit_eq_decide_div_mod_eq] at h2
  have h4 : ¬ Y / 2 ^ i % 2 = 1 := of_decide_eq_false h2
  have h6 := Nat.div_add_mod Y (2 ^ i)
  have h7 := Nat.mod_lt Y (Nat.two_pow_pos i)
  obtain ⟨q, hq⟩ : ∃ q, q = Y / 2 ^ i := ⟨_, rfl⟩
  rw [← hq] at h3 h4 h6
  have h5 : q = 0 := by omega
  rw [h5, Nat.mul_zero, Nat.zero_add] at h6
  rw [← h6]
  exact h7
theorem o_hi2 (h1 : Y < 2 ^ (i + 1)) (h2 : Y.testBit i = true) : Y = 2 ^ i ||| Y % 2 ^ i := by
  refine Nat.eq_of_testBit_eq (fun j => ?_)
  rw [Nat.testBit_or, Nat.testBit_two_pow, Nat.testBit_mod_two_pow]
  by_cases e : i = j
  · subst e; rw [h2]; simp
  · rw [decide_eq_false e, Bool.false_or]
    by_cases e2 : j < i
    · rw [decide_eq_true e2, Bool.true_and]
    · have : Y.testBit j = false := Nat.testBit_lt_two_pow (Nat.lt_of_lt_of_le h1 (z_pole (by omega)))
      rw [this, Bool.and_false]
theorem o_add (hZ : Z < 2 ^ i) : 2 ^ i ||| Z = 2 ^ i + Z := by
  have := Nat.two_pow_add_eq_or_of_lt hZ 1
  rw [Nat.mul_one] at this
  exact this.symm
theorem o_lo (hZ : Z < 2 ^ i) : Z.testBit i = false := Nat.testBit_lt_two_pow hZ
theorem o_pc1 (hZ : Z < 2 ^ i) (hi : i < 16) : c_pc 16 (2 ^ i ||| Z) = c_pc 16 Z + 1 := by
  rw [Nat.or_comm]
  exact o_pcs (o_lo hZ) hi
theorem o_and0 : (2 ^ i ||| Z) &&& sh = 0 ↔ sh.testBit i = false ∧ Z &&& sh = 0 := by
  constructor
  · intro h
    have hb := fun j => o_bit h j
    constructor
    · have := hb i
      rw [Nat.testBit_or, Nat.testBit_two_pow, decide_eq_true rfl, Bool.true_or, Bool.true_and, Nat.zero_testBit] at this
      exact this
    · refine Nat.eq_of_testBit_eq (fun j => ?_)
      have := hb j
      rw [Nat.testBit_or, Nat.zero_testBit] at this
      rw [Nat.testBit_and, Nat.zero_testBit]
      revert this
      cases (2 ^ i).testBit j <;> cases Z.testBit j <;> cases sh.testBit j <;> simp
  · rintro ⟨h1, h2⟩
    refine Nat.eq_of_testBit_eq (fun j => ?_)
    have := o_bit h2 j
    rw [Nat.zero_testBit] at this
    rw [Nat.testBit_and, Nat.testBit_or, Nat.testBit_two_pow, Nat.zero_testBit]
    by_cases e : i = j
    · subst e; rw [h1, Bool.and_false]
    · rw [decide_eq_false e, Bool.false_or]; exact this
theorem c_pc_zero : ∀ (k Y : Nat), Y < 2 ^ k → c_pc k Y = 0 → Y = 0
  | 0, Y, h, _ => by omega
  | k + 1, Y, h, e => by
    have e' : Y % 2 + c_pc k (Y / 2) = 0 := e
    have := c_pc_zero k (Y / 2) (by rw [Nat.pow_succ] at h; omega) (by omega)
    omega
/-- what the recursion tells of sets of k windows -/
def o_rec (P : o_W) (m sh a F : Nat) (k b x : Nat) (g : fw_H) (R : Option (Int32 × fw_H)) : Prop := ∃ r g', R = some (o_ox x r, g') ∧ (o_sf g g' ∧ o_ml (o_Q P m sh a k b x) r ∧ ∀ y, r = some y → y < 2 ^ b)
theorem o_m55 (hok : v_ok P.1 P.2.1 P.2.2.2.1) (hsh : sh < 2 ^ 16) (hk : k ≤ 3)
    (hih : ∀ b x g, b ≤ 16 → x < 2 ^ 16 → o_sV P m sh g → o_rec P m sh a F k b x g (gg 0 g (some 59) (nI a) (nI k) (nI b) (nI x))) (hb : b ≤ 16) (hx : x < 2 ^ 16) :
    ∀ (d i nn : Nat) (g : fw_H), b ≤ i + d → i ≤ 16 → d < nn → o_sV P m sh g → (∀ Y, ¬ o_Q P m sh a (k + 1) i x Y) → o_rec P m sh a F (k + 1) b x g (l_Ways_shutMore_55 gg (some 59) (nI a) (nI (k + 1)) (nI b) (nI x) nn (nI i) g) := by
  have hn12 := hok.1
  intro d
  have stop : ∀ (i nn : Nat) (g : fw_H), b ≤ i → i ≤ 16 → (∀ Y, ¬ o_Q P m sh a (k + 1) i x Y) → o_rec P m sh a F (k + 1) b x g (l_Ways_shutMore_55 gg (some 59) (nI a) (nI (k + 1)) (nI b) (nI x) (nn + 1) (nI i) g) := by
    intro i nn g hbi hi hno
    refine ⟨none, g, ?_, o_sf.refl, fun Y hY => hno Y ⟨Nat.lt_of_lt_of_le hY.1 (z_pole hbi), hY.2⟩, fun y hy => by cases hy⟩
    rw [l_Ways_shutMore_55, if_pos (nI_le hbi (by omega))]
    rfl
  induction d with
  | zero =>
    intro i nn g hbi hi hnn hV hno
    obtain ⟨nn, rfl⟩ : ∃ k, nn = k + 1 := ⟨nn - 1, by omega⟩
    exact stop i nn g hbi hi hno
  | succ d ih =>
    intro i nn g hbi hi hnn hV hno
    obtain ⟨nn, rfl⟩ : ∃ k, nn = k + 1 := ⟨nn - 1, by omega⟩
    by_cases hst : b ≤ i
    · exact stop i nn g hst hi hno
    have hS := hV.1
    rw [l_Ways_shutMore_55, if_neg (nI_ge (by omega) (by omega)), z_r59_0 hS, Option.bind_some, z_r48_0 hS, Option.bind_some, z_i49_6 hS, Option.bind_some, hV.2.2.2.2.2.2.1, z_has (by omega) (by omega), Option.bind_some, show nI i + (1 : Int32) = nI (i + 1) from nI_1 i]
    by_cases hsb : sh.testBit i = true
    · rw [if_pos hsb]
      refine ih (i + 1) nn g (by omega) (by omega) (by omega) hV fun Y hY => ?_
      have hYi : Y.testBit i = false := by
        have := o_bit hY.2.1 i
        rw [hsb, Bool.and_true, Nat.zero_testBit] at this
        exact this
      exact hno Y ⟨o_hi hY.1 hYi, hY.2⟩
    · have hsb' := Bool.eq_false_iff.mpr hsb
      have hx2 : x ||| 2 ^ i < 2 ^ 16 := z_orlt hx (z_pow (by omega))
      rw [if_neg hsb, show nI (k + 1) - (1 : Int32) = nI k from nI_pred k, show nI x ||| ((1 : Int32) <<< (nI i &&& 31)) = nI (x ||| 2 ^ i) by rw [z_sh1 (by omega), fa_or]]
      obtain ⟨r, g1, a1, a2, a3, a4⟩ := hih i (x ||| 2 ^ i) g (by omega) hx2 hV
      have hV1 := hV.of hn12 hok.2.1 a2
      -- sets that reach up to i
      have hup : ∀ Y, o_Q P m sh a (k + 1) (i + 1) x Y → Y.testBit i = true → ∃ Z, Y = 2 ^ i ||| Z ∧ o_Q P m sh a k i (x ||| 2 ^ i) Z := by
        intro Y hY hYi
        obtain ⟨y1, y2, y3, y4⟩ := hY
        have e := o_hi2 y1 hYi
        have hZ : Y % 2 ^ i < 2 ^ i := Nat.mod_lt _ (Nat.two_pow_pos i)
        refine ⟨Y % 2 ^ i, e, hZ, ?_, ?_, ?_⟩
        · rw [e] at y2; exact (o_and0.mp y2).2
        · rw [e, o_pc1 hZ (by omega)] at y3; omega
        · rw [e, ← Nat.or_assoc x] at y4; exact y4
      rw [a1, Option.bind_some]
      match r, a3, a4 with
      | none, a3, a4 =>
        rw [if_pos (show o_ox (x ||| 2 ^ i) none = (-1 : Int32) from rfl)]
        obtain ⟨r', g2, b1, b2, b3⟩ := ih (i + 1) nn g1 (by omega) (by omega) (by omega) hV1 fun Y hY => by
          by_cases hYi : Y.testBit i = true
          · obtain ⟨Z, -, hZ⟩ := hup Y hY hYi
            exact a3 Z hZ
          · exact hno Y ⟨o_hi hY.1 (Bool.eq_false_iff.mpr hYi), hY.2⟩
        exact ⟨r', g2, b1, a2.trans b2, b3⟩
      | some z, a3, a4 =>
        have hz := a4 z rfl
        have hzz : (x ||| 2 ^ i) ||| z < 2 ^ 16 := z_orlt hx2 (Nat.lt_of_lt_of_le hz (z_pole (by omega)))
        rw [if_neg (show ¬ o_ox (x ||| 2 ^ i) (some z) = (-1 : Int32) from nI_ne_m1 (by omega))]
        obtain ⟨⟨z1, z2, z3, z4⟩, z5⟩ := a3
        have hlt : 2 ^ i ||| z < 2 ^ (i + 1) := z_orlt (z_pow (by omega)) (Nat.lt_of_lt_of_le hz (z_pole (by omega)))
        refine ⟨some (2 ^ i ||| z), g1, ?_, a2, ⟨⟨Nat.lt_of_lt_of_le hlt (z_pole (by omega)), o_and0.mpr ⟨hsb', z2⟩, ?_, ?_⟩, fun Y hY => ?_⟩, fun y hy => by cases hy; exact Nat.lt_of_lt_of_le hlt (z_pole (by omega))⟩
        · show some (nI ((x ||| 2 ^ i) ||| z), g1) = some (nI (x ||| (2 ^ i ||| z)), g1)
          rw [Nat.or_assoc]
        · rw [o_pc1 hz (by omega), z3]
        · rw [← Nat.or_assoc x]; exact z4
        · rcases Nat.lt_or_ge Y (2 ^ (i + 1)) with h1 | h1
          · by_cases hYi : Y.testBit i = true
            · obtain ⟨Z, e, hZ⟩ := hup Y ⟨h1, hY.2⟩ hYi
              have := z5 Z hZ
              rw [e, o_add hz, o_add hZ.1]
              omega
            · exact absurd ⟨o_hi h1 (Bool.eq_false_iff.mpr hYi), hY.2⟩ (hno Y)
          · omega
theorem o_more (hF : 70000 ≤ F) (hok : v_ok P.1 P.2.1 P.2.2.2.1) (h0 : 0 < P.1) (hm : m < 2 ^ 12) (ha : a < 12) (hsh : sh < 2 ^ 16) :
    ∀ (k D b x : Nat) (g : fw_H), k < D → k ≤ 3 → b ≤ 16 → x < 2 ^ 16 → o_sV P m sh g → o_rec P m sh a F k b x g (gr_Ways_shutMore F D 0 g (some 59) (nI a) (nI k) (nI b) (nI x)) := by
  intro k
  induction k with
  | zero =>
    intro D b x g hD hk hb hx hV
    obtain ⟨D, rfl⟩ : ∃ k, D = k + 1 := ⟨D - 1, by omega⟩
    have hS := hV.1
    rw [gr_Ways_shutMore]
    unfold b_Ways_shutMore
    rw [z_c59 hS, Option.bind_some, if_neg (show ¬ (0 : Int32) < nI 0 by decide)]
    have hz : ∀ Y, Y < 2 ^ b → c_pc 16 Y = 0 → Y = 0 := fun Y h1 h2 => c_pc_zero 16 Y (Nat.lt_of_lt_of_le h1 (z_pole hb)) h2
    obtain ⟨g1, a1, a2⟩ := o_leaf hF hok h0 hm ha hsh hx hV
    rcases a1 with ⟨a1, a3⟩ | ⟨a1, a3⟩
    · refine ⟨none, g1, a1, a2, fun Y hY => ?_, fun y hy => by cases hy⟩
      have e := hz Y hY.1 hY.2.2.1
      have h4 := hY.2.2.2
      rw [e, Nat.or_zero] at h4
      exact a3 h4
    · refine ⟨some 0, g1, ?_, a2, ⟨⟨Nat.two_pow_pos b, Nat.zero_and sh, rfl, by rw [Nat.or_zero]; exact a3⟩, fun Y _ => Nat.zero_le Y⟩, fun y hy => by cases hy; exact Nat.two_pow_pos b⟩
      show _ = some (nI (x ||| 0), g1)
      rw [Nat.or_zero]
      exact a1
  | succ k ih =>
    intro D b x g hD hk hb hx hV
    obtain ⟨D, rfl⟩ : ∃ k, D = k + 1 := ⟨D - 1, by omega⟩
    have hS := hV.1
    rw [gr_Ways_shutMore]
    unfold b_Ways_shutMore
    rw [z_c59 hS, Option.bind_some, if_pos (show (0 : Int32) < nI (k + 1) from nI_lt (a := 0) (by omega) (by omega)), show nI (k + 1) - (1 : Int32) = nI k from nI_pred k]
    refine o_m55 hok hsh (by omega) (fun b x g hb hx hV => ih D b x g (by omega) (by omega) hb hx hV) hb hx 16 k F g (by omega) (by omega) (by omega) hV fun Y hY => ?_
    have := c_pc_lt 16 k Y hY.1
    have := hY.2.2.1
    omega
/-- fewestShutters -/
theorem z_fewestShutters (hF : 70000 ≤ F) (hok : v_ok P.1 P.2.1 P.2.2.2.1) (h0 : 0 < P.1) (hm : m < 2 ^ 12) (ha : a < 12) (hsh : sh < 2 ^ 16) (hV : o_sV P m sh h) :
    ∃ r g', s_Ways_fewestShutters F h (some 59) (nI a) = some (g_on r (-1), g') ∧ (o_sf h g' ∧ o_is (fun X => X < 2 ^ P.2.1 ∧ X &&& sh = 0 ∧ c_pc 16 X ≤ 3 ∧ o_nv (o_F P m (sh ||| X)) (v_pos P.2.2.2.2.1) a) r) := by
  have hn12 := hok.1
  have hw16 := hok.2.1
  have main : ∀ (d s nn : Nat) (g : fw_H), s + d = 4 → d < nn → o_sV P m sh g → (∀ k, k < s → ∀ Y, ¬ o_Q P m sh a k P.2.1 0 Y) → ∃ r g', l_Ways_fewestShutters_2 F (some 59) (nI a) nn (nI s) g = some (g_on r (-1), g') ∧ (o_sf g g' ∧ o_is (fun X => X < 2 ^ P.2.1 ∧ X &&& sh = 0 ∧ c_pc 16 X ≤ 3 ∧ o_nv (o_F P m (sh ||| X)) (v_pos P.2.2.2.2.1) a) r) := by
    intro d
    induction d with
    | zero =>
      intro s nn g hs hnn hV hno
      obtain ⟨nn, rfl⟩ : ∃ k, nn = k + 1 := ⟨nn - 1, by omega⟩
      obtain rfl : s = 4 := by omega
      refine ⟨none, g, ?_, o_sf.refl, fun X hX => hno (c_pc 16 X) (by have := hX.2.2.1; omega) X ⟨hX.1, hX.2.1, rfl, by rw [Nat.zero_or]; exact hX.2.2.2⟩⟩
      rw [l_Ways_fewestShutters_2, if_pos (by decide)]
      rfl
    | succ d ih =>
      intro s nn g hs hnn hV hno
      obtain ⟨nn, rfl⟩ : ∃ k, nn = k + 1 := ⟨nn - 1, by omega⟩
      have hS := hV.1
      rw [l_Ways_fewestShutters_2, if_neg (show ¬ (3 : Int32) < nI s from nI_nlt (b := s) (a := 3) (by omega) (by decide)), z_r59_0 hS, Option.bind_some, z_r48_0 hS, Option.bind_some, z_i49_1 hS, Option.bind_some, hV.2.1.2.1, show (0 : Int32) = nI 0 from rfl]
      unfold s_Ways_shutMore
      obtain ⟨r, g1, a1, a2, a3, a4⟩ := o_more hF hok h0 hm ha hsh s 80 P.2.1 0 g (by omega) (by omega) hw16 (by decide) hV
      rw [a1, Option.bind_some]
      match r, a3, a4 with
      | none, a3, a4 =>
        rw [if_pos (show o_ox 0 none = (-1 : Int32) from rfl), show nI s + (1 : Int32) = nI (s + 1) from nI_1 s]
        obtain ⟨r', g2, b1, b2, b3⟩ := ih (s + 1) nn g1 (by omega) (by omega) (hV.of hn12 hw16 a2) fun k hk Y hY => by
          by_cases e : k = s
          · rw [e] at hY; exact a3 Y hY
          · exact hno k (by omega) Y hY
        exact ⟨r', g2, b1, a2.trans b2, b3⟩
      | some y, a3, a4 =>
        have hy := a4 y rfl
        have hy16 : y < 2 ^ 16 := Nat.lt_of_lt_of_le hy (z_pole hw16)
        have e0 : o_ox 0 (some y) = nI y := by show nI (0 ||| y) = nI y; rw [Nat.zero_or]
        rw [e0, if_neg (nI_ne_m1 (by omega))]
        obtain ⟨⟨y1, y2, y3, y4⟩, y5⟩ := a3
        rw [Nat.zero_or] at y4
        refine ⟨some y, g1, rfl, a2, ⟨y1, y2, by omega, y4⟩, fun X hX hc => ?_⟩
        have hq : o_Q P m sh a (c_pc 16 X) P.2.1 0 X := ⟨hX.1, hX.2.1, rfl, by rw [Nat.zero_or]; exact hX.2.2.2⟩
        unfold c_lt at hc
        rcases hc with hc | ⟨hc1, hc2⟩
        · exact hno (c_pc 16 X) (by omega) X hq
        · rw [hc1, y3] at hq
          have := y5 X hq
          omega
  unfold s_Ways_fewestShutters
  rw [z_c59 hV.1, Option.bind_some]
  exact main 4 0 F h (by omega) (by omega) hV fun k hk => absurd hk (Nat.not_lt_zero _)
end SJ
