-- HOW MANY BITS (2)
section PD
variable {m x y k i : Nat}
theorem c_pc_le : ∀ (k m : Nat), c_pc k m ≤ k
  | 0, _ => Nat.le_refl _
  | k + 1, m => by
    have := c_pc_le k (m / 2)
    show m % 2 + c_pc k (m / 2) ≤ k + 1
    omega
theorem g_half (h : x &&& y = 0) : (x / 2) &&& (y / 2) = 0 ∧ (x % 2 = 0 ∨ y % 2 = 0) := by
  constructor
  · refine Nat.eq_of_testBit_eq (fun i => ?_)
    have t : (x &&& y).testBit (i + 1) = (0 : Nat).testBit (i + 1) := by rw [h]
    rw [Nat.testBit_and, Nat.testBit_succ, Nat.testBit_succ, Nat.zero_testBit] at t
    rw [Nat.testBit_and, Nat.zero_testBit]
    exact t
  · have t : (x &&& y).testBit 0 = (0 : Nat).testBit 0 := by rw [h]
    rw [Nat.testBit_and, Nat.testBit_zero, Nat.testBit_zero, Nat.zero_testBit] at t
    by_cases hx : x % 2 = 1
    · by_cases hy : y % 2 = 1
      · rw [decide_eq_true hx, decide_eq_true hy] at t
        cases t
      · exact .inr (by omega)
    · exact .inl (by omega)
theorem g_orh : (x ||| y) / 2 = x / 2 ||| y / 2 ∧ (x ||| y) % 2 = (if x % 2 = 1 ∨ y % 2 = 1 then 1 else 0) := by
  constructor
  · refine Nat.eq_of_testBit_eq (fun i => ?_)
    have h1 := Nat.testBit_succ (x ||| y) i
    rw [Nat.testBit_or, Nat.testBit_succ, Nat.testBit_succ] at h1
    rw [Nat.testBit_or]
    exact h1.symm
  · have h1 := Nat.testBit_zero (x ||| y)
    rw [Nat.testBit_or, Nat.testBit_zero, Nat.testBit_zero] at h1
    have h2 : (x ||| y) % 2 = 1 ↔ (x % 2 = 1 ∨ y % 2 = 1) := by
      have h3 := congrArg (fun z => z = true) h1
      simp only [Bool.or_eq_true, decide_eq_true_eq] at h3
      exact (iff_of_eq h3).symm
    by_cases h : x % 2 = 1 ∨ y % 2 = 1
    · rw [if_pos h]; exact h2.mpr h
    · rw [if_neg h]
      have h4 : ¬ (x ||| y) % 2 = 1 := fun z => h (h2.mp z)
      omega
/-- apart, they add up -/
theorem c_pc_or : ∀ (k x y : Nat), x &&& y = 0 → c_pc k (x ||| y) = c_pc k x + c_pc k y
  | 0, _, _, _ => rfl
  | k + 1, x, y, h => by
    obtain ⟨h1, h2⟩ := g_half h
    obtain ⟨h3, h4⟩ := g_orh (x := x) (y := y)
    show (x ||| y) % 2 + c_pc k ((x ||| y) / 2) = (x % 2 + c_pc k (x / 2)) + (y % 2 + c_pc k (y / 2))
    rw [h3, c_pc_or k _ _ h1, h4]
    by_cases hx : x % 2 = 1 <;> by_cases hy : y % 2 = 1 <;> simp [hx, hy] <;> omega
theorem c_pc_two : ∀ (k i : Nat), i < k → c_pc k (2 ^ i) = 1
  | 0, _, h => absurd h (Nat.not_lt_zero _)
  | k + 1, 0, _ => by
    have z : ∀ k, c_pc k 0 = 0 := by
      intro k
      induction k with
      | zero => rfl
      | succ k ih => show 0 % 2 + c_pc k (0 / 2) = 0; rw [show 0 / 2 = 0 from rfl, ih]
    show 1 % 2 + c_pc k (1 / 2) = 1
    rw [show 1 / 2 = 0 from rfl, z k]
  | k + 1, i + 1, h => by
    show 2 ^ (i + 1) % 2 + c_pc k (2 ^ (i + 1) / 2) = 1
    rw [Nat.pow_succ, Nat.mul_mod_left, Nat.mul_div_cancel _ (by decide : 0 < 2), c_pc_two k i (by omega)]
/-- the better of two sets: fewer, else the lower -/
def c_lt (x y : Nat) : Prop := c_pc 16 x < c_pc 16 y ∨ (c_pc 16 x = c_pc 16 y ∧ x < y)
/-- the reference's isFewer -/
theorem z_isFewer (hx : x < 65536) {r : Option Nat} (hr : ∀ y, r = some y → y < 65536) : s_Mod_isFewer (nI x) (g_on r (-1)) = some (match r with
    | some y => decide (c_pc 16 x < c_pc 16 y)
    | none => true) := by
  unfold s_Mod_isFewer
  match r, hr with
  | none, _ => rw [if_pos (show g_on none (-1) = (-1 : Int32) from rfl)]
  | some y, hr =>
    have hy := hr y rfl
    have h1 := c_pc_le 16 x
    have h2 := c_pc_le 16 y
    show (if nI y = -1 then some true else (s_Jdk_bitCount (nI x)).bind fun x6 => (s_Jdk_bitCount (nI y)).bind fun x10 => if x10 ≤ x6 then some false else some true) = some (decide (c_pc 16 x < c_pc 16 y))
    rw [if_neg (nI_ne_m1 (by omega)), z_bitc hx, Option.bind_some, z_bitc hy, Option.bind_some]
    by_cases h : c_pc 16 x < c_pc 16 y
    · rw [if_neg (nI_ge h (by omega)), decide_eq_true h]
    · rw [if_pos (nI_le (by omega) (by omega)), decide_eq_false h]
end PD
