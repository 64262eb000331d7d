-- THE LEAST SET (fewest, else the lowest); the class's isWorse, unsettled
/-- r is the least of those that are Q -/
def o_is (Q : Nat → Prop) (r : Option Nat) : Prop := match r with
  | none => ∀ X, ¬ Q X
  | some y => Q y ∧ ∀ X, Q X → ¬ c_lt X y
section LE
variable {Q Q' P : Nat → Prop} {r r' : Option Nat} {x y z s t o X k j i : Nat}
theorem c_lt_tri (h1 : ¬ c_lt x y) (h2 : ¬ c_lt y x) : x = y := by
  unfold c_lt at h1 h2
  omega
theorem c_lt_trans (h1 : c_lt x y) (h2 : ¬ c_lt z y) : ¬ c_lt z x := by
  unfold c_lt at h1 h2 ⊢
  omega
theorem o_is.uniq (h : o_is Q r) (h' : o_is Q r') : r = r' := by
  match r, r', h, h' with
  | none, none, _, _ => rfl
  | none, some y, h, h' => exact absurd h'.1 (h y)
  | some y, none, h, h' => exact absurd h.1 (h' y)
  | some y, some z, h, h' => rw [c_lt_tri (h'.2 y h.1) (h.2 z h'.1)]
theorem o_is.cong (h : o_is Q r) (hq : ∀ X, Q' X ↔ Q X) : o_is Q' r := by
  have e : Q' = Q := funext fun X => propext (hq X)
  rw [e]; exact h
theorem o_is.keep (h : o_is Q r) (hq : ∀ X, Q' X → ∃ y, r = some y ∧ ¬ c_lt X y) : o_is (fun X => Q X ∨ Q' X) r := by
  match r, h with
  | none, h =>
    intro X hX
    rcases hX with hX | hX
    · exact h X hX
    · obtain ⟨y, e, -⟩ := hq X hX
      cases e
  | some y, h =>
    refine ⟨.inl h.1, fun X hX => ?_⟩
    rcases hX with hX | hX
    · exact h.2 X hX
    · obtain ⟨z, e, h3⟩ := hq X hX
      cases e
      exact h3
theorem o_is.new (h : o_is Q r) (hy : Q' y) (hl : ∀ z, r = some z → c_lt y z) (hm : ∀ X, Q' X → ¬ c_lt X y) : o_is (fun X => Q X ∨ Q' X) (some y) := by
  refine ⟨.inr hy, fun X hX => ?_⟩
  rcases hX with hX | hX
  · match r, h, hl with
    | none, h, _ => exact absurd hX (h X)
    | some z, h, hl => exact c_lt_trans (hl z rfl) (h.2 X hX)
  · exact hm X hX
-- sets
theorem o_half (x s : Nat) : (x &&& s) / 2 = x / 2 &&& s / 2 := by
  refine Nat.eq_of_testBit_eq (fun i => ?_)
  have h1 := Nat.testBit_succ (x &&& s) i
  rw [Nat.testBit_and, Nat.testBit_succ, Nat.testBit_succ] at h1
  rw [Nat.testBit_and]
  exact h1.symm
theorem o_mod (x s : Nat) : (x &&& s) % 2 ≤ x % 2 := by
  have h1 := Nat.testBit_zero (x &&& s)
  rw [Nat.testBit_and, Nat.testBit_zero, Nat.testBit_zero] at h1
  by_cases hx : x % 2 = 1
  · omega
  · rw [decide_eq_false hx, Bool.false_and] at h1
    have : ¬ (x &&& s) % 2 = 1 := of_decide_eq_false h1.symm
    omega
theorem c_pc_and : ∀ (k x s : Nat), c_pc k (x &&& s) ≤ c_pc k x
  | 0, _, _ => Nat.le_refl _
  | k + 1, x, s => by
    show (x &&& s) % 2 + c_pc k ((x &&& s) / 2) ≤ x % 2 + c_pc k (x / 2)
    have h1 := c_pc_and k (x / 2) (s / 2)
    have h2 := o_mod x s
    rw [o_half]
    omega
theorem c_pc_lt : ∀ (k j x : Nat), x < 2 ^ j → c_pc k x ≤ j
  | 0, _, _, _ => Nat.zero_le _
  | k + 1, 0, x, h => by
    have h1 := c_pc_lt k 0 (x / 2) (by omega)
    show x % 2 + c_pc k (x / 2) ≤ 0
    omega
  | k + 1, j + 1, x, h => by
    have h1 := c_pc_lt k j (x / 2) (by rw [Nat.pow_succ] at h; omega)
    show x % 2 + c_pc k (x / 2) ≤ j + 1
    omega
/-- a set is not ahead of its part -/
theorem o_sub (h : X &&& s = t) : ¬ c_lt X t := by
  have h1 := c_pc_and 16 X s
  have h2 : X &&& s ≤ X := Nat.and_le_left
  rw [h] at h1 h2
  unfold c_lt
  omega
theorem o_bit (h : X &&& s = t) (i : Nat) : (X.testBit i && s.testBit i) = t.testBit i := by rw [← h, Nat.testBit_and]
/-- the sets that go on from where o is asked -/
theorem o_two (ht : t &&& s = t) (ho : s.testBit o = false) : X &&& s = t ↔ (X &&& (s ||| 2 ^ o) = t ∨ X &&& (s ||| 2 ^ o) = t ||| 2 ^ o) := by
  have hto : t.testBit o = false := by
    have := o_bit ht o
    rw [ho, Bool.and_false] at this
    exact this.symm
  constructor
  · intro h
    by_cases hX : X.testBit o = true
    · right
      refine Nat.eq_of_testBit_eq (fun i => ?_)
      have := o_bit h i
      rw [Nat.testBit_and, Nat.testBit_or, Nat.testBit_or, Nat.testBit_two_pow, ← this]
      by_cases e : o = i
      · subst e; rw [decide_eq_true rfl, hX]; simp
      · rw [decide_eq_false e, Bool.or_false, Bool.or_false]
    · left
      have hX' := Bool.eq_false_iff.mpr hX
      refine Nat.eq_of_testBit_eq (fun i => ?_)
      have := o_bit h i
      rw [Nat.testBit_and, Nat.testBit_or, Nat.testBit_two_pow, ← this]
      by_cases e : o = i
      · subst e; rw [hX']; simp
      · rw [decide_eq_false e, Bool.or_false]
  · intro h
    refine Nat.eq_of_testBit_eq (fun i => ?_)
    rw [Nat.testBit_and]
    rcases h with h | h
    · have := o_bit h i
      rw [Nat.testBit_or, Nat.testBit_two_pow] at this
      by_cases e : o = i
      · subst e; rw [ho, Bool.and_false, hto]
      · rw [decide_eq_false e, Bool.or_false] at this; exact this
    · have := o_bit h i
      rw [Nat.testBit_or, Nat.testBit_or, Nat.testBit_two_pow] at this
      by_cases e : o = i
      · subst e; rw [ho, Bool.and_false, hto]
      · rw [decide_eq_false e, Bool.or_false, Bool.or_false] at this; exact this
theorem o_or_bit (m x : Nat) : (m ||| x).testBit i = (m.testBit i || x.testBit i) := Nat.testBit_or m x i
theorem o_pcs (ho : s.testBit o = false) (h12 : o < 16) : c_pc 16 (s ||| 2 ^ o) = c_pc 16 s + 1 := by
  have h0 : s &&& 2 ^ o = 0 := by
    refine Nat.eq_of_testBit_eq (fun i => ?_)
    rw [Nat.testBit_and, Nat.testBit_two_pow, Nat.zero_testBit]
    by_cases e : o = i
    · subst e; rw [ho]; simp
    · rw [decide_eq_false e, Bool.and_false]
  rw [c_pc_or 16 s (2 ^ o) h0, c_pc_two 16 o h12]
theorem o_tt (ht : t &&& s = t) : t &&& (s ||| 2 ^ o) = t ∧ (t ||| 2 ^ o) &&& (s ||| 2 ^ o) = t ||| 2 ^ o := by
  constructor
  · refine Nat.eq_of_testBit_eq (fun i => ?_)
    have := o_bit ht i
    rw [Nat.testBit_and, Nat.testBit_or]
    revert this
    cases t.testBit i <;> cases s.testBit i <;> simp
  · refine Nat.eq_of_testBit_eq (fun i => ?_)
    have := o_bit ht i
    rw [Nat.testBit_and, Nat.testBit_or, Nat.testBit_or]
    revert this
    cases t.testBit i <;> cases s.testBit i <;> simp
/-- a bit taken away again -/
theorem o_out (h : x.testBit o = false) (hx : x < 2 ^ 31) (ho : o < 31) : nI (x ||| 2 ^ o) &&& (((1 : Int32) <<< (nI o &&& 31)) ^^^ (-1 : Int32)) = nI x := by
  refine b_ext fun i hi => ?_
  rw [z_sh1 ho, b_and, b_xor, b_m1 i hi]
  have hb : ∀ n : Nat, bt (nI n) i = n.testBit i := by
    intro n
    show (BitVec.ofNat 32 n).getLsbD i = n.testBit i
    rw [BitVec.getLsbD_ofNat]
    simp [hi]
  rw [hb, hb, hb, Nat.testBit_or, Nat.testBit_two_pow]
  by_cases e : o = i
  · subst e; rw [h]; simp
  · rw [decide_eq_false e]; simp
end LE
section IW
variable {E E' : z_E} {p : e_P} {h h' g g' : fw_H} {x y s t o a b i k n F nn m N : Nat} {r : Option Nat} {c : Nat × Int32}
/-- isWorse -/
theorem z_isWorse (hS : z_Sh h) (h2 : z_I h 59 2 = g_on r (-1)) (ht : t < 65536) (hr : ∀ y, r = some y → y < 65536) :
    ∃ b, s_Ways_isWorse h (some 59) (nI t) = some b ∧ (b = true ↔ ∃ y, r = some y ∧ ¬ c_lt t y) := by
  unfold s_Ways_isWorse
  rw [z_c59 hS, Option.bind_some, z_i59_2 hS, Option.bind_some, h2]
  match r, hr with
  | none, _ =>
    rw [if_neg (fun z => z rfl)]
    exact ⟨false, rfl, fun z => (by cases z), fun ⟨y, e, _⟩ => (by cases e)⟩
  | some y, hr =>
    have hy := hr y rfl
    have l1 := c_pc_le 16 t
    have l2 := c_pc_le 16 y
    show ∃ b, (if ¬ nI y = (-1 : Int32) then _ else _) = some b ∧ _
    rw [if_pos (nI_ne_m1 (by omega)), z_bitc ht, Option.bind_some, Option.bind_some]
    show ∃ b, ((s_Jdk_bitCount (nI y)).bind _) = some b ∧ _
    rw [z_bitc hy, Option.bind_some]
    have e1 : (nI (c_pc 16 t) - nI (c_pc 16 y)).toInt = (c_pc 16 t : Int) - c_pc 16 y := z_subI (by omega) (by omega)
    have e0 : (0 : Int32).toInt = 0 := by decide
    by_cases c1 : c_pc 16 y < c_pc 16 t
    · rw [if_pos (by rw [fa_lt, e0, e1]; omega)]
      refine ⟨true, rfl, fun _ => ⟨y, rfl, ?_⟩, fun _ => rfl⟩
      unfold c_lt
      omega
    · rw [if_neg (by rw [fa_lt, e0, e1]; omega)]
      by_cases c2 : c_pc 16 t = c_pc 16 y
      · rw [if_neg (fun z => z (by rw [fa_eq, e0, e1]; omega)), Option.bind_some]
        show ∃ b, (if nI t < nI y then some false else some true) = some b ∧ _
        by_cases c3 : t < y
        · rw [if_pos (nI_lt c3 (by omega))]
          refine ⟨false, rfl, fun z => (by cases z), fun ⟨z, e, h3⟩ => ?_⟩
          cases e
          exact absurd (.inr ⟨c2, c3⟩) h3
        · rw [if_neg (nI_nlt (by omega) (by omega))]
          refine ⟨true, rfl, fun _ => ⟨y, rfl, ?_⟩, fun _ => rfl⟩
          unfold c_lt
          omega
      · rw [if_pos (by rw [fa_eq, e0, e1]; omega)]
        refine ⟨false, rfl, fun z => (by cases z), fun ⟨z, e, h3⟩ => ?_⟩
        cases e
        exact absurd (.inl (by omega)) h3
/-- the first house that may be asked; how many may be gone to -/
def o_op (s b : Nat) : Nat → List Nat → Nat
  | o, [] => o
  | o, x :: l => o_op s b (if x = b then o else if o ≠ 12 then o else if s.testBit x = true then o else x) l
def o_ch (b : Nat) : List Nat → Nat
  | [] => 0
  | x :: l => (if x = b then 0 else 1) + o_ch b l
theorem o_op_keep : ∀ (l : List Nat) (o : Nat), o ≠ 12 → o_op s b o l = o
  | [], _, _ => rfl
  | x :: l, o, h => by
    show o_op s b (if x = b then o else if o ≠ 12 then o else if s.testBit x = true then o else x) l = o
    have e : (if x = b then o else if o ≠ 12 then o else if s.testBit x = true then o else x) = o := by
      by_cases e0 : x = b
      · rw [if_pos e0]
      · rw [if_neg e0, if_pos h]
    rw [e]
    exact o_op_keep l o h
theorem o_op_none : ∀ (l : List Nat), (∀ x, x ∈ l → x < 12) → o_op s b 12 l = 12 → ∀ x, x ∈ l → x ≠ b → s.testBit x = true
  | [], _, _, _, hx, _ => by cases hx
  | y :: l, hl, h, x, hx, hb => by
    have hy := hl y (by simp)
    have h' : o_op s b (if y = b then 12 else if (12 : Nat) ≠ 12 then 12 else if s.testBit y = true then 12 else y) l = 12 := h
    by_cases e : y = b
    · rw [if_pos e] at h'
      rcases List.mem_cons.mp hx with z | z
      · exact absurd (z.trans e) hb
      · exact o_op_none l (fun x hx => hl x (by simp [hx])) h' x z hb
    · rw [if_neg e, if_neg (fun z => z rfl)] at h'
      by_cases e2 : s.testBit y = true
      · rw [if_pos e2] at h'
        rcases List.mem_cons.mp hx with z | z
        · rw [z]; exact e2
        · exact o_op_none l (fun x hx => hl x (by simp [hx])) h' x z hb
      · rw [if_neg e2, o_op_keep l y (by omega)] at h'
        omega
theorem o_op_some : ∀ (l : List Nat), o_op s b 12 l = o → o ≠ 12 → o ∈ l ∧ o ≠ b ∧ s.testBit o = false
  | [], h, h2 => absurd h.symm h2
  | y :: l, h, h2 => by
    have h' : o_op s b (if y = b then 12 else if (12 : Nat) ≠ 12 then 12 else if s.testBit y = true then 12 else y) l = o := h
    by_cases e : y = b
    · rw [if_pos e] at h'
      have := o_op_some l h' h2
      exact ⟨by simp [this.1], this.2⟩
    · rw [if_neg e, if_neg (fun z => z rfl)] at h'
      by_cases e2 : s.testBit y = true
      · rw [if_pos e2] at h'
        have := o_op_some l h' h2
        exact ⟨by simp [this.1], this.2⟩
      · rw [if_neg e2] at h'
        by_cases e3 : y = 12
        · rw [e3] at h'
          have := o_op_some l h' h2
          exact ⟨by simp [this.1], this.2⟩
        · rw [o_op_keep l y e3] at h'
          rw [← h']
          exact ⟨by simp, e, Bool.eq_false_iff.mpr e2⟩
theorem o_ch_le (b : Nat) : ∀ l : List Nat, o_ch b l ≤ l.length
  | [] => Nat.le_refl _
  | x :: l => by
    have := o_ch_le b l
    show (if x = b then 0 else 1) + o_ch b l ≤ l.length + 1
    split <;> omega
theorem e_best0 : ∀ (l : List Nat) (c : Nat × Int32), o_ch b l = 0 → e_best E b t c l = c
  | [], c, _ => by unfold e_best; rw [List.foldl_nil]
  | x :: l, c, h => by
    have h' : (if x = b then 0 else 1) + o_ch b l = 0 := h
    have hx : x = b := by
      rcases Nat.eq_zero_or_pos (if x = b then 0 else 1) with z | z
      · by_cases e : x = b
        · exact e
        · rw [if_neg e] at z; omega
      · omega
    have := e_best0 l c (by omega)
    unfold e_best at this ⊢
    rw [List.foldl_cons, show e_st E b t c x = c from if_pos hx]
    exact this
/-- where one may be gone to at most, wishes are of no account -/
theorem e_best1 : ∀ (l : List Nat) (c c' : Nat × Int32), o_ch b l ≤ 1 → c.1 = 12 → c'.1 = 12 → (e_best E b t c l).1 = (e_best E' b t c' l).1
  | [], c, c', _, h, h' => by unfold e_best; rw [List.foldl_nil, List.foldl_nil, h, h']
  | x :: l, c, c', hc, h, h' => by
    have hc' : (if x = b then 0 else 1) + o_ch b l ≤ 1 := hc
    unfold e_best
    rw [List.foldl_cons, List.foldl_cons]
    by_cases e : x = b
    · rw [show e_st E b t c x = c from if_pos e, show e_st E' b t c' x = c' from if_pos e]
      have := e_best1 l c c' (by rw [if_pos e] at hc'; omega) h h'
      unfold e_best at this
      exact this
    · rw [if_neg e] at hc'
      have e1 : e_st E b t c x = (x, E.2.2.2.2 x t) := by unfold e_st; rw [if_neg e, if_pos (.inl h)]
      have e2 : e_st E' b t c' x = (x, E'.2.2.2.2 x t) := by unfold e_st; rw [if_neg e, if_pos (.inl h')]
      have a1 := e_best0 (E := E) (b := b) (t := t) l (x, E.2.2.2.2 x t) (by omega)
      have a2 := e_best0 (E := E') (b := b) (t := t) l (x, E'.2.2.2.2 x t) (by omega)
      unfold e_best at a1 a2
      rw [e1, e2, a1, a2]
/-- wishes that agree -/
theorem e_best2 : ∀ (l : List Nat) (c : Nat × Int32), (∀ x, x ∈ l → x ≠ b → E.2.2.2.2 x t = E'.2.2.2.2 x t) → e_best E b t c l = e_best E' b t c l
  | [], c, _ => by unfold e_best; rw [List.foldl_nil, List.foldl_nil]
  | x :: l, c, h => by
    unfold e_best
    rw [List.foldl_cons, List.foldl_cons]
    have e : e_st E b t c x = e_st E' b t c x := by
      unfold e_st
      by_cases e : x = b
      · rw [if_pos e, if_pos e]
      · rw [if_neg e, if_neg e, h x (by simp) e]
    rw [e]
    have := e_best2 l (e_st E' b t c x) (fun x hx => h x (by simp [hx]))
    unfold e_best at this
    exact this
/-- where nobody is to be asked, the hour is the same -/
theorem e_go_ask (h1 : E.1 = E'.1) (h2 : E.2.1 = E'.2.1) (h3 : E.2.2.1 = E'.2.2.1) (h4 : E.2.2.2.1 = E'.2.2.2.1)
    (hc : e_sum E 0 (e_ds E p.1) < E.2.2.2.1 p.1 ∨ o_ch p.2.1 (e_ds E p.1) ≤ 1 ∨ ∀ x, x ∈ e_ds E p.1 → x ≠ p.2.1 → E.2.2.2.2 x p.2.2 = E'.2.2.2.2 x p.2.2) : e_go E p = e_go E' p := by
  have hd : e_ds E p.1 = e_ds E' p.1 := by unfold e_ds; rw [h1, h2]
  have hs : e_sum E 0 (e_ds E p.1) = e_sum E' 0 (e_ds E p.1) := by unfold e_sum; rw [h3]
  have hn : e_next E p.1 p.2.1 p.2.2 = e_next E' p.1 p.2.1 p.2.2 := by
    unfold e_next
    rw [← hd, ← hs, ← h4]
    rcases hc with hc | hc | hc
    · rw [if_pos hc, if_pos hc]
    · rw [e_best1 (E := E) (E' := E') (e_ds E p.1) (12, 0) (12, 0) hc rfl rfl]
    · rw [e_best2 (E := E) (E' := E') (e_ds E p.1) (12, 0) hc]
  unfold e_go
  rw [hn]
theorem z_unsL (hS : z_Sh h) (hC : z_CW h E) (hp : z_ps h (a, (b, t))) (hk : e_ok E (a, (b, t))) (hs : s < 2 ^ 12) {K : Int32 → Int32 → Option Int32} :
    ∀ (l : List Nat) (i nn o c : Nat), (e_ds E a).drop i = l → i ≤ 12 → l.length < nn → o ≤ 12 → l_Ways_unsettled_7 h (some 59) (nI s) K nn (z_b o) (nI c) (nI i) = K (z_b (o_op s b o l)) (nI (c + o_ch b l)) := by
  obtain ⟨c1, c2, c3, -⟩ := hC
  obtain ⟨p1, p2, p3⟩ := hp
  obtain ⟨k1, k2, k3⟩ := hk
  simp only at p1 p2 p3 k1 k2 k3
  have hl := e_ds_len (E := E) (a := a)
  have hE := c1.1
  intro l
  induction l with
  | nil =>
    intro i nn o c e hi hn ho
    obtain ⟨nn, rfl⟩ : ∃ k, nn = k + 1 := ⟨nn - 1, by omega⟩
    have h1 := z_dropN e
    rw [l_Ways_unsettled_7, z_r59_0 hS, Option.bind_some, z_doorCount hS p1 (by omega), Option.bind_some, (c3 a k1).1, if_pos (nI_le h1 (by omega))]
    rfl
  | cons x l ih =>
    intro i nn o c e hi hn ho
    obtain ⟨nn, rfl⟩ : ∃ k, nn = k + 1 := ⟨nn - 1, by omega⟩
    obtain ⟨h1, h2, h3⟩ := z_drop e
    have hx : x < E.1 := (e_ds_mem.mp (List.mem_of_getElem? h2)).1
    rw [l_Ways_unsettled_7, z_r59_0 hS, Option.bind_some, z_doorCount hS p1 (by omega), Option.bind_some, (c3 a k1).1, if_neg (nI_ge h1 (by omega)), Option.bind_some, z_door hS p1 (by omega), Option.bind_some, (c3 a k1).2 i x h2, Option.bind_some, z_i48_3 hS, Option.bind_some, p2]
    rw [show nI i + (1 : Int32) = nI (i + 1) from nI_1 i, show nI c + (1 : Int32) = nI (c + 1) from nI_1 c]
    have hih := fun o c ho => ih (i + 1) nn o c h3 (by omega) (by simp at hn; omega) ho
    show _ = K (z_b (o_op s b (if x = b then o else if o ≠ 12 then o else if s.testBit x = true then o else x) l)) (nI (c + ((if x = b then 0 else 1) + o_ch b l)))
    by_cases hb : x = b
    · rw [if_pos ((z_b_eq (by omega) (by omega)).mpr hb), if_pos hb, if_pos hb, Nat.zero_add]
      exact hih o c ho
    · rw [if_neg (fun z => hb ((z_b_eq (by omega) (by omega)).mp z)), if_neg hb, if_neg hb, ← Nat.add_assoc]
      by_cases h12 : o = 12
      · rw [if_neg (fun z => z (by rw [h12]; rfl)), if_neg (fun z => z h12), z_has (by omega) (by omega), Option.bind_some]
        by_cases hb2 : s.testBit x = true
        · rw [if_pos hb2, if_pos hb2]; exact hih o (c + 1) ho
        · rw [if_neg hb2, if_neg hb2, ← z_bn (b := x) (by omega)]; exact hih x (c + 1) (by omega)
      · rw [if_pos (show ¬ z_b o = (-1 : Int32) from by rw [z_bn h12]; exact z_neg1 (by omega)), if_pos h12]
        exact hih o (c + 1) ho
/-- unsettled -/
theorem z_unsettled (hF : 70000 ≤ F) (hS : z_Sh h) (hC : z_CW h E) (hp : z_ps h p) (hk : e_ok E p) (hs : s < 2 ^ 12) :
    ∃ o, s_Ways_unsettled F h (some 59) (nI s) = some (z_b o) ∧ o ≤ 12 ∧ (o = 12 → e_sum E 0 (e_ds E p.1) < E.2.2.2.1 p.1 ∨ o_ch p.2.1 (e_ds E p.1) ≤ 1 ∨ ∀ x, x ∈ e_ds E p.1 → x ≠ p.2.1 → s.testBit x = true) ∧ (o ≠ 12 → o < E.1 ∧ s.testBit o = false) := by
  obtain ⟨a, b, t⟩ := p
  have hl := e_ds_len (E := E) (a := a)
  have hE := hC.1.1
  have hk0 := hk
  obtain ⟨k1, k2, k3⟩ := hk0
  simp only at k1 k2 k3
  have hch := o_ch_le b (e_ds E a)
  have hlt : ∀ x, x ∈ e_ds E a → x < 12 := fun x hx => by have := (e_ds_mem.mp hx).1; omega
  unfold s_Ways_unsettled
  rw [z_c59 hS, Option.bind_some, show (-1 : Int32) = z_b 12 from rfl, show (0 : Int32) = nI 0 from rfl, z_unsL hS hC hp hk hs (e_ds E a) 0 F 12 0 rfl (by omega) (by omega) (by omega), Nat.zero_add]
  by_cases c1 : o_ch b (e_ds E a) ≤ 1
  · rw [if_pos (show nI (o_ch b (e_ds E a)) ≤ (1 : Int32) from nI_le (b := 1) c1 (by decide))]
    exact ⟨12, rfl, by omega, fun _ => .inr (.inl c1), fun z => absurd rfl z⟩
  · rw [if_neg (show ¬ nI (o_ch b (e_ds E a)) ≤ (1 : Int32) from nI_ge (a := 1) (by omega) (by omega)), z_r59_0 hS, Option.bind_some, z_called hF hS hC hp.1 k1, Option.bind_some]
    by_cases c2 : e_sum E 0 (e_ds E a) < E.2.2.2.1 a
    · rw [if_neg (by simp [c2])]
      exact ⟨12, rfl, by omega, fun _ => .inl c2, fun z => absurd rfl z⟩
    · rw [if_pos (by simp [c2])]
      refine ⟨o_op s b 12 (e_ds E a), rfl, ?_, fun h12 => .inr (.inr (o_op_none _ hlt h12)), fun h12 => ?_⟩
      · by_cases h12 : o_op s b 12 (e_ds E a) = 12
        · omega
        · have := o_op_some (e_ds E a) (o := o_op s b 12 (e_ds E a)) rfl h12
          have := hlt _ this.1
          omega
      · have := o_op_some (e_ds E a) (o := o_op s b 12 (e_ds E a)) rfl h12
        exact ⟨(e_ds_mem.mp this.1).1, this.2.2⟩
end IW
