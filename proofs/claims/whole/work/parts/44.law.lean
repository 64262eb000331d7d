-- A LAW as steps: what it is worth; the class's stack and the reference's give that
abbrev q_O : Type := Nat × Nat
abbrev q_C : Type := List q_O × List q_O
def q_bd (v : Int64) : Int32 := Int64.toInt32 (fw_maxJ (-1000000 : Int64) (fw_minJ (1000000 : Int64) v))
def q_j (k : Nat) (x y : Int32) : Int32 :=
  if k = 2 then q_bd (x.toInt64 + y.toInt64) else if k = 3 then q_bd (x.toInt64 - y.toInt64) else if k = 4 then q_bd (x.toInt64 * y.toInt64) else
  if k = 5 then (if y = 0 then 0 else q_bd (x.toInt64 / y.toInt64)) else if k = 6 then (if x = y then 1 else 0) else if k = 7 then (if x < y then 1 else 0) else
  if k = 8 then (if y < x then 1 else 0) else if k = 9 then (if x ≠ 0 ∧ y ≠ 0 then 1 else 0) else (if x ≠ 0 ∨ y ≠ 0 then 1 else 0)
/-- the reference's number of a step -/
def q_mk (k : Nat) : Nat := if k = 9 then 10 else if k = 10 then 11 else if k = 11 then 9 else k
def q_pop : List Int32 → Int32
  | [] => 0
  | x :: _ => x
def q_step (L : Nat → Int32) (o : q_O) (s : List Int32) : List Int32 :=
  if o.1 = 0 then nI o.2 :: s else if o.1 = 1 then L o.2 :: s else if o.1 = 11 then (1 - q_pop s) :: s.tail else q_j o.1 (q_pop s.tail) (q_pop s) :: s.tail.tail
def q_ev (L : Nat → Int32) : List q_O → List Int32 → List Int32
  | [], s => s
  | o :: l, s => q_ev L l (q_step L o s)
def q_tstep (o : q_O) (τ : List Bool) : Option (List Bool) :=
  if o.1 = 0 then (if o.2 < 10000 ∧ τ.length < 40 then some (false :: τ) else none) else
  if o.1 = 1 then (if o.2 < 8 ∧ τ.length < 40 then some (false :: τ) else none) else
  if o.1 = 11 then (if o.2 = 0 ∧ τ.head? = some true then some τ else none) else
  if 2 ≤ o.1 ∧ o.1 ≤ 5 then (if o.2 = 0 ∧ τ.head? = some false ∧ τ.tail.head? = some false then some (false :: τ.tail.tail) else none) else
  if 6 ≤ o.1 ∧ o.1 ≤ 8 then (if o.2 = 0 ∧ τ.head? = some false ∧ τ.tail.head? = some false then some (true :: τ.tail.tail) else none) else
  if 9 ≤ o.1 ∧ o.1 ≤ 10 then (if o.2 = 0 ∧ τ.head? = some true ∧ τ.tail.head? = some true then some (true :: τ.tail.tail) else none) else none
def q_ty : List q_O → List Bool → Option (List Bool)
  | [], τ => some τ
  | o :: l, τ => (q_tstep o τ).bind fun τ' => q_ty l τ'
def q_tv : List Bool → List Int32 → Prop
  | [], [] => True
  | b :: τ, x :: s => (b = true → x = 0 ∨ x = 1) ∧ q_tv τ s
  | _, _ => False
def q_ST (f : Nat → Int32) : List Int32 → Prop
  | [] => True
  | x :: s => f s.length = x ∧ q_ST f s
def q_wf (cls : List q_C) : Prop := ∀ c ∈ cls, (c.1 = [] ∨ q_ty c.1 [] = some [true]) ∧ q_ty c.2 [] = some [false]
def q_worth (L : Nat → Int32) : List q_C → Int32
  | [] => 0
  | c :: r => if c.1 = [] ∨ q_pop (q_ev L c.1 []) ≠ 0 then q_pop (q_ev L c.2 []) else q_worth L r
section QA
theorem q_ty_app : ∀ (l l' : List q_O) (τ : List Bool), q_ty (l ++ l') τ = (q_ty l τ).bind fun τ' => q_ty l' τ'
  | [], l', τ => rfl
  | o :: l, l', τ => by
    show (q_tstep o τ).bind (fun τ' => q_ty (l ++ l') τ') = ((q_tstep o τ).bind fun τ' => q_ty l τ').bind _
    match h : q_tstep o τ with
    | none => rfl
    | some t => exact q_ty_app l l' t
theorem q_ev_app (L : Nat → Int32) : ∀ (l l' : List q_O) (s : List Int32), q_ev L (l ++ l') s = q_ev L l' (q_ev L l s)
  | [], l', s => rfl
  | o :: l, l', s => q_ev_app L l l' (q_step L o s)
theorem q_tv_len : ∀ (τ : List Bool) (s : List Int32), q_tv τ s → s.length = τ.length
  | [], [], _ => rfl
  | b :: τ, x :: s, h => congrArg (· + 1) (q_tv_len τ s h.2)
  | [], x :: s, h => h.elim
  | b :: τ, [], h => h.elim
theorem q_ST_of {f g : Nat → Int32} : ∀ {s : List Int32}, q_ST f s → (∀ j, j < s.length → g j = f j) → q_ST g s
  | [], _, _ => trivial
  | x :: s, h, hg => ⟨(hg s.length (by simp)).trans h.1, q_ST_of h.2 (fun j hj => hg j (by simp; omega))⟩
theorem q_two {τ : List Bool} {b c : Bool} (h1 : τ.head? = some b) (h2 : τ.tail.head? = some c) : ∃ r, τ = b :: c :: r := by
  match τ, h1, h2 with
  | [], h1, _ => cases h1
  | [_], _, h2 => cases h2
  | x :: y :: r, h1, h2 => cases h1; cases h2; exact ⟨r, rfl⟩
theorem q_one {τ : List Bool} {b : Bool} (h1 : τ.head? = some b) : ∃ r, τ = b :: r := by
  match τ, h1 with
  | [], h1 => cases h1
  | x :: r, h1 => cases h1; exact ⟨r, rfl⟩
/-- the kinds of a step that may stand -/
theorem q_tcase {o : q_O} {τ τ' : List Bool} (h : q_tstep o τ = some τ') :
    (o.1 = 0 ∧ o.2 < 10000 ∧ τ.length < 40 ∧ τ' = false :: τ) ∨ (o.1 = 1 ∧ o.2 < 8 ∧ τ.length < 40 ∧ τ' = false :: τ) ∨ (o.1 = 11 ∧ o.2 = 0 ∧ ∃ r, τ = true :: r ∧ τ' = true :: r) ∨
    (2 ≤ o.1 ∧ o.1 ≤ 10 ∧ o.2 = 0 ∧ ∃ b c r, τ = b :: b :: r ∧ τ' = c :: r ∧ (9 ≤ o.1 → b = true) ∧ (c = true → 6 ≤ o.1)) := by
  unfold q_tstep at h
  split at h
  · next h0 =>
    split at h
    · next h1 => cases h; exact .inl ⟨h0, h1.1, h1.2, rfl⟩
    · cases h
  split at h
  · next h0 =>
    split at h
    · next h1 => cases h; exact .inr (.inl ⟨h0, h1.1, h1.2, rfl⟩)
    · cases h
  split at h
  · next h0 =>
    split at h
    · next h1 =>
      obtain ⟨r, rfl⟩ := q_one h1.2
      cases h
      exact .inr (.inr (.inl ⟨h0, h1.1, r, rfl, rfl⟩))
    · cases h
  split at h
  · next h0 =>
    split at h
    · next h1 =>
      obtain ⟨r, rfl⟩ := q_two h1.2.1 h1.2.2
      cases h
      exact .inr (.inr (.inr ⟨h0.1, by omega, h1.1, false, false, r, rfl, rfl, fun z => (by omega), fun z => (by cases z)⟩))
    · cases h
  split at h
  · next h0 =>
    split at h
    · next h1 =>
      obtain ⟨r, rfl⟩ := q_two h1.2.1 h1.2.2
      cases h
      exact .inr (.inr (.inr ⟨by omega, by omega, h1.1, false, true, r, rfl, rfl, fun z => (by omega), fun z => (by omega)⟩))
    · cases h
  split at h
  · next h0 =>
    split at h
    · next h1 =>
      obtain ⟨r, rfl⟩ := q_two h1.2.1 h1.2.2
      cases h
      exact .inr (.inr (.inr ⟨by omega, by omega, h1.1, true, true, r, rfl, rfl, fun z => rfl, fun z => (by omega)⟩))
    · cases h
  · cases h
theorem q_01 {c : Prop} [Decidable c] : (if c then (1 : Int32) else 0) = 0 ∨ (if c then (1 : Int32) else 0) = 1 := by
  by_cases h : c
  · rw [if_pos h]; exact .inr rfl
  · rw [if_neg h]; exact .inl rfl
theorem q_j01 {k : Nat} (h : 6 ≤ k) (x y : Int32) : q_j k x y = 0 ∨ q_j k x y = 1 := by
  unfold q_j
  rw [if_neg (by omega), if_neg (by omega), if_neg (by omega), if_neg (by omega)]
  split
  · exact q_01
  split
  · exact q_01
  split
  · exact q_01
  split
  · exact q_01
  · exact q_01
theorem q_step_ok {L : Nat → Int32} {o : q_O} {τ τ' : List Bool} {s : List Int32} (h : q_tstep o τ = some τ') (hs : q_tv τ s) : q_tv τ' (q_step L o s) := by
  unfold q_step
  rcases q_tcase h with ⟨h0, -, -, rfl⟩ | ⟨h0, -, -, rfl⟩ | ⟨h0, -, r, rfl, rfl⟩ | ⟨h0, h1, -, b, c, r, rfl, rfl, h2, h3⟩
  · rw [if_pos h0]
    exact ⟨fun z => (by cases z), hs⟩
  · rw [if_neg (by omega), if_pos h0]
    exact ⟨fun z => (by cases z), hs⟩
  · rw [if_neg (by omega), if_neg (by omega), if_pos h0]
    match s, hs with
    | x :: s, hs =>
      refine ⟨fun _ => ?_, hs.2⟩
      rcases hs.1 rfl with e | e
      · exact .inr (by show 1 - x = 1; rw [e]; rfl)
      · exact .inl (by show 1 - x = 0; rw [e]; rfl)
  · rw [if_neg (by omega), if_neg (by omega), if_neg (by omega)]
    match s, hs with
    | x :: y :: s, hs => exact ⟨fun z => q_j01 (h3 z) _ _, hs.2.2⟩
theorem q_ev_ok {L : Nat → Int32} : ∀ {l : List q_O} {τ τ' : List Bool} {s : List Int32}, q_ty l τ = some τ' → q_tv τ s → q_tv τ' (q_ev L l s)
  | [], τ, τ', s, h, hs => by cases h; exact hs
  | o :: l, τ, τ', s, h, hs => by
    match h1 : q_tstep o τ with
    | none =>
      have h2 : (q_tstep o τ).bind (fun τ' => q_ty l τ') = some τ' := h
      rw [h1] at h2; cases h2
    | some t =>
      have h2 : (q_tstep o τ).bind (fun τ' => q_ty l τ') = some τ' := h
      rw [h1] at h2
      exact q_ev_ok (l := l) (τ := t) h2 (q_step_ok h1 hs)
-- comparisons of longs
theorem q_c0 (x y : Int64) : lg_cmp x y = 0 ↔ x = y := lg_cmp_eq x y
theorem q_cle (x y : Int64) : lg_cmp x y ≤ 0 ↔ x ≤ y := lg_cmp_le x y
theorem q_cge (x y : Int64) : 0 ≤ lg_cmp x y ↔ y ≤ x := lg_cmp_ge x y
def q_cf (v : Int64) : Option Int32 := if lg_cmp v (1000000 : Int64) ≤ (0 : Int32) then (if (0 : Int32) ≤ lg_cmp v (-1000000 : Int64) then some (Int64.toInt32 v) else some (Int64.toInt32 (-1000000 : Int64))) else some (Int64.toInt32 (1000000 : Int64))
theorem q_cut (v : Int64) : q_cf v = some (q_bd v) := by
  have e1 : ((-1000000 : Int64)).toInt = -1000000 := by decide
  have e2 : ((1000000 : Int64)).toInt = 1000000 := by decide
  unfold q_cf q_bd fw_maxJ fw_minJ
  by_cases h : v ≤ (1000000 : Int64)
  · rw [if_pos ((q_cle _ _).mpr h)]
    have hm : (if v < (1000000 : Int64) then v else 1000000) = v := by
      by_cases h3 : v < (1000000 : Int64)
      · rw [if_pos h3]
      · rw [if_neg h3]
        rw [fa_lt64] at h3
        rw [fa_le64] at h
        rw [fa_eq64]; omega
    rw [hm]
    by_cases h2 : (-1000000 : Int64) ≤ v
    · rw [if_pos ((q_cge _ _).mpr h2), if_neg (by rw [fa_le64] at h2; rw [fa_lt64]; omega)]
    · rw [if_neg (fun z => h2 ((q_cge _ _).mp z)), if_pos (by rw [fa_le64] at h2; rw [fa_lt64]; omega)]
  · rw [if_neg (fun z => h ((q_cle _ _).mp z)), if_neg (c := v < 1000000) (by rw [fa_le64] at h; rw [fa_lt64]; omega), if_neg (by decide)]
theorem q_cut1 (c : Prop) [Decidable c] : q_bd (if c then (1 : Int64) else 0) = if c then 1 else 0 := by
  by_cases h : c
  · rw [if_pos h, if_pos h]; decide
  · rw [if_neg h, if_neg h]; decide
theorem q_w0 (x : Int32) : x.toInt64 = 0 ↔ x = 0 := by
  rw [show (0 : Int64) = (0 : Int32).toInt64 from rfl]
  exact fa_wide_eq x 0
theorem q_lt_iff {x y : Int32} : ¬ y ≤ x ↔ x < y := by rw [fa_lt, fa_le]; omega
theorem q_joined {k : Nat} (h2 : 2 ≤ k) (h10 : k ≤ 10) {x y : Int32} (h01 : 9 ≤ k → (x = 0 ∨ x = 1) ∧ (y = 0 ∨ y = 1)) : s_Law_joined (nI k) x.toInt64 y.toInt64 = some (q_j k x y) := by
  obtain rfl | rfl | rfl | rfl | rfl | rfl | rfl | rfl | rfl : k = 2 ∨ k = 3 ∨ k = 4 ∨ k = 5 ∨ k = 6 ∨ k = 7 ∨ k = 8 ∨ k = 9 ∨ k = 10 := by omega
  · exact q_cut (x.toInt64 + y.toInt64)
  · exact q_cut (x.toInt64 - y.toInt64)
  · exact q_cut (x.toInt64 * y.toInt64)
  · show (if ¬ lg_cmp y.toInt64 (0 : Int64) = (0 : Int32) then ((f_ldiv x.toInt64 y.toInt64).bind fun x84 => q_cf x84) else q_cf 0) = some (if y = 0 then 0 else q_bd (x.toInt64 / y.toInt64))
    rw [ite_not]
    by_cases h : y = 0
    · rw [if_pos ((q_c0 _ _).mpr ((q_w0 y).mpr h)), if_pos h]; rfl
    · rw [if_neg (fun z => h ((q_w0 y).mp ((q_c0 _ _).mp z))), if_neg h, f_ldiv, if_neg (fun z => h ((q_w0 y).mp z)), Option.bind_some, q_cut]
  · show (if ¬ lg_cmp x.toInt64 y.toInt64 = (0 : Int32) then q_cf 0 else q_cf 1) = some (if x = y then 1 else 0)
    rw [ite_not]
    by_cases h : x = y
    · rw [if_pos ((q_c0 _ _).mpr ((fa_wide_eq x y).mpr h)), if_pos h]; rfl
    · rw [if_neg (fun z => h ((fa_wide_eq x y).mp ((q_c0 _ _).mp z))), if_neg h]; rfl
  · show (if (0 : Int32) ≤ lg_cmp x.toInt64 y.toInt64 then q_cf 0 else q_cf 1) = some (if x < y then 1 else 0)
    by_cases h : y ≤ x
    · rw [if_pos ((q_cge _ _).mpr ((fa_wide_le y x).mpr h)), if_neg (fun z => q_lt_iff.mpr z h)]; rfl
    · rw [if_neg (fun z => h ((fa_wide_le y x).mp ((q_cge _ _).mp z))), if_pos (q_lt_iff.mp h)]; rfl
  · show (if lg_cmp x.toInt64 y.toInt64 ≤ (0 : Int32) then q_cf 0 else q_cf 1) = some (if y < x then 1 else 0)
    by_cases h : x ≤ y
    · rw [if_pos ((q_cle _ _).mpr ((fa_wide_le x y).mpr h)), if_neg (fun z => q_lt_iff.mpr z h)]; rfl
    · rw [if_neg (fun z => h ((fa_wide_le x y).mp ((q_cle _ _).mp z))), if_pos (q_lt_iff.mp h)]; rfl
  · obtain ⟨hx, hy⟩ := h01 (by omega)
    rcases hx with rfl | rfl <;> rcases hy with rfl | rfl <;> rfl
  · obtain ⟨hx, hy⟩ := h01 (by omega)
    rcases hx with rfl | rfl <;> rcases hy with rfl | rfl <;> rfl
theorem q_wk2 (v1 v2 : Int64) : s_Mod_worked (nI 2) v1 v2 = ((s_Mod_bounded (v1 + v2)).bind fun x55 => some x55) := by
  unfold s_Mod_worked
  rw [if_pos (by decide)]
theorem q_wk3 (v1 v2 : Int64) : s_Mod_worked (nI 3) v1 v2 = ((s_Mod_bounded (v1 - v2)).bind fun x62 => some x62) := by
  unfold s_Mod_worked
  rw [if_neg (by decide), if_pos (by decide)]
theorem q_wk4 (v1 v2 : Int64) : s_Mod_worked (nI 4) v1 v2 = ((s_Mod_bounded (v1 * v2)).bind fun x69 => some x69) := by
  unfold s_Mod_worked
  rw [if_neg (by decide), if_neg (by decide), if_pos (by decide)]
theorem q_wk5 (v1 v2 : Int64) : s_Mod_worked (nI 5) v1 v2 = (if ¬ (lg_cmp v2 (0 : Int64)) = (0 : Int32) then ((f_ldiv v1 v2).bind fun x85 => (s_Mod_bounded x85).bind fun x86 => some x86) else some (0 : Int32)) := by
  unfold s_Mod_worked
  rw [if_neg (by decide), if_neg (by decide), if_neg (by decide), if_pos (by decide)]
theorem q_wk6 (v1 v2 : Int64) : s_Mod_worked (nI 6) v1 v2 = (if ¬ (lg_cmp v1 v2) = (0 : Int32) then (some (0 : Int32)) else some (1 : Int32)) := by
  unfold s_Mod_worked
  rw [if_neg (by decide), if_neg (by decide), if_neg (by decide), if_neg (by decide), if_pos (by decide)]
theorem q_wk7 (v1 v2 : Int64) : s_Mod_worked (nI 7) v1 v2 = (if (0 : Int32) ≤ (lg_cmp v1 v2) then (some (0 : Int32)) else some (1 : Int32)) := by
  unfold s_Mod_worked
  rw [if_neg (by decide), if_neg (by decide), if_neg (by decide), if_neg (by decide), if_neg (by decide), if_pos (by decide)]
theorem q_wk8 (v1 v2 : Int64) : s_Mod_worked (nI 8) v1 v2 = (if (lg_cmp v1 v2) ≤ (0 : Int32) then (some (0 : Int32)) else some (1 : Int32)) := by
  unfold s_Mod_worked
  rw [if_neg (by decide), if_neg (by decide), if_neg (by decide), if_neg (by decide), if_neg (by decide), if_neg (by decide), if_pos (by decide)]
theorem q_wk10 (v1 v2 : Int64) : s_Mod_worked (nI 10) v1 v2 = (if (lg_cmp v1 (0 : Int64)) = (0 : Int32) then (some (0 : Int32)) else if (lg_cmp v2 (0 : Int64)) = (0 : Int32) then (some (0 : Int32)) else some (1 : Int32)) := by
  unfold s_Mod_worked
  rw [if_neg (by decide), if_neg (by decide), if_neg (by decide), if_neg (by decide), if_neg (by decide), if_neg (by decide), if_neg (by decide), if_neg (by decide), if_pos (by decide)]
theorem q_wk11 (v1 v2 : Int64) : s_Mod_worked (nI 11) v1 v2 = (if ¬ (lg_cmp v1 (0 : Int64)) = (0 : Int32) then (some (1 : Int32)) else if (lg_cmp v2 (0 : Int64)) = (0 : Int32) then (some (0 : Int32)) else some (1 : Int32)) := by
  unfold s_Mod_worked
  rw [if_neg (by decide), if_neg (by decide), if_neg (by decide), if_neg (by decide), if_neg (by decide), if_neg (by decide), if_neg (by decide), if_neg (by decide), if_neg (by decide)]
theorem q_worked {k : Nat} (h2 : 2 ≤ k) (h10 : k ≤ 10) {x y : Int32} : s_Mod_worked (nI (q_mk k)) x.toInt64 y.toInt64 = some (q_j k x y) := by
  obtain rfl | rfl | rfl | rfl | rfl | rfl | rfl | rfl | rfl : k = 2 ∨ k = 3 ∨ k = 4 ∨ k = 5 ∨ k = 6 ∨ k = 7 ∨ k = 8 ∨ k = 9 ∨ k = 10 := by omega
  · exact q_wk2 _ _
  · exact q_wk3 _ _
  · exact q_wk4 _ _
  · refine (q_wk5 _ _).trans ?_
    show (if ¬ lg_cmp y.toInt64 (0 : Int64) = (0 : Int32) then ((f_ldiv x.toInt64 y.toInt64).bind fun x85 => (s_Mod_bounded x85).bind fun x86 => some x86) else some (0 : Int32)) = some (if y = 0 then 0 else q_bd (x.toInt64 / y.toInt64))
    rw [ite_not]
    by_cases h : y = 0
    · rw [if_pos ((q_c0 _ _).mpr ((q_w0 y).mpr h)), if_pos h]
    · rw [if_neg (fun z => h ((q_w0 y).mp ((q_c0 _ _).mp z))), if_neg h, f_ldiv, if_neg (fun z => h ((q_w0 y).mp z)), Option.bind_some]; rfl
  · refine (q_wk6 _ _).trans ?_
    show (if ¬ lg_cmp x.toInt64 y.toInt64 = (0 : Int32) then some (0 : Int32) else some 1) = some (if x = y then 1 else 0)
    rw [ite_not]
    by_cases h : x = y
    · rw [if_pos ((q_c0 _ _).mpr ((fa_wide_eq x y).mpr h)), if_pos h]
    · rw [if_neg (fun z => h ((fa_wide_eq x y).mp ((q_c0 _ _).mp z))), if_neg h]
  · refine (q_wk7 _ _).trans ?_
    show (if (0 : Int32) ≤ lg_cmp x.toInt64 y.toInt64 then some (0 : Int32) else some 1) = some (if x < y then 1 else 0)
    by_cases h : y ≤ x
    · rw [if_pos ((q_cge _ _).mpr ((fa_wide_le y x).mpr h)), if_neg (fun z => q_lt_iff.mpr z h)]
    · rw [if_neg (fun z => h ((fa_wide_le y x).mp ((q_cge _ _).mp z))), if_pos (q_lt_iff.mp h)]
  · refine (q_wk8 _ _).trans ?_
    show (if lg_cmp x.toInt64 y.toInt64 ≤ (0 : Int32) then some (0 : Int32) else some 1) = some (if y < x then 1 else 0)
    by_cases h : x ≤ y
    · rw [if_pos ((q_cle _ _).mpr ((fa_wide_le x y).mpr h)), if_neg (fun z => q_lt_iff.mpr z h)]
    · rw [if_neg (fun z => h ((fa_wide_le x y).mp ((q_cle _ _).mp z))), if_pos (q_lt_iff.mp h)]
  · refine (q_wk10 _ _).trans ?_
    show (if lg_cmp x.toInt64 (0 : Int64) = (0 : Int32) then some (0 : Int32) else if lg_cmp y.toInt64 (0 : Int64) = (0 : Int32) then some 0 else some 1) = some (if x ≠ 0 ∧ y ≠ 0 then 1 else 0)
    by_cases h : x = 0
    · rw [if_pos ((q_c0 _ _).mpr ((q_w0 x).mpr h)), if_neg (fun z => z.1 h)]
    · rw [if_neg (fun z => h ((q_w0 x).mp ((q_c0 _ _).mp z)))]
      by_cases h3 : y = 0
      · rw [if_pos ((q_c0 _ _).mpr ((q_w0 y).mpr h3)), if_neg (fun z => z.2 h3)]
      · rw [if_neg (fun z => h3 ((q_w0 y).mp ((q_c0 _ _).mp z))), if_pos ⟨h, h3⟩]
  · refine (q_wk11 _ _).trans ?_
    show (if ¬ lg_cmp x.toInt64 (0 : Int64) = (0 : Int32) then some (1 : Int32) else if lg_cmp y.toInt64 (0 : Int64) = (0 : Int32) then some 0 else some 1) = some (if x ≠ 0 ∨ y ≠ 0 then 1 else 0)
    rw [ite_not]
    by_cases h : x = 0
    · rw [if_pos ((q_c0 _ _).mpr ((q_w0 x).mpr h))]
      by_cases h3 : y = 0
      · rw [if_pos ((q_c0 _ _).mpr ((q_w0 y).mpr h3)), if_neg (fun z => z.elim (fun w => w h) (fun w => w h3))]
      · rw [if_neg (fun z => h3 ((q_w0 y).mp ((q_c0 _ _).mp z))), if_pos (.inr h3)]
    · rw [if_neg (fun z => h ((q_w0 x).mp ((q_c0 _ _).mp z))), if_pos (.inl h)]
end QA
