-- THE WAY IT GOES, as numbers: E (houses, who sees, envy, peace, wish at a time); the class's walk is that
/-- how many houses; who sees from a house; envy; peace; wish at a time -/
abbrev z_E : Type := Nat × ((Nat → Nat → Bool) × ((Nat → Int32) × ((Nat → Int32) × (Nat → Nat → Int32))))
/-- where, the place before (12: none), the time -/
abbrev e_P : Type := Nat × (Nat × Nat)
def e_ds (E : z_E) (a : Nat) : List Nat := (List.range E.1).filter (E.2.1 a)
def e_sum (E : z_E) (s : Int32) (l : List Nat) : Int32 := l.foldl (fun s x => s + E.2.2.1 x) s
def e_st (E : z_E) (b t : Nat) (c : Nat × Int32) (x : Nat) : Nat × Int32 := if x = b then c else if c.1 = 12 ∨ E.2.2.2.2 x t < c.2 then (x, E.2.2.2.2 x t) else c
def e_best (E : z_E) (b t : Nat) (c : Nat × Int32) (l : List Nat) : Nat × Int32 := l.foldl (e_st E b t) c
def e_next (E : z_E) (a b t : Nat) : Nat :=
  if e_sum E 0 (e_ds E a) < E.2.2.2.1 a then a else if (e_best E b t (12, 0) (e_ds E a)).1 = 12 then a else (e_best E b t (12, 0) (e_ds E a)).1
def e_mv (p : e_P) (x : Nat) : e_P := if x = p.1 then p else (x, (p.1, p.2.2))
def e_tk (p : e_P) : e_P := (p.1, (p.2.1, (p.2.2 + 1) % 24))
def e_go (E : z_E) (p : e_P) : e_P := e_tk (e_mv p (e_next E p.1 p.2.1 p.2.2))
def e_it (E : z_E) : Nat → e_P → e_P
  | 0, p => p
  | n + 1, p => e_it E n (e_go E p)
def e_wf (E : z_E) : Prop := E.1 ≤ 12 ∧ ∀ a, E.2.1 a a = false
def e_ok (E : z_E) (p : e_P) : Prop := p.1 < E.1 ∧ (p.2.1 = 12 ∨ p.2.1 < E.1) ∧ p.2.2 < 24
def z_b (b : Nat) : Int32 := if b = 12 then -1 else nI b
theorem z_b12 : z_b 12 = -1 := rfl
theorem z_bn {b : Nat} (h : b ≠ 12) : z_b b = nI b := if_neg h
theorem z_b_inj {a b : Nat} (ha : a < 2 ^ 31) (hb : b < 2 ^ 31) : z_b a = z_b b ↔ a = b := by
  unfold z_b
  constructor
  · intro h
    split at h
    · split at h
      · omega
      · exact absurd h (z_neg1' hb)
    · split at h
      · exact absurd h (z_neg1 ha)
      · exact (nI_eq ha hb).mp h
  · intro h; rw [h]
theorem z_b_eq {a b : Nat} (ha : a < 12) (hb : b < 2 ^ 31) : nI a = z_b b ↔ a = b := by
  rw [← z_bn (b := a) (by omega)]
  exact z_b_inj (by omega) hb
section EW
variable {E : z_E} {a b t x n : Nat} {p : e_P} {c : Nat × Int32} {l : List Nat}
theorem e_ds_mem : x ∈ e_ds E a ↔ x < E.1 ∧ E.2.1 a x = true := by simp [e_ds]
theorem e_ds_len : (e_ds E a).length ≤ E.1 := by
  have := List.length_filter_le (E.2.1 a) (List.range E.1)
  simpa [e_ds] using this
theorem e_best_mem : ∀ (l : List Nat) (c : Nat × Int32), (e_best E b t c l).1 = c.1 ∨ ((e_best E b t c l).1 ∈ l ∧ (e_best E b t c l).1 ≠ b) := by
  intro l
  induction l with
  | nil => intro c; exact .inl rfl
  | cons y l ih =>
    intro c
    have h1 := ih (e_st E b t c y)
    have e : e_best E b t c (y :: l) = e_best E b t (e_st E b t c y) l := rfl
    rw [e]
    rcases h1 with h1 | h1
    · rw [h1]
      unfold e_st
      split
      · exact .inl rfl
      · split
        · exact .inr ⟨List.mem_cons_self, by assumption⟩
        · exact .inl rfl
    · exact .inr ⟨List.mem_cons_of_mem _ h1.1, h1.2⟩
theorem e_next_lt (h : a < E.1) : e_next E a b t < E.1 := by
  unfold e_next
  split
  · exact h
  · split
    · exact h
    · next h1 =>
      rcases e_best_mem (E := E) (b := b) (t := t) (e_ds E a) (12, 0) with h2 | h2
      · exact absurd h2 h1
      · exact (e_ds_mem.mp h2.1).1
theorem e_best_ne (hw : e_wf E) (h1 : (e_best E b t (12, 0) (e_ds E a)).1 ≠ 12) : (e_best E b t (12, 0) (e_ds E a)).1 ≠ a := by
  rcases e_best_mem (E := E) (b := b) (t := t) (e_ds E a) (12, 0) with h2 | h2
  · exact absurd h2 h1
  · intro z
    have := (e_ds_mem.mp h2.1).2
    rw [z, hw.2 a] at this
    cases this
theorem e_go_ok (hp : e_ok E p) : e_ok E (e_go E p) := by
  have h1 := e_next_lt (E := E) (b := p.2.1) (t := p.2.2) hp.1
  unfold e_go e_tk e_mv
  split
  · exact ⟨hp.1, hp.2.1, Nat.mod_lt _ (by decide)⟩
  · exact ⟨h1, .inr hp.1, Nat.mod_lt _ (by decide)⟩
theorem e_it_ok : ∀ (n : Nat) (p : e_P), e_ok E p → e_ok E (e_it E n p)
  | 0, _, h => h
  | n + 1, p, h => e_it_ok n (e_go E p) (e_go_ok h)
theorem e_it_succ : ∀ (n : Nat) (p : e_P), e_it E (n + 1) p = e_go E (e_it E n p)
  | 0, _ => rfl
  | n + 1, p => e_it_succ n (e_go E p)
theorem e_it_add : ∀ (m n : Nat) (p : e_P), e_it E (m + n) p = e_it E n (e_it E m p)
  | 0, n, p => by rw [Nat.zero_add]; rfl
  | m + 1, n, p => by rw [Nat.succ_add]; exact e_it_add m n (e_go E p)
end EW
/-- the class's walk holds E -/
def z_CW (h : fw_H) (E : z_E) : Prop :=
  e_wf E ∧ z_I h 49 0 = nI E.1 ∧
  (∀ a, a < E.1 → z_A h 55 a = nI (e_ds E a).length ∧ ∀ j x, (e_ds E a)[j]? = some x → z_A h 54 (12 * a + j) = nI x) ∧
  (∃ m, m < 2 ^ 12 ∧ z_I h 48 6 = nI m ∧ ∀ x, x < E.1 → E.2.2.1 x = if m.testBit x = true then z_A h 50 (5 * x + 1) else 0) ∧
  (∀ x, x < E.1 → E.2.2.2.1 x = z_A h 50 (5 * x + 2)) ∧
  ∃ m, m < 2 ^ 12 ∧ z_I h 48 5 = nI m ∧ ∀ x, x < E.1 → ∀ t, t < 24 → E.2.2.2.2 x t = z_A h 56 ((2 * x + (if m.testBit x = true then 1 else 0)) * 24 + t)
/-- it stands at p in the class's walk -/
def z_ps (h : fw_H) (p : e_P) : Prop := z_I h 48 2 = nI p.1 ∧ z_I h 48 3 = z_b p.2.1 ∧ z_I h 48 4 = nI p.2.2
/-- nothing but where the walk stands -/
def z_w (h h' : fw_H) : Prop := z_fr [48] h h' ∧ (∀ k, k ≠ 2 → k ≠ 3 → k ≠ 4 → z_I h' 48 k = z_I h 48 k) ∧ ∀ k, z_R h' 48 k = z_R h 48 k
theorem z_w.refl {h : fw_H} : z_w h h := ⟨z_fr.refl, fun _ _ _ _ => rfl, fun _ => rfl⟩
theorem z_w.trans {h h' h'' : fw_H} (h1 : z_w h h') (h2 : z_w h' h'') : z_w h h'' := ⟨h1.1.trans h2.1, fun k a b c => (h2.2.1 k a b c).trans (h1.2.1 k a b c), fun k => (h2.2.2 k).trans (h1.2.2 k)⟩
theorem z_w.sh {h h' : fw_H} (h1 : z_w h h') (hS : z_Sh h) : z_Sh h' := hS.fr h1.1 (by decide)
theorem z_w.cw {h h' : fw_H} {E : z_E} (h1 : z_w h h') (hC : z_CW h E) : z_CW h' E := by
  obtain ⟨c1, c2, c3, ⟨m, c4, c5, c6⟩, c7, k, c8, c9, c10⟩ := hC
  refine ⟨c1, ?_, fun a ha => ?_, ⟨m, c4, ?_, fun x hx => ?_⟩, fun x hx => ?_, k, c8, ?_, fun x hx t ht => ?_⟩
  · rw [h1.1.I (by decide)]; exact c2
  · rw [h1.1.A (by decide)]
    exact ⟨(c3 a ha).1, fun j x e => by rw [h1.1.A (by decide)]; exact (c3 a ha).2 j x e⟩
  · rw [h1.2.1 6 (by decide) (by decide) (by decide)]; exact c5
  · rw [h1.1.A (by decide)]; exact c6 x hx
  · rw [h1.1.A (by decide)]; exact c7 x hx
  · rw [h1.2.1 5 (by decide) (by decide) (by decide)]; exact c9
  · rw [h1.1.A (by decide)]; exact c10 x hx t ht
section CW
variable {h : fw_H} {E : z_E} {a b t x n i F : Nat} {p : e_P} {s : Int32}
theorem z_doorCount (hS : z_Sh h) (hp : z_I h 48 2 = nI a) (ha : a < 12) : s_Walk_doorCount h (some 48) = some (z_A h 55 a) := by
  unfold s_Walk_doorCount
  rw [z_c48 hS, Option.bind_some, z_r48_8 hS, Option.bind_some, z_i48_2 hS, Option.bind_some, hp, z_rget (z_ckT hS rfl) ha (by decide)]
  rfl
theorem z_door (hS : z_Sh h) (hp : z_I h 48 2 = nI a) (ha : 12 * a + i < 144) : s_Walk_door h (some 48) (nI i) = some (z_A h 54 (12 * a + i)) := by
  unfold s_Walk_door
  rw [z_c48 hS, Option.bind_some, z_r48_7 hS, Option.bind_some, z_i48_2 hS, Option.bind_some, hp]
  rw [show nI a * (12 : Int32) + nI i = nI (12 * a + i) by rw [show (12 : Int32) = nI 12 from rfl, pk_mul, nI_add, Nat.mul_comm]]
  rw [z_rget (z_ckT hS rfl) ha (by decide)]
  rfl
theorem z_wishOf {m : Nat} (hS : z_Sh h) (hm : m < 2 ^ 12) (hb : z_I h 48 5 = nI m) (hp : z_I h 48 4 = nI t) (hx : x < 12) (ht : t < 24) : s_Walk_wishOf h (some 48) (nI x) = some (z_A h 56 ((2 * x + (if m.testBit x = true then 1 else 0)) * 24 + t)) := by
  unfold s_Walk_wishOf s_Walk_wishPlace
  rw [z_c48 hS, Option.bind_some, z_r48_9 hS, Option.bind_some, z_i48_5 hS, Option.bind_some, hb, z_has (by omega) (by omega), Option.bind_some]
  by_cases e : m.testBit x = true
  · rw [if_pos e, if_pos e, z_i48_4 hS, Option.bind_some, hp, Option.bind_some]
    rw [show (nI x * (2 : Int32) + (1 : Int32)) * (24 : Int32) + nI t = nI ((2 * x + 1) * 24 + t) by rw [show (2 : Int32) = nI 2 from rfl, show (1 : Int32) = nI 1 from rfl, show (24 : Int32) = nI 24 from rfl, pk_mul, nI_add, pk_mul, nI_add, Nat.mul_comm x]]
    rw [z_rget (z_ckT hS rfl) (by omega) (by decide)]
    rfl
  · rw [if_neg e, if_neg e, z_i48_4 hS, Option.bind_some, hp, Option.bind_some]
    rw [show (nI x * (2 : Int32) + (0 : Int32)) * (24 : Int32) + nI t = nI ((2 * x + 0) * 24 + t) by rw [show (2 : Int32) = nI 2 from rfl, show (0 : Int32) = nI 0 from rfl, show (24 : Int32) = nI 24 from rfl, pk_mul, nI_add, pk_mul, nI_add, Nat.mul_comm x]]
    rw [z_rget (z_ckT hS rfl) (by omega) (by decide)]
    rfl
theorem z_drop {α : Type} {L l : List α} {x : α} {i : Nat} (e : L.drop i = x :: l) : i < L.length ∧ L[i]? = some x ∧ L.drop (i + 1) = l := by
  have h1 : i < L.length := by
    rcases Nat.lt_or_ge i L.length with h | h
    · exact h
    · rw [List.drop_eq_nil_of_le h] at e; cases e
  rw [List.drop_eq_getElem_cons h1] at e
  injection e with e1 e2
  exact ⟨h1, by rw [List.getElem?_eq_getElem h1, e1], e2⟩
theorem z_dropN {α : Type} {L : List α} {i : Nat} (e : L.drop i = []) : L.length ≤ i := by
  rcases Nat.lt_or_ge i L.length with h | h
  · rw [List.drop_eq_getElem_cons h] at e; cases e
  · exact h
theorem z_calledL (hS : z_Sh h) (hC : z_CW h E) (hp : z_I h 48 2 = nI a) (ha : a < E.1) (K : Int32 → Option Bool) :
    ∀ (l : List Nat) (i nn : Nat) (s : Int32), (e_ds E a).drop i = l → i ≤ 12 → l.length < nn → l_Walk_isCalled_4 h (some 48) K nn s (nI i) = K (e_sum E s l) := by
  obtain ⟨c1, c2, c3, ⟨m, c4, c5, c6⟩, c7, -⟩ := hC
  have hl := e_ds_len (E := E) (a := a)
  have hE := c1.1
  intro l
  induction l with
  | nil =>
    intro i nn s e hi hn
    obtain ⟨nn, rfl⟩ : ∃ k, nn = k + 1 := ⟨nn - 1, by omega⟩
    have h1 := z_dropN e
    rw [l_Walk_isCalled_4, z_doorCount hS hp (by omega), Option.bind_some, (c3 a ha).1, if_pos (nI_le h1 (by omega))]
    rfl
  | cons x l ih =>
    intro i nn s e hi hn
    obtain ⟨nn, rfl⟩ : ∃ k, nn = k + 1 := ⟨nn - 1, by omega⟩
    obtain ⟨h1, h2, h3⟩ := z_drop e
    have hx : x < E.1 := (e_ds_mem.mp (List.mem_of_getElem? h2)).1
    rw [l_Walk_isCalled_4, z_doorCount hS hp (by omega), Option.bind_some, (c3 a ha).1, if_neg (nI_ge h1 (by omega))]
    rw [z_door hS hp (by omega), Option.bind_some, (c3 a ha).2 i x h2, z_i48_6 hS, Option.bind_some, c5, z_has (by omega) (by omega), Option.bind_some]
    rw [show nI i + 1 = nI (i + 1) from nI_1 i]
    have hih := fun s => ih (i + 1) nn s h3 (by omega) (by simp at hn; omega)
    show _ = K (e_sum E (s + E.2.2.1 x) l)
    by_cases hm : m.testBit x = true
    · rw [if_pos hm, z_r48_0 hS, Option.bind_some, show (1 : Int32) = nI 1 from rfl, z_trait hS (.inr (.inr (.inr rfl))) (by omega) (by omega), Option.bind_some, hih, c6 x hx, if_pos hm]
    · rw [if_neg hm, hih, c6 x hx, if_neg hm, Int32.add_zero]
theorem z_called (hF : 70000 ≤ F) (hS : z_Sh h) (hC : z_CW h E) (hp : z_I h 48 2 = nI a) (ha : a < E.1) : s_Walk_isCalled F h (some 48) = some (!decide (e_sum E 0 (e_ds E a) < E.2.2.2.1 a)) := by
  have hl := e_ds_len (E := E) (a := a)
  have hE := hC.1.1
  unfold s_Walk_isCalled
  rw [z_c48 hS, Option.bind_some, show (0 : Int32) = nI 0 from rfl, z_calledL hS hC hp ha _ (e_ds E a) 0 F _ rfl (by omega) (by omega)]
  rw [z_r48_0 hS, Option.bind_some, z_i48_2 hS, Option.bind_some, hp, show (2 : Int32) = nI 2 from rfl, z_trait hS (.inr (.inr (.inr rfl))) (by omega) (by omega), Option.bind_some, ← hC.2.2.2.2.1 a ha]
  by_cases e : e_sum E (nI 0) (e_ds E a) < E.2.2.2.1 a
  · rw [if_pos e]; simp [show (0 : Int32) = nI 0 from rfl, e]
  · rw [if_neg e]; simp [show (0 : Int32) = nI 0 from rfl, e]
theorem z_nextL (hS : z_Sh h) (hC : z_CW h E) (hp : z_ps h (a, (b, t))) (hk : e_ok E (a, (b, t))) :
    ∀ (l : List Nat) (i nn : Nat) (c : Nat × Int32), (e_ds E a).drop i = l → i ≤ 12 → l.length < nn → c.1 ≤ 12 → l_Walk_nextHouse_6 h (some 48) nn (z_b c.1) c.2 (nI i) = some (z_b (e_best E b t c l).1) := by
  obtain ⟨c1, c2, c3, -, c7, m, c4, c5, c6⟩ := hC
  obtain ⟨p1, p2, p3⟩ := hp
  obtain ⟨k1, k2, k3⟩ := hk
  simp only at p1 p2 p3 k1 k2 k3
  have hl := e_ds_len (E := E) (a := a)
  have hE := c1.1
  intro l
  induction l with
  | nil =>
    intro i nn c e hi hn hc
    obtain ⟨nn, rfl⟩ : ∃ k, nn = k + 1 := ⟨nn - 1, by omega⟩
    have h1 := z_dropN e
    rw [l_Walk_nextHouse_6, z_doorCount hS p1 (by omega), Option.bind_some, (c3 a k1).1, if_pos (nI_le h1 (by omega))]
    rfl
  | cons x l ih =>
    intro i nn c e hi hn hc
    obtain ⟨nn, rfl⟩ : ∃ k, nn = k + 1 := ⟨nn - 1, by omega⟩
    obtain ⟨h1, h2, h3⟩ := z_drop e
    have hx : x < E.1 := (e_ds_mem.mp (List.mem_of_getElem? h2)).1
    rw [l_Walk_nextHouse_6, z_doorCount hS p1 (by omega), Option.bind_some, (c3 a k1).1, if_neg (nI_ge h1 (by omega))]
    rw [z_door hS p1 (by omega), Option.bind_some, (c3 a k1).2 i x h2, z_i48_3 hS, Option.bind_some, p2]
    rw [show nI i + 1 = nI (i + 1) from nI_1 i]
    have hih := fun c hc => ih (i + 1) nn c h3 (by omega) (by simp at hn; omega) hc
    show _ = some (z_b (e_best E b t (e_st E b t c x) l).1)
    unfold e_st
    by_cases hb : x = b
    · rw [if_neg (fun z => z ((z_b_eq (by omega) (by omega)).mpr hb)), if_pos hb, hih c hc]
    · rw [if_pos (fun z => hb ((z_b_eq (by omega) (by omega)).mp z)), if_neg hb, z_wishOf hS c4 c5 p3 (by omega) k3, Option.bind_some, ← c6 x hx t k3]
      by_cases h12 : c.1 = 12
      · rw [if_pos (by rw [h12]; rfl), if_pos (.inl h12), ← z_bn (b := x) (by omega)]
        exact hih (x, _) (by simp only; omega)
      · rw [if_neg (by rw [z_bn h12]; exact z_neg1 (by omega))]
        by_cases hlt : E.2.2.2.2 x t < c.2
        · rw [if_neg (by rw [fa_le]; rw [fa_lt] at hlt; omega), if_pos (.inr hlt), ← z_bn (b := x) (by omega)]
          exact hih (x, _) (by simp only; omega)
        · rw [if_pos (fa_of_nlt hlt), if_neg (fun z => z.elim h12 hlt)]
          exact hih c hc
theorem z_nextHouse (hF : 70000 ≤ F) (hS : z_Sh h) (hC : z_CW h E) (hp : z_ps h (a, (b, t))) (hk : e_ok E (a, (b, t))) : s_Walk_nextHouse F h (some 48) = some (z_b (e_best E b t (12, 0) (e_ds E a)).1) := by
  have hl := e_ds_len (E := E) (a := a)
  have hE := hC.1.1
  unfold s_Walk_nextHouse
  rw [z_c48 hS, Option.bind_some]
  exact z_nextL hS hC hp hk (e_ds E a) 0 F (12, 0) rfl (by omega) (by omega) (by decide)
theorem z_w.s2 {v : Int32} {k : Nat} (hk : k = 2 ∨ k = 3 ∨ k = 4) : z_w h (z_sI h 48 k v) :=
  ⟨z_fr.refl.sI (by decide), fun j a b c => z_I_sI_nk (by omega), fun j => z_R_sI⟩
theorem z_hour (hF : 70000 ≤ F) (hS : z_Sh h) (hC : z_CW h E) (hp : z_ps h p) (hk : e_ok E p) : ∃ h', s_Walk_hour F h (some 48) = some h' ∧ z_w h h' ∧ z_ps h' (e_go E p) := by
  obtain ⟨a, b, t⟩ := p
  have hE := hC.1.1
  obtain ⟨p1, p2, p3⟩ := hp
  obtain ⟨k1, k2, k3⟩ := hk
  simp only at p1 p2 p3 k1 k2 k3
  have hT : ∀ g, z_Sh g → z_I g 48 4 = nI t → (f_gI g (some 48) 9 4).bind (fun x36 => (f_irem (x36 + (1 : Int32)) (24 : Int32)).bind fun x43 => (f_pI g (some 48) 9 4 x43).bind fun h44 => some h44) = some (z_sI g 48 4 (nI ((t + 1) % 24))) := by
    intro g hg e
    rw [z_i48_4 hg, Option.bind_some, e, nI_1, show (24 : Int32) = nI 24 from rfl, z_irem (by omega) (by decide) (by decide), Option.bind_some, z_w48_4 hg]
    rfl
  have hstay : e_next E a b t = a → ∃ h', some (z_sI h 48 4 (nI ((t + 1) % 24))) = some h' ∧ z_w h h' ∧ z_ps h' (e_go E (a, (b, t))) := by
    intro e
    refine ⟨_, rfl, z_w.s2 (by omega), ?_⟩
    unfold e_go e_mv e_tk
    rw [if_pos e]
    refine ⟨?_, ?_, ?_⟩
    · rw [z_I_sI_nk (by decide)]; exact p1
    · rw [z_I_sI_nk (by decide)]; exact p2
    · rw [z_II hS 9 rfl]
  unfold s_Walk_hour
  rw [z_c48 hS, Option.bind_some, z_called hF hS hC p1 k1, Option.bind_some]
  simp only [fw_jn]
  by_cases hc : e_sum E 0 (e_ds E a) < E.2.2.2.1 a
  · rw [if_neg (by simp [hc]), if_pos trivial, hT h hS p3]
    exact hstay (by unfold e_next; rw [if_pos hc])
  · rw [if_pos (by simp [hc]), z_nextHouse hF hS hC ⟨p1, p2, p3⟩ ⟨k1, k2, k3⟩, Option.bind_some]
    by_cases h12 : (e_best E b t (12, 0) (e_ds E a)).1 = 12
    · rw [if_pos (by rw [h12]; rfl), hT h hS p3]
      exact hstay (by unfold e_next; rw [if_neg hc, if_pos h12])
    · have hlt := e_next_lt (E := E) (b := b) (t := t) k1
      have hen : e_next E a b t = (e_best E b t (12, 0) (e_ds E a)).1 := by unfold e_next; rw [if_neg hc, if_neg h12]
      rw [z_bn h12, if_neg (z_neg1 (by rw [← hen]; omega)), z_i48_2 hS, Option.bind_some, z_w48_3 hS, Option.bind_some, z_w48_2 (z_Sh_sI hS), Option.bind_some]
      rw [hT _ (z_Sh_sI (z_Sh_sI hS)) (by rw [z_I_sI_nk (by decide), z_I_sI_nk (by decide)]; exact p3)]
      refine ⟨_, rfl, ((z_w.s2 (by omega)).trans (z_w.s2 (by omega))).trans (z_w.s2 (by omega)), ?_⟩
      unfold e_go e_mv e_tk
      rw [if_neg (by rw [hen]; exact e_best_ne hC.1 h12)]
      refine ⟨?_, ?_, ?_⟩
      · rw [z_I_sI_nk (by decide), z_II (z_Sh_sI hS) 9 rfl]; exact congrArg nI hen.symm
      · rw [z_I_sI_nk (by decide), z_I_sI_nk (by decide), z_II hS 9 rfl, p1]; exact (z_bn (by omega)).symm
      · rw [z_II (z_Sh_sI (z_Sh_sI hS)) 9 rfl]
end CW
