-- THE TAPE READ, on both sides: bytes B, l of them; the place p; a fault q
abbrev k_r (α : Type) : Type := Nat ⊕ (α × Nat)
def k_nb (B : Nat → Nat) : Nat → Nat → Nat
  | 0, p => p
  | d + 1, p => if B p = 32 then k_nb B d (p + 1) else p
/-- behind blanks -/
def k_n (B : Nat → Nat) (l p : Nat) : Nat := k_nb B (l - p) p
def k_g (B : Nat → Nat) (l q : Nat) : Int32 := if q < l then nI (B q) else -1
/-- the sign there: 0 at the end -/
def k_b (B : Nat → Nat) (l q : Nat) : Nat := if q < l then B q else 0
def k_d (B : Nat → Nat) (l q : Nat) : Bool := decide (q < l ∧ 48 ≤ B q ∧ B q ≤ 57)
def k_dg (B : Nat → Nat) (l : Nat) : Nat → Nat → Nat → Nat × Nat
  | 0, v, p => (v, p)
  | d + 1, v, p => if k_d B l p = true then k_dg B l d (v * 10 + B p - 48) (p + 1) else (v, p)
/-- a number of D digits at most, at the place p itself -/
def k_nu (B : Nat → Nat) (l D mo p : Nat) : k_r Nat :=
  if k_d B l p = true then (if k_d B l (k_dg B l D 0 p).2 = true then .inl (k_dg B l D 0 p).2 else if mo < (k_dg B l D 0 p).1 then .inl ((k_dg B l D 0 p).2 - 1) else .inr (k_dg B l D 0 p)) else .inl p
/-- the class's tape -/
def k_A (g : fw_H) (B : Nat → Nat) (l : Nat) : Prop := z_Sh g ∧ l ≤ 240 ∧ z_I g 16 1 = nI l ∧ (∀ i, i < l → 1 ≤ B i ∧ B i < 256) ∧ ∀ i, i < l → z_A g 17 i = nI (B i)
def k_ok (g : fw_H) (B : Nat → Nat) (l p : Nat) : Prop := k_A g B l ∧ p ≤ l ∧ z_I g 16 2 = nI p ∧ z_I g 16 3 = -1
def k_no (g : fw_H) (B : Nat → Nat) (l q : Nat) : Prop := k_A g B l ∧ q ≤ 240 ∧ z_I g 16 3 = nI q
/-- the reference's tape -/
def k_M (g : fw_H) (B : Nat → Nat) (l : Nat) : Prop := z_Sh g ∧ l ≤ 240 ∧ z_I g 68 2 = nI l ∧ (∀ i, i < l → 1 ≤ B i ∧ B i < 256) ∧ ∀ i, i < l → z_A g 69 i = nI (B i)
def k_mo (g : fw_H) (B : Nat → Nat) (l p : Nat) : Prop := k_M g B l ∧ p ≤ l ∧ z_I g 68 3 = nI p ∧ z_I g 68 4 = -1
def k_mn (g : fw_H) (B : Nat → Nat) (l q : Nat) : Prop := k_M g B l ∧ q ≤ 240 ∧ z_I g 68 4 = nI q
section TP
variable {g g' g'' h : fw_H} {B : Nat → Nat} {l p q d D v mo i j k nn F c : Nat} {x y : Int32} {As : List Nat}
theorem k_nb_le : ∀ (d p : Nat), p ≤ k_nb B d p ∧ k_nb B d p ≤ p + d
  | 0, p => ⟨Nat.le_refl _, Nat.le_refl _⟩
  | d + 1, p => by
    have := k_nb_le d (p + 1)
    show p ≤ (if B p = 32 then k_nb B d (p + 1) else p) ∧ (if B p = 32 then k_nb B d (p + 1) else p) ≤ p + (d + 1)
    split <;> omega
theorem k_nb_stop : ∀ (d p : Nat), k_nb B d p < p + d → B (k_nb B d p) ≠ 32
  | 0, p, h => absurd h (Nat.lt_irrefl _)
  | d + 1, p, h => by
    have ih := k_nb_stop d (p + 1)
    by_cases e : B p = 32
    · have e2 : k_nb B (d + 1) p = k_nb B d (p + 1) := if_pos e
      rw [e2] at h ⊢
      exact ih (by omega)
    · have e2 : k_nb B (d + 1) p = p := if_neg e
      rw [e2]
      exact e
theorem k_n_le (h : p ≤ l) : p ≤ k_n B l p ∧ k_n B l p ≤ l := by
  have := k_nb_le (B := B) (l - p) p
  unfold k_n
  omega
theorem k_n_stop (h : p ≤ l) (h2 : k_n B l p < l) : B (k_n B l p) ≠ 32 := k_nb_stop (l - p) p (by unfold k_n at h2; omega)
theorem k_n_step (h : p < l) : k_n B l p = if B p = 32 then k_n B l (p + 1) else p := by
  unfold k_n
  obtain ⟨d, hd⟩ : ∃ d, l - p = d + 1 := ⟨l - p - 1, by omega⟩
  rw [hd, show l - (p + 1) = d by omega]
  rfl
theorem k_n_end (h : l ≤ p) : k_n B l p = p := by
  unfold k_n
  rw [show l - p = 0 by omega]
  rfl
theorem k_n_id (h : p ≤ l) : k_n B l (k_n B l p) = k_n B l p := by
  have h1 := k_n_le (B := B) h
  by_cases h2 : k_n B l p < l
  · rw [k_n_step h2, if_neg (k_n_stop h h2)]
  · exact k_n_end (by omega)
theorem k_g_b (hB : ∀ i, i < l → 1 ≤ B i ∧ B i < 256) (hc : 1 ≤ c) (hc2 : c < 256) : k_g B l q = nI c ↔ k_b B l q = c := by
  unfold k_g k_b
  by_cases h : q < l
  · have := hB q h
    rw [if_pos h, if_pos h]
    exact nI_eq (by omega) (by omega)
  · rw [if_neg h, if_neg h]
    exact ⟨fun z => absurd z.symm (z_neg1 (by omega)), fun z => absurd z (by omega)⟩
theorem k_g_end (hB : ∀ i, i < l → 1 ≤ B i ∧ B i < 256) : k_g B l q = -1 ↔ k_b B l q = 0 := by
  unfold k_g k_b
  by_cases h : q < l
  · have := hB q h
    rw [if_pos h, if_pos h]
    exact ⟨fun z => absurd z (z_neg1 (by omega)), fun z => by omega⟩
  · rw [if_neg h, if_neg h]
    exact ⟨fun _ => rfl, fun _ => rfl⟩
theorem k_b_lt (h : k_b B l q ≠ 0) : q < l := by
  unfold k_b at h
  by_cases e : q < l
  · exact e
  · rw [if_neg e] at h; exact absurd rfl h
theorem k_dig (hB : ∀ i, i < l → 1 ≤ B i ∧ B i < 256) : s_Tape_isDigit (k_g B l q) = some (k_d B l q) ∧ s_Mod_isDigit (k_g B l q) = some (k_d B l q) := by
  unfold s_Tape_isDigit s_Mod_isDigit k_g k_d
  by_cases h : q < l
  · have := hB q h
    rw [if_pos h]
    by_cases h1 : B q < 48
    · rw [if_pos (show nI (B q) < (48 : Int32) from nI_lt (b := 48) h1 (by decide)), decide_eq_false (by omega)]
      exact ⟨rfl, rfl⟩
    · rw [if_neg (show ¬ nI (B q) < (48 : Int32) from nI_nlt (b := 48) (by omega) (by omega))]
      by_cases h2 : 57 < B q
      · rw [if_pos (show (57 : Int32) < nI (B q) from nI_lt (a := 57) h2 (by omega)), decide_eq_false (by omega)]
        exact ⟨rfl, rfl⟩
      · rw [if_neg (show ¬ (57 : Int32) < nI (B q) from nI_nlt (a := 57) (by omega) (by decide)), decide_eq_true (by omega)]
        exact ⟨rfl, rfl⟩
  · rw [if_neg h, decide_eq_false (by omega)]
    exact ⟨rfl, rfl⟩
theorem k_d_t (h : k_d B l q = true) : q < l ∧ 48 ≤ B q ∧ B q ≤ 57 := of_decide_eq_true h
theorem k_dg_le : ∀ (d v p : Nat), p ≤ l → p ≤ (k_dg B l d v p).2 ∧ (k_dg B l d v p).2 ≤ l
  | 0, v, p, h => ⟨Nat.le_refl _, h⟩
  | d + 1, v, p, h => by
    by_cases e : k_d B l p = true
    · have e2 : k_dg B l (d + 1) v p = k_dg B l d (v * 10 + B p - 48) (p + 1) := if_pos e
      have := k_dg_le d (v * 10 + B p - 48) (p + 1) (by have := k_d_t e; omega)
      rw [e2]
      omega
    · have e2 : k_dg B l (d + 1) v p = (v, p) := if_neg e
      rw [e2]
      exact ⟨Nat.le_refl _, h⟩
theorem k_dg_lt : ∀ (d j v p : Nat), v < 10 ^ j → (k_dg B l d v p).1 < 10 ^ (j + d)
  | 0, j, v, p, h => h
  | d + 1, j, v, p, h => by
    by_cases e : k_d B l p = true
    · have e2 : k_dg B l (d + 1) v p = k_dg B l d (v * 10 + B p - 48) (p + 1) := if_pos e
      have := k_dg_lt d (j + 1) (v * 10 + B p - 48) (p + 1) (by have := k_d_t e; rw [Nat.pow_succ]; omega)
      rw [e2, show j + (d + 1) = j + 1 + d by omega]
      exact this
    · have e2 : k_dg B l (d + 1) v p = (v, p) := if_neg e
      rw [e2]
      exact Nat.lt_of_lt_of_le h (Nat.pow_le_pow_right (by decide) (by omega))
theorem k_dg_1 (hD : 1 ≤ D) (h : k_d B l p = true) : p < (k_dg B l D v p).2 := by
  obtain ⟨D, rfl⟩ : ∃ k, D = k + 1 := ⟨D - 1, by omega⟩
  have e2 : k_dg B l (D + 1) v p = k_dg B l D (v * 10 + B p - 48) (p + 1) := if_pos h
  have := k_dg_le (B := B) (l := l) D (v * 10 + B p - 48) (p + 1) (by have := k_d_t h; omega)
  rw [e2]
  omega
-- frames
theorem k_A.fr (hf : z_fr As g g') (h16 : 17 ∉ As) (h15 : ∀ j, j ∈ As → 15 ≤ j) (h1 : z_I g' 16 1 = z_I g 16 1) (hA : k_A g B l) : k_A g' B l :=
  ⟨hA.1.fr hf h15, hA.2.1, h1.trans hA.2.2.1, hA.2.2.2.1, fun i hi => by rw [hf.A h16]; exact hA.2.2.2.2 i hi⟩
theorem k_ok.fr (hf : z_fr As g g') (h16 : 16 ∉ As) (h17 : 17 ∉ As) (h15 : ∀ j, j ∈ As → 15 ≤ j) (hA : k_ok g B l p) : k_ok g' B l p :=
  ⟨hA.1.fr hf h17 h15 (hf.I h16), hA.2.1, by rw [hf.I h16]; exact hA.2.2.1, by rw [hf.I h16]; exact hA.2.2.2⟩
theorem k_no.fr (hf : z_fr As g g') (h16 : 16 ∉ As) (h17 : 17 ∉ As) (h15 : ∀ j, j ∈ As → 15 ≤ j) (hA : k_no g B l q) : k_no g' B l q :=
  ⟨hA.1.fr hf h17 h15 (hf.I h16), hA.2.1, by rw [hf.I h16]; exact hA.2.2⟩
theorem k_M.fr (hf : z_fr As g g') (h69 : 69 ∉ As) (h15 : ∀ j, j ∈ As → 15 ≤ j) (h2 : z_I g' 68 2 = z_I g 68 2) (hA : k_M g B l) : k_M g' B l :=
  ⟨hA.1.fr hf h15, hA.2.1, h2.trans hA.2.2.1, hA.2.2.2.1, fun i hi => by rw [hf.A h69]; exact hA.2.2.2.2 i hi⟩
theorem k_mo.fr (hf : z_fr As g g') (h69 : 69 ∉ As) (h15 : ∀ j, j ∈ As → 15 ≤ j) (hk : ∀ k, k = 2 ∨ k = 3 ∨ k = 4 → z_I g' 68 k = z_I g 68 k) (hA : k_mo g B l p) : k_mo g' B l p :=
  ⟨hA.1.fr hf h69 h15 (hk 2 (by omega)), hA.2.1, (hk 3 (by omega)).trans hA.2.2.1, (hk 4 (by omega)).trans hA.2.2.2⟩
theorem k_mn.fr (hf : z_fr As g g') (h69 : 69 ∉ As) (h15 : ∀ j, j ∈ As → 15 ≤ j) (hk : ∀ k, k = 2 ∨ k = 4 → z_I g' 68 k = z_I g 68 k) (hA : k_mn g B l q) : k_mn g' B l q :=
  ⟨hA.1.fr hf h69 h15 (hk 2 (by omega)), hA.2.1, (hk 4 (by omega)).trans hA.2.2⟩
/-- the class's place set -/
theorem k_ok.to (hA : k_ok g B l p) (hp : q ≤ l) : k_ok (z_sI g 16 2 (nI q)) B l q :=
  ⟨hA.1.fr (As := [16]) (z_fr.refl.sI (by simp)) (by decide) (by decide) (z_I_sI_nk (by decide)), hp, z_II hA.1.1 6 rfl, (z_I_sI_nk (by decide)).trans hA.2.2.2⟩
-- the class's tape
theorem z_peekL : ∀ (k p nn : Nat) (g : fw_H) (p0 : Nat), p + k = l → k < nn → k_ok g B l p0 → ∃ g', l_Tape_peek_15 (some 16) nn (nI p) g = some (k_g B l (k_n B l p), g') ∧ (z_fr [16] g g' ∧ k_ok g' B l (k_n B l p)) := by
  intro k
  have stop : ∀ (p nn : Nat) (g : fw_H) (p0 : Nat), p = l → k_ok g B l p0 → ∃ g', l_Tape_peek_15 (some 16) (nn + 1) (nI p) g = some (k_g B l (k_n B l p), g') ∧ (z_fr [16] g g' ∧ k_ok g' B l (k_n B l p)) := by
    intro p nn g p0 hp hk
    subst hp
    have hl := hk.1.2.1
    rw [k_n_end (Nat.le_refl _)]
    refine ⟨z_sI g 16 2 (nI p), ?_, z_fr.refl.sI (by simp), hk.to (Nat.le_refl _)⟩
    rw [l_Tape_peek_15, if_neg (nI_pos (by omega)), z_i16_1 hk.1.1, Option.bind_some, hk.1.2.2.1, if_pos (nI_le (Nat.le_refl _) (by omega)), Option.bind_some, z_w16_2 hk.1.1, Option.bind_some]
    unfold k_g
    rw [if_neg (Nat.lt_irrefl _)]
  induction k with
  | zero =>
    intro p nn g p0 hp hnn hk
    obtain ⟨nn, rfl⟩ : ∃ k, nn = k + 1 := ⟨nn - 1, by omega⟩
    exact stop p nn g p0 (by omega) hk
  | succ k ih =>
    intro p nn g p0 hp hnn hk
    obtain ⟨nn, rfl⟩ : ∃ k, nn = k + 1 := ⟨nn - 1, by omega⟩
    have hl := hk.1.2.1
    have hS := hk.1.1
    have hB := hk.1.2.2.2.1 p (by omega)
    have hk1 := hk.to (q := p) (by omega)
    have S1 := hk1.1.1
    rw [l_Tape_peek_15, if_neg (nI_pos (by omega)), z_i16_1 hS, Option.bind_some, hk.1.2.2.1, if_neg (nI_ge (by omega) (by omega)), z_r16_0 hS, Option.bind_some, z_l17 hS, Option.bind_some, if_neg (nI_ge (b := 240) (by omega) (by decide)), z_w16_2 hS, Option.bind_some, z_r16_0 S1, Option.bind_some, z_a17 S1 (by omega), Option.bind_some, hk1.1.2.2.2.2 p (by omega)]
    rw [k_n_step (show p < l by omega)]
    by_cases h32 : B p = 32
    · rw [if_pos (by rw [h32]; rfl), if_pos h32, nI_1]
      obtain ⟨g2, b1, b2, b3⟩ := ih (p + 1) nn _ p (by omega) (by omega) hk1
      exact ⟨g2, b1, (z_fr.refl.sI (by simp)).trans b2, b3⟩
    · rw [if_neg (show ¬ nI (B p) = (32 : Int32) from fun z => h32 ((nI_eq (b := 32) (by omega) (by decide)).mp z)), if_neg h32, Option.bind_some, z_a17 S1 (by omega), Option.bind_some, hk1.1.2.2.2.2 p (by omega)]
      refine ⟨_, ?_, z_fr.refl.sI (by simp), hk1⟩
      unfold k_g
      rw [if_pos (show p < l by omega)]
theorem z_peek (hF : 70000 ≤ F) (hk : k_ok g B l p) : ∃ g', s_Tape_peek F g (some 16) = some (k_g B l (k_n B l p), g') ∧ (z_fr [16] g g' ∧ k_ok g' B l (k_n B l p)) := by
  have hl := hk.1.2.1
  have hp := hk.2.1
  unfold s_Tape_peek
  rw [z_c16 hk.1.1, Option.bind_some, z_i16_3 hk.1.1, Option.bind_some, hk.2.2.2, if_pos rfl, z_i16_2 hk.1.1, Option.bind_some, hk.2.2.1]
  exact z_peekL (l - p) p F g p (by omega) (by omega) hk
theorem z_peekN (hk : k_no g B l q) : s_Tape_peek F g (some 16) = some (-1, g) := by
  unfold s_Tape_peek
  rw [z_c16 hk.1.1, Option.bind_some, z_i16_3 hk.1.1, Option.bind_some, hk.2.2, if_neg (nI_ne_m1 (by have := hk.2.1; omega))]
theorem z_skip (hk : k_ok g B l p) (hp : p < l) : ∃ g', s_Tape_skip g (some 16) = some g' ∧ (z_fr [16] g g' ∧ k_ok g' B l (p + 1)) := by
  unfold s_Tape_skip
  rw [z_c16 hk.1.1, Option.bind_some, z_i16_2 hk.1.1, Option.bind_some, hk.2.2.1, nI_1, z_w16_2 hk.1.1]
  exact ⟨_, rfl, z_fr.refl.sI (by simp), hk.to (by omega)⟩
theorem z_skipN (hk : k_no g B l q) : ∃ g', s_Tape_skip g (some 16) = some g' ∧ (z_fr [16] g g' ∧ k_no g' B l q) := by
  unfold s_Tape_skip
  rw [z_c16 hk.1.1, Option.bind_some, z_i16_2 hk.1.1, Option.bind_some, z_w16_2 hk.1.1]
  exact ⟨_, rfl, z_fr.refl.sI (by simp), hk.1.fr (As := [16]) (z_fr.refl.sI (by simp)) (by decide) (by decide) (z_I_sI_nk (by decide)), hk.2.1, (z_I_sI_nk (by decide)).trans hk.2.2⟩
theorem z_failAt (hk : k_ok g B l p) (hq : q ≤ 240) : ∃ g', s_Tape_failAt g (some 16) (nI q) = some g' ∧ (z_fr [16] g g' ∧ k_no g' B l q) := by
  unfold s_Tape_failAt
  rw [z_c16 hk.1.1, Option.bind_some, z_i16_3 hk.1.1, Option.bind_some, hk.2.2.2, if_neg (fun z => z rfl), z_w16_3 hk.1.1]
  exact ⟨_, rfl, z_fr.refl.sI (by simp), hk.1.fr (As := [16]) (z_fr.refl.sI (by simp)) (by decide) (by decide) (z_I_sI_nk (by decide)), hq, z_II hk.1.1 6 rfl⟩
theorem z_failAtN (hk : k_no g B l q) : s_Tape_failAt g (some 16) x = some g := by
  unfold s_Tape_failAt
  rw [z_c16 hk.1.1, Option.bind_some, z_i16_3 hk.1.1, Option.bind_some, hk.2.2, if_pos (nI_ne_m1 (by have := hk.2.1; omega))]
theorem z_fail (hk : k_ok g B l p) : ∃ g', s_Tape_fail g (some 16) = some g' ∧ (z_fr [16] g g' ∧ k_no g' B l p) := by
  have := hk.1.2.1
  have := hk.2.1
  unfold s_Tape_fail
  rw [z_c16 hk.1.1, Option.bind_some, z_i16_2 hk.1.1, Option.bind_some, hk.2.2.1]
  obtain ⟨g', a1, a2⟩ := z_failAt (q := p) hk (by omega)
  exact ⟨g', by rw [a1]; rfl, a2⟩
theorem z_failN (hk : k_no g B l q) : s_Tape_fail g (some 16) = some g := by
  unfold s_Tape_fail
  rw [z_c16 hk.1.1, Option.bind_some, z_i16_2 hk.1.1, Option.bind_some, z_failAtN hk]
  rfl
/-- expect -/
theorem z_expect (hF : 70000 ≤ F) (hk : k_ok g B l p) (hc : 1 ≤ c) (hc2 : c < 256) : ∃ g', s_Tape_expect F g (some 16) (nI c) = some g' ∧ (z_fr [16] g g' ∧ ((k_b B l (k_n B l p) = c ∧ k_ok g' B l (k_n B l p + 1)) ∨ (k_b B l (k_n B l p) ≠ c ∧ k_no g' B l (k_n B l p)))) := by
  obtain ⟨g1, a1, a2, a3⟩ := z_peek hF hk
  have hl := hk.1.2.1
  have hle := k_n_le (B := B) hk.2.1
  unfold s_Tape_expect
  rw [z_c16 hk.1.1, Option.bind_some, a1, Option.bind_some]
  by_cases e : k_b B l (k_n B l p) = c
  · have hlt := k_b_lt (B := B) (l := l) (q := k_n B l p) (by omega)
    rw [if_neg (fun z => z ((k_g_b hk.1.2.2.2.1 hc hc2).mpr e)), z_i16_2 a3.1.1, Option.bind_some, a3.2.2.1, nI_1, z_w16_2 a3.1.1]
    exact ⟨_, rfl, a2.trans (z_fr.refl.sI (by simp)), .inl ⟨e, a3.to (by omega)⟩⟩
  · rw [if_pos (fun z => e ((k_g_b hk.1.2.2.2.1 hc hc2).mp z)), z_i16_2 a3.1.1, Option.bind_some, a3.2.2.1]
    obtain ⟨g2, b1, b2, b3⟩ := z_failAt (q := k_n B l p) a3 (by omega)
    exact ⟨g2, by rw [b1]; rfl, a2.trans b2, .inr ⟨e, b3⟩⟩
theorem z_expectN (hk : k_no g B l q) (hc : 1 ≤ c) (hc2 : c < 256) : s_Tape_expect F g (some 16) (nI c) = some g := by
  unfold s_Tape_expect
  rw [z_c16 hk.1.1, Option.bind_some, z_peekN hk, Option.bind_some, if_pos (fun z => z_neg1 (n := c) (by omega) z.symm), z_i16_2 hk.1.1, Option.bind_some, z_failAtN hk]
  rfl
theorem z_chere (hk : k_ok g B l p) : s_Tape_here g (some 16) = some (k_g B l p) := by
  have hl := hk.1.2.1
  have hp := hk.2.1
  unfold s_Tape_here
  rw [z_c16 hk.1.1, Option.bind_some, z_i16_2 hk.1.1, Option.bind_some, hk.2.2.1, if_neg (nI_pos (by omega)), Option.bind_some, z_i16_1 hk.1.1, Option.bind_some, hk.1.2.2.1]
  unfold k_g
  by_cases h : p < l
  · rw [if_neg (nI_ge h (by omega)), Option.bind_some, z_r16_0 hk.1.1, Option.bind_some, z_l17 hk.1.1, Option.bind_some, if_neg (nI_ge (b := 240) (by omega) (by decide)), Option.bind_some, Option.bind_some, z_a17 hk.1.1 (by omega), Option.bind_some, hk.1.2.2.2.2 p h, if_pos h]
  · rw [if_pos (nI_le (by omega) (by omega)), if_neg h]
/-- the digits of a number -/
theorem z_cnumL (hD : D ≤ 4) {K : Int32 → fw_H → Option (Int32 × fw_H)} : ∀ (d i nn v p : Nat) (g : fw_H), i + d = D → d < nn → k_ok g B l p → ∃ g', l_Tape_number_25 (some 16) (nI D) K nn (nI v) (nI i) g = K (nI (k_dg B l d v p).1) g' ∧ (z_fr [16] g g' ∧ k_ok g' B l (k_dg B l d v p).2) := by
  intro d
  induction d with
  | zero =>
    intro i nn v p g hi hnn hk
    obtain ⟨nn, rfl⟩ : ∃ k, nn = k + 1 := ⟨nn - 1, by omega⟩
    exact ⟨g, by rw [l_Tape_number_25, if_pos (nI_le (by omega) (by omega))]; rfl, z_fr.refl, hk⟩
  | succ d ih =>
    intro i nn v p g hi hnn hk
    obtain ⟨nn, rfl⟩ : ∃ k, nn = k + 1 := ⟨nn - 1, by omega⟩
    have hl := hk.1.2.1
    rw [l_Tape_number_25, if_neg (nI_ge (by omega) (by omega)), z_chere hk, Option.bind_some, (k_dig hk.1.2.2.2.1).1, Option.bind_some]
    by_cases e : k_d B l p = true
    · obtain ⟨e1, e2, e3⟩ := k_d_t e
      have e4 : k_dg B l (d + 1) v p = k_dg B l d (v * 10 + B p - 48) (p + 1) := if_pos e
      have e5 : nI v * (10 : Int32) + k_g B l p - (48 : Int32) = nI (v * 10 + B p - 48) := by
        unfold k_g
        rw [if_pos e1, show (10 : Int32) = nI 10 from rfl, pk_mul, nI_add]
        exact pk_sub (b := 48) (by omega)
      rw [if_pos e, Option.bind_some, z_i16_2 hk.1.1, Option.bind_some, hk.2.2.1, nI_1, z_w16_2 hk.1.1, Option.bind_some, e5, nI_1, e4]
      obtain ⟨g2, b1, b2, b3⟩ := ih (i + 1) nn (v * 10 + B p - 48) (p + 1) _ (by omega) (by omega) (hk.to (q := p + 1) (by omega))
      exact ⟨g2, b1, (z_fr.refl.sI (by simp)).trans b2, b3⟩
    · have e4 : k_dg B l (d + 1) v p = (v, p) := if_neg e
      rw [if_neg e, e4]
      exact ⟨g, rfl, z_fr.refl, hk⟩
theorem k_dg_10 (hD : D ≤ 4) : (k_dg B l D 0 p).1 < 10000 := by
  have := k_dg_lt (B := B) (l := l) D 0 0 p (by decide)
  rw [Nat.zero_add] at this
  exact Nat.lt_of_lt_of_le this (Nat.pow_le_pow_right (n := 10) (by decide) hD)
/-- a number, the class -/
theorem z_cnum (hF : 70000 ≤ F) (hD : D ≤ 4) (hD1 : 1 ≤ D) (hmo : mo < 10000) (hk : k_ok g B l p) : ∃ g' v, s_Tape_number F g (some 16) (nI D) (nI mo) = some (v, g') ∧ (z_fr [16] g g' ∧ match k_nu B l D mo (k_n B l p) with
    | .inl q => k_no g' B l q
    | .inr (w, p') => v = nI w ∧ k_ok g' B l p') := by
  obtain ⟨g1, a1, a2, a3⟩ := z_peek hF hk
  have hl := hk.1.2.1
  have hle := k_n_le (B := B) hk.2.1
  unfold s_Tape_number k_nu
  rw [z_c16 hk.1.1, Option.bind_some, a1, Option.bind_some, (k_dig hk.1.2.2.2.1).1, Option.bind_some]
  by_cases e : k_d B l (k_n B l p) = true
  · rw [if_pos e, if_pos e]
    obtain ⟨g2, b1, b2, b3⟩ := z_cnumL (B := B) (l := l) (D := D) hD (K := fun e70_3 he70 => (s_Tape_here he70 (some 16)).bind fun x71 => (s_Tape_isDigit x71).bind fun x74 => if x74 = true then ((f_gI he70 (some 16) 6 2).bind fun x82 => (s_Tape_failAt he70 (some 16) x82).bind fun h85 => if e70_3 ≤ nI mo then (some (e70_3, h85)) else (f_gI h85 (some 16) 6 2).bind fun x95 => (s_Tape_failAt h85 (some 16) (x95 - (1 : Int32))).bind fun h100 => some (e70_3, h100)) else if e70_3 ≤ nI mo then (some (e70_3, he70)) else (f_gI he70 (some 16) 6 2).bind fun x95 => (s_Tape_failAt he70 (some 16) (x95 - (1 : Int32))).bind fun h100 => some (e70_3, h100)) D 0 F 0 (k_n B l p) g1 (by omega) (by omega) a3
    have h10 := k_dg_10 (B := B) (l := l) (p := k_n B l p) hD
    have h1 := k_dg_1 (B := B) (l := l) (v := 0) hD1 e
    have hle2 := k_dg_le (B := B) (l := l) D 0 (k_n B l p) hle.2
    obtain ⟨W, hW⟩ : ∃ W, W = k_dg B l D 0 (k_n B l p) := ⟨_, rfl⟩
    rw [← hW] at b1 b3 h10 h1 hle2 ⊢
    have fin : ∃ g' v, ((s_Tape_here g2 (some 16)).bind fun x71 => (s_Tape_isDigit x71).bind fun x74 => if x74 = true then ((f_gI g2 (some 16) 6 2).bind fun x82 => (s_Tape_failAt g2 (some 16) x82).bind fun h85 => if nI W.1 ≤ nI mo then (some (nI W.1, h85)) else (f_gI h85 (some 16) 6 2).bind fun x95 => (s_Tape_failAt h85 (some 16) (x95 - (1 : Int32))).bind fun h100 => some (nI W.1, h100)) else if nI W.1 ≤ nI mo then (some (nI W.1, g2)) else (f_gI g2 (some 16) 6 2).bind fun x95 => (s_Tape_failAt g2 (some 16) (x95 - (1 : Int32))).bind fun h100 => some (nI W.1, h100)) = some (v, g') ∧ (z_fr [16] g2 g' ∧ match (if k_d B l W.2 = true then .inl W.2 else if mo < W.1 then .inl (W.2 - 1) else .inr W : k_r Nat) with
        | .inl q => k_no g' B l q
        | .inr (w, p') => v = nI w ∧ k_ok g' B l p') := by
      rw [z_chere b3, Option.bind_some, (k_dig hk.1.2.2.2.1).1, Option.bind_some]
      by_cases e2 : k_d B l W.2 = true
      · rw [if_pos e2, if_pos e2, z_i16_2 b3.1.1, Option.bind_some, b3.2.2.1]
        obtain ⟨g3, c1, c2, c3⟩ := z_failAt (q := W.2) b3 (by omega)
        rw [c1, Option.bind_some, z_i16_2 c3.1.1, Option.bind_some, z_failAtN c3, Option.bind_some]
        refine ⟨g3, nI W.1, ?_, c2, c3⟩
        split <;> rfl
      · rw [if_neg e2, if_neg e2]
        by_cases e3 : mo < W.1
        · rw [if_neg (nI_ge e3 (by omega)), if_pos e3, z_i16_2 b3.1.1, Option.bind_some, b3.2.2.1, show nI W.2 - (1 : Int32) = nI (W.2 - 1) from pk_sub (b := 1) (by omega)]
          obtain ⟨g3, c1, c2, c3⟩ := z_failAt (q := W.2 - 1) b3 (by omega)
          rw [c1, Option.bind_some]
          exact ⟨g3, nI W.1, rfl, c2, c3⟩
        · rw [if_pos (nI_le (by omega) (by omega)), if_neg e3]
          exact ⟨g2, nI W.1, rfl, z_fr.refl, rfl, b3⟩
    obtain ⟨g3, v, c1, c2, c3⟩ := fin
    exact ⟨g3, v, b1.trans c1, (a2.trans b2).trans c2, c3⟩
  · rw [if_neg e, if_neg e, z_i16_2 a3.1.1, Option.bind_some, a3.2.2.1]
    obtain ⟨g2, b1, b2, b3⟩ := z_failAt (q := k_n B l p) a3 (by omega)
    rw [b1, Option.bind_some]
    exact ⟨g2, 0, rfl, a2.trans b2, b3⟩
theorem z_cnumN (hk : k_no g B l q) : s_Tape_number F g (some 16) x y = some (0, g) := by
  unfold s_Tape_number
  rw [z_c16 hk.1.1, Option.bind_some, z_peekN hk, Option.bind_some, show s_Tape_isDigit (-1) = some false from by decide, Option.bind_some, if_neg (by decide), z_i16_2 hk.1.1, Option.bind_some, z_failAtN hk, Option.bind_some]
end TP
