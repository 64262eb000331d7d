-- AN HOUR GOES BY, the reference
/-- where it is behind an hour, with fog or without -/
def j_q (E : z_E) (b : Bool) (p : e_P) : e_P := if b = true then e_tk p else e_go E p
/-- where it is, the time, how long the log is: as the state tells it -/
def j_ok (n : Nat) (f : Nat → Int32) (l : Nat) : Prop := f 54 = nI (v_at f) ∧ v_at f < n ∧ f 55 = z_b (v_be f) ∧ (v_be f = 12 ∨ v_be f < n) ∧ f 56 = nI (v_hr f) ∧ v_hr f ≤ 9999 ∧ f 57 = nI (min l 60)
def j_note (A : Nat → Int32) (a l j : Nat) : Int32 := if j = 57 then nI (min (l + 1) 60) else if 58 ≤ j then (if l < 60 then (if j = 58 + l then nI a else A j) else (if j < 117 then A (j + 1) else nI a)) else A j
section JI
variable {h g g' : fw_H} {n w i k t x a b l p m e F nn : Nat} {T Wd f f' A : Nat → Int32} {v y : Int32} {As : List Nat} {E : z_E} {lw : Option (List q_C)} {fog : Bool} {q : e_P}
theorem j_h_at (ha : a < 12) : v_at (j_h n T f a b l) = a := by
  unfold v_at
  rw [j_h54, nI_clamp (by omega)]
theorem j_h_be (hb : b ≤ 12) : v_be (j_h n T f a b l) = b := by
  unfold v_be
  rw [j_h55]
  by_cases hq : b = 12
  · rw [hq, z_b12, if_pos rfl]
  · rw [z_bn hq, if_neg (z_neg1 (by omega)), nI_clamp (by omega)]
theorem j_h_hr (ht : v_hr f ≤ 9999) : v_hr (j_h n T f a b l) = v_hr f + 1 := by
  show (j_h n T f a b l 56).toNatClampNeg = _
  rw [j_h56, nI_clamp (by omega)]
theorem j_h_ok (ha : a < n) (hb : b = 12 ∨ b < n) (h12 : n ≤ 12) (ht : v_hr f < 9999) : j_ok n (j_h n T f a b l) (l + 1) := by
  unfold j_ok
  rw [j_h_at (by omega), j_h_be (by omega), j_h_hr (by omega)]
  exact ⟨j_h54, ha, j_h55, hb, j_h56, by omega, j_h57⟩
theorem j_h_pos (ha : a < 12) (hb : b ≤ 12) (ht : v_hr f ≤ 9999) : v_pos (j_h n T f a b l) = (a, (b, (v_hr f + 1) % 24)) := by
  unfold v_pos
  rw [j_h_at ha, j_h_be hb, j_h_hr ht]
theorem j_q_ok (h : e_ok E q) : e_ok E (j_q E fog q) := by
  unfold j_q
  cases fog
  · exact e_go_ok h
  · exact ⟨h.1, h.2.1, Nat.mod_lt _ (by decide)⟩
theorem j_q_tm : (j_q E fog q).2.2 = (q.2.2 + 1) % 24 := by
  unfold j_q
  cases fog
  · unfold e_go e_tk e_mv
    show ((if e_next E q.1 q.2.1 q.2.2 = q.1 then q else _ : e_P).2.2 + 1) % 24 = _
    by_cases z : e_next E q.1 q.2.1 q.2.2 = q.1
    · rw [if_pos z]
    · rw [if_neg z]
  · rfl
theorem j_h_posq (hk : e_ok E (v_pos f)) (hE : E.1 ≤ 12) (ht : v_hr f ≤ 9999) : v_pos (j_h n T f (j_q E fog (v_pos f)).1 (j_q E fog (v_pos f)).2.1 l) = j_q E fog (v_pos f) := by
  obtain ⟨k1, k2, k3⟩ := j_q_ok (fog := fog) hk
  have htm := j_q_tm (E := E) (fog := fog) (q := v_pos f)
  rw [j_h_pos (by omega) (by omega) ht]
  have e : (v_hr f + 1) % 24 = (j_q E fog (v_pos f)).2.2 := by
    rw [htm]
    show _ = (v_hr f % 24 + 1) % 24
    omega
  rw [e]
/-- kids laugh -/
theorem z_mlau {K : fw_H → Option fw_H} (hn : n ≤ 12) (ht : t < 24) : ∀ (k i nn : Nat) (g : fw_H), i + k = n → k < nn → z_Sh g → z_I g 68 24 = nI n → (∀ j, j < 72 → z_A g 82 j = T j) →
    ∃ g', l_Mod_pass_94 (some 68) (nI t) K nn (nI i) g = K g' ∧ (z_fr [84] g g' ∧ ∀ j, z_A g' 84 j = if t = 6 ∧ 24 + i ≤ j ∧ j < 24 + n then z_A g 84 j + T (6 * (j - 24) + 3) else z_A g 84 j) := by
  intro k
  induction k with
  | zero =>
    intro i nn g hi hnn hS h24 hT
    obtain ⟨nn, rfl⟩ : ∃ k, nn = k + 1 := ⟨nn - 1, by omega⟩
    refine ⟨g, ?_, z_fr.refl, fun j => by rw [if_neg (by omega)]⟩
    rw [l_Mod_pass_94]
    by_cases h6 : t = 6
    · rw [if_neg (fun z => z (by rw [h6]; rfl)), z_i68_24 hS, Option.bind_some, h24, if_pos (nI_le (by omega) (by omega))]
    · rw [if_pos (show ¬ nI t = (6 : Int32) from fun z => h6 ((nI_eq (b := 6) (by omega) (by decide)).mp z))]
  | succ k ih =>
    intro i nn g hi hnn hS h24 hT
    obtain ⟨nn, rfl⟩ : ∃ k, nn = k + 1 := ⟨nn - 1, by omega⟩
    rw [l_Mod_pass_94]
    by_cases h6 : t = 6
    · have f1 : z_fr [84] g (z_sA g 84 (24 + i) (z_A g 84 (24 + i) + T (6 * i + 3))) := z_fr.refl.sA (by simp)
      rw [if_neg (fun z => z (by rw [h6]; rfl)), z_i68_24 hS, Option.bind_some, h24, if_neg (nI_ge (by omega) (by omega)), z_r68_26 hS, Option.bind_some, show (24 : Int32) + nI i = nI (24 + i) from nI_add 24 i, z_a84 hS (by omega), Option.bind_some, z_r68_22 hS, Option.bind_some, show (6 : Int32) * nI i + (3 : Int32) = nI (6 * i + 3) by rw [show (6 : Int32) = nI 6 from rfl, show (3 : Int32) = nI 3 from rfl, pk_mul, nI_add], z_a82 hS (by omega), Option.bind_some, hT _ (by omega), z_s84 hS (by omega), Option.bind_some, show nI i + (1 : Int32) = nI (i + 1) from nI_1 i]
      obtain ⟨g2, b1, b2, b3⟩ := ih (i + 1) nn (z_sA g 84 (24 + i) (z_A g 84 (24 + i) + T (6 * i + 3))) (by omega) (by omega) (z_Sh_sA hS) (by rw [f1.I (by decide)]; exact h24) (fun j hj => by rw [f1.A (by decide)]; exact hT j hj)
      refine ⟨g2, b1, f1.trans b2, fun j => ?_⟩
      rw [b3 j, z_A_sA (z_ckT hS rfl)]
      by_cases e : j = 24 + i
      · subst e
        rw [if_neg (by omega), if_pos rfl, if_pos (by omega), Nat.add_sub_cancel_left]
      · rw [if_neg e]
        by_cases e2 : t = 6 ∧ 24 + i ≤ j ∧ j < 24 + n
        · rw [if_pos (by omega), if_pos e2]
        · rw [if_neg (by omega), if_neg e2]
    · rw [if_pos (show ¬ nI t = (6 : Int32) from fun z => h6 ((nI_eq (b := 6) (by omega) (by decide)).mp z))]
      exact ⟨g, rfl, z_fr.refl, fun j => by rw [if_neg (by omega)]⟩
theorem z_noteL {K : fw_H → Option fw_H} : ∀ (k i nn : Nat) (g : fw_H), i + k = 60 → 1 ≤ i → k < nn → z_Sh g → (∀ j, z_A g 84 j = if 58 ≤ j ∧ j + 1 < 58 + i then A (j + 1) else A j) →
    ∃ g', l_Mod_note_14 (some 68) K nn (nI i) g = K g' ∧ (z_fr [84] g g' ∧ ∀ j, z_A g' 84 j = if 58 ≤ j ∧ j + 1 < 118 then A (j + 1) else A j) := by
  intro k
  induction k with
  | zero =>
    intro i nn g hi h1 hnn hS hA
    obtain ⟨nn, rfl⟩ : ∃ k, nn = k + 1 := ⟨nn - 1, by omega⟩
    obtain rfl : i = 60 := by omega
    exact ⟨g, by rw [l_Mod_note_14, if_pos (by decide)], z_fr.refl, hA⟩
  | succ k ih =>
    intro i nn g hi h1 hnn hS hA
    obtain ⟨nn, rfl⟩ : ∃ k, nn = k + 1 := ⟨nn - 1, by omega⟩
    have e1 : nI (58 + i) - (1 : Int32) = nI (58 + i - 1) := pk_sub (b := 1) (by omega)
    have f1 : z_fr [84] g (z_sA g 84 (58 + i - 1) (A (58 + i))) := z_fr.refl.sA (by simp)
    rw [l_Mod_note_14, if_neg (show ¬ (60 : Int32) ≤ nI i from nI_ge (b := 60) (by omega) (by decide)), z_r68_26 hS, Option.bind_some, Option.bind_some, show (58 : Int32) + nI i = nI (58 + i) from nI_add 58 i, z_a84 hS (by omega), Option.bind_some, e1, hA (58 + i), if_neg (by omega), z_s84 hS (by omega), Option.bind_some, show nI i + (1 : Int32) = nI (i + 1) from nI_1 i]
    obtain ⟨g2, b1, b2, b3⟩ := ih (i + 1) nn (z_sA g 84 (58 + i - 1) (A (58 + i))) (by omega) (by omega) (by omega) (z_Sh_sA hS) (fun j => by
      rw [z_A_sA (z_ckT hS rfl)]
      by_cases e : j = 58 + i - 1
      · rw [if_pos e, if_pos (by omega)]
        congr 1
        omega
      · rw [if_neg e, hA j]
        by_cases e2 : 58 ≤ j ∧ j + 1 < 58 + i
        · rw [if_pos e2, if_pos (by omega)]
        · rw [if_neg e2, if_neg (by omega)])
    exact ⟨g2, b1, f1.trans b2, b3⟩
/-- note -/
theorem z_note (hF : 70000 ≤ F) (hS : z_Sh h) (h54 : z_A h 84 54 = nI a) (h57 : z_A h 84 57 = nI (min l 60)) : ∃ g', s_Mod_note F h (some 68) = some g' ∧ (z_fr [84] h g' ∧ ∀ j, j < 118 → z_A g' 84 j = j_note (z_A h 84) a l j) := by
  -- the end: k entries, the next one put down
  have fin : ∀ (k : Nat) (g : fw_H), k < 60 → z_Sh g → z_A g 84 54 = nI a → z_A g 84 57 = nI k → ∃ g', ((f_gR g (some 68) 12 26).bind fun x58 => (f_gR g (some 68) 12 26).bind fun x64 => (f_aI g x64 (57 : Int32)).bind fun x69 => (f_gR g (some 68) 12 26).bind fun x72 => (f_aI g x72 (54 : Int32)).bind fun x77 => (f_sI g x58 ((58 : Int32) + x69) x77).bind fun h78 => (f_gR h78 (some 68) 12 26).bind fun x80 => (f_aI h78 x80 (57 : Int32)).bind fun x86 => (f_sI h78 x80 (57 : Int32) (x86 + (1 : Int32))).bind fun h89 => some h89) = some g' ∧ (z_fr [84] g g' ∧ ∀ j, z_A g' 84 j = if j = 57 then nI (k + 1) else if j = 58 + k then nI a else z_A g 84 j) := by
    intro k g hk hg e54 e57
    have S1 : z_Sh (z_sA g 84 (58 + k) (nI a)) := z_Sh_sA hg
    rw [z_r68_26 hg, Option.bind_some, Option.bind_some, show (57 : Int32) = nI 57 from rfl, z_a84 hg (by decide), Option.bind_some, e57, Option.bind_some, show (54 : Int32) = nI 54 from rfl, z_a84 hg (by decide), Option.bind_some, e54, show (58 : Int32) + nI k = nI (58 + k) from nI_add 58 k, z_s84 hg (by omega), Option.bind_some, z_r68_26 S1, Option.bind_some, z_a84 S1 (by decide), Option.bind_some, z_A_sA (z_ckT hg rfl), if_neg (by omega), e57, show nI k + (1 : Int32) = nI (k + 1) from nI_1 k, z_s84 S1 (by decide)]
    refine ⟨_, rfl, (z_fr.refl.sA (by simp)).sA (by simp), fun j => ?_⟩
    rw [z_A_sA (z_ckT S1 rfl), z_A_sA (z_ckT hg rfl)]
  unfold s_Mod_note
  simp only [fw_jn]
  rw [z_c68 hS, Option.bind_some, z_r68_26 hS, Option.bind_some, show (57 : Int32) = nI 57 from rfl, z_a84 hS (by decide), Option.bind_some, h57]
  by_cases hl : l < 60
  · rw [if_pos (show ¬ nI (min l 60) = (60 : Int32) from fun z => by have := (nI_eq (b := 60) (by omega) (by decide)).mp z; omega)]
    obtain ⟨g1, a1, a2, a3⟩ := fin l h hl hS h54 (by rw [h57]; congr 1; omega)
    rw [z_r68_26 hS] at a1
    refine ⟨g1, a1, a2, fun j hj => ?_⟩
    rw [a3 j]
    unfold j_note
    by_cases e1 : j = 57
    · rw [if_pos e1, if_pos e1]; congr 1; omega
    · rw [if_neg e1, if_neg e1]
      by_cases e2 : 58 ≤ j
      · rw [if_pos e2, if_pos hl]
      · rw [if_neg e2, if_neg (by omega)]
  · rw [if_neg (show ¬ ¬ nI (min l 60) = (60 : Int32) from fun z => z (by rw [show min l 60 = 60 by omega]; rfl))]
    refine z_k (z_noteL (A := fun j => z_A h 84 j) 59 1 F h (by omega) (by decide) (by omega) hS (fun j => by rw [if_neg (by omega)])) fun g1 ⟨a2, a3⟩ => ?_
    have S1 := hS.fr a2 (by decide)
    have S2 : z_Sh (z_sA g1 84 57 (nI 59)) := z_Sh_sA S1
    have t57 : z_A g1 84 57 = nI 60 := by rw [a3, if_neg (by omega), h57, show min l 60 = 60 by omega]
    rw [z_r68_26 S1, Option.bind_some, z_a84 S1 (by decide), Option.bind_some, t57, show nI 60 - (1 : Int32) = nI 59 by decide, z_s84 S1 (by decide), Option.bind_some]
    obtain ⟨g3, b1, b2, b3⟩ := fin 59 (z_sA g1 84 57 (nI 59)) (by decide) S2 (by rw [z_A_sA (z_ckT S1 rfl), if_neg (by decide), a3, if_neg (by omega)]; exact h54) (by rw [z_A_sA (z_ckT S1 rfl), if_pos rfl])
    refine ⟨g3, b1, (a2.sA (by simp)).trans b2, fun j hj => ?_⟩
    rw [b3 j, z_A_sA (z_ckT S1 rfl), a3 j]
    unfold j_note
    by_cases e1 : j = 57
    · rw [if_pos e1, if_pos e1]; congr 1; omega
    · rw [if_neg e1, if_neg e1, if_neg e1]
      by_cases e2 : 58 ≤ j
      · rw [if_pos e2, if_neg hl]
        by_cases e3 : j < 117
        · rw [if_neg (by omega), if_pos (by omega), if_pos e3]
        · rw [if_pos (by omega), if_neg e3]
      · rw [if_neg e2, if_neg (by omega), if_neg (by omega)]
end JI
