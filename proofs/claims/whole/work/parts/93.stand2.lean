-- STAND (2): the reference; the call
theorem z_k2 {α β γ δ : Type} {x : γ} {K : α → γ} {E : β → δ → γ} {P : α → Prop} {Q : β → δ → Prop} (h : ∃ g, x = K g ∧ P g) (H : ∀ g, P g → ∃ r s, K g = E r s ∧ Q r s) : ∃ r s, x = E r s ∧ Q r s := by
  obtain ⟨g, h1, h2⟩ := h
  obtain ⟨r, s, h3, h4⟩ := H g h2
  exact ⟨r, s, h1.trans h3, h4⟩
section RS
variable {h g g' h1 h2 h3 : fw_H} {n w m e M N a i k j t x F nn X p : Nat} {T Wd f f' : Nat → Int32} {lw : Option (List q_C)} {r : Option Nat} {q : e_P} {E E' : z_E} {As : List Nat} {xx yy : Int32}
theorem z_MC.mv (hC : z_MC h n w T Wd f lw e) (hf : z_fr [68, 77, 78, 84, 87, 88] h g) (hk : ∀ k, k = 24 ∨ k = 25 ∨ k = 28 → z_I g 68 k = z_I h 68 k) (A2 : ∀ j, j < 118 → z_A g 84 j = f' j) : z_MC g n w T Wd f' lw e := by
  obtain ⟨c1, ⟨v1, ⟨v2, v3, v4⟩, v5, v6⟩, c3⟩ := hC
  refine ⟨c1.fr hf (by decide), ⟨(hk 24 (by omega)).trans v1, ⟨(hk 25 (by omega)).trans v2, fun j hj => by rw [hf.A (by decide)]; exact v3 j hj, A2⟩, fun j hj => by rw [hf.A (by decide)]; exact v5 j hj, ?_⟩, fun x hx => by rw [hf.A (by decide)]; exact c3 x hx⟩
  match lw, v6 with
  | none, v6 => exact (hk 28 (by omega)).trans v6
  | some cls, ⟨k, k1, k2, k3, k4⟩ => exact ⟨k, k1, (hk 28 (by omega)).trans k2, k3.of (fun a j ha => hf.A (by simp; omega)), k4⟩
theorem e_it_cong (hE : ∀ p, e_go E p = e_go E' p) : ∀ (k : Nat) (p : e_P), e_it E k p = e_it E' k p
  | 0, _ => rfl
  | k + 1, p => by
    show e_it E k (e_go E p) = e_it E' k (e_go E' p)
    rw [hE p]
    exact e_it_cong hE k _
theorem w_k.w59 (hf : z_fr [48, 59] h g) (h12 : z_I g 48 12 = z_I h 48 12) : w_k h g := by
  refine ⟨hf.1, fun j h1 _ h3 _ _ _ _ => hf.2 j (fun z => ?_), fun k _ => hf.I (by decide), hf.I (by decide), hf.I (by decide), fun hT => hT.of h12 (fun j => hf.A (by decide)) (fun k => hf.R (by decide))⟩
  simp only [List.mem_cons, List.not_mem_nil, or_false] at z
  rcases z with z | z
  · exact h3 z
  · subst z; exact h1 (by decide)
theorem z_isFewer2 (hx : X < 65536) (hr : ∀ y, r = some y → y < 65536) : ∃ b, s_Mod_isFewer (nI X) (g_on r (-1)) = some b ∧ (b = true ↔ ∀ y, r = some y → c_pc 16 X < c_pc 16 y) := by
  rw [z_isFewer hx hr]
  match r with
  | none => exact ⟨true, rfl, fun _ y hy => (by cases hy), fun _ => rfl⟩
  | some z => exact ⟨decide (c_pc 16 X < c_pc 16 z), rfl, fun h y hy => (by cases hy; exact of_decide_eq_true h), fun h => decide_eq_true (h z rfl)⟩
/-- putAside -/
theorem z_putAside (hF : 70000 ≤ F) (hS : z_Sh h) : ∃ g', s_Mod_putAside F h (some 68) = some g' ∧ (z_fr [88] h g' ∧ ∀ t, t < 118 → z_A g' 88 t = z_A h 84 t) := by
  have main : ∀ (k i nn : Nat) (g : fw_H), i + k = 118 → k < nn → z_Sh g → z_fr [88] h g → (∀ t, t < i → z_A g 88 t = z_A h 84 t) → ∃ g', l_Mod_putAside_2 (some 68) nn (nI i) g = some g' ∧ (z_fr [88] h g' ∧ ∀ t, t < 118 → z_A g' 88 t = z_A h 84 t) := by
    intro k
    induction k with
    | zero =>
      intro i nn g hi hnn hg hf hA
      obtain ⟨nn, rfl⟩ : ∃ k, nn = k + 1 := ⟨nn - 1, by omega⟩
      obtain rfl : i = 118 := by omega
      exact ⟨g, by rw [l_Mod_putAside_2, if_pos (by decide)], hf, hA⟩
    | succ k ih =>
      intro i nn g hi hnn hg hf hA
      obtain ⟨nn, rfl⟩ : ∃ k, nn = k + 1 := ⟨nn - 1, by omega⟩
      rw [l_Mod_putAside_2, if_neg (show ¬ (118 : Int32) ≤ nI i from nI_ge (b := 118) (by omega) (by decide)), z_r68_40 hg, Option.bind_some, z_r68_26 hg, Option.bind_some, z_a84 hg (by omega), Option.bind_some, z_s88 hg (by omega), Option.bind_some, show nI i + (1 : Int32) = nI (i + 1) from nI_1 i]
      refine ih (i + 1) nn _ (by omega) (by omega) (z_Sh_sA hg) (hf.sA (by simp)) (fun t ht => ?_)
      rw [z_A_sA (z_ckT hg rfl), hf.A (by decide)]
      by_cases e : t = i
      · rw [if_pos e, e]
      · rw [if_neg e]; exact hA t (by omega)
  unfold s_Mod_putAside
  rw [z_c68 hS, Option.bind_some]
  exact main 118 0 F h (by omega) (by omega) hS z_fr.refl (fun t ht => absurd ht (Nat.not_lt_zero _))
/-- takeBack -/
theorem z_takeBack (hF : 70000 ≤ F) (hS : z_Sh h) : ∃ g', s_Mod_takeBack F h (some 68) = some g' ∧ (z_fr [84] h g' ∧ ∀ t, z_A g' 84 t = if t < 118 then z_A h 88 t else z_A h 84 t) := by
  have main : ∀ (k i nn : Nat) (g : fw_H), i + k = 118 → k < nn → z_Sh g → z_fr [84] h g → (∀ t, z_A g 84 t = if t < i then z_A h 88 t else z_A h 84 t) → ∃ g', l_Mod_takeBack_2 (some 68) nn (nI i) g = some g' ∧ (z_fr [84] h g' ∧ ∀ t, z_A g' 84 t = if t < 118 then z_A h 88 t else z_A h 84 t) := by
    intro k
    induction k with
    | zero =>
      intro i nn g hi hnn hg hf hA
      obtain ⟨nn, rfl⟩ : ∃ k, nn = k + 1 := ⟨nn - 1, by omega⟩
      obtain rfl : i = 118 := by omega
      exact ⟨g, by rw [l_Mod_takeBack_2, if_pos (by decide)], hf, hA⟩
    | succ k ih =>
      intro i nn g hi hnn hg hf hA
      obtain ⟨nn, rfl⟩ : ∃ k, nn = k + 1 := ⟨nn - 1, by omega⟩
      rw [l_Mod_takeBack_2, if_neg (show ¬ (118 : Int32) ≤ nI i from nI_ge (b := 118) (by omega) (by decide)), z_r68_26 hg, Option.bind_some, z_r68_40 hg, Option.bind_some, z_a88 hg (by omega), Option.bind_some, z_s84 hg (by omega), Option.bind_some, show nI i + (1 : Int32) = nI (i + 1) from nI_1 i]
      refine ih (i + 1) nn _ (by omega) (by omega) (z_Sh_sA hg) (hf.sA (by simp)) (fun t => ?_)
      rw [z_A_sA (z_ckT hg rfl), hf.A (by decide), hA t]
      by_cases e : t = i
      · rw [if_pos e, if_pos (by omega), e]
      · rw [if_neg e]
        by_cases e2 : t < i
        · rw [if_pos e2, if_pos (by omega)]
        · rw [if_neg e2, if_neg (by omega)]
  unfold s_Mod_takeBack
  rw [z_c68 hS, Option.bind_some]
  exact main 118 0 F h (by omega) (by omega) hS z_fr.refl (fun t => by rw [if_neg (Nat.not_lt_zero _)])
/-- the state is as it was -/
theorem o_mback (hS : z_Sh h) (hf : z_fr [68, 77, 78, 84, 87, 88] h g) (hA : ∀ j, z_A g 84 j = z_A h 84 j) (hI : ∀ k, k = 2 ∨ k = 13 ∨ k = 24 ∨ k = 25 ∨ k = 28 ∨ k = 29 ∨ k = 31 ∨ k = 47 ∨ k = 49 → z_I g 68 k = z_I h 68 k) : w_k h g := by
  have hf2 : z_fr [68, 77, 78, 87, 88] h g := by
    refine ⟨hf.1, fun j hj => ?_⟩
    by_cases hj84 : j = 84
    · subst hj84; exact z_cell_eq (z_ckT hS rfl) (hf.1 84) hA
    · exact hf.2 j (by simp at hj ⊢; exact ⟨hj.1, hj.2.1, hj.2.2.1, hj84, hj.2.2.2⟩)
  refine w_k.mm hf2 (by decide) (fun j hj => ?_) hI
  simp only [List.mem_cons, List.not_mem_nil, or_false] at hj
  rcases hj with rfl | rfl | rfl | rfl | rfl
  · exact .inl rfl
  all_goals exact .inr (by decide)
/-- the backs, gathered -/
theorem z_stand25 (hS : z_Sh h) (h24 : z_I h 68 24 = nI n) (hn : n ≤ 12) (hf : ∀ j, j < 118 → z_A h 84 j = f j) (hB : z_MB f n m) {K : Int32 → Option (Int32 × fw_H)} :
    ∀ (k i nn : Nat), i + k = n → k < nn → l_Mod_stand_25 h (some 68) K nn (nI (m % 2 ^ i)) (nI i) = K (nI (m % 2 ^ n)) := by
  intro k
  induction k with
  | zero =>
    intro i nn hi hnn
    obtain ⟨nn, rfl⟩ : ∃ k, nn = k + 1 := ⟨nn - 1, by omega⟩
    obtain rfl : i = n := by omega
    rw [l_Mod_stand_25, z_i68_24 hS, Option.bind_some, h24, if_pos (nI_le (by omega) (by omega))]
  | succ k ih =>
    intro i nn hi hnn
    obtain ⟨nn, rfl⟩ : ∃ k, nn = k + 1 := ⟨nn - 1, by omega⟩
    have e1 : fw_b (m.testBit i) = nI (if m.testBit i = true then 1 else 0) := by cases m.testBit i <;> rfl
    have e2 : nI (m % 2 ^ i) ||| (fw_b (m.testBit i) <<< (nI i &&& 31)) = nI (m % 2 ^ (i + 1)) := by
      have hp : 2 ^ i < 2 ^ 31 := z_pow (by omega)
      rw [e1, z_shl (by omega) (by split <;> omega), fa_or]
      congr 1
      refine Nat.eq_of_testBit_eq (fun j => ?_)
      rw [Nat.testBit_or, Nat.testBit_mod_two_pow, Nat.testBit_mod_two_pow]
      by_cases hb : m.testBit i = true
      · rw [if_pos hb, Nat.one_mul, Nat.testBit_two_pow]
        by_cases e : i = j
        · subst e; rw [hb]; simp
        · rw [decide_eq_false e, Bool.or_false]
          by_cases h1 : j < i
          · rw [decide_eq_true h1, decide_eq_true (show j < i + 1 by omega)]
          · rw [decide_eq_false h1, decide_eq_false (show ¬ j < i + 1 by omega)]
      · rw [if_neg hb, Nat.zero_mul, Nat.zero_testBit, Bool.or_false]
        by_cases e : i = j
        · subst e; rw [Bool.eq_false_iff.mpr hb]; simp
        · by_cases h1 : j < i
          · rw [decide_eq_true h1, decide_eq_true (show j < i + 1 by omega)]
          · rw [decide_eq_false h1, decide_eq_false (show ¬ j < i + 1 by omega)]
    rw [l_Mod_stand_25, z_i68_24 hS, Option.bind_some, h24, if_neg (nI_ge (by omega) (by omega)), z_r68_26 hS, Option.bind_some, show (12 : Int32) + nI i = nI (12 + i) from nI_add 12 i, z_a84 hS (by omega), Option.bind_some, hf _ (by omega), hB i (by omega), e2, show nI i + (1 : Int32) = nI (i + 1) from nI_1 i]
    exact ih (i + 1) nn (by omega) (by omega)
theorem o_modn (hX : X < 2 ^ n) : X &&& (m % 2 ^ n) = X &&& m := by
  refine Nat.eq_of_testBit_eq (fun j => ?_)
  rw [Nat.testBit_and, Nat.testBit_and, Nat.testBit_mod_two_pow]
  by_cases h1 : j < n
  · rw [decide_eq_true h1, Bool.true_and]
  · have : X.testBit j = false := Nat.testBit_lt_two_pow (Nat.lt_of_lt_of_le hX (z_pole (by omega)))
    rw [this, Bool.false_and, Bool.false_and]
/-- f with these backs -/
def o_fb (n b : Nat) (f : Nat → Int32) : Nat → Int32 := fun j => if 12 ≤ j ∧ j < 12 + n then fw_b (b.testBit (j - 12)) else f j
theorem o_fb_out (hj : j < 12 ∨ 12 + n ≤ j) : o_fb n x f j = f j := if_neg (by omega)
theorem z_stand95 (hn : n ≤ 12) {b1 b2 : Nat} (hb : b1 ||| b2 < 2 ^ 31) {K : fw_H → Option (Int32 × fw_H)} : ∀ (k i nn : Nat) (g : fw_H), i + k = n → k < nn → z_Sh g → z_I g 68 24 = nI n → (∀ t, t < i → z_A g 84 (12 + t) = fw_b ((b1 ||| b2).testBit t)) →
    ∃ g', l_Mod_stand_95 (some 68) (nI b2) (nI b1) K nn (nI i) g = K g' ∧ (z_fr [84] g g' ∧ (∀ t, t < n → z_A g' 84 (12 + t) = fw_b ((b1 ||| b2).testBit t)) ∧ ∀ t, t < 12 ∨ 12 + n ≤ t → z_A g' 84 t = z_A g 84 t) := by
  intro k
  induction k with
  | zero =>
    intro i nn g hi hnn hS h24 hA
    obtain ⟨nn, rfl⟩ : ∃ k, nn = k + 1 := ⟨nn - 1, by omega⟩
    obtain rfl : i = n := by omega
    exact ⟨g, by rw [l_Mod_stand_95, z_i68_24 hS, Option.bind_some, h24, if_pos (nI_le (by omega) (by omega))], z_fr.refl, hA, fun _ _ => rfl⟩
  | succ k ih =>
    intro i nn g hi hnn hS h24 hA
    obtain ⟨nn, rfl⟩ : ∃ k, nn = k + 1 := ⟨nn - 1, by omega⟩
    have e1 : (nI (b1 ||| b2) >>> (nI i &&& 31)) &&& (1 : Int32) = fw_b ((b1 ||| b2).testBit i) := by
      by_cases h : (b1 ||| b2).testBit i = true
      · rw [(z_bit hb (by omega)).mpr h, h]; rfl
      · have h2 := fun z => h ((z_bit (m := b1 ||| b2) (i := i) hb (by omega)).mp z)
        obtain ⟨c, c1, c2⟩ := pk_andE (nI (b1 ||| b2) >>> (nI i &&& 31)) (m := 1) 1 (by decide)
        rw [Bool.eq_false_iff.mpr h, c2]
        rw [c2] at h2
        have : c = 0 := by
          by_cases hc : c = 1
          · exact absurd (by rw [hc]; rfl) h2
          · omega
        rw [this]; rfl
    have f1 : z_fr [84] g (z_sA g 84 (12 + i) (fw_b ((b1 ||| b2).testBit i))) := z_fr.refl.sA (by simp)
    rw [l_Mod_stand_95, z_i68_24 hS, Option.bind_some, h24, if_neg (nI_ge (by omega) (by omega)), z_r68_26 hS, Option.bind_some, fa_or, e1, show (12 : Int32) + nI i = nI (12 + i) from nI_add 12 i, z_s84 hS (by omega), Option.bind_some, show nI i + (1 : Int32) = nI (i + 1) from nI_1 i]
    obtain ⟨g2, d1, d2, d3, d4⟩ := ih (i + 1) nn (z_sA g 84 (12 + i) (fw_b ((b1 ||| b2).testBit i))) (by omega) (by omega) (z_Sh_sA hS) (by rw [f1.I (by decide)]; exact h24) (fun t ht => by
      rw [z_A_sA (z_ckT hS rfl)]
      by_cases e : t = i
      · rw [if_pos (by omega), e]
      · rw [if_neg (by omega)]; exact hA t (by omega))
    refine ⟨g2, d1, f1.trans d2, d3, fun t ht => ?_⟩
    rw [d4 t ht, z_A_sA (z_ckT hS rfl), if_neg (by omega)]
/-- the walk with other backs, one way or the other -/
theorem o_fb_go (hn : n ≤ 12) (hw : w ≤ 16) {X M : Nat} (hM : ∀ x, x < n → M.testBit x = m.testBit x) (p : e_P) : e_go (v_E n w T Wd (o_fb n (X ||| M) f) lw (v_op (o_fb n (X ||| M) f)) e (X ||| M)) p = e_go (v_E n w T Wd f lw (v_op f) e (m ||| X)) p := by
  refine e_go_cong (E := v_E n w T Wd (o_fb n (X ||| M) f) lw (v_op (o_fb n (X ||| M) f)) e (X ||| M)) (E' := v_E n w T Wd f lw (v_op f) e (m ||| X)) rfl ?_ rfl rfl (fun x hx t => ?_) p
  · show v_door w Wd (v_op (o_fb n (X ||| M) f)) = v_door w Wd (v_op f)
    refine funext fun a => funext fun x => v_door_cong fun j hj => ?_
    unfold v_op
    rw [o_fb_out (by omega)]
  · have hx' : x < n := hx
    show v_wish lw T (o_fb n (X ||| M) f) x (fw_b ((X ||| M).testBit x)) t = v_wish lw T f x (fw_b ((m ||| X).testBit x)) t
    have e0 : (X ||| M).testBit x = (m ||| X).testBit x := by rw [Nat.testBit_or, Nat.testBit_or, hM x hx', Bool.or_comm]
    have e1 : o_fb n (X ||| M) f x = f x := o_fb_out (by omega)
    have e2 : o_fb n (X ||| M) f 52 = f 52 := o_fb_out (by omega)
    rw [e0]
    match lw with
    | none => show (if o_fb n (X ||| M) f 52 = 1 then _ else _) = _; rw [e1, e2]; rfl
    | some cls =>
      show q_worth (v_let T (o_fb n (X ||| M) f) x _ t) cls = q_worth (v_let T f x _ t) cls
      have e3 : v_let T (o_fb n (X ||| M) f) x (fw_b ((m ||| X).testBit x)) t = v_let T f x (fw_b ((m ||| X).testBit x)) t := by
        unfold v_let
        rw [e1, e2]
      rw [e3]
/-- the reference's sets -/
theorem z_stand66 (hF : 70000 ≤ F) (hok : v_ok n w Wd) (h0 : 0 < n) (hm : m < 2 ^ 12) (ha : a < 12) (hN : N ≤ 30) (hR : v_R h1 29 n w T Wd f) (hC : z_MC h n w T Wd f lw (2 ^ n - 1)) {K : Int32 → fw_H → Option (Int32 × fw_H)} :
    ∀ (k X nn : Nat) (g : fw_H) (r : Option Nat), X + k = 2 ^ n → k < nn → z_fr [68, 77, 78, 84] h g → (∀ k, k ≠ 32 → k ≠ 33 → k ≠ 34 → z_I g 68 k = z_I h 68 k) → (∀ t, t < 12 ∨ 12 + n ≤ t → z_A g 84 t = z_A h 84 t) → (∀ y, r = some y → y < X) →
      o_is (fun Y => Y < X ∧ Y &&& m = 0 ∧ (e_it (v_E n w T Wd f lw (v_op f) (2 ^ n - 1) (m ||| Y)) N (v_pos f)).1 = a) r →
    ∃ g' r', l_Mod_stand_66 F (some 68) (nI a) (nI N) (nI (m % 2 ^ n)) K nn (g_on r (-1)) (nI X) g = K (g_on r' (-1)) g' ∧ (z_fr [68, 77, 78, 84] h g' ∧ (∀ k, k ≠ 32 → k ≠ 33 → k ≠ 34 → z_I g' 68 k = z_I h 68 k) ∧ (∀ t, t < 12 ∨ 12 + n ≤ t → z_A g' 84 t = z_A h 84 t) ∧
      o_is (fun Y => Y < 2 ^ n ∧ Y &&& m = 0 ∧ (e_it (v_E n w T Wd f lw (v_op f) (2 ^ n - 1) (m ||| Y)) N (v_pos f)).1 = a) r') := by
  have hn12 := hok.1
  have hpow : 2 ^ n ≤ 2 ^ 12 := z_pole hn12
  have hM : m % 2 ^ n < 2 ^ n := Nat.mod_lt _ (Nat.two_pow_pos _)
  have hMb : ∀ x, x < n → (m % 2 ^ n).testBit x = m.testBit x := fun x hx => by rw [Nat.testBit_mod_two_pow, decide_eq_true hx, Bool.true_and]
  intro k
  induction k with
  | zero =>
    intro X nn g r hX hnn hf hI hA hr hq
    obtain ⟨nn, rfl⟩ : ∃ k, nn = k + 1 := ⟨nn - 1, by omega⟩
    have hS := hC.1.fr hf (by decide)
    have h24 : z_I g 68 24 = nI n := (hI 24 (by decide) (by decide) (by decide)).trans hC.2.1.1
    obtain rfl : X = 2 ^ n := by omega
    have hp := Nat.two_pow_pos n
    exact ⟨g, r, by rw [l_Mod_stand_66, z_every hS h24 hn12, Option.bind_some, if_pos (nI_lt (by omega) (by omega))], hf, hI, hA, hq⟩
  | succ k ih =>
    intro X nn g r hX hnn hf hI hA hr hq
    obtain ⟨nn, rfl⟩ : ∃ k, nn = k + 1 := ⟨nn - 1, by omega⟩
    have hS := hC.1.fr hf (by decide)
    have h24 : z_I g 68 24 = nI n := (hI 24 (by decide) (by decide) (by decide)).trans hC.2.1.1
    -- going on with what is the least so far
    have skip : ∀ g, z_fr [68, 77, 78, 84] h g → (∀ k, k ≠ 32 → k ≠ 33 → k ≠ 34 → z_I g 68 k = z_I h 68 k) → (∀ t, t < 12 ∨ 12 + n ≤ t → z_A g 84 t = z_A h 84 t) → (X &&& m = 0 → (e_it (v_E n w T Wd f lw (v_op f) (2 ^ n - 1) (m ||| X)) N (v_pos f)).1 = a → ∃ y, r = some y ∧ ¬ c_lt X y) → ∃ g' r', l_Mod_stand_66 F (some 68) (nI a) (nI N) (nI (m % 2 ^ n)) K nn (g_on r (-1)) (nI (X + 1)) g = K (g_on r' (-1)) g' ∧ (z_fr [68, 77, 78, 84] h g' ∧ (∀ k, k ≠ 32 → k ≠ 33 → k ≠ 34 → z_I g' 68 k = z_I h 68 k) ∧ (∀ t, t < 12 ∨ 12 + n ≤ t → z_A g' 84 t = z_A h 84 t) ∧ o_is (fun Y => Y < 2 ^ n ∧ Y &&& m = 0 ∧ (e_it (v_E n w T Wd f lw (v_op f) (2 ^ n - 1) (m ||| Y)) N (v_pos f)).1 = a) r') := by
      intro g hf hI hA hx
      refine ih (X + 1) nn g r (by omega) (by omega) hf hI hA (fun y hy => by have := hr y hy; omega) ?_
      have h1 := hq.keep (Q' := fun Y => Y = X ∧ X &&& m = 0 ∧ (e_it (v_E n w T Wd f lw (v_op f) (2 ^ n - 1) (m ||| X)) N (v_pos f)).1 = a) (fun Y ⟨e, h2, h3⟩ => by rw [e]; exact hx h2 h3)
      refine h1.cong fun Y => ⟨fun ⟨z1, z2, z3⟩ => ?_, fun z => ?_⟩
      · by_cases e : Y = X
        · subst e; exact .inr ⟨rfl, z2, z3⟩
        · exact .inl ⟨by omega, z2, z3⟩
      · rcases z with ⟨z1, z2, z3⟩ | ⟨rfl, z2, z3⟩
        · exact ⟨by omega, z2, z3⟩
        · exact ⟨by omega, z2, z3⟩
    have hand : nI X &&& nI (m % 2 ^ n) = nI (X &&& m) := by rw [fa_and, o_modn (by omega)]
    have hle : X &&& m ≤ X := Nat.and_le_left
    rw [l_Mod_stand_66, z_every hS h24 hn12, Option.bind_some, if_neg (nI_nlt (by omega) (by omega)), hand, show nI X + (1 : Int32) = nI (X + 1) from nI_1 X]
    by_cases c1 : X &&& m = 0
    · obtain ⟨fw, w1, w2⟩ := z_isFewer2 (X := X) (r := r) (by omega) (fun y hy => by have := hr y hy; omega)
      rw [if_neg (fun z => z (by rw [c1]; rfl)), w1, Option.bind_some]
      by_cases c2 : fw = true
      · have hfew := w2.mp c2
        rw [if_pos c2]
        refine z_k2 (z_stand95 (b1 := X) (b2 := m % 2 ^ n) hn12 (z_orlt (n := 31) (by omega) (by omega)) n 0 F g (by omega) (by omega) hS h24 (fun t ht => absurd ht (Nat.not_lt_zero _))) fun g1 ⟨a2, a3, a4⟩ => ?_
        have f1 : z_fr [68, 77, 78, 84] h g1 := hf.trans (a2.mono (by simp))
        have i1 : ∀ k, k ≠ 32 → k ≠ 33 → k ≠ 34 → z_I g1 68 k = z_I h 68 k := fun k x1 x2 x3 => by rw [a2.I (by decide)]; exact hI k x1 x2 x3
        have A1 : ∀ t, t < 12 ∨ 12 + n ≤ t → z_A g1 84 t = z_A h 84 t := fun t ht => (a4 t ht).trans (hA t ht)
        have C1 : z_MC g1 n w T Wd (o_fb n (X ||| (m % 2 ^ n)) f) lw (2 ^ n - 1) := hC.mv (f1.mono (by simp)) (fun k hk => i1 k (by omega) (by omega) (by omega)) (fun j hj => by
          unfold o_fb
          by_cases e : 12 ≤ j ∧ j < 12 + n
          · rw [if_pos e, show j = 12 + (j - 12) by omega, a3 _ (by omega), Nat.add_sub_cancel_left]
          · rw [if_neg e, A1 j (by omega)]; exact hC.2.1.2.1.2.2 j hj)
        have B1 : z_MB (o_fb n (X ||| (m % 2 ^ n)) f) n (X ||| (m % 2 ^ n)) := fun x hx => by
          unfold o_fb
          rw [if_pos (by omega), Nat.add_sub_cancel_left]
        obtain ⟨g2, b1, b2⟩ := z_behind3 (N := N) hF hok rfl B1 (by omega) C1 hR h0 (o_fb_out (by omega)) (o_fb_out (by omega)) (o_fb_out (by omega))
        rw [e_it_cong (fun p => o_fb_go hn12 hok.2.1 hMb p)] at b1
        have f2 : z_fr [68, 77, 78, 84] h g2 := f1.trans (b2.1.mono (by simp))
        have i2 : ∀ k, k ≠ 32 → k ≠ 33 → k ≠ 34 → z_I g2 68 k = z_I h 68 k := fun k x1 x2 x3 => (b2.2 k x1 x2 x3).trans (i1 k x1 x2 x3)
        have A2 : ∀ t, t < 12 ∨ 12 + n ≤ t → z_A g2 84 t = z_A h 84 t := fun t ht => by rw [b2.1.A (by decide)]; exact A1 t ht
        have hlt : (e_it (v_E n w T Wd f lw (v_op f) (2 ^ n - 1) (m ||| X)) N (v_pos f)).1 < n := (e_it_ok N (v_pos f) (hR.ok (E := v_E n w T Wd f lw (v_op f) (2 ^ n - 1) (m ||| X)) h0 hn12 rfl)).1
        rw [b1, Option.bind_some]
        by_cases c4 : (e_it (v_E n w T Wd f lw (v_op f) (2 ^ n - 1) (m ||| X)) N (v_pos f)).1 = a
        · rw [if_neg (fun z => z (by rw [c4]))]
          refine ih (X + 1) nn g2 (some X) (by omega) (by omega) f2 i2 A2 (fun y hy => by cases hy; omega) ?_
          have h1 := hq.new (Q' := fun Y => Y = X ∧ X &&& m = 0 ∧ (e_it (v_E n w T Wd f lw (v_op f) (2 ^ n - 1) (m ||| X)) N (v_pos f)).1 = a) (y := X) ⟨rfl, c1, c4⟩ (fun z hz => .inl (hfew z hz)) (fun Y ⟨e, _, _⟩ => by rw [e]; unfold c_lt; omega)
          refine h1.cong fun Y => ⟨fun ⟨z1, z2, z3⟩ => ?_, fun z => ?_⟩
          · by_cases e : Y = X
            · subst e; exact .inr ⟨rfl, z2, z3⟩
            · exact .inl ⟨by omega, z2, z3⟩
          · rcases z with ⟨z1, z2, z3⟩ | ⟨rfl, z2, z3⟩
            · exact ⟨by omega, z2, z3⟩
            · exact ⟨by omega, z2, z3⟩
        · rw [if_pos (fun z => c4 ((nI_eq (by omega) (by omega)).mp z))]
          exact skip g2 f2 i2 A2 fun _ z => absurd z c4
      · rw [if_neg c2]
        refine skip g hf hI hA fun _ _ => ?_
        have c3 : ∃ y, r = some y ∧ ¬ c_pc 16 X < c_pc 16 y := Classical.byContradiction fun z => c2 (w2.mpr fun y hy => Classical.byContradiction fun z2 => z ⟨y, hy, z2⟩)
        obtain ⟨y, y1, y2⟩ := c3
        have hy := hr y y1
        refine ⟨y, y1, ?_⟩
        unfold c_lt
        omega
    · rw [if_pos (nI_ne0 (by omega) (by omega))]
      exact skip g hf hI hA fun z => absurd z c1
/-- stand -/
theorem call_stand (hF : 70000 ≤ F) (hR : w_R h) : ∃ v h1 h2, s_Joy_stand F h (some 15) xx yy = some (v, h1) ∧ s_Mod_stand F h1 (some 68) xx yy = some (v, h2) ∧ w_call h h1 h2 := by
  obtain ⟨n, w, T, Wd, f, lw, p, hR⟩ := hR
  have hS := hR.1
  have hok := hR.ok
  have hn12 := hok.1
  have hn := hR.2.1.2.1.1
  have hnm := hR.2.1.2.2.1
  have em : ∀ g, z_Sh g → z_I g 68 24 = nI n → (v_in xx n = false ∨ yy < 1 ∨ (30 : Int32) < yy) → s_Mod_stand F g (some 68) xx yy = some (-1, g) := by
    intro g hg e hc
    unfold s_Mod_stand
    rw [z_c68 hg, Option.bind_some, z_isHouse hg e hn12, Option.bind_some, z_in, Option.bind_some]
    by_cases hx : v_in xx n = true
    · rw [if_pos hx, if_neg (by rw [decide_eq_true_eq]; intro z; rcases hc with hc | hc | hc; rw [hx] at hc; cases hc; exact z.1 hc; exact z.2 hc)]
    · rw [if_neg hx]
  unfold s_Joy_stand
  rw [z_c15 hS, Option.bind_some, z_r15_3 hS, Option.bind_some, z_hasHouse hS (.inr (.inl rfl)) hn, Option.bind_some]
  by_cases hx : v_in xx n = true
  · rw [if_pos hx]
    by_cases y0 : yy < 1
    · rw [if_pos y0]; exact ⟨_, h, h, rfl, em h hS hnm (.inr (.inl y0)), w_call.rr hR⟩
    rw [if_neg y0]
    by_cases y1 : (30 : Int32) < yy
    · rw [if_neg (q_lt_iff.mpr y1)]; exact ⟨_, h, h, rfl, em h hS hnm (.inr (.inr y1)), w_call.rr hR⟩
    rw [if_pos (fa_of_nlt y1)]
    obtain ⟨a, ha, rfl⟩ := v_in_t hx (by omega)
    have y00 : ¬ yy < 0 := fun zz => y0 (by rw [fa_lt] at zz ⊢; have : (0 : Int32).toInt = 0 := rfl; have : (1 : Int32).toInt = 1 := rfl; omega)
    obtain ⟨N, hN, rfl⟩ := v_le_t (N := 30) y00 y1 (by decide)
    have hpos : 0 < n := by omega
    obtain ⟨m, h1, m1, m2, a1, a2, a3, a4, a5, a6, a7, a8, a9, a10⟩ := w_start hF hR hpos
    obtain ⟨P, hP⟩ : ∃ P : o_W, P = (n, (w, (T, (Wd, (f, lw))))) := ⟨_, rfl⟩
    obtain ⟨h2, r, b1, b2, b3, b4, b5⟩ := z_fewestTurns (P := P) (go := a) (N := N) (m := m) (p := v_pos f) hF (by rw [hP]; exact hok) m1 (by omega) hN a3.1 (by rw [hP]; exact a4) (by rw [hP]; exact a9) a8 a10 (by rw [hP]; exact a5.ok (E := v_E n w T Wd f lw (v_op f) (2 ^ n - 1) m) hpos hn12 rfl)
    rw [hP] at b4 b5
    have hk2 : w_k h1 h2 := w_k.w59 b2 b3
    have hR2 := a3.kp hk2
    have S2 := hR2.1
    rw [a1, Option.bind_some, z_r15_13 a3.1, Option.bind_some, b1, Option.bind_some]
    -- the reference
    obtain ⟨h3, c1, c2, c3⟩ := z_putAside hF S2
    have S3 := S2.fr c2 (by decide)
    have MC2 := hR2.MC
    have MC3 : z_MC h3 n w T Wd f lw (2 ^ n - 1) := MC2.of c2 (by decide) (by decide) (fun k _ => c2.I (by decide))
    obtain ⟨g4, r', d1, d2, d3, d4, d5⟩ := z_stand66 (a := a) (N := N) (h := h3) (h1 := h2) (K := fun e153_4 he153 => (s_Mod_takeBack F he153 (some 68)).bind fun h154 => some (e153_4, h154)) hF hok hpos m1 (by omega) hN hR2.2.1.2.1 MC3 (2 ^ n) 0 F h3 none (by omega) (by have := z_pole (n := 12) hn12; omega) z_fr.refl (fun _ _ _ _ => rfl) (fun _ _ => rfl) (fun y hy => by cases hy) (fun X hX => absurd hX.1 (Nat.not_lt_zero _))
    have er : r' = r := d5.uniq b5
    have S4 := S3.fr d2 (by decide)
    obtain ⟨g5, e1, e2, e3⟩ := z_takeBack hF S4
    have F5 : z_fr [68, 77, 78, 84, 87, 88] h2 g5 := ((c2.mono (by simp)).trans (d2.mono (by simp))).trans (e2.mono (by simp))
    have hk5 : w_k h2 g5 := o_mback S2 F5 (fun j => by
      rw [e3 j]
      by_cases hj : j < 118
      · rw [if_pos hj, d2.A (by decide)]; exact c3 j hj
      · rw [if_neg hj, d4 j (by omega), c2.A (by decide)]) (fun k hk => by rw [e2.I (by decide), d3 k (by omega) (by omega) (by omega), c2.I (by decide)])
    refine ⟨g_on r (-1), h2, g5, rfl, ?_, w_call.kk hR (a2.trans hk2) hk5⟩
    have h2x : decide (¬ nI N < 1 ∧ ¬ (30 : Int32) < nI N) = true := decide_eq_true ⟨y0, y1⟩
    unfold s_Mod_stand
    rw [z_c68 S2, Option.bind_some, z_isHouse S2 hR2.2.1.2.2.1 hn12, Option.bind_some, if_pos hx, z_in, Option.bind_some, if_pos h2x]
    have h25 := z_stand25 (m := m) (f := f) (K := fun e56_3 => (s_Mod_putAside F h2 (some 68)).bind fun h60 => l_Mod_stand_66 F (some 68) (nI a) (nI N) e56_3 (fun e153_4 he153 => (s_Mod_takeBack F he153 (some 68)).bind fun h154 => some (e153_4, h154)) F (-1 : Int32) (0 : Int32) h60) S2 hR2.2.1.2.2.1 hn12 MC2.2.1.2.1.2.2 m2 n 0 F (by omega) (by omega)
    rw [Nat.pow_zero, Nat.mod_one] at h25
    refine Eq.trans h25 ?_
    rw [c1, Option.bind_some]
    refine Eq.trans d1 ?_
    rw [e1, Option.bind_some, er]
  · rw [if_neg hx]
    have hx' : v_in xx n = false := Bool.eq_false_iff.mpr hx
    exact ⟨_, h, h, rfl, em h hS hnm (.inl hx'), w_call.rr hR⟩
end RS
