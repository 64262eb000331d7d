-- THE CLASS'S WALK BEGINS (2): all wishes of a house; of all; doors; startWalk
section LY
variable {h g g' : fw_H} {a i j k m e n w p t b F nn s : Nat} {T Wd f : Nat → Int32} {lw : Option (List q_C)} {op : Nat → Bool} {x : Int32} {P : Nat → Bool}
theorem z_law_bt (hL : z_LF h p lw) : ∃ bt, s_Law_isByTime h (some p) = some bt ∧ (bt = false → ∀ i (b : Int32) t, v_wish lw T f i b t = v_wish lw T f i b 0) := by
  obtain ⟨hLW, hp97, bt, hbt, hlw⟩ := hL
  refine ⟨bt, ?_, fun hb i b t => ?_⟩
  · unfold s_Law_isByTime
    rw [z_ckO hLW.1, Option.bind_some, z_gB (z_gI hLW.1 rfl) hbt]
    rfl
  · match lw, hlw with
    | none, hlw => rfl
    | some cls, ⟨h1, h2, h3, h4⟩ => exact v_wish_nt h2 (h4 hb)
/-- Walk.reckonWishes of a house -/
theorem z_wishes (hF : 70000 ≤ F) (hn : n ≤ 12) (hi : i < n) (hW : z_WI h n p T f lw) :
    ∃ h', s_Walk_reckonWishes F h (some 48) (nI i) = some h' ∧ (z_fr [56, 57, p + 2] h h' ∧ (∀ (bk : Bool) t, t < 24 → z_A h' 56 ((2 * i + (if bk = true then 1 else 0)) * 24 + t) = v_wish lw T f i (fw_b bk) t) ∧ ∀ x, x < 48 * i ∨ 48 * i + 48 ≤ x → z_A h' 56 x = z_A h 56 x) := by
  have hS := hW.1
  obtain ⟨bt, t1, t2⟩ := z_law_bt (T := T) (f := f) hW.2.2.2
  have main : ∀ tt : Nat, tt < 2 → (tt = 0 → bt = false) → ∃ h', l_Walk_reckonWishes_25 F (some 48) (nI i) (nI tt) F (nI 0) h = some h' ∧ (z_fr [56, 57, p + 2] h h' ∧ (∀ (bk : Bool) t, t < 24 → z_A h' 56 ((2 * i + (if bk = true then 1 else 0)) * 24 + t) = v_wish lw T f i (fw_b bk) t) ∧ ∀ x, x < 48 * i ∨ 48 * i + 48 ≤ x → z_A h' 56 x = z_A h 56 x) := by
    intro tt htt hbt
    obtain ⟨F', rfl⟩ : ∃ k, F = k + 3 := ⟨F - 3, by omega⟩
    rw [l_Walk_reckonWishes_25, if_neg (by decide)]
    refine z_k (z_wishL (b := 0) hF hn hi (by decide) htt (fun z t => t2 (hbt z) i _ t) hW 24 0 _ 0 h (by omega) (by omega) z_fr.refl (fun z => absurd rfl z) (fun t' h' => absurd h' (Nat.not_lt_zero _)) (fun x _ => rfl)) fun g1 ⟨a1, a2, a3⟩ => ?_
    have hW1 := hW.fr a1
    rw [show nI 0 + (1 : Int32) = nI 1 from rfl]
    rw [l_Walk_reckonWishes_25, if_neg (by decide)]
    refine z_k (z_wishL (b := 1) hF hn hi (by decide) htt (fun z t => t2 (hbt z) i _ t) hW1 24 0 _ 0 g1 (by omega) (by omega) z_fr.refl (fun z => absurd rfl z) (fun t' h' => absurd h' (Nat.not_lt_zero _)) (fun x _ => rfl)) fun g2 ⟨b1, b2, b3⟩ => ?_
    rw [show nI 1 + (1 : Int32) = nI 2 from rfl]
    rw [l_Walk_reckonWishes_25, if_pos (by decide)]
    refine ⟨g2, rfl, a1.trans b1, fun bk t ht => ?_, fun x hx => ?_⟩
    · cases bk
      · have e := a2 t ht
        rw [← b3 _ (by omega)] at e
        exact e
      · exact b2 t ht
    · rw [b3 x (by omega), a3 x (by omega)]
  unfold s_Walk_reckonWishes
  simp only [fw_jn]
  rw [z_c48 hS, Option.bind_some, z_r48_1 hS, Option.bind_some, hW.2.2.1, if_neg (by simp), Option.bind_some, t1, Option.bind_some]
  by_cases hb : bt = true
  · rw [if_pos hb]; exact main 1 (by decide) (fun z => by cases z)
  · rw [if_neg hb]; exact main 0 (by decide) (fun _ => Bool.eq_false_iff.mpr hb)
theorem z_startL (hF : 70000 ≤ F) (hn : n ≤ 12) (hW0 : z_WI h n p T f lw) {K : fw_H → Option fw_H} :
    ∀ (k i nn : Nat) (g : fw_H), i + k = n → k < nn → z_fr [56, 57, p + 2] h g → z_TB g i T f lw →
    ∃ g', l_Walk_start_37 F (some 48) K nn (nI i) g = K g' ∧ (z_fr [56, 57, p + 2] h g' ∧ z_TB g' n T f lw) := by
  intro k
  induction k with
  | zero =>
    intro i nn g hi hnn hf ht
    obtain ⟨nn, rfl⟩ : ∃ k, nn = k + 1 := ⟨nn - 1, by omega⟩
    obtain rfl : i = n := by omega
    have hWg := hW0.fr hf
    refine ⟨g, ?_, hf, ht⟩
    rw [l_Walk_start_37, z_r48_0 hWg.1, Option.bind_some, z_i49_0 hWg.1, Option.bind_some, hWg.2.1.1, if_pos (nI_le (Nat.le_refl _) (by omega))]
  | succ k ih =>
    intro i nn g hi hnn hf ht
    obtain ⟨nn, rfl⟩ : ∃ k, nn = k + 1 := ⟨nn - 1, by omega⟩
    have hWg := hW0.fr hf
    rw [l_Walk_start_37, z_r48_0 hWg.1, Option.bind_some, z_i49_0 hWg.1, Option.bind_some, hWg.2.1.1, if_neg (nI_ge (by omega) (by omega))]
    obtain ⟨g1, a1, a2, a3, a4⟩ := z_wishes hF hn (show i < n by omega) hWg
    rw [a1, Option.bind_some, show nI i + 1 = nI (i + 1) from nI_1 i]
    refine ih (i + 1) nn g1 (by omega) (by omega) (hf.trans a2) (fun x hx bk t htt => ?_)
    by_cases e : x = i
    · subst e; exact a3 bk t htt
    · rw [a4 _ (by split <;> omega)]; exact ht x (by omega) bk t htt
-- doors
theorem z_filter_succ : (List.range (k + 1)).filter P = (List.range k).filter P ++ (if P k = true then [k] else []) := by
  rw [List.range_succ, List.filter_append]
  congr 1
  by_cases hp : P k = true
  · simp [hp]
  · simp [hp]
theorem z_filter_len : ((List.range k).filter P).length ≤ k := by
  have := List.length_filter_le P (List.range k)
  simpa using this
theorem z_openL (hS0 : z_Sh h) (hn : n ≤ 12) (h49 : z_I h 49 0 = nI n) (ha : a < n) (hm : m < 2 ^ 12) (hP : ∀ x, m.testBit x = P x) {K : Int32 → fw_H → Option fw_H} :
    ∀ (k o nn : Nat) (g : fw_H), o + k = n → k < nn → z_fr [54] h g → (∀ j x, ((List.range o).filter P)[j]? = some x → z_A g 54 (12 * a + j) = nI x) → (∀ x, x < 12 * a ∨ 12 * a + 12 ≤ x → z_A g 54 x = z_A h 54 x) →
    ∃ g', l_Walk_openDoors_29 (some 48) (nI a) (nI m) K nn (nI ((List.range o).filter P).length) (nI o) g = K (nI ((List.range n).filter P).length) g' ∧ (z_fr [54] h g' ∧ (∀ j x, ((List.range n).filter P)[j]? = some x → z_A g' 54 (12 * a + j) = nI x) ∧ ∀ x, x < 12 * a ∨ 12 * a + 12 ≤ x → z_A g' 54 x = z_A h 54 x) := by
  intro k
  induction k with
  | zero =>
    intro o nn g ho hnn hf hl hx
    obtain ⟨nn, rfl⟩ : ∃ k, nn = k + 1 := ⟨nn - 1, by omega⟩
    obtain rfl : o = n := by omega
    have hS := hS0.fr hf (by decide)
    refine ⟨g, ?_, hf, hl, hx⟩
    rw [l_Walk_openDoors_29, z_r48_0 hS, Option.bind_some, z_i49_0 hS, Option.bind_some, hf.I (by decide), h49, if_pos (nI_le (Nat.le_refl _) (by omega))]
  | succ k ih =>
    intro o nn g ho hnn hf hl hx
    obtain ⟨nn, rfl⟩ : ∃ k, nn = k + 1 := ⟨nn - 1, by omega⟩
    have hS := hS0.fr hf (by decide)
    have hlen := z_filter_len (k := o) (P := P)
    rw [l_Walk_openDoors_29, z_r48_0 hS, Option.bind_some, z_i49_0 hS, Option.bind_some, hf.I (by decide), h49, if_neg (nI_ge (by omega) (by omega)), z_has (by omega) (by omega), Option.bind_some, hP o]
    by_cases hp : P o = true
    · rw [if_pos hp, z_r48_7 hS, Option.bind_some, show nI a * (12 : Int32) + nI ((List.range o).filter P).length = nI (12 * a + ((List.range o).filter P).length) by rw [show (12 : Int32) = nI 12 from rfl, pk_mul, nI_add, Nat.mul_comm], z_rput (z_ckT hS rfl) (show 12 * a + ((List.range o).filter P).length < 144 by omega) (by decide), Option.bind_some]
      have e1 : ((List.range (o + 1)).filter P).length = ((List.range o).filter P).length + 1 := by rw [z_filter_succ, if_pos hp]; simp
      rw [show nI ((List.range o).filter P).length + 1 = nI ((List.range (o + 1)).filter P).length by rw [e1]; exact nI_1 _, show nI o + 1 = nI (o + 1) from nI_1 o]
      refine ih (o + 1) nn _ (by omega) (by omega) (hf.sA (by simp)) (fun j x e => ?_) (fun x hx' => ?_)
      · rw [z_A_sA (z_ckT hS rfl)]
        rw [z_filter_succ, if_pos hp] at e
        by_cases hj : j < ((List.range o).filter P).length
        · rw [List.getElem?_append_left hj] at e
          rw [if_neg (by omega)]; exact hl j x e
        · rw [List.getElem?_append_right (by omega)] at e
          have hj2 : j - ((List.range o).filter P).length < 1 := (List.getElem?_eq_some_iff.mp e).1
          have hj3 : j = ((List.range o).filter P).length := by omega
          subst hj3
          simp at e
          rw [if_pos rfl, e]
      · rw [z_A_sA (z_ckT hS rfl), if_neg (by omega)]; exact hx x hx'
    · rw [if_neg hp, show nI o + 1 = nI (o + 1) from nI_1 o]
      have e1 : (List.range (o + 1)).filter P = (List.range o).filter P := by rw [z_filter_succ, if_neg hp, List.append_nil]
      have := ih (o + 1) nn g (by omega) (by omega) hf (by rw [e1]; exact hl) hx
      rw [e1] at this
      exact this
theorem v_W.fr {a0 : Nat} {As : List Nat} (hf : z_fr As g g') (h0 : a0 ∉ As) (h3 : a0 + 3 ∉ As) (hW : v_W g a0 w Wd) : v_W g' a0 w Wd := by
  obtain ⟨w1, w2, o, w3, w4, w5⟩ := hW
  exact ⟨by rw [hf.I h0]; exact w1, fun j hj => by rw [hf.A h3, hf.A h3]; exact w2 j hj, o, w3, by rw [hf.I h0]; exact w4, w5⟩
theorem z_openO (hF : 70000 ≤ F) (hS0 : z_Sh h) (hok : v_ok n w Wd) (hW : v_W h 49 w Wd) (h49 : z_I h 49 0 = nI n) (hs : s < 2 ^ 16) :
    ∀ (k a nn : Nat) (g : fw_H), a + k = n → k < nn → z_fr [54, 55] h g → (∀ a', a' < a → ∀ j x, ((List.range n).filter (v_door w Wd (fun j => !s.testBit j) a'))[j]? = some x → z_A g 54 (12 * a' + j) = nI x) → (∀ a', a' < a → z_A g 55 a' = nI ((List.range n).filter (v_door w Wd (fun j => !s.testBit j) a')).length) →
    ∃ g', l_Walk_openDoors_2 F (some 48) (nI s) nn (nI a) g = some g' ∧ (z_fr [54, 55] h g' ∧ z_DR g' n w Wd (fun j => !s.testBit j)) := by
  intro k
  induction k with
  | zero =>
    intro a nn g hi hnn hf h1 h2
    obtain ⟨nn, rfl⟩ : ∃ k, nn = k + 1 := ⟨nn - 1, by omega⟩
    obtain rfl : a = n := by omega
    have hS := hS0.fr hf (by decide)
    have hn12 := hok.1
    refine ⟨g, ?_, hf, fun a' ha' => ⟨h2 a' ha', h1 a' ha'⟩⟩
    rw [l_Walk_openDoors_2, z_r48_0 hS, Option.bind_some, z_i49_0 hS, Option.bind_some, hf.I (by decide), h49, if_pos (nI_le (Nat.le_refl _) (by omega))]
  | succ k ih =>
    intro a nn g hi hnn hf h1 h2
    obtain ⟨nn, rfl⟩ : ∃ k, nn = k + 1 := ⟨nn - 1, by omega⟩
    have hS := hS0.fr hf (by decide)
    have hn12 := hok.1
    obtain ⟨m, m1, m2, m3⟩ := z_watchers hF hS (.inr (.inr (.inr rfl))) hok (hW.fr hf (by decide) (by decide)) (show a < 12 by omega) hs
    rw [l_Walk_openDoors_2, z_r48_0 hS, Option.bind_some, z_i49_0 hS, Option.bind_some, hf.I (by decide), h49, if_neg (nI_ge (by omega) (by omega)), Option.bind_some, m1, Option.bind_some]
    refine z_k (z_openL (P := v_door w Wd (fun j => !s.testBit j) a) hS hn12 (by rw [hf.I (by decide)]; exact h49) (show a < n by omega) m2 m3 n 0 F g (by omega) (by omega) z_fr.refl (fun j x e => by simp at e) (fun x _ => rfl)) fun g1 ⟨a1, a2, a3⟩ => ?_
    have S1 := hS.fr a1 (by decide)
    have hlen := z_filter_len (k := n) (P := v_door w Wd (fun j => !s.testBit j) a)
    rw [z_r48_8 S1, Option.bind_some, z_rput (z_ckT S1 rfl) (show a < 12 by omega) (by decide), Option.bind_some, show nI a + 1 = nI (a + 1) from nI_1 a]
    refine ih (a + 1) nn _ (by omega) (by omega) ((hf.trans (a1.mono (by simp))).sA (by simp)) (fun a' ha' j x e => ?_) (fun a' ha' => ?_)
    · rw [z_A_sA_ne (by decide)]
      by_cases e2 : a' = a
      · subst e2; exact a2 j x e
      · have hl2 := z_filter_len (k := n) (P := v_door w Wd (fun j => !s.testBit j) a')
        have hj := (List.getElem?_eq_some_iff.mp e).1
        rw [a3 _ (by omega)]; exact h1 a' (by omega) j x e
    · rw [z_A_sA (z_ckT S1 rfl)]
      by_cases e2 : a' = a
      · subst e2; rw [if_pos rfl]
      · rw [if_neg e2, a1.A (by decide)]; exact h2 a' (by omega)
end LY
