-- THE ITEMS of a clause of a village: the class's, the reference's
/-- f: how many letters may come yet; th: the letters that were; V: what the items are so far -/
def k_its (B : Nat → Nat) (l j : Nat) : Nat → Nat → Nat → (Nat → Nat) → k_r (Nat → Nat)
  | 0, _, p, V => .inr (V, p)
  | f + 1, th, p, V => match k_it j (k_b B l (k_n B l p)) with
    | none => .inr (V, k_n B l p)
    | some k => if th.testBit k = true then .inl (k_n B l p) else match k_nu B l 2 (k_mx j k) (k_n B l (k_n B l p + 1)) with
      | .inl q => .inl q
      | .inr (v, p') => k_its B l j f (th ||| 2 ^ k) p' (fun x => if x = k then v else V x)
section IS
variable {g g' g'' h m : fw_H} {B : Nat → Nat} {l p q d D v mo i j k nn F c n f th o ar : Nat} {x y : Int32} {As : List Nat} {V : Nat → Nat}
theorem k_nu_ok (h : k_nu B l (D + 1) mo p = .inr (v, q)) : v ≤ mo ∧ p < q ∧ q ≤ l := by
  unfold k_nu at h
  by_cases e : k_d B l p = true
  · rw [if_pos e] at h
    have h1 := k_dg_1 (B := B) (l := l) (D := D + 1) (v := 0) (by omega) e
    have h2 := k_dg_le (B := B) (l := l) (D + 1) 0 p (by have := k_d_t e; omega)
    by_cases e2 : k_d B l (k_dg B l (D + 1) 0 p).2 = true
    · rw [if_pos e2] at h; cases h
    · rw [if_neg e2] at h
      by_cases e3 : mo < (k_dg B l (D + 1) 0 p).1
      · rw [if_pos e3] at h; cases h
      · rw [if_neg e3] at h
        have e4 : k_dg B l (D + 1) 0 p = (v, q) := Sum.inr.inj h
        rw [e4] at h1 h2 e3
        exact ⟨by simpa using e3, h1, h2.2⟩
  · rw [if_neg e] at h; cases h
theorem k_it_b (hj : j < 3) (hBB : ∀ i, i < l → 1 ≤ B i ∧ B i < 256) (e : k_it j (k_b B l q) = some k) : q < l ∧ k_b B l q = B q ∧ k < k_m j := by
  have h0 : k_b B l q ≠ 0 := fun z => by rw [z, k_it_0 j (by omega)] at e; cases e
  have hlt := k_b_lt h0
  have hb : k_b B l q = B q := if_pos hlt
  exact ⟨hlt, hb, k_it_lt j hj _ (by rw [hb]; exact (hBB q hlt).2) k e⟩
theorem k_its_ok (hj : j < 3) (hBB : ∀ i, i < l → 1 ≤ B i ∧ B i < 256) : ∀ (f th p : Nat) (V : Nat → Nat), p ≤ l → (∀ k, k < k_m j → V k ≤ k_mx j k) → ∀ (V' : Nat → Nat) (p' : Nat), k_its B l j f th p V = .inr (V', p') → (p ≤ p' ∧ p' ≤ l) ∧ ∀ k, k < k_m j → V' k ≤ k_mx j k
  | 0, th, p, V, hp, hV, V', p', h => by
    cases h
    exact ⟨⟨Nat.le_refl _, hp⟩, hV⟩
  | f + 1, th, p, V, hp, hV, V', p', h => by
    unfold k_its at h
    have hle := k_n_le (B := B) hp
    match e : k_it j (k_b B l (k_n B l p)) with
    | none =>
      rw [e] at h
      cases h
      exact ⟨⟨by omega, by omega⟩, hV⟩
    | some k =>
      rw [e] at h
      obtain ⟨hlt, -, hk⟩ := k_it_b hj hBB e
      by_cases et : th.testBit k = true
      · simp only [if_pos et] at h; cases h
      · simp only [if_neg et] at h
        match en : k_nu B l 2 (k_mx j k) (k_n B l (k_n B l p + 1)) with
        | .inl q => rw [en] at h; cases h
        | .inr (v, q) =>
          rw [en] at h
          obtain ⟨n1, n2, n3⟩ := k_nu_ok (D := 1) en
          have hle2 := k_n_le (B := B) (l := l) (p := k_n B l p + 1) (by omega)
          have ih := k_its_ok hj hBB f (th ||| 2 ^ k) q (fun x => if x = k then v else V x) n3 (fun x hx => by
            by_cases ex : x = k
            · simp only [if_pos ex]; rw [ex]; exact n1
            · simp only [if_neg ex]; exact hV x hx) V' p' h
          exact ⟨⟨by omega, ih.1.2⟩, ih.2⟩
theorem k_jn1 {α : Type} {K : Int32 → α} {E : (Int32 → α) → α} : fw_jn K E = E K := rfl
theorem k_pc : ∀ j, j < 3 → (∀ th, th < 2 ^ k_m j → c_pc 6 th ≤ k_m j) ∧ k_m j ≤ 6 := by decide +kernel
theorem k_pc1 : ∀ th, th < 64 → ∀ k, k < 6 → th.testBit k = false → c_pc 6 (th ||| 2 ^ k) = c_pc 6 th + 1 := by decide +kernel
/-- the class's loop -/
theorem z_citL (hF : 70000 ≤ F) (hj : j < 3) {K : fw_H → Option fw_H} (hK : ∀ g p, k_ok g B l p → ∃ g', K g = some g' ∧ (z_fr [16] g g' ∧ k_no g' B l p)) :
    ∀ (f th i p nn : Nat) (g : fw_H) (V : Nat → Nat), i = c_pc 6 th → i + f = k_m j + 1 → th < 2 ^ k_m j → f < nn → k_ok g B l p → (∀ k, k < k_m j → z_A g 24 k = nI (V k)) →
    ∃ g', l_VText_items_21 F (some 18) (some (j + 7)) (some (j + 1)) K nn (nI th) (nI i) g = some g' ∧ (z_fr [16, 24] g g' ∧ match k_its B l j f th p V with
      | .inl q => k_no g' B l q
      | .inr (V', p') => k_ok g' B l p' ∧ ∀ k, k < k_m j → z_A g' 24 k = nI (V' k)) := by
  intro f
  obtain ⟨hpc, hm6⟩ := k_pc j hj
  induction f with
  | zero =>
    intro th i p nn g V hi hf hth
    have := hpc th hth
    omega
  | succ f ih =>
    intro th i p nn g V hi hf hth hnn hk hV
    obtain ⟨nn, rfl⟩ : ∃ k, nn = k + 1 := ⟨nn - 1, by omega⟩
    have hS := hk.1.1
    have hl := hk.1.2.1
    have hBB := hk.1.2.2.2.1
    have hle := k_n_le (B := B) hk.2.1
    obtain ⟨g1, a1, a2, a3⟩ := z_peek hF hk
    obtain ⟨r, hr⟩ : ∃ r, r = k_n B l p := ⟨_, rfl⟩
    rw [← hr] at a1 a3 hle
    have S1 := a3.1.1
    unfold k_its
    rw [← hr, l_VText_items_21, z_jlen hS (by omega), Option.bind_some, if_neg (nI_nlt (by omega) (by omega)), z_r18_0 hS, Option.bind_some, a1, Option.bind_some]
    have hidx : ∀ J : Int32 → Option fw_H, (if ¬ k_g B l r = (-1 : Int32) then ((s_Jdk_indexOf1 F g1 (some (j + 7)) (fw_i2c (k_g B l r))).bind fun x53 => J x53) else J (-1 : Int32)) = J (g_on (k_it j (k_b B l r)) (-1)) := by
      intro J
      by_cases e : k_b B l r = 0
      · rw [if_neg (fun z => z ((k_g_end hBB).mpr e)), e, k_it_0 j (by omega)]
        rfl
      · have hlt := k_b_lt e
        have eb : k_b B l r = B r := if_pos hlt
        have eg : k_g B l r = nI (B r) := if_pos hlt
        rw [if_pos (fun z => e ((k_g_end hBB).mp z)), eg, eb, z_indexOf hF S1 (by omega) (hBB r hlt).2, Option.bind_some]
    rw [k_jn1, hidx]
    match e : k_it j (k_b B l r) with
    | none =>
      refine ⟨g1, if_neg (by decide), a2.mono (by simp), a3, fun k hk' => ?_⟩
      rw [a2.A (by decide)]
      exact hV k hk'
    | some k =>
      obtain ⟨hlt, hbr, hkm⟩ := k_it_b hj hBB e
      obtain ⟨t1, t2, t3, t4, t5⟩ := k_tabs j hj
      have hth31 : th < 2 ^ 31 := Nat.lt_of_lt_of_le hth (Nat.pow_le_pow_right (by decide) (by omega))
      have eon : g_on (some k) (-1) = nI k := rfl
      rw [eon, if_pos (show (0 : Int32) ≤ nI k from nI_le (a := 0) (by omega) (by omega)), z_has hth31 (by omega), Option.bind_some]
      by_cases et : th.testBit k = true
      · rw [if_pos et]
        simp only [if_pos et]
        obtain ⟨g2, b1, b2, b3⟩ := hK g1 r a3
        exact ⟨g2, b1, (a2.trans b2).mono (by simp), b3⟩
      · rw [if_neg et]
        simp only [if_neg et]
        obtain ⟨g2, b1, b2, b3⟩ := z_skip a3 hlt
        have S2 := b3.1.1
        obtain ⟨u1, -, u3, -⟩ := t5 k hkm
        have egt : s_Rows_get g2 (some (j + 1)) (nI k) = some (nI (k_mx j k)) := by
          rw [z_xget S2 (by omega) (by omega) (by omega), u1]
        rw [z_r18_0 S1, Option.bind_some, b1, Option.bind_some, z_r18_2 S2, Option.bind_some, z_r18_0 S2, Option.bind_some, egt, Option.bind_some]
        obtain ⟨g3, w, c1, c2, c3⟩ := z_cnum (D := 2) (mo := k_mx j k) hF (by omega) (by omega) (by omega) b3
        have S3 : z_Sh g3 := S2.fr c2 (by decide)
        have f3 : z_fr [16] g g3 := (a2.trans b2).trans c2
        rw [show (2 : Int32) = nI 2 from rfl, c1, Option.bind_some]
        have hput : s_Rows_put g3 (some 24) (nI k) w = some (z_sA g3 24 k w) := by
          unfold s_Rows_put
          rw [if_neg (by simp), if_neg (nI_pos (by omega)), z_l24 S3, Option.bind_some, if_neg (nI_ge (by omega) (by decide)), z_s24 S3 (by omega)]
          rfl
        show ∃ g', ((s_Rows_put g3 (some 24) (nI k) w).bind fun h118 => _) = some g' ∧ _
        rw [hput, Option.bind_some, z_sh1 (by omega), nI_1, fa_or]
        have f4 : z_fr [16, 24] g (z_sA g3 24 k w) := (f3.mono (by simp)).trans (z_fr.refl.sA (by simp))
        match en : k_nu B l 2 (k_mx j k) (k_n B l (r + 1)) with
        | .inl q =>
          rw [en] at c3
          have kn : k_no (z_sA g3 24 k w) B l q := c3.fr (As := [24]) (z_fr.refl.sA (by simp)) (by decide) (by decide) (by decide)
          obtain ⟨nn, rfl⟩ : ∃ k, nn = k + 1 := ⟨nn - 1, by omega⟩
          refine ⟨z_sA g3 24 k w, ?_, f4, kn⟩
          have hi1 : i ≤ k_m j := by rw [hi]; exact hpc th hth
          rw [l_VText_items_21, z_jlen kn.1.1 (by omega), Option.bind_some]
          by_cases eb : nI (k_m j) < nI (i + 1)
          · rw [if_pos eb]
          · rw [if_neg eb, z_r18_0 kn.1.1, Option.bind_some, z_peekN kn, Option.bind_some, k_jn1]
            rfl
        | .inr (v, q) =>
          rw [en] at c3
          obtain ⟨rfl, c3⟩ := c3
          have hnot : th.testBit k = false := by simpa using et
          refine z_k (ih (th ||| 2 ^ k) (i + 1) q nn (z_sA g3 24 k (nI v)) (fun x => if x = k then v else V x) ?_ (by omega) (Nat.or_lt_two_pow hth (Nat.pow_lt_pow_right (by decide) hkm)) (by omega) (c3.fr (As := [24]) (z_fr.refl.sA (by simp)) (by decide) (by decide) (by decide)) (fun x hx => ?_)) (fun g5 d => ⟨g5, rfl, f4.trans d.1, d.2⟩)
          · rw [k_pc1 th (Nat.lt_of_lt_of_le hth (show 2 ^ k_m j ≤ 2 ^ 6 from Nat.pow_le_pow_right (by decide) hm6)) k (by omega) hnot, hi]
          · rw [z_A_sA (z_ckT S3 rfl)]
            by_cases ex : x = k
            · rw [if_pos ex, if_pos ex]
            · rw [if_neg ex, if_neg ex, f3.A (by decide)]
              exact hV x hx
end IS
