-- THE ITEMS (2)
section I2
variable {g g' g'' h m : fw_H} {B : Nat → Nat} {l p q d D v mo i j k nn F c n f th o ar off : Nat} {x y : Int32} {As : List Nat} {V : Nat → Nat}
theorem z_citems (hF : 70000 ≤ F) (hj : j < 3) (hk : k_ok g B l p) (hp : p < l) : ∃ g', s_VText_items F g (some 18) (some (j + 7)) (some (j + 1)) (some (j + 4)) = some g' ∧ (z_fr [16, 24] g g' ∧ match k_its B l j (k_m j + 1) 0 (p + 1) (k_us j) with
      | .inl q => k_no g' B l q
      | .inr (V', p') => k_ok g' B l p' ∧ ∀ k, k < k_m j → z_A g' 24 k = nI (V' k)) := by
  obtain ⟨hpc, hm6⟩ := k_pc j hj
  have hS := hk.1.1
  unfold s_VText_items
  obtain ⟨g1, a1, a2, a3⟩ := z_skip hk hp
  obtain ⟨g2, b1, b2, b3⟩ := z_xcopy hF a3.1.1 hj
  rw [z_c18 hS, Option.bind_some, z_r18_0 hS, Option.bind_some, a1, Option.bind_some, z_r18_2 a3.1.1, Option.bind_some, b1, Option.bind_some]
  have h2 : k_ok g2 B l (p + 1) := a3.fr b2 (by decide) (by decide) (by decide)
  refine z_k (z_citL hF hj (fun g p hk => ?_) (k_m j + 1) 0 0 (p + 1) F g2 (k_us j) rfl (by omega) (Nat.two_pow_pos _) (by omega) h2 b3) (fun g3 c => ⟨g3, rfl, ((a2.mono (by simp)).trans (b2.mono (by simp))).trans c.1, c.2⟩)
  obtain ⟨g', c1, c2⟩ := z_fail hk
  exact ⟨g', by rw [z_r18_0 hk.1.1, Option.bind_some, c1, Option.bind_some], c2⟩
theorem z_itemOf (hj : j < 3) (hBB : ∀ i, i < l → 1 ≤ B i ∧ B i < 256) : s_Mod_itemOf (nI (k_s1 j)) (k_g B l q) = some (g_on (k_it j (k_b B l q)) (-1)) := by
  obtain ⟨t1, t2, t3⟩ := k_mtab j hj
  unfold k_g k_b
  by_cases e : q < l
  · rw [if_pos e, if_pos e]
    exact t1 _ (hBB q e).2
  · rw [if_neg e, if_neg e, k_it_0 j (by omega)]
    exact t2
/-- the reference: what the items are without -/
theorem z_mit3L (hj : j < 3) (ea : z_ka ar = some (1, (n, []))) (hoff : off + k_m j ≤ n) (hn : n ≤ 100) (har : 15 ≤ ar) {K : fw_H → Option fw_H} : ∀ (d i nn : Nat) (g : fw_H), i + d = k_m j → d < nn → z_Sh g → (∀ k, k < i → z_A g ar (off + k) = nI (k_us j k)) →
    ∃ g', l_Mod_items_3 (nI (k_s1 j)) (some ar) (nI off) (nI (k_m j)) K nn (nI i) g = K g' ∧ (z_fr [ar] g g' ∧ (∀ x, (x < off ∨ off + k_m j ≤ x) → z_A g' ar x = z_A g ar x) ∧ ∀ k, k < k_m j → z_A g' ar (off + k) = nI (k_us j k)) := by
  obtain ⟨hpc, hm6⟩ := k_pc j hj
  obtain ⟨t1, t2, t3⟩ := k_mtab j hj
  intro d
  induction d with
  | zero =>
    intro i nn g hi hnn hS hA
    obtain ⟨nn, rfl⟩ : ∃ k, nn = k + 1 := ⟨nn - 1, by omega⟩
    exact ⟨g, by rw [l_Mod_items_3, if_pos (nI_le (by omega) (by omega))], z_fr.refl, fun _ _ => rfl, fun k hk => hA k (by omega)⟩
  | succ d ih =>
    intro i nn g hi hnn hS hA
    obtain ⟨nn, rfl⟩ : ∃ k, nn = k + 1 := ⟨nn - 1, by omega⟩
    have ck := z_ckT hS ea
    rw [l_Mod_items_3, if_neg (nI_ge (by omega) (by omega)), (t3 i (by omega)).2, Option.bind_some, nI_add, z_sIx ck (by omega) (by omega), Option.bind_some, nI_1]
    refine z_k (ih (i + 1) nn _ (by omega) (by omega) (hS.fr (As := [ar]) (z_fr.refl.sA (by simp)) (by simpa using har)) (fun k hk => ?_)) (fun g2 b => ⟨g2, rfl, (z_fr.refl.sA (by simp)).trans b.1, fun x hx => (b.2.1 x hx).trans ?_, b.2.2⟩)
    · rw [z_A_sA ck]
      by_cases e : k = i
      · rw [if_pos (by omega), e]
      · rw [if_neg (by omega)]; exact hA k (by omega)
    · rw [z_A_sA ck, if_neg (by omega)]
/-- the reference: the letters -/
theorem z_mitL (hF : 70000 ≤ F) (hj : j < 3) (ea : z_ka ar = some (1, (n, []))) (hoff : off + k_m j ≤ n) (hn : n ≤ 100) (har : 15 ≤ ar) (h69 : 69 ≠ ar) (h68 : 68 ≠ ar) :
    ∀ (f th p nn : Nat) (g : fw_H) (V : Nat → Nat), c_pc 6 th + f = k_m j + 1 → th < 2 ^ k_m j → f < nn → p ≤ l → k_mo g B l (k_n B l p) → (∀ k, k < k_m j → z_A g ar (off + k) = nI (V k)) →
    ∃ g', l_Mod_items_41 F (some 68) (nI (k_s1 j)) (some ar) (nI off) nn (nI th) (g_on (k_it j (k_b B l (k_n B l p))) (-1)) g = some g' ∧ (z_fr [68, ar] g g' ∧ (∀ k, k ≠ 3 → k ≠ 4 → z_I g' 68 k = z_I g 68 k) ∧ (∀ x, (x < off ∨ off + k_m j ≤ x) → z_A g' ar x = z_A g ar x) ∧ match k_its B l j f th p V with
      | .inl q => k_mn g' B l q ∨ (k_mo g' B l q ∧ ∃ k, k_it j (k_b B l q) = some k)
      | .inr (V', p') => k_mo g' B l p' ∧ ∀ k, k < k_m j → z_A g' ar (off + k) = nI (V' k)) := by
  intro f
  obtain ⟨hpc, hm6⟩ := k_pc j hj
  obtain ⟨t1, t2, t3⟩ := k_mtab j hj
  obtain ⟨-, -, -, -, t5⟩ := k_tabs j hj
  induction f with
  | zero =>
    intro th p nn g V hf hth
    have := hpc th hth
    omega
  | succ f ih =>
    intro th p nn g V hf hth hnn hpl hk hV
    obtain ⟨nn, rfl⟩ : ∃ k, nn = k + 1 := ⟨nn - 1, by omega⟩
    have hS := hk.1.1
    have hl := hk.1.2.1
    have hBB := hk.1.2.2.2.1
    obtain ⟨r, hr⟩ : ∃ r, r = k_n B l p := ⟨_, rfl⟩
    unfold k_its
    rw [← hr] at hk ⊢
    have hle := hk.2.1
    rw [l_Mod_items_41, z_i68_4 hS, Option.bind_some, hk.2.2.2, if_neg (fun z => z rfl)]
    match e : k_it j (k_b B l r) with
    | none =>
      rw [if_pos (show g_on none (-1) = (-1 : Int32) from rfl)]
      exact ⟨g, rfl, z_fr.refl, fun _ _ _ => rfl, fun _ _ => rfl, hk, hV⟩
    | some k =>
      obtain ⟨hlt, hbr, hkm⟩ := k_it_b hj hBB e
      have hth31 : th < 2 ^ 31 := Nat.lt_of_lt_of_le hth (Nat.pow_le_pow_right (by decide) (by omega))
      have eon : g_on (some k) (-1) = nI k := rfl
      rw [eon, if_neg (nI_ne_m1 (by omega)), z_mhas hth31 (by omega), Option.bind_some]
      by_cases et : th.testBit k = true
      · rw [if_pos et]
        simp only [if_pos et]
        exact ⟨g, rfl, z_fr.refl, fun _ _ _ => rfl, fun _ _ => rfl, .inr ⟨hk, k, e⟩⟩
      · rw [if_neg et]
        simp only [if_neg et]
        have h1 := hk.to (q := r + 1) (by omega)
        rw [z_i68_3 hS, Option.bind_some, hk.2.2.1, nI_1, z_w68_3 hS, Option.bind_some, (t3 k hkm).1, Option.bind_some]
        obtain ⟨g2, w, b1, b2, b3⟩ := z_mnum (mo := k_mx j k) hF (by have := (t5 k hkm).2.2.1; omega) h1
        have f1 : z_fr [68] g g2 := (z_fr.refl.sI (by simp)).trans b2.1
        have i1 : ∀ k, k ≠ 3 → k ≠ 4 → z_I g2 68 k = z_I g 68 k := fun k a b => (b2.2 k a b).trans (z_I_sI_nk a)
        have S2 : z_Sh g2 := hS.fr f1 (by decide)
        have ck := z_ckT S2 ea
        have f3 : z_fr [68, ar] g (z_sA g2 ar (off + k) w) := (f1.mono (by simp)).trans (z_fr.refl.sA (by simp))
        have f4 : z_fr [ar] g2 (z_sA g2 ar (off + k) w) := z_fr.refl.sA (by simp)
        have i3 : ∀ k', k' ≠ 3 → k' ≠ 4 → z_I (z_sA g2 ar (off + k) w) 68 k' = z_I g 68 k' := fun k' a b => (z_I_sA).trans (i1 k' a b)
        have a3 : ∀ x, (x < off ∨ off + k_m j ≤ x) → z_A (z_sA g2 ar (off + k) w) ar x = z_A g ar x := fun x hx => by
          rw [z_A_sA ck, if_neg (by omega), f1.A (by simpa using h68.symm)]
        have S3 : z_Sh (z_sA g2 ar (off + k) w) := z_Sh_sA S2
        rw [b1, Option.bind_some]
        show ∃ g', ((f_sI g2 (some ar) (nI off + nI k) w).bind fun h99 => _) = some g' ∧ _
        rw [nI_add, z_sIx ck (by omega) (by omega), Option.bind_some, z_i68_4 S3, Option.bind_some, z_sh1 (by omega), fa_or]
        match en : k_nu B l 2 (k_mx j k) (k_n B l (r + 1)) with
        | .inl q =>
          rw [en] at b3
          have kn : k_mn (z_sA g2 ar (off + k) w) B l q := b3.fr f4 (by simpa using h69) (by simpa using har) (fun _ _ => z_I_sA)
          obtain ⟨nn, rfl⟩ : ∃ k, nn = k + 1 := ⟨nn - 1, by omega⟩
          rw [if_pos kn.ne, l_Mod_items_41, z_i68_4 S3, Option.bind_some, if_pos kn.ne]
          exact ⟨_, rfl, f3, i3, a3, .inl kn⟩
        | .inr (v, q) =>
          rw [en] at b3
          obtain ⟨rfl, b3⟩ := b3
          have ko : k_mo (z_sA g2 ar (off + k) (nI v)) B l q := b3.fr f4 (by simpa using h69) (by simpa using har) (fun _ _ => z_I_sA)
          obtain ⟨g4, c1, c2, c3⟩ := z_look hF ko
          have hnot : th.testBit k = false := by simpa using et
          rw [if_neg (fun z => z ko.2.2.2), c1, Option.bind_some]
          show ∃ g', ((s_Mod_itemOf (nI (k_s1 j)) (k_g B l (k_n B l q))).bind fun x113 => _) = some g' ∧ _
          rw [z_itemOf hj hBB, Option.bind_some]
          refine z_k (ih (th ||| 2 ^ k) q nn g4 (fun x => if x = k then v else V x) ?_ (Nat.or_lt_two_pow hth (Nat.pow_lt_pow_right (by decide) hkm)) (by omega) ko.2.1 c3 (fun x hx => ?_)) (fun g5 d => ⟨g5, rfl, (f3.trans (c2.1.mono (by simp))).trans d.1, fun k' a b => (d.2.1 k' a b).trans ((c2.2 k' a).trans (i3 k' a b)), fun x hx => (d.2.2.1 x hx).trans ((c2.1.A (by simpa using h68.symm)).trans (a3 x hx)), d.2.2.2⟩)
          · rw [k_pc1 th (Nat.lt_of_lt_of_le hth (show 2 ^ k_m j ≤ 2 ^ 6 from Nat.pow_le_pow_right (by decide) hm6)) k (by omega) hnot]
            omega
          · rw [c2.1.A (by simpa using h68.symm), z_A_sA ck]
            by_cases ex : x = k
            · rw [if_pos (by omega), if_pos ex]
            · rw [if_neg (by omega), if_neg ex, f1.A (by simpa using h68.symm)]
              exact hV x hx
theorem z_mitems (hF : 70000 ≤ F) (hj : j < 3) (ea : z_ka ar = some (1, (n, []))) (hoff : off + k_m j ≤ n) (hn : n ≤ 100) (har : 15 ≤ ar) (h69 : 69 ≠ ar) (h68 : 68 ≠ ar) (hk : k_mo g B l p) :
    ∃ g', s_Mod_items F g (some 68) (nI (k_s1 j)) (some ar) (nI off) (nI (k_m j)) = some g' ∧ (z_fr [68, ar] g g' ∧ (∀ k, k ≠ 3 → k ≠ 4 → z_I g' 68 k = z_I g 68 k) ∧ (∀ x, (x < off ∨ off + k_m j ≤ x) → z_A g' ar x = z_A g ar x) ∧ match k_its B l j (k_m j + 1) 0 p (k_us j) with
      | .inl q => k_mn g' B l q ∨ (k_mo g' B l q ∧ ∃ k, k_it j (k_b B l q) = some k)
      | .inr (V', p') => k_mo g' B l p' ∧ ∀ k, k < k_m j → z_A g' ar (off + k) = nI (V' k)) := by
  obtain ⟨hpc, hm6⟩ := k_pc j hj
  unfold s_Mod_items
  rw [z_c68 hk.1.1, Option.bind_some]
  refine z_k (z_mit3L hj ea hoff hn har (k_m j) 0 F g (by omega) (by omega) hk.1.1 (fun k hk => absurd hk (Nat.not_lt_zero _))) (fun g1 a => ?_)
  obtain ⟨a1, a2, a3⟩ := a
  have k1 : k_mo g1 B l p := hk.fr a1 (by simpa using h69) (by simpa using har) (fun _ _ => a1.I (by simpa using h68))
  obtain ⟨g2, b1, b2, b3⟩ := z_look hF k1
  rw [b1, Option.bind_some]
  show ∃ g', ((s_Mod_itemOf (nI (k_s1 j)) (k_g B l (k_n B l p))).bind fun x36 => _) = some g' ∧ _
  rw [z_itemOf hj hk.1.2.2.2.1, Option.bind_some]
  refine z_k (z_mitL hF hj ea hoff hn har h69 h68 (k_m j + 1) 0 p F g2 (k_us j) (by show 0 + _ = _; omega) (Nat.two_pow_pos _) (by omega) hk.2.1 b3 (fun k hk => ?_)) (fun g3 c => ⟨g3, rfl, ((a1.mono (by simp)).trans (b2.1.mono (by simp))).trans c.1, fun k x y => (c.2.1 k x y).trans ((b2.2 k x).trans (a1.I (by simpa using h68))), fun x hx => (c.2.2.1 x hx).trans ((b2.1.A (by simpa using h68.symm)).trans (a2 x hx)), c.2.2.2⟩)
  rw [b2.1.A (by simpa using h68.symm)]
  exact a3 k hk
end I2
