-- THE DRAFT (2): a clause, both sides
def k_cf (g g' : fw_H) : Prop := z_fr [16, 18, 19, 20, 22, 24] g g' ∧ ∀ k, (k = 6 ∨ k = 9 ∨ k = 11 ∨ k = 14) → z_I g' 19 k = z_I g 19 k
def k_mf (m m' : fw_H) : Prop := z_fr [68, 79, 80, 81] m m' ∧ ∀ k, k ≠ 3 → k ≠ 4 → k ≠ 20 → k ≠ 21 → z_I m' 68 k = z_I m 68 k
def k_le (g : fw_H) : Prop := ∃ a b, a ≤ 12 ∧ b ≤ 16 ∧ z_I g 19 0 = nI a ∧ z_I g 19 1 = nI b
def k_DV (g m : fw_H) : Prop := ∃ a b c, a ≤ 11 ∧ b ≤ 23 ∧ c ≤ 1 ∧ z_I g 19 10 = nI a ∧ z_A m 79 0 = nI a ∧ z_I g 19 12 = nI b ∧ z_A m 79 1 = nI b ∧ z_I g 19 8 = nI c ∧ z_A m 79 2 = nI c
def k_DH (g m : fw_H) (nh : Nat) : Prop := (∀ i, i < nh → ∀ k, k < 6 → ∃ v, v ≤ k_mx 1 k ∧ z_A m 80 (6 * i + k) = nI v ∧ (k < 5 → z_A g 20 (5 * i + k) = nI v)) ∧ ∃ o, o < 2 ^ nh ∧ z_I g 19 7 = nI o ∧ ∀ i, i < nh → z_A m 80 (6 * i + 5) = fw_b (o.testBit i)
def k_DW (g m : fw_H) (nw : Nat) : Prop := (∀ j, j < nw → ∀ k, k < 2 → ∃ v, v ≤ 11 ∧ z_A m 81 (3 * j + k) = nI v ∧ z_A g 22 (2 * j + k) = nI v) ∧ ∃ o, o < 2 ^ nw ∧ z_I g 19 5 = nI o ∧ ∀ j, j < nw → z_A m 81 (3 * j + 2) = fw_b (o.testBit j)
/-- the class's draft is the reference's -/
def k_D (g m : fw_H) (nh nw : Nat) (td : Bool) : Prop :=
  (nh ≤ 12 ∧ nw ≤ 16 ∧ z_I g 19 0 = nI nh ∧ z_I g 19 1 = nI nw ∧ z_I m 68 20 = nI nh ∧ z_I m 68 21 = nI nw ∧ z_I g 18 3 = fw_b td) ∧ k_DV g m ∧ k_DH g m nh ∧ k_DW g m nw
section D2
variable {g g' g'' h m : fw_H} {B : Nat → Nat} {l p q d D v mo i j k nn F c n f th o ar off w nh nw r : Nat} {x y : Int32} {As : List Nat} {V : Nat → Nat} {td : Bool}
theorem k_cf.refl : k_cf g g := ⟨z_fr.refl, fun _ _ => rfl⟩
theorem k_cf.trans (h1 : k_cf g g') (h2 : k_cf g' g'') : k_cf g g'' := ⟨h1.1.trans h2.1, fun k a => (h2.2 k a).trans (h1.2 k a)⟩
theorem k_cf.fr (hf : z_fr As g g') (h19 : 19 ∉ As) (hA : ∀ j, j ∈ As → j ∈ [16, 18, 19, 20, 22, 24]) : k_cf g g' := ⟨hf.mono hA, fun _ _ => hf.I h19⟩
theorem k_mf.refl : k_mf g g := ⟨z_fr.refl, fun _ _ _ _ _ => rfl⟩
theorem k_mf.trans (h1 : k_mf g g') (h2 : k_mf g' g'') : k_mf g g'' := ⟨h1.1.trans h2.1, fun k a b c d => (h2.2 k a b c d).trans (h1.2 k a b c d)⟩
theorem k_bf.mf (hb : k_bf g g') : k_mf g g' := ⟨hb.1.mono (by simp), fun k a b _ _ => hb.2 k a b⟩
theorem k_DV.of {m' : fw_H} (h1 : ∀ k, k = 8 ∨ k = 10 ∨ k = 12 → z_I g' 19 k = z_I g 19 k) (h2 : ∀ i, z_A m' 79 i = z_A m 79 i) (hD : k_DV g m) : k_DV g' m' := by
  obtain ⟨a, b, c, d1, d2, d3, d4, d5, d6, d7, d8, d9⟩ := hD
  exact ⟨a, b, c, d1, d2, d3, (h1 10 (by omega)).trans d4, (h2 _).trans d5, (h1 12 (by omega)).trans d6, (h2 _).trans d7, (h1 8 (by omega)).trans d8, (h2 _).trans d9⟩
theorem k_DH.of {m' : fw_H} (h1 : z_I g' 19 7 = z_I g 19 7) (h2 : ∀ i, z_A g' 20 i = z_A g 20 i) (h3 : ∀ i, z_A m' 80 i = z_A m 80 i) (hD : k_DH g m nh) : k_DH g' m' nh := by
  obtain ⟨d1, o, d2, d3, d4⟩ := hD
  refine ⟨fun i hi k hk => ?_, o, d2, h1.trans d3, fun i hi => (h3 _).trans (d4 i hi)⟩
  obtain ⟨v, v1, v2, v3⟩ := d1 i hi k hk
  exact ⟨v, v1, (h3 _).trans v2, fun z => (h2 _).trans (v3 z)⟩
theorem k_DW.of {m' : fw_H} (h1 : z_I g' 19 5 = z_I g 19 5) (h2 : ∀ i, z_A g' 22 i = z_A g 22 i) (h3 : ∀ i, z_A m' 81 i = z_A m 81 i) (hD : k_DW g m nw) : k_DW g' m' nw := by
  obtain ⟨d1, o, d2, d3, d4⟩ := hD
  refine ⟨fun i hi k hk => ?_, o, d2, h1.trans d3, fun i hi => (h3 _).trans (d4 i hi)⟩
  obtain ⟨v, v1, v2, v3⟩ := d1 i hi k hk
  exact ⟨v, v1, (h3 _).trans v2, (h2 _).trans v3⟩
theorem k_mx2 : ∀ k, k < 3 → k_mx 2 k ≤ 11 := by decide
theorem k_it_sp : ∀ j, j < 3 → k_it j 32 = none ∧ k_it j 59 = none := by decide +kernel
/-- one bit more -/
theorem k_bit (ho : o < 2 ^ n) (hn : n < 31) (hc : c ≤ 1) : nI o ||| (nI c <<< (nI n &&& 31)) = nI (o ||| c * 2 ^ n) ∧ o ||| c * 2 ^ n < 2 ^ (n + 1) ∧ (∀ i, i < n → (o ||| c * 2 ^ n).testBit i = o.testBit i) ∧ nI c = fw_b ((o ||| c * 2 ^ n).testBit n) := by
  have hp : 2 ^ n < 2 ^ 31 := Nat.pow_lt_pow_right (by decide) hn
  have hon : o.testBit n = false := Nat.testBit_lt_two_pow ho
  have h1 : c * 2 ^ n < 2 ^ (n + 1) := by rw [Nat.pow_succ, Nat.mul_comm]; exact Nat.mul_lt_mul_of_pos_left (by omega) (Nat.two_pow_pos n)
  have h2 : c * 2 ^ n < 2 ^ 32 := Nat.lt_of_lt_of_le h1 (Nat.pow_le_pow_right (by decide) (by omega))
  refine ⟨by rw [z_shl hn h2, fa_or], Nat.or_lt_two_pow (Nat.lt_of_lt_of_le ho (Nat.pow_le_pow_right (by decide) (by omega))) h1, fun i hi => ?_, ?_⟩
  · have : c = 0 ∨ c = 1 := by omega
    rcases this with rfl | rfl
    · rw [Nat.zero_mul, Nat.or_zero]
    · rw [Nat.one_mul, v_or_bit, decide_eq_false (by omega), Bool.or_false]
  · have : c = 0 ∨ c = 1 := by omega
    rcases this with rfl | rfl
    · rw [Nat.zero_mul, Nat.or_zero, hon]; rfl
    · rw [Nat.one_mul, v_or_bit, hon, decide_eq_true rfl]; rfl
theorem z_clause2 (hF : 70000 ≤ F) (hr : r = k_n B l p) (hk : k_ok g B l p) (hm : k_mo m B l r) (hD : k_D g m nh nw td) {J : Int32 → fw_H → Option (Int32 × fw_H)} :
    ∃ g', s_VText_clause F g (some 18) = some g' ∧ (k_cf g g' ∧ k_le g' ∧ ∃ m' td', (if ¬ (k_g B l r) = (118 : Int32) then (if ¬ (k_g B l r) = (100 : Int32) then (if ¬ (k_g B l r) = (119 : Int32) then ((s_Mod_bad m (some 68)).bind fun h208 => J (fw_b td) h208) else (f_gI m (some 68) 12 21).bind fun x160 => if (16 : Int32) ≤ x160 then ((s_Mod_bad m (some 68)).bind fun h208 => J (fw_b td) h208) else (f_gI m (some 68) 12 3).bind fun x170 => (f_pI m (some 68) 12 3 (x170 + (1 : Int32))).bind fun h175 => (f_gR h175 (some 68) 12 19).bind fun x181 => (f_gI h175 (some 68) 12 21).bind fun x186 => (s_Mod_items F h175 (some 68) (k_g B l r) x181 ((3 : Int32) * x186) (3 : Int32)).bind fun h191 => (f_gI h191 (some 68) 12 21).bind fun x196 => (f_pI h191 (some 68) 12 21 (x196 + (1 : Int32))).bind fun h201 => J (fw_b td) h201) else (f_gI m (some 68) 12 20).bind fun x104 => if (12 : Int32) ≤ x104 then (if ¬ (k_g B l r) = (119 : Int32) then ((s_Mod_bad m (some 68)).bind fun h208 => J (fw_b td) h208) else (f_gI m (some 68) 12 21).bind fun x160 => if (16 : Int32) ≤ x160 then ((s_Mod_bad m (some 68)).bind fun h208 => J (fw_b td) h208) else (f_gI m (some 68) 12 3).bind fun x170 => (f_pI m (some 68) 12 3 (x170 + (1 : Int32))).bind fun h175 => (f_gR h175 (some 68) 12 19).bind fun x181 => (f_gI h175 (some 68) 12 21).bind fun x186 => (s_Mod_items F h175 (some 68) (k_g B l r) x181 ((3 : Int32) * x186) (3 : Int32)).bind fun h191 => (f_gI h191 (some 68) 12 21).bind fun x196 => (f_pI h191 (some 68) 12 21 (x196 + (1 : Int32))).bind fun h201 => J (fw_b td) h201) else (f_gI m (some 68) 12 3).bind fun x114 => (f_pI m (some 68) 12 3 (x114 + (1 : Int32))).bind fun h119 => (f_gR h119 (some 68) 12 18).bind fun x125 => (f_gI h119 (some 68) 12 20).bind fun x131 => (s_Mod_items F h119 (some 68) (k_g B l r) x125 ((6 : Int32) * x131) (6 : Int32)).bind fun h137 => (f_gI h137 (some 68) 12 20).bind fun x142 => (f_pI h137 (some 68) 12 20 (x142 + (1 : Int32))).bind fun h147 => J (fw_b td) h147) else if ¬ (fw_b td) = (0 : Int32) then (if ¬ (k_g B l r) = (100 : Int32) then (if ¬ (k_g B l r) = (119 : Int32) then ((s_Mod_bad m (some 68)).bind fun h208 => J (fw_b td) h208) else (f_gI m (some 68) 12 21).bind fun x160 => if (16 : Int32) ≤ x160 then ((s_Mod_bad m (some 68)).bind fun h208 => J (fw_b td) h208) else (f_gI m (some 68) 12 3).bind fun x170 => (f_pI m (some 68) 12 3 (x170 + (1 : Int32))).bind fun h175 => (f_gR h175 (some 68) 12 19).bind fun x181 => (f_gI h175 (some 68) 12 21).bind fun x186 => (s_Mod_items F h175 (some 68) (k_g B l r) x181 ((3 : Int32) * x186) (3 : Int32)).bind fun h191 => (f_gI h191 (some 68) 12 21).bind fun x196 => (f_pI h191 (some 68) 12 21 (x196 + (1 : Int32))).bind fun h201 => J (fw_b td) h201) else (f_gI m (some 68) 12 20).bind fun x104 => if (12 : Int32) ≤ x104 then (if ¬ (k_g B l r) = (119 : Int32) then ((s_Mod_bad m (some 68)).bind fun h208 => J (fw_b td) h208) else (f_gI m (some 68) 12 21).bind fun x160 => if (16 : Int32) ≤ x160 then ((s_Mod_bad m (some 68)).bind fun h208 => J (fw_b td) h208) else (f_gI m (some 68) 12 3).bind fun x170 => (f_pI m (some 68) 12 3 (x170 + (1 : Int32))).bind fun h175 => (f_gR h175 (some 68) 12 19).bind fun x181 => (f_gI h175 (some 68) 12 21).bind fun x186 => (s_Mod_items F h175 (some 68) (k_g B l r) x181 ((3 : Int32) * x186) (3 : Int32)).bind fun h191 => (f_gI h191 (some 68) 12 21).bind fun x196 => (f_pI h191 (some 68) 12 21 (x196 + (1 : Int32))).bind fun h201 => J (fw_b td) h201) else (f_gI m (some 68) 12 3).bind fun x114 => (f_pI m (some 68) 12 3 (x114 + (1 : Int32))).bind fun h119 => (f_gR h119 (some 68) 12 18).bind fun x125 => (f_gI h119 (some 68) 12 20).bind fun x131 => (s_Mod_items F h119 (some 68) (k_g B l r) x125 ((6 : Int32) * x131) (6 : Int32)).bind fun h137 => (f_gI h137 (some 68) 12 20).bind fun x142 => (f_pI h137 (some 68) 12 20 (x142 + (1 : Int32))).bind fun h147 => J (fw_b td) h147) else (f_gI m (some 68) 12 3).bind fun x75 => (f_pI m (some 68) 12 3 (x75 + (1 : Int32))).bind fun h80 => (f_gR h80 (some 68) 12 17).bind fun x86 => (s_Mod_items F h80 (some 68) (k_g B l r) x86 (0 : Int32) (3 : Int32)).bind fun h91 => J (1 : Int32) h91) = J (fw_b td') m' ∧ (k_mf m m' ∧ ((∃ q, k_no g' B l q ∧ (k_mn m' B l q ∨ (k_mo m' B l q ∧ q < l ∧ B q ≠ 32 ∧ B q ≠ 59))) ∨ ∃ nh' nw' p', r < p' ∧ k_ok g' B l p' ∧ k_mo m' B l p' ∧ k_D g' m' nh' nw' td'))) := by
  obtain ⟨g1, a1, a2, a3⟩ := z_peek hF hk
  rw [← hr] at a1 a3
  have hS := hk.1.1
  have hl := hk.1.2.1
  have hBB := hk.1.2.2.2.1
  have hle := a3.2.1
  have S1 := a3.1.1
  have M0 := hm.1.1
  obtain ⟨⟨d1, d2, d3, d4, d5, d6, d7⟩, dV, dH, dW⟩ := hD
  have E : ∀ c, 1 ≤ c → c < 256 → (k_g B l r = nI c ↔ k_b B l r = c) := fun c h1 h2 => k_g_b hBB h1 h2
  have i0 : z_I g1 19 0 = nI nh := (a2.I (by decide)).trans d3
  have i1 : z_I g1 19 1 = nI nw := (a2.I (by decide)).trans d4
  have i3 : z_I g1 18 3 = fw_b td := (a2.I (by decide)).trans d7
  have gB : f_gB g1 (some 18) 8 3 = some td := z_gB (z_i18_3 S1) i3
  have C1 : k_cf g g1 := k_cf.fr a2 (by decide) (by decide)
  have hit : ∀ j, j < 3 → ∀ q, (∃ k, k_it j (k_b B l q) = some k) → q < l ∧ B q ≠ 32 ∧ B q ≠ 59 := by
    intro j hj q ⟨k, hk⟩
    obtain ⟨b1, b2, b3⟩ := k_it_b hj hBB hk
    rw [b2] at hk
    refine ⟨b1, fun z => ?_, fun z => ?_⟩
    · rw [z, (k_it_sp j hj).1] at hk; cases hk
    · rw [z, (k_it_sp j hj).2] at hk; cases hk
  unfold s_VText_clause
  rw [z_c18 hS, Option.bind_some, z_r18_0 hS, Option.bind_some, a1, Option.bind_some]
  -- neither
  have bad : ∃ g', ((f_gR g1 (some 18) 8 0).bind fun x141 => (s_Tape_fail g1 x141).bind fun h144 => some h144) = some g' ∧ (k_cf g g' ∧ k_le g' ∧ ∃ m' td', ((s_Mod_bad m (some 68)).bind fun h208 => J (fw_b td) h208) = J (fw_b td') m' ∧ (k_mf m m' ∧ ((∃ q, k_no g' B l q ∧ (k_mn m' B l q ∨ (k_mo m' B l q ∧ q < l ∧ B q ≠ 32 ∧ B q ≠ 59))) ∨ ∃ nh' nw' p', r < p' ∧ k_ok g' B l p' ∧ k_mo m' B l p' ∧ k_D g' m' nh' nw' td'))) := by
    obtain ⟨g2, b1, b2, b3⟩ := z_fail a3
    obtain ⟨m2, c1, c2, c3, -⟩ := z_bad hm
    refine ⟨g2, by rw [z_r18_0 S1, Option.bind_some, b1, Option.bind_some], C1.trans (k_cf.fr b2 (by decide) (by decide)), ⟨nh, nw, d1, d2, (b2.I (by decide)).trans i0, (b2.I (by decide)).trans i1⟩, m2, td, by rw [c1, Option.bind_some], c2.mf, .inl ⟨r, b3, .inl c3⟩⟩
  have n12 : nh = 12 ∨ nh < 12 := by omega
  have n16 : nw = 16 ∨ nw < 16 := by omega
  have hrl : k_b B l r ≠ 0 → r < l := fun z => k_b_lt z
  -- what the items leave
  have us : ∀ j, j < 3 → ∀ k, k < k_m j → k_us j k ≤ k_mx j k := by decide
  dsimp only
  by_cases e118 : k_b B l r = 118
  · have g118 : k_g B l r = (118 : Int32) := (E 118 (by decide) (by decide)).mpr e118
    have g100 : ¬ k_g B l r = (100 : Int32) := fun z => by have := (E 100 (by decide) (by decide)).mp z; omega
    have g119 : ¬ k_g B l r = (119 : Int32) := fun z => by have := (E 119 (by decide) (by decide)).mp z; omega
    have n118 : ¬ ¬ k_g B l r = (118 : Int32) := fun z => z g118
    rw [if_neg n118, if_neg n118, gB, Option.bind_some]
    cases td with
    | true =>
      rw [if_pos rfl, if_pos (show ¬ fw_b true = (0 : Int32) from by decide), if_pos g100, if_pos g119, if_pos g100, if_pos g119]
      exact bad
    | false =>
      have hlt := hrl (by omega)
      rw [if_neg (by decide), if_neg (show ¬ ¬ fw_b false = (0 : Int32) from by decide), z_pBS S1 rfl, Option.bind_some]
      obtain ⟨g2, hg2⟩ : ∃ g2, g2 = z_sI g1 18 3 (fw_b true) := ⟨_, rfl⟩
      have f2 : z_fr [18] g1 g2 := by rw [hg2]; exact z_fr.refl.sI (by simp)
      have k2 : k_ok g2 B l r := a3.fr f2 (by decide) (by decide) (by decide)
      obtain ⟨g3, b1, b2, b3⟩ := z_citems (j := 0) hF (by decide) k2 hlt
      have b1' : s_VText_items F g2 (some 18) (some 7) (some 1) (some 4) = some g3 := b1
      have S3 := k2.1.1.fr b2 (by decide)
      obtain ⟨g4, c1, c2, c3, c4, c5, c6⟩ := z_begin19 S3
      rw [← hg2, b1', Option.bind_some, z_r18_1 S3, Option.bind_some, z_r18_2 S3, Option.bind_some, c1, Option.bind_some, z_i68_3 M0, Option.bind_some, hm.2.2.1, nI_1, z_w68_3 M0, Option.bind_some]
      have m1 := hm.to (q := r + 1) (by omega)
      obtain ⟨mm, hmm⟩ : ∃ mm, mm = z_sI m 68 3 (nI (r + 1)) := ⟨_, rfl⟩
      rw [← hmm] at m1 ⊢
      obtain ⟨m2, t1, t2, t3, t4, t5⟩ := z_mitems (j := 0) (ar := 79) (n := 3) (off := 0) hF (by decide) rfl (by decide) (by decide) (by decide) (by decide) (by decide) m1
      have t1' : s_Mod_items F mm (some 68) (k_g B l r) (some 79) (0 : Int32) (3 : Int32) = some m2 := by rw [g118]; exact t1
      rw [z_r68_17 m1.1.1, Option.bind_some, t1', Option.bind_some]
      have C4 : k_cf g g4 := C1.trans ((k_cf.fr f2 (by decide) (by decide)).trans ((k_cf.fr b2 (by decide) (by decide)).trans ⟨c2.mono (by simp), fun k hk => c3 k (by omega) (by omega) (by omega)⟩))
      have F4 : ∀ k, k ≠ 8 → k ≠ 10 → k ≠ 12 → z_I g4 19 k = z_I g 19 k := fun k x y z => (c3 k x y z).trans ((b2.I (by decide)).trans ((f2.I (by decide)).trans (a2.I (by decide))))
      have L4 : k_le g4 := ⟨nh, nw, d1, d2, (F4 0 (by decide) (by decide) (by decide)).trans d3, (F4 1 (by decide) (by decide) (by decide)).trans d4⟩
      have f0 : z_fr [68] m mm := by rw [hmm]; exact z_fr.refl.sI (by simp)
      have F2 : z_fr [68, 79] m m2 := (f0.mono (by simp)).trans t2
      have I2 : ∀ k, k ≠ 3 → k ≠ 4 → z_I m2 68 k = z_I m 68 k := fun k x y => (t3 k x y).trans (by rw [hmm]; exact z_I_sI_nk x)
      have M4 : k_mf m m2 := ⟨F2.mono (by simp), fun k x y _ _ => I2 k x y⟩
      have F14 : z_fr [16, 18, 19, 24] g g4 := (((a2.mono (by simp)).trans (f2.mono (by simp))).trans (b2.mono (by simp))).trans (c2.mono (by simp))
      refine ⟨g4, rfl, C4, L4, m2, true, rfl, M4, ?_⟩
      match e : k_its B l 0 (k_m 0 + 1) 0 (r + 1) (k_us 0) with
      | .inl q =>
        rw [e] at b3 t5
        exact .inl ⟨q, b3.fr c2 (by decide) (by decide) (by decide), t5.imp id fun z => ⟨z.1, hit 0 (by decide) q z.2⟩⟩
      | .inr (V, p') =>
        rw [e] at b3 t5
        obtain ⟨⟨u1, u2⟩, u3⟩ := k_its_ok (j := 0) (by decide) hBB (k_m 0 + 1) 0 (r + 1) (k_us 0) (by omega) (us 0 (by decide)) V p' e
        have v2 : V 2 ≤ 1 := u3 2 (by decide)
        refine .inr ⟨nh, nw, p', by omega, b3.1.fr c2 (by decide) (by decide) (by decide), t5.1, ⟨d1, d2, (F4 0 (by decide) (by decide) (by decide)).trans d3, (F4 1 (by decide) (by decide) (by decide)).trans d4, (I2 20 (by decide) (by decide)).trans d5, (I2 21 (by decide) (by decide)).trans d6, ?_⟩, ⟨V 0, V 1, V 2, u3 0 (by decide), u3 1 (by decide), v2, c4.trans (b3.2 0 (by decide)), t5.2 0 (by decide), c5.trans (b3.2 1 (by decide)), t5.2 1 (by decide), ?_, t5.2 2 (by decide)⟩, dH.of (F4 7 (by decide) (by decide) (by decide)) (fun i => F14.A (by decide)) (fun i => F2.A (by decide)), dW.of (F4 5 (by decide) (by decide) (by decide)) (fun i => F14.A (by decide)) (fun i => F2.A (by decide))⟩
        · rw [c2.I (by decide), b2.I (by decide), hg2, z_II S1 8 rfl]
        · rw [c6, b3.2 2 (by decide)]
          have : V 2 = 0 ∨ V 2 = 1 := by omega
          rcases this with e2 | e2 <;> rw [e2] <;> decide
  · have g118 : ¬ k_g B l r = (118 : Int32) := fun z => e118 ((E 118 (by decide) (by decide)).mp z)
    rw [if_pos g118, if_pos g118]
    by_cases e100 : k_b B l r = 100
    · have g100 : k_g B l r = (100 : Int32) := (E 100 (by decide) (by decide)).mpr e100
      have n100 : ¬ ¬ k_g B l r = (100 : Int32) := fun z => z g100
      have g119 : ¬ k_g B l r = (119 : Int32) := fun z => by have := (E 119 (by decide) (by decide)).mp z; omega
      have hlt := hrl (by omega)
      rw [if_neg n100, if_neg n100, z_r18_1 S1, Option.bind_some, z_i19_0 S1, Option.bind_some, i0]
      rcases n12 with rfl | h12
      · have le12 : (12 : Int32) ≤ nI 12 := by decide
        rw [if_pos le12, if_pos g119, z_i68_20 M0, Option.bind_some, d5, if_pos le12, if_pos g119]
        exact bad
      · have le12 : ¬ (12 : Int32) ≤ nI nh := nI_ge (b := 12) h12 (by decide)
        obtain ⟨g3, b1, b2, b3⟩ := z_citems (j := 1) hF (by decide) a3 hlt
        have b1' : s_VText_items F g1 (some 18) (some 8) (some 2) (some 5) = some g3 := b1
        have S3 := S1.fr b2 (by decide)
        have i30 : z_I g3 19 0 = nI nh := (b2.I (by decide)).trans i0
        obtain ⟨g4, c1, c2, c3, c4, c5, c6, c7⟩ := z_addHouse19 hF S3 i30 h12
        rw [if_neg le12, b1', Option.bind_some, z_r18_1 S3, Option.bind_some, z_r18_2 S3, Option.bind_some, c1, Option.bind_some, z_i68_20 M0, Option.bind_some, d5, if_neg le12, z_i68_3 M0, Option.bind_some, hm.2.2.1, nI_1, z_w68_3 M0, Option.bind_some]
        have m1 := hm.to (q := r + 1) (by omega)
        obtain ⟨mm, hmm⟩ : ∃ mm, mm = z_sI m 68 3 (nI (r + 1)) := ⟨_, rfl⟩
        have imm : z_I mm 68 20 = nI nh := by rw [hmm, z_I_sI_nk (by decide), d5]
        rw [← hmm] at m1 ⊢
        obtain ⟨m2, t1, t2, t3, t4, t5⟩ := z_mitems (j := 1) (ar := 80) (n := 72) (off := 6 * nh) hF (by decide) rfl (by show _ + 6 ≤ _; omega) (by decide) (by decide) (by decide) (by decide) m1
        have t1' : s_Mod_items F mm (some 68) (k_g B l r) (some 80) ((6 : Int32) * nI nh) (6 : Int32) = some m2 := by
          rw [g100, show (6 : Int32) * nI nh = nI (6 * nh) from pk_mul 6 nh]
          exact t1
        have T2 := m1.1.1.fr t2 (by decide)
        have im2 : z_I m2 68 20 = nI nh := (t3 20 (by decide) (by decide)).trans imm
        rw [z_r68_18 m1.1.1, Option.bind_some, z_i68_20 m1.1.1, Option.bind_some, imm, t1', Option.bind_some, z_i68_20 T2, Option.bind_some, im2, nI_1, z_w68_20 T2, Option.bind_some]
        obtain ⟨m3, hm3⟩ : ∃ m3, m3 = z_sI m2 68 20 (nI (nh + 1)) := ⟨_, rfl⟩
        have f3 : z_fr [68] m2 m3 := by rw [hm3]; exact z_fr.refl.sI (by simp)
        rw [← hm3]
        have f0 : z_fr [68] m mm := by rw [hmm]; exact z_fr.refl.sI (by simp)
        have F2 : z_fr [68, 80] m m3 := ((f0.mono (by simp)).trans t2).trans (f3.mono (by simp))
        have I2 : ∀ k, k ≠ 3 → k ≠ 4 → k ≠ 20 → z_I m3 68 k = z_I m 68 k := fun k x y z => by rw [hm3, z_I_sI_nk z, t3 k x y, hmm, z_I_sI_nk x]
        have C4 : k_cf g g4 := C1.trans ((k_cf.fr b2 (by decide) (by decide)).trans ⟨c2.mono (by simp), fun k hk => c3 k (by omega) (by omega)⟩)
        have F4 : ∀ k, k ≠ 0 → k ≠ 7 → z_I g4 19 k = z_I g 19 k := fun k x y => (c3 k x y).trans ((b2.I (by decide)).trans (a2.I (by decide)))
        have F14 : z_fr [16, 19, 20, 24] g g4 := ((a2.mono (by simp)).trans (b2.mono (by simp))).trans (c2.mono (by simp))
        refine ⟨g4, rfl, C4, ⟨nh + 1, nw, by omega, d2, c4, (F4 1 (by decide) (by decide)).trans d4⟩, m3, td, rfl, ⟨F2.mono (by simp), fun k x y z _ => I2 k x y z⟩, ?_⟩
        match e : k_its B l 1 (k_m 1 + 1) 0 (r + 1) (k_us 1) with
        | .inl q =>
          rw [e] at b3 t5
          refine .inl ⟨q, b3.fr c2 (by decide) (by decide) (by decide), ?_⟩
          rcases t5 with z | z
          · exact .inl (z.fr f3 (by decide) (by decide) (fun k hk => by rw [hm3, z_I_sI_nk (by omega)]))
          · exact .inr ⟨z.1.fr f3 (by decide) (by decide) (fun k hk => by rw [hm3, z_I_sI_nk (by omega)]), hit 1 (by decide) q z.2⟩
        | .inr (V, p') =>
          rw [e] at b3 t5
          obtain ⟨⟨u1, u2⟩, u3⟩ := k_its_ok (j := 1) (by decide) hBB (k_m 1 + 1) 0 (r + 1) (k_us 1) (by omega) (us 1 (by decide)) V p' e
          obtain ⟨dH1, o, dH2, dH3, dH4⟩ := dH
          have v5 : V 5 ≤ 1 := u3 5 (by decide)
          obtain ⟨w1, w2, w3, w4⟩ := k_bit (o := o) (n := nh) (c := V 5) dH2 (by omega) v5
          refine .inr ⟨nh + 1, nw, p', by omega, b3.1.fr c2 (by decide) (by decide) (by decide), t5.1.fr f3 (by decide) (by decide) (fun k hk => by rw [hm3, z_I_sI_nk (by omega)]), ⟨by omega, d2, c4, (F4 1 (by decide) (by decide)).trans d4, by rw [hm3, z_II T2 12 rfl], (I2 21 (by decide) (by decide) (by decide)).trans d6, (F14.I (by decide)).trans d7⟩, dV.of (fun k hk => F4 k (by omega) (by omega)) (fun i => F2.A (by decide)), ⟨fun i hi k hk => ?_, o ||| V 5 * 2 ^ nh, w2, ?_, fun i hi => ?_⟩, dW.of (F4 5 (by decide) (by decide)) (fun i => F14.A (by decide)) (fun i => F2.A (by decide))⟩
          · by_cases ei : i = nh
            · rw [ei]
              refine ⟨V k, u3 k hk, (f3.A (by decide)).trans (t5.2 k hk), fun hk5 => (c6 k hk5).trans (b3.2 k hk)⟩
            · obtain ⟨v, y1, y2, y3⟩ := dH1 i (by omega) k hk
              refine ⟨v, y1, ((f3.A (by decide)).trans ((t4 _ (by omega)).trans (f0.A (by decide)))).trans y2, fun hk5 => ((c7 _ (by omega)).trans ((b2.A (by decide)).trans (a2.A (by decide)))).trans (y3 hk5)⟩
          · rw [c5, b2.I (by decide), a2.I (by decide), dH3, b3.2 5 (by decide), w1]
          · by_cases ei : i = nh
            · rw [ei]
              exact ((f3.A (by decide)).trans (t5.2 5 (by decide))).trans w4
            · rw [w3 i (by omega)]
              exact ((f3.A (by decide)).trans ((t4 _ (by omega)).trans (f0.A (by decide)))).trans (dH4 i (by omega))
    · have g100 : ¬ k_g B l r = (100 : Int32) := fun z => e100 ((E 100 (by decide) (by decide)).mp z)
      rw [if_pos g100, if_pos g100]
      by_cases e119 : k_b B l r = 119
      · have g119 : k_g B l r = (119 : Int32) := (E 119 (by decide) (by decide)).mpr e119
        have n119 : ¬ ¬ k_g B l r = (119 : Int32) := fun z => z g119
        have hlt := hrl (by omega)
        rw [if_neg n119, if_neg n119, z_r18_1 S1, Option.bind_some, z_i19_1 S1, Option.bind_some, i1, z_i68_21 M0, Option.bind_some, d6]
        rcases n16 with rfl | h16
        · have le16 : (16 : Int32) ≤ nI 16 := by decide
          rw [if_pos le16, if_pos le16]
          exact bad
        · have le16 : ¬ (16 : Int32) ≤ nI nw := nI_ge (b := 16) h16 (by decide)
          obtain ⟨g3, b1, b2, b3⟩ := z_citems (j := 2) hF (by decide) a3 hlt
          have b1' : s_VText_items F g1 (some 18) (some 9) (some 3) (some 6) = some g3 := b1
          have S3 := S1.fr b2 (by decide)
          have i30 : z_I g3 19 1 = nI nw := (b2.I (by decide)).trans i1
          obtain ⟨g4, c1, c2, c3, c4, c5, c6, c7⟩ := z_addWindow19 S3 i30 h16
          rw [if_neg le16, if_neg le16, b1', Option.bind_some, z_r18_1 S3, Option.bind_some, z_r18_2 S3, Option.bind_some, c1, Option.bind_some, z_i68_3 M0, Option.bind_some, hm.2.2.1, nI_1, z_w68_3 M0, Option.bind_some]
          have m1 := hm.to (q := r + 1) (by omega)
          obtain ⟨mm, hmm⟩ : ∃ mm, mm = z_sI m 68 3 (nI (r + 1)) := ⟨_, rfl⟩
          have imm : z_I mm 68 21 = nI nw := by rw [hmm, z_I_sI_nk (by decide), d6]
          rw [← hmm] at m1 ⊢
          obtain ⟨m2, t1, t2, t3, t4, t5⟩ := z_mitems (j := 2) (ar := 81) (n := 48) (off := 3 * nw) hF (by decide) rfl (by show _ + 3 ≤ _; omega) (by decide) (by decide) (by decide) (by decide) m1
          have t1' : s_Mod_items F mm (some 68) (k_g B l r) (some 81) ((3 : Int32) * nI nw) (3 : Int32) = some m2 := by
            rw [g119, show (3 : Int32) * nI nw = nI (3 * nw) from pk_mul 3 nw]
            exact t1
          have T2 := m1.1.1.fr t2 (by decide)
          have im2 : z_I m2 68 21 = nI nw := (t3 21 (by decide) (by decide)).trans imm
          rw [z_r68_19 m1.1.1, Option.bind_some, z_i68_21 m1.1.1, Option.bind_some, imm, t1', Option.bind_some, z_i68_21 T2, Option.bind_some, im2, nI_1, z_w68_21 T2, Option.bind_some]
          obtain ⟨m3, hm3⟩ : ∃ m3, m3 = z_sI m2 68 21 (nI (nw + 1)) := ⟨_, rfl⟩
          have f3 : z_fr [68] m2 m3 := by rw [hm3]; exact z_fr.refl.sI (by simp)
          rw [← hm3]
          have f0 : z_fr [68] m mm := by rw [hmm]; exact z_fr.refl.sI (by simp)
          have F2 : z_fr [68, 81] m m3 := ((f0.mono (by simp)).trans t2).trans (f3.mono (by simp))
          have I2 : ∀ k, k ≠ 3 → k ≠ 4 → k ≠ 21 → z_I m3 68 k = z_I m 68 k := fun k x y z => by rw [hm3, z_I_sI_nk z, t3 k x y, hmm, z_I_sI_nk x]
          have C4 : k_cf g g4 := C1.trans ((k_cf.fr b2 (by decide) (by decide)).trans ⟨c2.mono (by simp), fun k hk => c3 k (by omega) (by omega)⟩)
          have F4 : ∀ k, k ≠ 1 → k ≠ 5 → z_I g4 19 k = z_I g 19 k := fun k x y => (c3 k x y).trans ((b2.I (by decide)).trans (a2.I (by decide)))
          have F14 : z_fr [16, 19, 22, 24] g g4 := ((a2.mono (by simp)).trans (b2.mono (by simp))).trans (c2.mono (by simp))
          refine ⟨g4, rfl, C4, ⟨nh, nw + 1, d1, by omega, (F4 0 (by decide) (by decide)).trans d3, c4⟩, m3, td, rfl, ⟨F2.mono (by simp), fun k x y _ z => I2 k x y z⟩, ?_⟩
          match e : k_its B l 2 (k_m 2 + 1) 0 (r + 1) (k_us 2) with
          | .inl q =>
            rw [e] at b3 t5
            refine .inl ⟨q, b3.fr c2 (by decide) (by decide) (by decide), ?_⟩
            rcases t5 with z | z
            · exact .inl (z.fr f3 (by decide) (by decide) (fun k hk => by rw [hm3, z_I_sI_nk (by omega)]))
            · exact .inr ⟨z.1.fr f3 (by decide) (by decide) (fun k hk => by rw [hm3, z_I_sI_nk (by omega)]), hit 2 (by decide) q z.2⟩
          | .inr (V, p') =>
            rw [e] at b3 t5
            obtain ⟨⟨u1, u2⟩, u3⟩ := k_its_ok (j := 2) (by decide) hBB (k_m 2 + 1) 0 (r + 1) (k_us 2) (by omega) (us 2 (by decide)) V p' e
            obtain ⟨dW1, o, dW2, dW3, dW4⟩ := dW
            have v2 : V 2 ≤ 1 := u3 2 (by decide)
            obtain ⟨w1, w2, w3, w4⟩ := k_bit (o := o) (n := nw) (c := V 2) dW2 (by omega) v2
            refine .inr ⟨nh, nw + 1, p', by omega, b3.1.fr c2 (by decide) (by decide) (by decide), t5.1.fr f3 (by decide) (by decide) (fun k hk => by rw [hm3, z_I_sI_nk (by omega)]), ⟨d1, by omega, (F4 0 (by decide) (by decide)).trans d3, c4, (I2 20 (by decide) (by decide) (by decide)).trans d5, by rw [hm3, z_II T2 12 rfl], (F14.I (by decide)).trans d7⟩, dV.of (fun k hk => F4 k (by omega) (by omega)) (fun i => F2.A (by decide)), dH.of (F4 7 (by decide) (by decide)) (fun i => F14.A (by decide)) (fun i => F2.A (by decide)), ⟨fun i hi k hk => ?_, o ||| V 2 * 2 ^ nw, w2, ?_, fun i hi => ?_⟩⟩
            · by_cases ei : i = nw
              · rw [ei]
                have hkm : k < k_m 2 := by show k < 3; omega
                have v11 : V k ≤ 11 := by
                  have := u3 k hkm
                  have h2 : k_mx 2 k ≤ 11 := k_mx2 k (by omega)
                  omega
                exact ⟨V k, v11, (f3.A (by decide)).trans (t5.2 k hkm), (c6 k hk).trans (b3.2 k hkm)⟩
              · obtain ⟨v, y1, y2, y3⟩ := dW1 i (by omega) k hk
                exact ⟨v, y1, ((f3.A (by decide)).trans ((t4 _ (by omega)).trans (f0.A (by decide)))).trans y2, ((c7 _ (by omega)).trans ((b2.A (by decide)).trans (a2.A (by decide)))).trans y3⟩
            · rw [c5, b2.I (by decide), a2.I (by decide), dW3, b3.2 2 (by decide), w1]
            · by_cases ei : i = nw
              · rw [ei]
                exact ((f3.A (by decide)).trans (t5.2 2 (by decide))).trans w4
              · rw [w3 i (by omega)]
                exact ((f3.A (by decide)).trans ((t4 _ (by omega)).trans (f0.A (by decide)))).trans (dW4 i (by omega))
      · have g119 : ¬ k_g B l r = (119 : Int32) := fun z => e119 ((E 119 (by decide) (by decide)).mp z)
        rw [if_pos g119, if_pos g119]
        exact bad
end D2
