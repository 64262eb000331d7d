-- SHUTTERS (3): the reference; the call
section RT
variable {h g g' h1 h2 h3 : fw_H} {n w m e M N a i k j t x F nn X p u s sh : Nat} {T Wd f f' : Nat → Int32} {lw : Option (List q_C)} {r : Option Nat} {q : e_P} {E E' : z_E} {As : List Nat} {xx yy : Int32}
theorem v_R.shs (hn : n ≤ 12) (hw : w ≤ 16) (hR : v_R h a n w T Wd f) (hx : x < 2 ^ 16) (h6 : z_I g a 6 = nI x) (hb : ∀ j, j < w → f' (36 + j) = fw_b (x.testBit j))
    (hI : ∀ k, k ∉ [6] → z_I g a k = z_I h a k) (hA1 : ∀ i, z_A g (a + 1) i = z_A h (a + 1) i) (hA2 : ∀ i, z_A g (a + 2) i = z_A h (a + 2) i) (hA3 : ∀ i, z_A g (a + 3) i = z_A h (a + 3) i) (hA4 : ∀ i, z_A g (a + 4) i = z_A h (a + 4) i) (hf : ∀ j, j < 118 → (j < 36 ∨ 52 ≤ j) → f' j = f j) : v_R g a n w T Wd f' := by
  obtain ⟨r1, r2, r3, r4, r5, r6, ⟨o2, r9, r10, r11⟩, ⟨o3, r12, r13, r14⟩, ⟨m1, r15, r16⟩, ⟨m2, r17, r18⟩, r19, r20, t, l, r21, r22, r23, r24, r25, r26, r27⟩ := hR
  exact ⟨(hI 0 (by decide)).trans r1, (hI 1 (by decide)).trans r2,
    fun i hi => ⟨by rw [hA1, hf (i) (by omega) (by omega)]; exact (r3 i hi).1, fun k k1 k5 => by rw [hA1]; exact (r3 i hi).2 k k1 k5⟩,
    fun i hi => by rw [hA2, hf (24 + i) (by omega) (by omega)]; exact r4 i hi, fun j hj => by rw [hA3, hA3]; exact r5 j hj, by rw [hI 5 (by decide)]; exact r6,
    ⟨x, hx, h6, hb⟩,
    ⟨o3, r12, (hI 7 (by decide)).trans r13, fun i hi => by rw [hf (12 + i) (by omega) (by omega)]; exact r14 i hi⟩,
    ⟨m1, (hI 8 (by decide)).trans r15, (hf (52) (by omega) (by omega)).trans r16⟩, ⟨m2, (hI 9 (by decide)).trans r17, (hf (53) (by omega) (by omega)).trans r18⟩, fun h0 => ⟨(hI 10 (by decide)).trans (r19 h0).1, (hI 11 (by decide)).trans (r19 h0).2⟩,
    fun h0 => by rw [hI 10 (by decide), hI 11 (by decide), hf (54) (by omega) (by omega), hf (55) (by omega) (by omega)]; exact r20 h0,
    ⟨t, l, r21, r22, (hI 12 (by decide)).trans r23, (hf (56) (by omega) (by omega)).trans r24, (hI 14 (by decide)).trans r25, (hf (57) (by omega) (by omega)).trans r26, fun i hi => by rw [hA4, hf (58 + (min l 60 - 1 - i)) (by omega) (by omega)]; exact r27 i hi⟩⟩
/-- a set holds a window that is shut already -/
def o_bad (X sh : Nat) (i : Nat) : Bool := v_any (fun j => X.testBit j && sh.testBit j) i
theorem o_bad_iff (hX : X < 2 ^ w) : o_bad X sh w = false ↔ X &&& sh = 0 := by
  constructor
  · intro h
    refine Nat.eq_of_testBit_eq (fun j => ?_)
    rw [Nat.testBit_and, Nat.zero_testBit]
    by_cases hj : j < w
    · cases e : (X.testBit j && sh.testBit j)
      · rfl
      · have : o_bad X sh w = true := v_any_iff.mpr ⟨j, hj, e⟩
        rw [h] at this; cases this
    · have : X.testBit j = false := Nat.testBit_lt_two_pow (Nat.lt_of_lt_of_le hX (z_pole (by omega)))
      rw [this, Bool.false_and]
  · intro h
    cases e : o_bad X sh w
    · rfl
    · obtain ⟨j, hj, e2⟩ := v_any_iff.mp e
      have := o_bit h j
      rw [e2, Nat.zero_testBit] at this
      cases this
/-- f with these windows shut -/
def o_fs (w s : Nat) (f : Nat → Int32) : Nat → Int32 := fun j => if 36 ≤ j ∧ j < 36 + w then fw_b (s.testBit (j - 36)) else f j
theorem o_fs_out (hj : j < 36 ∨ 36 + w ≤ j) : o_fs w s f j = f j := if_neg (by omega)
theorem o_fs_in (hj : j < w) : o_fs w s f (36 + j) = fw_b (s.testBit j) := by
  unfold o_fs
  rw [if_pos (by omega), Nat.add_sub_cancel_left]
theorem z_shut50 (hw : w ≤ 16) (hX : X < 2 ^ 16) (hA88 : ∀ t, t < w → f (36 + t) = fw_b (sh.testBit t)) {K : Int32 → fw_H → Option (Int32 × fw_H)} : ∀ (k i nn : Nat) (g : fw_H), i + k = w → k < nn → z_Sh g → z_I g 68 25 = nI w → (∀ t, t < 118 → z_A g 88 t = f t) → (∀ t, t < i → z_A g 84 (36 + t) = fw_b ((sh ||| X).testBit t)) →
    ∃ g', l_Mod_shutters_50 (some 68) (nI X) K nn (fw_b (!o_bad X sh i)) (nI i) g = K (fw_b (!o_bad X sh w)) g' ∧ (z_fr [84] g g' ∧ (∀ t, t < w → z_A g' 84 (36 + t) = fw_b ((sh ||| X).testBit t)) ∧ ∀ t, t < 36 ∨ 36 + w ≤ t → z_A g' 84 t = z_A g 84 t) := by
  intro k
  induction k with
  | zero =>
    intro i nn g hi hnn hS h25 h88 hA
    obtain ⟨nn, rfl⟩ : ∃ k, nn = k + 1 := ⟨nn - 1, by omega⟩
    obtain rfl : i = w := by omega
    exact ⟨g, by rw [l_Mod_shutters_50, z_i68_25 hS, Option.bind_some, h25, if_pos (nI_le (by omega) (by omega))], z_fr.refl, hA, fun _ _ => rfl⟩
  | succ k ih =>
    intro i nn g hi hnn hS h25 h88 hA
    obtain ⟨nn, rfl⟩ : ∃ k, nn = k + 1 := ⟨nn - 1, by omega⟩
    have hbd : o_bad X sh (i + 1) = (o_bad X sh i || (X.testBit i && sh.testBit i)) := rfl
    have h36 : (36 : Int32) + nI i = nI (36 + i) := nI_add 36 i
    have f1 : z_fr [84] g (z_sA g 84 (36 + i) (fw_b ((sh ||| X).testBit i))) := z_fr.refl.sA (by simp)
    obtain ⟨g2, d1, d2, d3, d4⟩ := ih (i + 1) nn (z_sA g 84 (36 + i) (fw_b ((sh ||| X).testBit i))) (by omega) (by omega) (z_Sh_sA hS) (by rw [f1.I (by decide)]; exact h25) (fun t ht => by rw [f1.A (by decide)]; exact h88 t ht) (fun t ht => by
      rw [z_A_sA (z_ckT hS rfl)]
      by_cases e : t = i
      · rw [if_pos (by omega), e]
      · rw [if_neg (by omega)]; exact hA t (by omega))
    refine ⟨g2, ?_, f1.trans d2, d3, fun t ht => by rw [d4 t ht, z_A_sA (z_ckT hS rfl), if_neg (by omega)]⟩
    -- the window is laid
    have hJ : ∀ t : Int32, t = fw_b (!o_bad X sh (i + 1)) → ((f_gR g (some 68) 12 26).bind fun x94 => (s_Mod_has (nI X) (nI i)).bind fun x105 => if x105 = true then ((f_sI g x94 ((36 : Int32) + nI i) (1 : Int32)).bind fun h125 => l_Mod_shutters_50 (some 68) (nI X) K nn t (nI i + (1 : Int32)) h125) else (f_gR g (some 68) 12 40).bind fun x116 => (f_aI g x116 ((36 : Int32) + nI i)).bind fun x124 => (f_sI g x94 ((36 : Int32) + nI i) x124).bind fun h125 => l_Mod_shutters_50 (some 68) (nI X) K nn t (nI i + (1 : Int32)) h125) = K (fw_b (!o_bad X sh w)) g2 := by
      intro t ht
      rw [z_r68_26 hS, Option.bind_some, z_mhas (by omega) (by omega), Option.bind_some, h36, nI_1, ht]
      by_cases hb : X.testBit i = true
      · have e : fw_b ((sh ||| X).testBit i) = 1 := by rw [Nat.testBit_or, hb, Bool.or_true]; rfl
        rw [e] at d1
        rw [if_pos hb, z_s84 hS (by omega), Option.bind_some]
        exact d1
      · have hb' := Bool.eq_false_iff.mpr hb
        have e : fw_b ((sh ||| X).testBit i) = fw_b (sh.testBit i) := by rw [Nat.testBit_or, hb', Bool.or_false]
        rw [e] at d1
        rw [if_neg hb, z_r68_40 hS, Option.bind_some, z_a88 hS (by omega), Option.bind_some, h88 _ (by omega), hA88 i (by omega), z_s84 hS (by omega), Option.bind_some]
        exact d1
    rw [l_Mod_shutters_50, z_i68_25 hS, Option.bind_some, h25, if_neg (nI_ge (by omega) (by omega))]
    simp only [fw_jn]
    cases hbi : o_bad X sh i
    · rw [if_neg (show ¬ fw_b (!false) = (0 : Int32) by decide), z_mhas (by omega) (by omega), Option.bind_some]
      rw [hbi, Bool.false_or] at hbd
      by_cases hb : X.testBit i = true
      · rw [hb, Bool.true_and] at hbd
        rw [if_pos hb, z_r68_40 hS, Option.bind_some, h36, z_a88 hS (by omega), Option.bind_some, h88 _ (by omega), hA88 i (by omega)]
        rw [h36] at hJ
        cases hsb : sh.testBit i
        · rw [hsb] at hbd
          rw [if_neg (show ¬ ¬ fw_b false = (0 : Int32) by decide)]
          have h1 := hJ (1 : Int32) (by rw [hbd]; rfl)
          rw [z_r68_40 hS, z_mhas (by omega) (by omega)] at h1
          exact h1
        · rw [hsb] at hbd
          rw [if_pos (show ¬ fw_b true = (0 : Int32) by decide)]
          have h1 := hJ (0 : Int32) (by rw [hbd]; rfl)
          rw [z_r68_40 hS, z_mhas (by omega) (by omega)] at h1
          exact h1
      · have hb' := Bool.eq_false_iff.mpr hb
        rw [hb', Bool.false_and] at hbd
        have h1 := hJ (1 : Int32) (by rw [hbd]; rfl)
        rw [if_neg hb]
        rw [z_mhas (by omega) (by omega)] at h1
        exact h1
    · rw [hbi, Bool.true_or] at hbd
      rw [if_pos (show fw_b (!true) = (0 : Int32) by decide)]
      exact hJ (0 : Int32) (by rw [hbd]; rfl)
/-- the walk with other windows shut, one way or the other -/
theorem o_fs_go (hn : n ≤ 12) (hw : w ≤ 16) (p : e_P) : e_go (v_E n w T Wd (o_fs w s f) lw (v_op (o_fs w s f)) e m) p = e_go (v_E n w T Wd f lw (fun j => !s.testBit j) e m) p := by
  refine e_go_cong (E := v_E n w T Wd (o_fs w s f) lw (v_op (o_fs w s f)) e m) (E' := v_E n w T Wd f lw (fun j => !s.testBit j) e m) rfl ?_ rfl rfl (fun x hx t => ?_) p
  · show v_door w Wd (v_op (o_fs w s f)) = v_door w Wd (fun j => !s.testBit j)
    refine funext fun a => funext fun x => v_door_cong fun j hj => ?_
    unfold v_op
    rw [o_fs_in hj]
    cases s.testBit j <;> rfl
  · have hx' : x < n := hx
    show v_wish lw T (o_fs w s f) x (fw_b (m.testBit x)) t = v_wish lw T f x (fw_b (m.testBit x)) t
    have e1 : o_fs w s f x = f x := o_fs_out (by omega)
    have e2 : o_fs w s f 52 = f 52 := o_fs_out (by omega)
    match lw with
    | none => show (if o_fs w s f 52 = 1 then _ else _) = _; rw [e1, e2]; rfl
    | some cls =>
      show q_worth (v_let T (o_fs w s f) x _ t) cls = q_worth (v_let T f x _ t) cls
      have e3 : v_let T (o_fs w s f) x (fw_b (m.testBit x)) t = v_let T f x (fw_b (m.testBit x)) t := by
        unfold v_let
        rw [e1, e2]
      rw [e3]
/-- the reference's sets of windows -/
theorem z_shut18 (hF : 70000 ≤ F) (hok : v_ok n w Wd) (h0 : 0 < n) (ha : a < 12) (hsh : sh < 2 ^ 16) (hfs : ∀ j, j < w → f (36 + j) = fw_b (sh.testBit j)) (hB : z_MB f n m) (hR : v_R h1 29 n w T Wd f) (hS1 : z_Sh h1) (hC : z_MC h n w T Wd f lw (2 ^ n - 1)) (h88 : ∀ t, t < 118 → z_A h 88 t = f t) {K : Int32 → fw_H → Option (Int32 × fw_H)} :
    ∀ (k X nn : Nat) (g : fw_H) (r : Option Nat), X + k = 2 ^ w → k < nn → z_fr [68, 77, 78, 84, 87] h g → (∀ k, k < 32 ∨ 39 < k → z_I g 68 k = z_I h 68 k) → (∀ t, t < 36 ∨ 36 + w ≤ t → z_A g 84 t = z_A h 84 t) → (∀ y, r = some y → y < X) →
      o_is (fun Y => Y < X ∧ Y &&& sh = 0 ∧ c_pc 16 Y ≤ 3 ∧ o_nv (v_E n w T Wd f lw (fun j => !(sh ||| Y).testBit j) (2 ^ n - 1) m) (v_pos f) a) r →
    ∃ g' r', l_Mod_shutters_18 F (some 68) (nI a) K nn (g_on r (-1)) (nI X) g = K (g_on r' (-1)) g' ∧ (z_fr [68, 77, 78, 84, 87] h g' ∧ (∀ k, k < 32 ∨ 39 < k → z_I g' 68 k = z_I h 68 k) ∧ (∀ t, t < 36 ∨ 36 + w ≤ t → z_A g' 84 t = z_A h 84 t) ∧
      o_is (fun Y => Y < 2 ^ w ∧ Y &&& sh = 0 ∧ c_pc 16 Y ≤ 3 ∧ o_nv (v_E n w T Wd f lw (fun j => !(sh ||| Y).testBit j) (2 ^ n - 1) m) (v_pos f) a) r') := by
  have hn12 := hok.1
  have hw16 := hok.2.1
  have hpow : 2 ^ w ≤ 2 ^ 16 := z_pole hw16
  intro k
  induction k with
  | zero =>
    intro X nn g r hX hnn hf hI hA hr hq
    obtain ⟨nn, rfl⟩ : ∃ k, nn = k + 1 := ⟨nn - 1, by omega⟩
    have hS := hC.1.fr hf (by decide)
    have h25 : z_I g 68 25 = nI w := (hI 25 (by decide)).trans hC.2.1.2.1.1
    obtain rfl : X = 2 ^ w := by omega
    exact ⟨g, r, by rw [l_Mod_shutters_18, z_i68_25 hS, Option.bind_some, h25, z_sh1 (by omega), if_pos (nI_le (Nat.le_refl _) (by omega))], hf, hI, hA, hq⟩
  | succ k ih =>
    intro X nn g r hX hnn hf hI hA hr hq
    obtain ⟨nn, rfl⟩ : ∃ k, nn = k + 1 := ⟨nn - 1, by omega⟩
    have hS := hC.1.fr hf (by decide)
    have h25 : z_I g 68 25 = nI w := (hI 25 (by decide)).trans hC.2.1.2.1.1
    have hle := c_pc_le 16 X
    -- going on with what is the least so far
    have skip : ∀ g, z_fr [68, 77, 78, 84, 87] h g → (∀ k, k < 32 ∨ 39 < k → z_I g 68 k = z_I h 68 k) → (∀ t, t < 36 ∨ 36 + w ≤ t → z_A g 84 t = z_A h 84 t) → (X &&& sh = 0 → c_pc 16 X ≤ 3 → o_nv (v_E n w T Wd f lw (fun j => !(sh ||| X).testBit j) (2 ^ n - 1) m) (v_pos f) a → ∃ y, r = some y ∧ ¬ c_lt X y) →
        ∃ g' r', l_Mod_shutters_18 F (some 68) (nI a) K nn (g_on r (-1)) (nI (X + 1)) g = K (g_on r' (-1)) g' ∧ (z_fr [68, 77, 78, 84, 87] h g' ∧ (∀ k, k < 32 ∨ 39 < k → z_I g' 68 k = z_I h 68 k) ∧ (∀ t, t < 36 ∨ 36 + w ≤ t → z_A g' 84 t = z_A h 84 t) ∧ o_is (fun Y => Y < 2 ^ w ∧ Y &&& sh = 0 ∧ c_pc 16 Y ≤ 3 ∧ o_nv (v_E n w T Wd f lw (fun j => !(sh ||| Y).testBit j) (2 ^ n - 1) m) (v_pos f) a) r') := by
      intro g hf hI hA hx
      refine ih (X + 1) nn g r (by omega) (by omega) hf hI hA (fun y hy => by have := hr y hy; omega) ?_
      have h1 := hq.keep (Q' := fun Y => Y = X ∧ X &&& sh = 0 ∧ c_pc 16 X ≤ 3 ∧ o_nv (v_E n w T Wd f lw (fun j => !(sh ||| X).testBit j) (2 ^ n - 1) m) (v_pos f) a) (fun Y ⟨e, h2, h3, h4⟩ => by rw [e]; exact hx h2 h3 h4)
      refine h1.cong fun Y => ⟨fun ⟨z1, z2⟩ => ?_, fun z => ?_⟩
      · by_cases e : Y = X
        · subst e; exact .inr ⟨rfl, z2⟩
        · exact .inl ⟨by omega, z2⟩
      · rcases z with ⟨z1, z2⟩ | ⟨rfl, z2⟩
        · exact ⟨by omega, z2⟩
        · exact ⟨by omega, z2⟩
    rw [l_Mod_shutters_18, z_i68_25 hS, Option.bind_some, h25, z_sh1 (by omega), if_neg (nI_ge (by omega) (by omega)), z_bitc (by omega), Option.bind_some, show nI X + (1 : Int32) = nI (X + 1) from nI_1 X]
    by_cases c0 : 3 < c_pc 16 X
    · rw [if_pos (show (3 : Int32) < nI (c_pc 16 X) from nI_lt (a := 3) c0 (by omega))]
      exact skip g hf hI hA fun _ z _ => absurd z (by omega)
    · rw [if_neg (show ¬ (3 : Int32) < nI (c_pc 16 X) from nI_nlt (b := c_pc 16 X) (a := 3) (by omega) (by decide))]
      obtain ⟨fw, w1, w2⟩ := z_isFewer2 (X := X) (r := r) (by omega) (fun y hy => by have := hr y hy; omega)
      rw [w1, Option.bind_some]
      by_cases c2 : fw = true
      · have hfew := w2.mp c2
        rw [if_pos c2]
        have S0 := hS
        refine z_k2 (z_shut50 (f := f) (sh := sh) hw16 (X := X) (by omega) hfs w 0 F g (by omega) (by omega) hS h25 (fun t ht => by rw [hf.A (by decide)]; exact h88 t ht) (fun t ht => absurd ht (Nat.not_lt_zero _))) fun g1 ⟨a2, a3, a4⟩ => ?_
        have f1 : z_fr [68, 77, 78, 84, 87] h g1 := hf.trans (a2.mono (by simp))
        have i1 : ∀ k, k < 32 ∨ 39 < k → z_I g1 68 k = z_I h 68 k := fun k hk => by rw [a2.I (by decide)]; exact hI k hk
        have A1 : ∀ t, t < 36 ∨ 36 + w ≤ t → z_A g1 84 t = z_A h 84 t := fun t ht => (a4 t ht).trans (hA t ht)
        cases hbad : o_bad X sh w
        · rw [if_neg (show ¬ fw_b (!false) = (0 : Int32) by decide)]
          have hXs := (o_bad_iff (sh := sh) (show X < 2 ^ w by omega)).mp hbad
          have C1 : z_MC g1 n w T Wd (o_fs w (sh ||| X) f) lw (2 ^ n - 1) := hC.mv (f1.mono (by simp)) (fun k hk => i1 k (by omega)) (fun j hj => by
            by_cases e : 36 ≤ j ∧ j < 36 + w
            · rw [show j = 36 + (j - 36) by omega, o_fs_in (by omega)]; exact a3 _ (by omega)
            · rw [o_fs_out (by omega), A1 j (by omega)]; exact hC.2.1.2.1.2.2 j hj)
          have hV1 : v_R (z_sI h1 29 6 (nI (sh ||| X))) 29 n w T Wd (o_fs w (sh ||| X) f) := hR.shs (x := sh ||| X) hn12 hw16 (z_orlt hsh (by omega)) (by rw [z_II hS1 7 rfl]) (fun j hj => o_fs_in hj) (fun k hk => z_I_sI_nk (by simpa using hk)) (fun i => z_A_sI) (fun i => z_A_sI) (fun i => z_A_sI) (fun i => z_A_sI) (fun j hj h2 => o_fs_out (by omega))
          have B1 : z_MB (o_fs w (sh ||| X) f) n m := fun x hx => by rw [o_fs_out (by omega)]; exact hB x hx
          obtain ⟨E1, hE1⟩ : ∃ E1, E1 = v_E n w T Wd (o_fs w (sh ||| X) f) lw (v_op (o_fs w (sh ||| X) f)) (2 ^ n - 1) m := ⟨_, rfl⟩
          have hE1n : E1.1 = n := by rw [hE1]; rfl
          have hpos1 : v_pos (o_fs w (sh ||| X) f) = v_pos f := by
            unfold v_pos v_at v_be v_hr
            rw [o_fs_out (by omega), o_fs_out (by omega), o_fs_out (by omega)]
          have hk1 : e_ok E1 (v_pos f) := hR.ok h0 hn12 hE1n
          obtain ⟨j, u, hcR⟩ := c_ex (hE1n ▸ hn12) hk1
          obtain ⟨g2, b1, b2, b3, -, -, b4, -⟩ := z_layRing hF hok hE1 B1 C1 hV1 h0 (by rw [hpos1]; exact hcR)
          rw [hpos1] at b4
          have S2 := C1.1.fr b2 (by decide)
          have hcx : c_x E1 (v_pos f) = c_x (v_E n w T Wd f lw (fun j => !(sh ||| X).testBit j) (2 ^ n - 1) m) (v_pos f) := by
            refine funext fun i => ?_
            show e_it E1 i (v_pos f) = e_it (v_E n w T Wd f lw (fun j => !(sh ||| X).testBit j) (2 ^ n - 1) m) i (v_pos f)
            rw [hE1]
            exact e_it_cong (fun p => o_fs_go hn12 hw16 p) i _
          have hlt12 : ∀ i, (c_x E1 (v_pos f) i).1 < 12 := fun i => Nat.lt_of_lt_of_le (c_x_ok (i := i) hk1).1 (hE1n ▸ hn12)
          have hcR2 := hcR
          rw [hcx] at hcR2
          have f2 : z_fr [68, 77, 78, 84, 87] h g2 := f1.trans (b2.mono (by simp))
          have i2 : ∀ k, k < 32 ∨ 39 < k → z_I g2 68 k = z_I h 68 k := fun k hk => by rw [b3 k (by omega) (by omega) (by omega) (by omega) (by omega) (by omega) (by omega)]; exact i1 k hk
          have A2 : ∀ t, t < 36 ∨ 36 + w ≤ t → z_A g2 84 t = z_A h 84 t := fun t ht => by rw [b2.A (by decide)]; exact A1 t ht
          rw [b1, Option.bind_some, z_i68_38 S2, Option.bind_some, b4, z_mhas (Nat.lt_trans (c_m_lt hlt12 u) (by decide)) (by omega), Option.bind_some]
          by_cases c4 : (c_m (c_x E1 (v_pos f)) u).testBit a = true
          · rw [if_pos c4]
            refine skip g2 f2 i2 A2 fun _ _ z => ?_
            obtain ⟨i, i1, i2⟩ := c_m_bit.mp c4
            rw [hcx] at i2
            exact absurd i2 ((o_nv_iff hcR2).mp z i i1)
          · rw [if_neg c4]
            have hnv : o_nv (v_E n w T Wd f lw (fun j => !(sh ||| X).testBit j) (2 ^ n - 1) m) (v_pos f) a := (o_nv_iff hcR2).mpr fun i hi z => c4 (c_m_bit.mpr ⟨i, hi, by rw [hcx]; exact z⟩)
            refine ih (X + 1) nn g2 (some X) (by omega) (by omega) f2 i2 A2 (fun y hy => by cases hy; omega) ?_
            have h1 := hq.new (Q' := fun Y => Y = X ∧ X &&& sh = 0 ∧ c_pc 16 X ≤ 3 ∧ o_nv (v_E n w T Wd f lw (fun j => !(sh ||| X).testBit j) (2 ^ n - 1) m) (v_pos f) a) (y := X) ⟨rfl, hXs, by omega, hnv⟩ (fun z hz => .inl (hfew z hz)) (fun Y ⟨e, _⟩ => by rw [e]; unfold c_lt; omega)
            refine h1.cong fun Y => ⟨fun ⟨z1, z2⟩ => ?_, fun z => ?_⟩
            · by_cases e : Y = X
              · subst e; exact .inr ⟨rfl, z2⟩
              · exact .inl ⟨by omega, z2⟩
            · rcases z with ⟨z1, z2⟩ | ⟨rfl, z2⟩
              · exact ⟨by omega, z2⟩
              · exact ⟨by omega, z2⟩
        · rw [if_pos (show fw_b (!true) = (0 : Int32) by decide)]
          refine skip g1 f1 i1 A1 fun z _ _ => ?_
          rw [(o_bad_iff (sh := sh) (show X < 2 ^ w by omega)).mpr z] at hbad
          cases hbad
      · rw [if_neg c2]
        refine skip g hf hI hA fun _ _ _ => ?_
        have c3 : ∃ y, r = some y ∧ ¬ c_pc 16 X < c_pc 16 y := Classical.byContradiction fun z => c2 (w2.mpr fun y hy => Classical.byContradiction fun z2 => z ⟨y, hy, z2⟩)
        obtain ⟨y, y1, y2⟩ := c3
        have hy := hr y y1
        refine ⟨y, y1, ?_⟩
        unfold c_lt
        omega
theorem w_k.sf (hf : o_sf h g) : w_k h g := by
  refine ⟨hf.1.1, fun j h1 _ h3 h4 _ _ _ => hf.1.2 j (fun z => ?_), fun k _ => hf.1.I (by decide), hf.1.I (by decide), hf.1.I (by decide), fun hT => ⟨hf.2.2 hT.1, hT.2.of fun k => hf.1.R (by decide)⟩⟩
  simp only [List.mem_cons, List.not_mem_nil, or_false] at z
  rcases z with z | z | z | z
  · exact h3 z
  · subst z; exact h1 (by decide)
  · subst z; exact h1 (by decide)
  · exact h4 z
/-- shutters -/
theorem call_shutters (hF : 70000 ≤ F) (hR : w_R h) : ∃ v h1 h2, s_Joy_shutters F h (some 15) xx = some (v, h1) ∧ s_Mod_shutters F h1 (some 68) xx = some (v, h2) ∧ w_call h h1 h2 := by
  obtain ⟨n, w, T, Wd, f, lw, p, hR⟩ := hR
  have hS := hR.1
  have hok := hR.ok
  have hn12 := hok.1
  have hn := hR.2.1.2.1.1
  have hnm := hR.2.1.2.2.1
  have em : ∀ g, z_Sh g → z_I g 68 24 = nI n → s_Mod_shutters F g (some 68) xx = if v_in xx n = true then ((s_Mod_putAside F g (some 68)).bind fun h13 => l_Mod_shutters_18 F (some 68) xx (fun e164_2 he164 => (s_Mod_takeBack F he164 (some 68)).bind fun h165 => some (e164_2, h165)) F (-1 : Int32) (0 : Int32) h13) else some ((-1 : Int32), g) := by
    intro g hg e
    unfold s_Mod_shutters
    rw [z_c68 hg, Option.bind_some, z_isHouse hg e hn12, Option.bind_some]
  unfold s_Joy_shutters
  rw [z_c15 hS, Option.bind_some, z_r15_3 hS, Option.bind_some, z_hasHouse hS (.inr (.inl rfl)) hn, Option.bind_some]
  by_cases hx : v_in xx n = true
  · obtain ⟨a, ha, rfl⟩ := v_in_t hx (by omega)
    have hpos : 0 < n := by omega
    obtain ⟨m, h1, m1, m2, a1, a2, a3, a4, a5, a6, a7, a8, a9, a10⟩ := w_start hF hR hpos
    obtain ⟨P, hP⟩ : ∃ P : o_W, P = (n, (w, (T, (Wd, (f, lw))))) := ⟨_, rfl⟩
    have a50 := a5
    obtain ⟨-, -, -, -, -, -, ⟨sh, s1, s2, s3⟩, -⟩ := a50
    have hsV : o_sV P m sh h1 := by rw [hP]; exact ⟨a3.1, a5, a4.1, a4.2.1, a8, a9, s2, a3.2.2.2.2.2.2.2.2.1⟩
    obtain ⟨r, h2, b1, b2, b3⟩ := z_fewestShutters (P := P) (a := a) hF (by rw [hP]; exact hok) (by rw [hP]; exact hpos) m1 (by omega) s1 hsV
    have b4 : o_is (fun X => X < 2 ^ w ∧ X &&& sh = 0 ∧ c_pc 16 X ≤ 3 ∧ o_nv (v_E n w T Wd f lw (fun j => !(sh ||| X).testBit j) (2 ^ n - 1) m) (v_pos f) a) r := by
      rw [hP] at b3
      exact b3
    have hk2 : w_k h1 h2 := w_k.sf b2
    have hR2 := a3.kp hk2
    have S2 := hR2.1
    have MC2 := hR2.MC
    rw [if_pos hx, a1, Option.bind_some, z_r15_13 a3.1, Option.bind_some, b1, Option.bind_some]
    obtain ⟨h3, c1, c2, c3⟩ := z_putAside hF S2
    have S3 := S2.fr c2 (by decide)
    have MC3 : z_MC h3 n w T Wd f lw (2 ^ n - 1) := MC2.of c2 (by decide) (by decide) (fun k _ => c2.I (by decide))
    obtain ⟨g4, r', d1, d2, d3, d4, d5⟩ := z_shut18 (a := a) (h := h3) (h1 := h2) (sh := sh) (K := fun e164_2 he164 => (s_Mod_takeBack F he164 (some 68)).bind fun h165 => some (e164_2, h165)) hF hok hpos (by omega) s1 s3 m2 hR2.2.1.2.1 S2 MC3 (fun t ht => (c3 t ht).trans (MC2.2.1.2.1.2.2 t ht)) (2 ^ w) 0 F h3 none (by omega) (by have := z_pole (n := 16) hok.2.1; omega) z_fr.refl (fun _ _ => rfl) (fun _ _ => rfl) (fun y hy => by cases hy) (fun X hX => absurd hX.1 (Nat.not_lt_zero _))
    have er : r' = r := d5.uniq b4
    have S4 := S3.fr d2 (by decide)
    obtain ⟨g5, e1, e2, e3⟩ := z_takeBack hF S4
    have F5 : z_fr [68, 77, 78, 84, 87, 88] h2 g5 := ((c2.mono (by simp)).trans (d2.mono (by simp))).trans (e2.mono (by simp))
    have hk5 : w_k h2 g5 := o_mback S2 F5 (fun j => by
      rw [e3 j]
      by_cases hj : j < 118
      · rw [if_pos hj, d2.A (by decide)]; exact c3 j hj
      · rw [if_neg hj, d4 j (by have := hok.2.1; omega), c2.A (by decide)]) (fun k hk => by rw [e2.I (by decide), d3 k (by omega), c2.I (by decide)])
    refine ⟨g_on r (-1), h2, g5, rfl, ?_, w_call.kk hR (a2.trans hk2) hk5⟩
    rw [em h2 S2 hR2.2.1.2.2.1, if_pos hx, c1, Option.bind_some]
    refine Eq.trans d1 ?_
    rw [e1, Option.bind_some, er]
  · rw [if_neg hx]
    exact ⟨_, h, h, rfl, by rw [em h hS hnm, if_neg hx], w_call.rr hR⟩
end RT
