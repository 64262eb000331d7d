-- PRETEND: the same way, other backs
/-- the same where it matters -/
def e_eq (E E' : z_E) : Prop := E.1 = E'.1 ∧ (∀ a x, E.2.1 a x = E'.2.1 a x) ∧ (∀ x, x < E.1 → E.2.2.1 x = E'.2.2.1 x) ∧ (∀ x, x < E.1 → E.2.2.2.1 x = E'.2.2.2.1 x) ∧ ∀ x, x < E.1 → ∀ t, E.2.2.2.2 x t = E'.2.2.2.2 x t
section PT
variable {E E' : z_E} {p q : e_P} {i j k n w m m' e c d t F a b nn N hr pp v : Nat} {h h' g g' : fw_H} {T Wd f f' : Nat → Int32} {lw : Option (List q_C)} {op : Nat → Bool} {x y z u : Int32}
theorem e_eq_ds (hE : e_eq E E') : e_ds E a = e_ds E' a := by
  unfold e_ds
  rw [hE.1]
  congr 1
  exact funext fun x => hE.2.1 a x
theorem e_sum_cong (h : ∀ x, x < E.1 → E.2.2.1 x = E'.2.2.1 x) : ∀ (l : List Nat) (s : Int32), (∀ x, x ∈ l → x < E.1) → e_sum E s l = e_sum E' s l
  | [], s, _ => rfl
  | x :: l, s, hl => by
    show e_sum E (s + E.2.2.1 x) l = e_sum E' (s + E'.2.2.1 x) l
    rw [h x (hl x List.mem_cons_self)]
    exact e_sum_cong h l _ (fun y hy => hl y (List.mem_cons_of_mem _ hy))
theorem e_st_cong (h : ∀ x, x < E.1 → ∀ t, E.2.2.2.2 x t = E'.2.2.2.2 x t) (hx : k < E.1) (s : Nat × Int32) : e_st E b t s k = e_st E' b t s k := by
  unfold e_st
  rw [h k hx t]
theorem e_best_cong (h : ∀ x, x < E.1 → ∀ t, E.2.2.2.2 x t = E'.2.2.2.2 x t) (l : List Nat) : ∀ (s : Nat × Int32), (∀ x, x ∈ l → x < E.1) → e_best E b t s l = e_best E' b t s l := by
  induction l with
  | nil => intro s _; unfold e_best; rw [List.foldl_nil, List.foldl_nil]
  | cons x l ih =>
    intro s hl
    have e1 := e_st_cong (b := b) (t := t) h (hl x List.mem_cons_self) s
    have e2 := ih (e_st E b t s x) (fun y hy => hl y (List.mem_cons_of_mem _ hy))
    unfold e_best at e2 ⊢
    rw [List.foldl_cons, List.foldl_cons, ← e1]
    exact e2
theorem e_eq_next (hE : e_eq E E') (ha : a < E.1) : e_next E a b t = e_next E' a b t := by
  have hl : ∀ x, x ∈ e_ds E a → x < E.1 := fun x hx => (e_ds_mem.mp hx).1
  unfold e_next
  rw [e_sum_cong hE.2.2.1 _ _ hl, e_best_cong hE.2.2.2.2 _ _ hl, hE.2.2.2.1 a ha, e_eq_ds hE]
theorem e_eq_go (hE : e_eq E E') (hp : e_ok E p) : e_go E p = e_go E' p := by
  unfold e_go
  rw [e_eq_next hE hp.1]
theorem e_eq_it (hE : e_eq E E') : ∀ (i : Nat) (p : e_P), e_ok E p → e_it E i p = e_it E' i p
  | 0, _, _ => rfl
  | i + 1, p, hp => by
    show e_it E i (e_go E p) = e_it E' i (e_go E' p)
    rw [← e_eq_go hE hp]
    exact e_eq_it hE i _ (e_go_ok hp)
theorem e_eq_ok (hE : e_eq E E') (hp : e_ok E p) : e_ok E' p := ⟨hE.1 ▸ hp.1, hE.1 ▸ hp.2.1, hp.2.2⟩
theorem v_wish_of (hfi : f i = f' i) (h52 : f 52 = f' 52) : v_wish lw T f i u t = v_wish lw T f' i u t := by
  unfold v_wish
  match lw with
  | none => simp only [hfi, h52]
  | some cls =>
    have : v_let T f i u t = v_let T f' i u t := by
      funext j
      unfold v_let
      rw [hfi, h52]
    simp only [this]
theorem z_cell_eq (e : z_ck h a = some (1, (n, []))) (hc : z_ck h' a = z_ck h a) (hA : ∀ j, z_A h' a j = z_A h a j) : h'[a]? = h[a]? := by
  obtain ⟨f1, h1⟩ := z_arr e
  obtain ⟨f2, h2⟩ := z_arr (hc.trans e)
  have : f2 = f1 := by
    funext j
    have := hA j
    unfold z_A at this
    rw [h1, h2] at this
    exact this
  rw [h1, h2, this]
/-- what the one has more than the other behind i hours -/
def g_gain (E : z_E) (p : e_P) (a b : Nat) : Nat → Int32
  | 0 => 0
  | i + 1 => g_gain E p a b i + (if (c_x E p (i + 1)).1 = a then 1 else if (c_x E p (i + 1)).1 = b then -1 else 0)
theorem g_gain_cong (hE : e_eq E E') (hp : e_ok E p) : ∀ i, g_gain E p a b i = g_gain E' p a b i
  | 0 => rfl
  | i + 1 => by
    show g_gain E p a b i + (if (e_it E (i + 1) p).1 = a then 1 else if (e_it E (i + 1) p).1 = b then -1 else 0) = _
    rw [g_gain_cong hE hp i, e_eq_it hE (i + 1) p hp]
    rfl
/-- other backs -/
def g_bk (m a b c d : Nat) : Nat := (m &&& ((2 ^ a ||| 2 ^ b) ^^^ 4294967295)) ||| (c * 2 ^ a) ||| (d * 2 ^ b)
theorem g_c2 (hc : c < 2) (i a : Nat) : (c * 2 ^ a).testBit i = (decide (c = 1) && decide (a = i)) := by
  obtain rfl | rfl : c = 0 ∨ c = 1 := by omega
  · rw [Nat.zero_mul, Nat.zero_testBit]; rfl
  · rw [Nat.one_mul, Nat.testBit_two_pow]; simp
theorem g_bk_bit (hab : a ≠ b) (ha : a < 12) (hb : b < 12) (hc : c < 2) (hd : d < 2) (hi : i < 32) : (g_bk m a b c d).testBit i = if i = a then decide (c = 1) else if i = b then decide (d = 1) else m.testBit i := by
  unfold g_bk
  have hff : (4294967295 : Nat).testBit i = true := by
    have : ∀ i, i < 32 → (4294967295 : Nat).testBit i = true := by decide
    exact this i hi
  rw [Nat.testBit_or, Nat.testBit_or, Nat.testBit_and, Nat.testBit_xor, Nat.testBit_or, Nat.testBit_two_pow, Nat.testBit_two_pow, hff, g_c2 hc, g_c2 hd]
  by_cases h1 : i = a
  · subst h1
    rw [if_pos rfl]
    have h2 : ¬ b = i := fun z => hab z.symm
    simp [h2]
  · have h1' : ¬ a = i := fun z => h1 z.symm
    rw [if_neg h1]
    by_cases h2 : i = b
    · subst h2
      rw [if_pos rfl]
      simp [h1']
    · have h2' : ¬ b = i := fun z => h2 z.symm
      rw [if_neg h2]
      simp [h1', h2']
theorem g_c2_lt (hc : c < 2) (ha : a < 12) : c * 2 ^ a < 2 ^ 12 := by
  have := z_pow ha
  obtain rfl | rfl : c = 0 ∨ c = 1 := by omega
  · omega
  · omega
theorem g_bk_lt (hm : m < 2 ^ 12) (ha : a < 12) (hb : b < 12) (hc : c < 2) (hd : d < 2) : g_bk m a b c d < 2 ^ 12 :=
  z_orlt (z_orlt (Nat.lt_of_le_of_lt Nat.and_le_left hm) (g_c2_lt hc ha)) (g_c2_lt hd hb)
theorem z_gainL (hF : 70000 ≤ F) (hp0 : e_ok E p) (ha : a < 12) (hb : b < 12) : ∀ (k i nn : Nat) (g : fw_H), i + k = 24 → k < nn → z_Sh g → z_CW g E → z_ps g (c_x E p i) →
    ∃ g', l_Ways_gain_53 F (some 59) (nI a) (nI b) nn (g_gain E p a b i) (nI i) g = some (g_gain E p a b 24, g') ∧ z_w g g' := by
  intro k
  induction k with
  | zero =>
    intro i nn g hi hnn hS hC hp
    obtain ⟨nn, rfl⟩ : ∃ k, nn = k + 1 := ⟨nn - 1, by omega⟩
    obtain rfl : i = 24 := by omega
    refine ⟨g, ?_, z_w.refl⟩
    rw [l_Ways_gain_53, if_pos (by decide)]
  | succ k ih =>
    intro i nn g hi hnn hS hC hp
    obtain ⟨nn, rfl⟩ : ∃ k, nn = k + 1 := ⟨nn - 1, by omega⟩
    obtain ⟨g1, a1, a2, a3⟩ := z_hour hF hS hC hp (c_x_ok hp0)
    rw [← c_x_succ] at a3
    have S1 := a2.sh hS
    have hat : (c_x E p (i + 1)).1 < 12 := Nat.lt_of_lt_of_le (c_x_ok (i := i + 1) hp0).1 hC.1.1
    obtain ⟨g4, b1, b2⟩ := ih (i + 1) nn g1 (by omega) (by omega) S1 (a2.cw hC) a3
    rw [l_Ways_gain_53, if_neg (show ¬ (24 : Int32) ≤ nI i from nI_ge (b := 24) (by omega) (by decide)), z_r59_0 hS, Option.bind_some, a1, Option.bind_some, z_r59_0 S1, Option.bind_some, z_i48_2 S1, Option.bind_some, a3.1, show nI i + 1 = nI (i + 1) from nI_1 i]
    have hgo : g_gain E p a b (i + 1) = g_gain E p a b i + (if (c_x E p (i + 1)).1 = a then 1 else if (c_x E p (i + 1)).1 = b then -1 else 0) := rfl
    rw [hgo] at b1
    by_cases h1 : (c_x E p (i + 1)).1 = a
    · rw [if_neg (fun z => z (by rw [h1]))]
      rw [if_pos h1] at b1
      exact ⟨g4, b1, a2.trans b2⟩
    · rw [if_pos (fun z => h1 ((nI_eq (by omega) (by omega)).mp z)), Option.bind_some, z_i48_2 S1, Option.bind_some, a3.1]
      rw [if_neg h1] at b1
      by_cases h2 : (c_x E p (i + 1)).1 = b
      · rw [if_neg (fun z => z (by rw [h2]))]
        rw [if_pos h2] at b1
        exact ⟨g4, b1, a2.trans b2⟩
      · rw [if_pos (fun z => h2 ((nI_eq (by omega) (by omega)).mp z))]
        rw [if_neg h2, Int32.add_zero] at b1
        exact ⟨g4, b1, a2.trans b2⟩
/-- nothing but the walk's place and its backs -/
def z_wb (h h' : fw_H) : Prop := z_fr [48] h h' ∧ (∀ k, k ≠ 2 → k ≠ 3 → k ≠ 4 → k ≠ 5 → z_I h' 48 k = z_I h 48 k) ∧ ∀ k, z_R h' 48 k = z_R h 48 k
theorem z_wb.trans {h'' : fw_H} (h1 : z_wb h h') (h2 : z_wb h' h'') : z_wb h h'' := ⟨h1.1.trans h2.1, fun k a b c d => (h2.2.1 k a b c d).trans (h1.2.1 k a b c d), fun k => (h2.2.2 k).trans (h1.2.2 k)⟩
theorem z_wb.ofw (h1 : z_w h h') : z_wb h h' := ⟨h1.1, fun k a b c _ => h1.2.1 k a b c, h1.2.2⟩
theorem w_k.wb (h1 : z_wb h h') : w_k h h' := w_k.w48 h1.1 (h1.2.1 12 (by decide) (by decide) (by decide) (by decide))
/-- what the class's own trials need -/
def g_W (h : fw_H) (n w : Nat) (T Wd f : Nat → Int32) (lw : Option (List q_C)) : Prop := z_Sh h ∧ z_CV h n w T Wd f lw (v_op f) ∧ v_R h 49 n w T Wd f ∧ z_I h 48 6 = nI (2 ^ n - 1)
theorem g_W.wb (hok : v_ok n w Wd) (h1 : z_wb h h') (hW : g_W h n w T Wd f lw) : g_W h' n w T Wd f lw :=
  ⟨hW.1.fr h1.1 (by decide), hW.2.1.fr h1.1 (by decide) (by decide) (by decide) (by decide) (by decide), hW.2.2.1.fr hok.1 hok.2.1 h1.1 (fun d hd => by simp; omega), (h1.2.1 6 (by decide) (by decide) (by decide) (by decide)).trans hW.2.2.2⟩
/-- Ways.gain -/
theorem z_gain (hF : 70000 ≤ F) (hok : v_ok n w Wd) (h0 : 0 < n) (hW : g_W h n w T Wd f lw) (hm : m < 2 ^ 12) (h497 : z_I h 49 7 = nI m) (ha : a < n) (hb : b < n) (hc : c < 2) (hd : d < 2) :
    ∃ h', s_Ways_gain F h (some 59) (nI a) (nI b) (nI c) (nI d) = some (g_gain (v_E n w T Wd f lw (v_op f) (2 ^ n - 1) (g_bk m a b c d)) (v_pos f) a b 24, h') ∧ z_wb h h' := by
  obtain ⟨hS, hV, hR, h6⟩ := hW
  have hn12 := hok.1
  have hbk := g_bk_lt hm (show a < 12 by omega) (show b < 12 by omega) hc hd
  have e1 : ((nI m &&& ((((1 : Int32) <<< (nI a &&& 31)) ||| ((1 : Int32) <<< (nI b &&& 31))) ^^^ (-1 : Int32))) ||| (nI c <<< (nI a &&& 31))) ||| (nI d <<< (nI b &&& 31)) = nI (g_bk m a b c d) := by
    have c1 := g_c2_lt hc (show a < 12 by omega)
    have d1 := g_c2_lt hd (show b < 12 by omega)
    rw [z_sh1 (by omega), z_sh1 (by omega), fa_or, show (-1 : Int32) = nI 4294967295 from rfl, nx_xor, fa_and, z_shl (by omega) (by omega), z_shl (by omega) (by omega), fa_or, fa_or]
    rfl
  obtain ⟨g1, hg1⟩ : ∃ g1, g1 = z_sI h 48 5 (nI (g_bk m a b c d)) := ⟨_, rfl⟩
  have S1 : z_Sh g1 := by rw [hg1]; exact z_Sh_sI hS
  have w1 : z_wb h g1 := by rw [hg1]; exact ⟨z_fr.refl.sI (by simp), fun k _ _ _ x => z_I_sI_nk x, fun k => z_R_sI⟩
  have R1 : v_R g1 49 n w T Wd f := hR.fr hok.1 hok.2.1 w1.1 (fun d hd => by simp; omega)
  have V1 : z_CV g1 n w T Wd f lw (v_op f) := hV.fr w1.1 (by decide) (by decide) (by decide) (by decide) (by decide)
  obtain ⟨-, -, -, -, -, q6, q7, q8, q9⟩ := R1.pos h0 hn12
  obtain ⟨g2, b1, b2, b3⟩ := z_restart S1 q7 q8 q9 q6
  have C1 : z_CW g1 (v_E n w T Wd f lw (v_op f) (2 ^ n - 1) (g_bk m a b c d)) := V1.cw hok (v_full hn12) hbk ((w1.2.1 6 (by decide) (by decide) (by decide) (by decide)).trans h6) (by rw [hg1, z_II hS 9 rfl])
  have hk0 : e_ok (v_E n w T Wd f lw (v_op f) (2 ^ n - 1) (g_bk m a b c d)) (v_pos f) := R1.ok h0 hn12 rfl
  obtain ⟨g3, c1, c2⟩ := z_gainL (a := a) (b := b) (p := v_pos f) hF hk0 (by omega) (by omega) 24 0 F g2 (by omega) (by omega) (b2.sh S1) (b2.cw C1) b3
  unfold s_Ways_gain
  rw [z_c59 hS, Option.bind_some, z_r59_0 hS, Option.bind_some, Option.bind_some, z_r48_0 hS, Option.bind_some, z_i49_7 hS, Option.bind_some, h497, e1, z_w48_5 hS, Option.bind_some, ← hg1, z_r59_0 S1, Option.bind_some, b1, Option.bind_some]
  exact ⟨g3, c1, (w1.trans (z_wb.ofw b2)).trans (z_wb.ofw c2)⟩
/-- the state with other backs -/
def g_f (f : Nat → Int32) (a b : Nat) (x y : Int32) : Nat → Int32 := fun j => if j = 12 + b then y else if j = 12 + a then x else f j
theorem z_mgainL (hF : 70000 ≤ F) (hok : v_ok n w Wd) (hE : E = v_E n w T Wd f' lw (v_op f') e m) (hB : z_MB f' n m) (hp0 : e_ok E p) (ha : a < 12) (hb : b < 12) {K : Int32 → fw_H → Option (Int32 × fw_H)} :
    ∀ (k i nn : Nat) (g : fw_H), i + k = 24 → k < nn → z_MC g n w T Wd f' lw e → z_mps g (c_x E p i) →
    ∃ g', l_Mod_pretendOf_53 F (some 68) (nI a) (nI b) K nn (g_gain E p a b i) (nI i) g = K (g_gain E p a b 24) g' ∧ z_mw g g' := by
  have hE12 : E.1 ≤ 12 := by rw [hE]; exact hok.1
  intro k
  induction k with
  | zero =>
    intro i nn g hi hnn hC hp
    obtain ⟨nn, rfl⟩ : ∃ k, nn = k + 1 := ⟨nn - 1, by omega⟩
    obtain rfl : i = 24 := by omega
    refine ⟨g, ?_, z_mw.refl⟩
    rw [l_Mod_pretendOf_53, if_pos (by decide)]
  | succ k ih =>
    intro i nn g hi hnn hC hp
    obtain ⟨nn, rfl⟩ : ∃ k, nn = k + 1 := ⟨nn - 1, by omega⟩
    obtain ⟨g1, a1, a2, a3⟩ := z_mwalk hF hok hE hB hC hp (c_x_ok hp0)
    rw [← c_x_succ] at a3
    have C1 := hC.mw a2
    have hat : (c_x E p (i + 1)).1 < 12 := Nat.lt_of_lt_of_le (c_x_ok (i := i + 1) hp0).1 hE12
    obtain ⟨g4, b1, b2⟩ := ih (i + 1) nn g1 (by omega) (by omega) C1 a3
    rw [l_Mod_pretendOf_53, if_neg (show ¬ (24 : Int32) ≤ nI i from nI_ge (b := 24) (by omega) (by decide)), a1, Option.bind_some, z_i68_32 C1.1, Option.bind_some, a3.1, show nI i + 1 = nI (i + 1) from nI_1 i]
    have hgo : g_gain E p a b (i + 1) = g_gain E p a b i + (if (c_x E p (i + 1)).1 = a then 1 else if (c_x E p (i + 1)).1 = b then -1 else 0) := rfl
    rw [hgo] at b1
    by_cases h1 : (c_x E p (i + 1)).1 = a
    · rw [if_neg (fun z => z (by rw [h1]))]
      rw [if_pos h1] at b1
      exact ⟨g4, b1, a2.trans b2⟩
    · rw [if_pos (fun z => h1 ((nI_eq (by omega) (by omega)).mp z)), Option.bind_some]
      rw [if_neg h1] at b1
      by_cases h2 : (c_x E p (i + 1)).1 = b
      · rw [if_neg (fun z => z (by rw [h2]))]
        rw [if_pos h2] at b1
        exact ⟨g4, b1, a2.trans b2⟩
      · rw [if_pos (fun z => h2 ((nI_eq (by omega) (by omega)).mp z))]
        rw [if_neg h2] at b1
        exact ⟨g4, b1, a2.trans b2⟩
/-- the reference's pretendOf -/
theorem z_pretendOf (hF : 70000 ≤ F) (hok : v_ok n w Wd) (hB : z_MB f n m) (hm : m < 2 ^ 12) (hC : z_MC h n w T Wd f lw e) (hR : v_R g 29 n w T Wd f) (ha : a < n) (hb : b < n) (hab : a ≠ b) (hc : c < 2) (hd : d < 2) :
    ∃ h', s_Mod_pretendOf F h (some 68) (nI a) (nI b) (nI c) (nI d) = some (g_gain (v_E n w T Wd f lw (v_op f) e (g_bk m a b c d)) (v_pos f) a b 24, h') ∧ z_mw h h' := by
  have hn12 := hok.1
  have h0 : 0 < n := by omega
  have hS := hC.1
  have hf84 := hC.2.1.2.1.2.2
  have i12 : ∀ j : Nat, (12 : Int32) + nI j = nI (12 + j) := fun j => nI_add 12 j
  -- the state that it pretends
  obtain ⟨g1, hg1⟩ : ∃ g1, g1 = z_sA h 84 (12 + a) (nI c) := ⟨_, rfl⟩
  have S1 : z_Sh g1 := by rw [hg1]; exact z_Sh_sA hS
  obtain ⟨g2, hg2⟩ : ∃ g2, g2 = z_sA g1 84 (12 + b) (nI d) := ⟨_, rfl⟩
  have S2 : z_Sh g2 := by rw [hg2]; exact z_Sh_sA S1
  have f2 : z_fr [84] h g2 := by rw [hg2, hg1]; exact (z_fr.refl.sA (by simp)).sA (by simp)
  have A2 : ∀ j, z_A g2 84 j = if j = 12 + b then nI d else if j = 12 + a then nI c else z_A h 84 j := fun j => by rw [hg2, z_A_sA (z_ckT S1 rfl), hg1, z_A_sA (z_ckT hS rfl)]
  obtain ⟨F', hF'⟩ : ∃ F' : Nat → Int32, F' = g_f f a b (nI c) (nI d) := ⟨_, rfl⟩
  have A2f : ∀ j, j < 118 → z_A g2 84 j = F' j := fun j hj => by
    rw [A2 j, hF', hf84 j hj]; rfl
  have hFo : ∀ j, j ≠ 12 + a → j ≠ 12 + b → F' j = f j := fun j x y => by rw [hF']; show (if j = 12 + b then _ else if j = 12 + a then _ else f j) = f j; rw [if_neg y, if_neg x]
  have C2 : z_MC g2 n w T Wd F' lw e := by
    obtain ⟨c1, ⟨v1, ⟨v2, v3, v4⟩, v5, v6⟩, c3⟩ := hC
    refine ⟨S2, ⟨by rw [f2.I (by decide)]; exact v1, ⟨by rw [f2.I (by decide)]; exact v2, fun j hj => by rw [f2.A (by decide)]; exact v3 j hj, A2f⟩, fun j hj => by rw [f2.A (by decide)]; exact v5 j hj, ?_⟩, fun x hx => by rw [f2.A (by decide)]; exact c3 x hx⟩
    match lw, v6 with
    | none, v6 => rw [f2.I (by decide)]; exact v6
    | some cls, ⟨k, k1, k2, k3, k4⟩ => exact ⟨k, k1, by rw [f2.I (by decide)]; exact k2, k3.of (fun a j ha => f2.A (by simp; omega)), k4⟩
  have B2 : z_MB F' n (g_bk m a b c d) := by
    intro x hx
    rw [g_bk_bit hab (by omega) (by omega) hc hd (by omega), hF']
    show (if 12 + x = 12 + b then nI d else if 12 + x = 12 + a then nI c else f (12 + x)) = _
    have hcb : ∀ c, c < 2 → nI c = fw_b (decide (c = 1)) := by decide
    by_cases x1 : x = b
    · rw [if_pos (by omega), if_neg (by omega), if_pos x1]; exact hcb d hd
    · rw [if_neg (by omega)]
      by_cases x2 : x = a
      · rw [if_pos (by omega), if_pos x2]; exact hcb c hc
      · rw [if_neg (by omega), if_neg x2, if_neg x1]; exact hB x hx
  have hpos : v_pos F' = v_pos f := by
    unfold v_pos v_at v_be v_hr
    rw [hFo 54 (by omega) (by omega), hFo 55 (by omega) (by omega), hFo 56 (by omega) (by omega)]
  have hEE : e_eq (v_E n w T Wd f lw (v_op f) e (g_bk m a b c d)) (v_E n w T Wd F' lw (v_op F') e (g_bk m a b c d)) := by
    refine ⟨rfl, fun a' x => ?_, fun _ _ => rfl, fun _ _ => rfl, fun x hx t => ?_⟩
    · exact v_door_cong (fun j hj => by unfold v_op; rw [hFo (36 + j) (by omega) (by omega)])
    · have hx' : x < n := hx
      exact v_wish_of (hFo x (by omega) (by omega)).symm (hFo 52 (by omega) (by omega)).symm
  have hk0 : e_ok (v_E n w T Wd f lw (v_op f) e (g_bk m a b c d)) (v_pos f) := hR.ok h0 hn12 rfl
  -- startWalk of the pretended state
  obtain ⟨p1, p2, p3, p4, p5, p6, -⟩ := hR.pos h0 hn12
  have st : ∃ h', s_Mod_startWalk g2 (some 68) = some h' ∧ (z_mw g2 h' ∧ z_mps h' (v_pos f)) := by
    unfold s_Mod_startWalk
    have T1 : z_Sh (z_sI g2 68 32 (f 54)) := z_Sh_sI S2
    have T2 : z_Sh (z_sI (z_sI g2 68 32 (f 54)) 68 33 (f 55)) := z_Sh_sI T1
    rw [z_c68 S2, Option.bind_some, z_r68_26 S2, Option.bind_some, show (54 : Int32) = nI 54 from rfl, z_a84 S2 (by decide), Option.bind_some, A2f 54 (by decide), hFo 54 (by omega) (by omega), z_w68_32 S2, Option.bind_some]
    rw [z_r68_26 T1, Option.bind_some, show (55 : Int32) = nI 55 from rfl, z_a84 T1 (by decide), Option.bind_some, z_A_sI, A2f 55 (by decide), hFo 55 (by omega) (by omega), z_w68_33 T1, Option.bind_some]
    rw [z_r68_26 T2, Option.bind_some, show (56 : Int32) = nI 56 from rfl, z_a84 T2 (by decide), Option.bind_some, z_A_sI, z_A_sI, A2f 56 (by decide), hFo 56 (by omega) (by omega), p5, show (24 : Int32) = nI 24 from rfl, z_irem (by omega) (by decide) (by decide), Option.bind_some, z_w68_34 T2, Option.bind_some]
    refine ⟨_, rfl, ((z_mw.s (by omega)).trans (z_mw.s (by omega))).trans (z_mw.s (by omega)), ?_, ?_, ?_⟩
    · rw [z_I_sI_nk (by decide), z_I_sI_nk (by decide), z_II S2 12 rfl]; exact p1
    · rw [z_I_sI_nk (by decide), z_II T1 12 rfl]; exact p3
    · rw [z_II T2 12 rfl]; rfl
  obtain ⟨g3, a1, a2, a3⟩ := st
  have C3 := C2.mw a2
  unfold s_Mod_pretendOf
  rw [z_c68 hS, Option.bind_some, z_r68_26 hS, Option.bind_some, i12, z_a84 hS (by omega), Option.bind_some, Option.bind_some, i12, z_a84 hS (by omega), Option.bind_some, Option.bind_some, z_s84 hS (by omega), Option.bind_some, ← hg1, z_r68_26 S1, Option.bind_some, z_s84 S1 (by omega), Option.bind_some, ← hg2, a1, Option.bind_some]
  refine z_k (z_mgainL (p := v_pos f) hF hok rfl B2 (e_eq_ok hEE hk0) (show a < 12 by omega) (show b < 12 by omega) 24 0 F g3 (by omega) (by omega) C3 a3) fun g4 b2 => ?_
  have S4 := b2.sh C3.1
  have S5 : z_Sh (z_sA g4 84 (12 + a) (z_A h 84 (12 + a))) := z_Sh_sA S4
  rw [z_r68_26 S4, Option.bind_some, z_s84 S4 (by omega), Option.bind_some, z_r68_26 S5, Option.bind_some, z_s84 S5 (by omega), Option.bind_some, ← g_gain_cong hEE hk0]
  obtain ⟨g6, hg6⟩ : ∃ g6, g6 = z_sA (z_sA g4 84 (12 + a) (z_A h 84 (12 + a))) 84 (12 + b) (z_A h 84 (12 + b)) := ⟨_, rfl⟩
  rw [← hg6]
  refine ⟨g6, rfl, ?_⟩
  have A4 : ∀ j, z_A g4 84 j = z_A g2 84 j := fun j => by rw [b2.1.A (by decide), a2.1.A (by decide)]
  have A6 : ∀ j, z_A g6 84 j = z_A h 84 j := fun j => by
    rw [hg6, z_A_sA (z_ckT S5 rfl), z_A_sA (z_ckT S4 rfl), A4, A2]
    by_cases x1 : j = 12 + b
    · rw [if_pos x1, x1]
    · rw [if_neg x1]
      by_cases x2 : j = 12 + a
      · rw [if_pos x2, x2]
      · rw [if_neg x2, if_neg x1, if_neg x2]
  have f6 : z_fr [68, 77, 78, 84] h g6 := by
    rw [hg6]
    exact ((((f2.mono (by simp)).trans (a2.1.mono (by simp))).trans (b2.1.mono (by simp))).sA (by simp)).sA (by simp)
  refine ⟨⟨f6.1, fun j hj => ?_⟩, fun k x1 x2 x3 => ?_⟩
  · by_cases hj84 : j = 84
    · subst hj84; exact z_cell_eq (z_ckT hS rfl) (f6.1 84) A6
    · exact f6.2 j (by simp at hj ⊢; exact ⟨hj.1, hj.2.1, hj.2.2, hj84⟩)
  · rw [hg6, z_I_sA, z_I_sA, b2.2 k x1 x2 x3, a2.2 k x1 x2 x3, f2.I (by decide)]
end PT
