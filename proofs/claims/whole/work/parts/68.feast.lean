-- FEAST: wants more, one house alone
def g_w1 (f : Nat → Int32) (o : Nat) (x : Int32) : Nat → Int32 := fun j => if j = o then x else f j
def g_fi (P : Nat → Bool) : Nat → Nat → Option Nat
  | 0, _ => none
  | k + 1, o => if P o = true then some o else g_fi P k (o + 1)
def g_fo (P : Nat → Nat → Bool) (n : Nat) : Nat → Nat → Option (Nat × Nat)
  | 0, _ => none
  | k + 1, q => match g_fi (P q) n 0 with
    | some o => some (q, o)
    | none => g_fo P n k (q + 1)
/-- what the class's trials with wants need -/
def g_X (h : fw_H) (n w : Nat) (T Wd f : Nat → Int32) (lw : Option (List q_C)) (op : Nat → Bool) (m p : Nat) : Prop :=
  z_Sh h ∧ z_CV h n w T Wd f lw op ∧ v_R h 49 n w T Wd f ∧ z_I h 48 6 = nI (2 ^ n - 1) ∧ z_I h 48 5 = nI m ∧ z_R h 48 1 = some p ∧ z_LF h p lw
/-- nothing but what those trials write -/
def g_xf (p : Nat) (h h' : fw_H) : Prop := z_fr [48, 50, 56, 57, p + 2] h h' ∧ (∀ k, k ≠ 2 → k ≠ 3 → k ≠ 4 → z_I h' 48 k = z_I h 48 k) ∧ ∀ k, z_R h' 48 k = z_R h 48 k
section FE
variable {E E' : z_E} {q : e_P} {i j k n w m m' e c d t F a b o nn N hr p v : Nat} {h h' g g' : fw_H} {T Wd f f' : Nat → Int32} {lw : Option (List q_C)} {op : Nat → Bool} {x y z u : Int32}
theorem g_xf.refl : g_xf p h h := ⟨z_fr.refl, fun _ _ _ _ => rfl, fun _ => rfl⟩
theorem g_xf.trans {h'' : fw_H} (h1 : g_xf p h h') (h2 : g_xf p h' h'') : g_xf p h h'' := ⟨h1.1.trans h2.1, fun k a b c => (h2.2.1 k a b c).trans (h1.2.1 k a b c), fun k => (h2.2.2 k).trans (h1.2.2 k)⟩
theorem g_xf.ofw (h1 : z_w h h') : g_xf p h h' := ⟨h1.1.mono (by simp), h1.2.1, h1.2.2⟩
theorem g_w1_op (ho : o < 12) : v_op (g_w1 f o x) = v_op f := by
  funext j
  unfold v_op g_w1
  rw [if_neg (by omega)]
theorem g_w1_pos (ho : o < 12) : v_pos (g_w1 f o x) = v_pos f := by
  have h4 : g_w1 f o x 54 = f 54 := if_neg (by omega)
  have h5 : g_w1 f o x 55 = f 55 := if_neg (by omega)
  have h6 : g_w1 f o x 56 = f 56 := if_neg (by omega)
  unfold v_pos v_at v_be v_hr
  rw [h4, h5, h6]
theorem g_w1_back (x : Int32) : g_w1 (g_w1 f o x) o (f o) = f := by
  funext j
  unfold g_w1
  by_cases e : j = o
  · rw [if_pos e, e]
  · rw [if_neg e, if_neg e]
/-- Walk.want -/
theorem z_want (hF : 70000 ≤ F) (hok : v_ok n w Wd) (hX : g_X h n w T Wd f lw op m p) (ho : o < n) :
    ∃ h', s_Walk_want F h (some 48) (nI o) x = some h' ∧ (g_xf p h h' ∧ g_X h' n w T Wd (g_w1 f o (f o + x)) lw op m p) := by
  obtain ⟨hS, ⟨hPT, hTB, hDR⟩, hR, h6, h5, hp, hL⟩ := hX
  have hn12 := hok.1
  have hL0 := hL
  obtain ⟨hLW, h97, -⟩ := hL0
  obtain ⟨g1, hg1⟩ : ∃ g1, g1 = z_sA h 50 (5 * o) (z_A h 50 (5 * o) + x) := ⟨_, rfl⟩
  have S1 : z_Sh g1 := by rw [hg1]; exact z_Sh_sA hS
  have f1 : z_fr [50] h g1 := by rw [hg1]; exact z_fr.refl.sA (by simp)
  have A1 : ∀ j, z_A g1 50 j = if j = 5 * o then f o + x else z_A h 50 j := fun j => by rw [hg1, z_A_sA (z_ckT hS rfl), (hPT.2.1 o ho).1]
  have R1 : v_R g1 49 n w T Wd (g_w1 f o (f o + x)) := by
    obtain ⟨r1, r2, r3, r4, r5, r6, ⟨o2, r7, r8, r9⟩, ⟨o3, r12, r13, r14⟩, ⟨m1, r15, r16⟩, ⟨m2, r17, r18⟩, r19, r20, tt, l, r21, r22, r23, r24, r25, r26, r27⟩ := hR
    have hg : ∀ j, j ≠ o → g_w1 f o (f o + x) j = f j := fun j hj => if_neg hj
    refine ⟨by rw [f1.I (by decide)]; exact r1, by rw [f1.I (by decide)]; exact r2, fun i hi => ⟨?_, fun k k1 k5 => ?_⟩, fun i hi => by rw [f1.A (by decide), hg _ (by omega)]; exact r4 i hi, fun j hj => by rw [f1.A (by decide), f1.A (by decide)]; exact r5 j hj, ?_, ⟨o2, r7, by rw [f1.I (by decide)]; exact r8, fun j hj => by rw [hg _ (by omega)]; exact r9 j hj⟩, ⟨o3, r12, by rw [f1.I (by decide)]; exact r13, fun j hj => by rw [hg _ (by omega)]; exact r14 j hj⟩, ⟨m1, by rw [f1.I (by decide)]; exact r15, by rw [hg _ (by omega)]; exact r16⟩, ⟨m2, by rw [f1.I (by decide)]; exact r17, by rw [hg _ (by omega)]; exact r18⟩, fun z => by rw [f1.I (by decide), f1.I (by decide)]; exact r19 z, fun z => ?_, tt, l, r21, r22, by rw [f1.I (by decide)]; exact r23, by rw [hg _ (by omega)]; exact r24, by rw [f1.I (by decide)]; exact r25, by rw [hg _ (by omega)]; exact r26, fun i hi => by rw [f1.A (by decide), hg _ (by omega)]; exact r27 i hi⟩
    · show z_A g1 50 (5 * i) = _
      rw [A1]
      by_cases e : i = o
      · subst e; rw [if_pos rfl]; exact (if_pos rfl).symm
      · rw [if_neg (by omega), hg i e]; exact (r3 i hi).1
    · show z_A g1 50 (5 * i + k) = _
      rw [A1, if_neg (by omega)]; exact (r3 i hi).2 k k1 k5
    · obtain ⟨o1, q1, q2, q3⟩ := r6
      exact ⟨o1, q1, by rw [f1.I (by decide)]; exact q2, q3⟩
    · rw [f1.I (by decide), f1.I (by decide), hg 54 (by omega), hg 55 (by omega)]; exact r20 z
  have P1 : z_PT g1 n T (g_w1 f o (f o + x)) := ⟨R1.1, R1.2.2.1, by obtain ⟨mm, m1, m2⟩ := R1.2.2.2.2.2.2.2.2.1; exact ⟨mm, m1, m2⟩⟩
  have L1 : z_LF g1 p lw := hL.fr f1 (by simp; omega) (by simp; omega)
  have W1 : z_WI g1 n p T (g_w1 f o (f o + x)) lw := ⟨S1, P1, by rw [f1.R (by decide)]; exact hp, L1⟩
  obtain ⟨g2, a1, a2, a3, a4⟩ := z_wishes hF hn12 ho W1
  have S2 := S1.fr a2 (by simp; omega)
  have hf : z_fr [48, 50, 56, 57, p + 2] h g2 := (f1.mono (by simp)).trans (a2.mono (by simp))
  have w2 : g_xf p h g2 := ⟨hf, fun k _ _ _ => by rw [a2.I (by simp; omega), f1.I (by decide)], fun k => by rw [a2.R (by simp; omega), f1.R (by decide)]⟩
  unfold s_Walk_want s_Vil_want
  rw [z_c48 hS, Option.bind_some, z_r48_0 hS, Option.bind_some, z_c49 hS, Option.bind_some, z_r49_2 hS, Option.bind_some, show (0 : Int32) = nI 0 from rfl, z_trait hS (.inr (.inr (.inr rfl))) (by omega) (by decide), Option.bind_some, show nI o * (5 : Int32) + nI 0 = nI (5 * o) by rw [show (5 : Int32) = nI 5 from rfl, pk_mul, nI_add, Nat.mul_comm]; rfl, z_rput (z_ckT hS rfl) (show 5 * o < 60 by omega) (by decide), Option.bind_some, Option.bind_some, show z_sA h 50 (5 * o) (z_A h (49 + 1) (5 * o + 0) + x) = g1 from hg1.symm, a1]
  refine ⟨g2, rfl, w2, S2, ⟨P1.fr a2 (by simp; omega) (by simp; omega), fun y hy bk t ht => ?_, hDR.of (fun j => by rw [a2.A (by simp; omega), f1.A (by decide)]) (fun j => by rw [a2.A (by simp; omega), f1.A (by decide)])⟩, R1.fr hok.1 hok.2.1 a2 (fun d hd => by simp; omega), ?_, ?_, by rw [w2.2.2]; exact hp, L1.fr a2 (by simp; omega) (by simp; omega)⟩
  · by_cases e : y = o
    · subst e; exact a3 bk t ht
    · rw [a4 _ (by split <;> omega), f1.A (by decide), hTB y hy bk t ht]
      exact v_wish_of (if_neg e).symm (if_neg (by omega)).symm
  · rw [w2.2.1 6 (by decide) (by decide) (by decide)]; exact h6
  · rw [w2.2.1 5 (by decide) (by decide) (by decide)]; exact h5
/-- Ways.isThere -/
theorem z_isThere (hF : 70000 ≤ F) (hok : v_ok n w Wd) (h0 : 0 < n) (hm : m < 2 ^ 12) (hX : g_X h n w T Wd f lw op m p) (ha : a < 12) (hN : N ≤ 30) :
    ∃ h', s_Ways_isThere F h (some 59) (nI a) (nI N) = some (decide ((c_x (v_E n w T Wd f lw op (2 ^ n - 1) m) (v_pos f) N).1 = a), h') ∧ z_w h h' := by
  obtain ⟨hS, hV, hR, h6, h5, hp, hL⟩ := hX
  have hn12 := hok.1
  have hC : z_CW h (v_E n w T Wd f lw op (2 ^ n - 1) m) := hV.cw hok (v_full hn12) hm h6 h5
  have hk0 : e_ok (v_E n w T Wd f lw op (2 ^ n - 1) m) (v_pos f) := hR.ok h0 hn12 rfl
  obtain ⟨-, -, -, -, -, q6, q7, q8, q9⟩ := hR.pos h0 hn12
  obtain ⟨g1, b1, b2, b3⟩ := z_restart hS q7 q8 q9 q6
  have loop : ∀ (k i nn : Nat) (g : fw_H), i + k = N → k < nn → z_Sh g → z_CW g (v_E n w T Wd f lw op (2 ^ n - 1) m) → z_ps g (c_x (v_E n w T Wd f lw op (2 ^ n - 1) m) (v_pos f) i) →
      ∃ g', l_Ways_isThere_9 F (some 59) (nI N) (fun he27 => (f_gR he27 (some 59) 10 0).bind fun x28 => (f_gI he27 x28 9 2).bind fun x31 => if ¬ x31 = nI a then (some (false, he27)) else some (true, he27)) nn (nI i) g = some (decide ((c_x (v_E n w T Wd f lw op (2 ^ n - 1) m) (v_pos f) N).1 = a), g') ∧ z_w g g' := by
    intro k
    induction k with
    | zero =>
      intro i nn g hi hnn hS hC hp
      obtain ⟨nn, rfl⟩ : ∃ k, nn = k + 1 := ⟨nn - 1, by omega⟩
      obtain rfl : i = N := by omega
      have hat := Nat.lt_of_lt_of_le (c_x_ok (i := i) hk0).1 hC.1.1
      refine ⟨g, ?_, z_w.refl⟩
      rw [l_Ways_isThere_9, if_pos (nI_le (Nat.le_refl _) (by omega)), z_r59_0 hS, Option.bind_some, z_i48_2 hS, Option.bind_some, hp.1]
      by_cases e : (c_x (v_E n w T Wd f lw op (2 ^ n - 1) m) (v_pos f) i).1 = a
      · rw [if_neg (fun z => z (by rw [e])), decide_eq_true e]
      · rw [if_pos (fun z => e ((nI_eq (by omega) (by omega)).mp z)), decide_eq_false e]
    | succ k ih =>
      intro i nn g hi hnn hS hC hp
      obtain ⟨nn, rfl⟩ : ∃ k, nn = k + 1 := ⟨nn - 1, by omega⟩
      obtain ⟨g1, a1, a2, a3⟩ := z_hour hF hS hC hp (c_x_ok hk0)
      rw [← c_x_succ] at a3
      rw [l_Ways_isThere_9, if_neg (nI_ge (by omega) (by omega)), z_r59_0 hS, Option.bind_some, a1, Option.bind_some, show nI i + 1 = nI (i + 1) from nI_1 i]
      obtain ⟨g4, c1, c2⟩ := ih (i + 1) nn g1 (by omega) (by omega) (a2.sh hS) (a2.cw hC) a3
      exact ⟨g4, c1, a2.trans c2⟩
  unfold s_Ways_isThere
  rw [z_c59 hS, Option.bind_some, z_r59_0 hS, Option.bind_some, b1, Option.bind_some]
  obtain ⟨g2, c1, c2⟩ := loop N 0 F g1 (by omega) (by omega) (b2.sh hS) (b2.cw hC) b3
  exact ⟨g2, c1, b2.trans c2⟩
theorem g_X.ww (hok : v_ok n w Wd) (h1 : z_w h h') (hX : g_X h n w T Wd f lw op m p) : g_X h' n w T Wd f lw op m p := by
  obtain ⟨hS, hV, hR, h6, h5, hp, hL⟩ := hX
  have h97 := hL.2.1
  exact ⟨h1.sh hS, hV.fr h1.1 (by decide) (by decide) (by decide) (by decide) (by decide), hR.fr hok.1 hok.2.1 h1.1 (fun d hd => by simp; omega), (h1.2.1 6 (by decide) (by decide) (by decide)).trans h6, (h1.2.1 5 (by decide) (by decide) (by decide)).trans h5, (h1.2.2 1).trans hp, hL.fr h1.1 (by simp; omega) (by simp; omega)⟩
/-- it is there behind N hours, if o wants so many more -/
def g_th (n w : Nat) (T Wd f : Nat → Int32) (lw : Option (List q_C)) (m a N : Nat) (q o : Nat) : Bool := decide (¬ (9 : Int32) < f o + nI q) && decide ((c_x (v_E n w T Wd (g_w1 f o (f o + nI q)) lw (v_op f) (2 ^ n - 1) m) (v_pos f) N).1 = a)
theorem z_f27 (hF : 70000 ≤ F) (hok : v_ok n w Wd) (h0 : 0 < n) (hm : m < 2 ^ 12) (ha : a < 12) (hN : N ≤ 30) (hc : c < 20) {K : fw_H → Option (Int32 × fw_H)} :
    ∀ (k o nn : Nat) (g : fw_H), o + k = n → k < nn → g_X g n w T Wd f lw (v_op f) m p →
    ∃ g', (l_Ways_leastFeast_27 F (some 59) (nI a) (nI N) (nI c) K nn (nI o) g = match g_fi (g_th n w T Wd f lw m a N c) k o with
      | some b => some (nI c, z_sI g' 59 3 (nI b))
      | none => K g') ∧ (g_xf p g g' ∧ g_X g' n w T Wd f lw (v_op f) m p ∧ z_I g' 59 3 = z_I g 59 3) := by
  have hn12 := hok.1
  intro k
  induction k with
  | zero =>
    intro o nn g ho hnn hX
    obtain ⟨nn, rfl⟩ : ∃ k, nn = k + 1 := ⟨nn - 1, by omega⟩
    obtain rfl : o = n := by omega
    have hS := hX.1
    refine ⟨g, ?_, g_xf.refl, hX, rfl⟩
    rw [l_Ways_leastFeast_27, z_r59_0 hS, Option.bind_some, z_r48_0 hS, Option.bind_some, z_i49_0 hS, Option.bind_some, hX.2.2.1.1, if_pos (nI_le (Nat.le_refl _) (by omega))]
    rfl
  | succ k ih =>
    intro o nn g ho hnn hX
    obtain ⟨nn, rfl⟩ : ∃ k, nn = k + 1 := ⟨nn - 1, by omega⟩
    have hS := hX.1
    have hon : o < n := by omega
    have hfo : z_A g (49 + 1) (5 * o + 0) = f o := (hX.2.2.1.2.2.1 o hon).1
    rw [l_Ways_leastFeast_27, z_r59_0 hS, Option.bind_some, z_r48_0 hS, Option.bind_some, z_i49_0 hS, Option.bind_some, hX.2.2.1.1, if_neg (nI_ge (by omega) (by omega)), Option.bind_some, z_r48_0 hS, Option.bind_some, show (0 : Int32) = nI 0 from rfl, z_trait hS (.inr (.inr (.inr rfl))) (by omega) (by decide), Option.bind_some, hfo, show nI o + 1 = nI (o + 1) from nI_1 o]
    unfold g_fi
    by_cases h9 : (9 : Int32) < f o + nI c
    · rw [if_pos h9, if_neg (by unfold g_th; simp [h9])]
      exact ih (o + 1) nn g (by omega) (by omega) hX
    · rw [if_neg h9]
      obtain ⟨g1, a1, a2, a3⟩ := z_want (x := nI c) hF hok hX hon
      obtain ⟨g2, b1, b2⟩ := z_isThere (a := a) (N := N) hF hok h0 hm a3 ha hN
      have X2 := a3.ww hok b2
      obtain ⟨g3, c1, c2, c3⟩ := z_want (x := -nI c) hF hok X2 hon
      have e3 : g_w1 (g_w1 f o (f o + nI c)) o (g_w1 f o (f o + nI c) o + -nI c) = f := by
        have : g_w1 f o (f o + nI c) o + -nI c = f o := by
          show (if o = o then f o + nI c else f o) + -nI c = f o
          rw [if_pos rfl, Int32.add_assoc, Int32.add_right_neg, Int32.add_zero]
        rw [this]; exact g_w1_back _
      rw [e3] at c3
      have w3 : g_xf p g g3 := (a2.trans (g_xf.ofw b2)).trans c2
      have hth : decide ((c_x (v_E n w T Wd (g_w1 f o (f o + nI c)) lw (v_op f) (2 ^ n - 1) m) (v_pos (g_w1 f o (f o + nI c))) N).1 = a) = g_th n w T Wd f lw m a N c o := by
        unfold g_th
        rw [g_w1_pos (by omega), decide_eq_true h9, Bool.true_and]
      have ef : s_Ways_feasts F g (some 59) (nI o) (nI c) (nI a) (nI N) = some (g_th n w T Wd f lw m a N c o, g3) := by
        unfold s_Ways_feasts
        rw [z_c59 hS, Option.bind_some, z_r59_0 hS, Option.bind_some, a1, Option.bind_some, b1, Option.bind_some]
        simp only []
        rw [z_r59_0 X2.1, Option.bind_some, c1, Option.bind_some, hth]
      have h97 := hX.2.2.2.2.2.2.2.1
      have h593 : z_I g3 59 3 = z_I g 59 3 := w3.1.I (by simp; omega)
      rw [ef, Option.bind_some]
      by_cases ht : g_th n w T Wd f lw m a N c o = true
      · rw [if_pos ht, if_pos ht, z_w59_3 c3.1, Option.bind_some]
        exact ⟨g3, rfl, w3, c3, h593⟩
      · rw [if_neg ht, if_neg ht]
        obtain ⟨g4, d1, d2, d3, d4⟩ := ih (o + 1) nn g3 (by omega) (by omega) c3
        exact ⟨g4, d1, w3.trans d2, d3, d4.trans h593⟩
end FE
