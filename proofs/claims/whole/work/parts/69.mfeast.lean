-- FEAST: the outer runs, the reference, the call
/-- which one wants more, and how much more -/
def g_fv (r : Option (Nat × Nat)) : Int32 := match r with
  | some (q, _) => nI q
  | none => -1
def g_fh (x : Int32) (r : Option (Nat × Nat)) : Int32 := match r with
  | some (_, o) => nI o
  | none => x
section FM
variable {E E' : z_E} {q : e_P} {i j k n w m m' e c d t F a b o nn N hr p v : Nat} {h h' g g' : fw_H} {T Wd f f' : Nat → Int32} {lw : Option (List q_C)} {op : Nat → Bool} {x y z u : Int32}
theorem w_k.xg (hf : z_fr [48, 50, 56, 57, 59, p + 2] h h') (h12 : z_I h' 48 12 = z_I h 48 12) (hL : z_LF h p lw) : w_k h h' := by
  obtain ⟨hLW, h97, -⟩ := hL
  refine ⟨hf.1, fun j j1 j2 j3 j4 j5 j6 j7 => hf.2 j (fun z => ?_), fun k _ => hf.I (by simp; omega), hf.I (by simp; omega), hf.I (by simp; omega), fun hT => hT.of h12 (fun j => hf.A (by simp; omega)) (fun k => hf.R (by simp; omega))⟩
  simp only [List.mem_cons, List.not_mem_nil, or_false] at z
  rcases z with z | z | z | z | z | z
  · exact j3 z
  · subst z; exact j1 (by decide)
  · subst z; exact j1 (by decide)
  · subst z; exact j1 (by decide)
  · subst z; exact j1 (by decide)
  · rcases h97 with zz | rfl
    · rcases j7 with z3 | z3
      · exact z3 (by rw [z]; exact hLW.2.2)
      · omega
    · subst z; exact j1 (by decide)
theorem g_X.s59 (hok : v_ok n w Wd) (hX : g_X h n w T Wd f lw op m p) : g_X (z_sI h 59 k x) n w T Wd f lw op m p := by
  obtain ⟨hS, hV, hR, h6, h5, hp, hL⟩ := hX
  have h97 := hL.2.1
  have h1 : z_fr [59] h (z_sI h 59 k x) := z_fr.refl.sI (by simp)
  exact ⟨z_Sh_sI hS, hV.fr h1 (by decide) (by decide) (by decide) (by decide) (by decide), hR.fr hok.1 hok.2.1 h1 (fun d hd => by simp; omega), (h1.I (by decide)).trans h6, (h1.I (by decide)).trans h5, (h1.R (by decide)).trans hp, hL.fr h1 (by simp; omega) (by simp; omega)⟩
theorem z_f18 (hF : 70000 ≤ F) (hok : v_ok n w Wd) (h0 : 0 < n) (hm : m < 2 ^ 12) (ha : a < 12) (hN : N ≤ 30) :
    ∀ (k c nn : Nat) (g : fw_H), c + k = 10 → k < nn → g_X g n w T Wd f lw (v_op f) m p →
    ∃ g', l_Ways_leastFeast_18 F (some 59) (nI a) (nI N) nn (nI c) g = some (g_fv (g_fo (g_th n w T Wd f lw m a N) n k c), g') ∧ (z_fr [48, 50, 56, 57, 59, p + 2] g g' ∧ z_I g' 48 12 = z_I g 48 12 ∧ z_I g' 59 3 = g_fh (z_I g 59 3) (g_fo (g_th n w T Wd f lw m a N) n k c)) := by
  have hn12 := hok.1
  intro k
  induction k with
  | zero =>
    intro c nn g hc hnn hX
    obtain ⟨nn, rfl⟩ : ∃ k, nn = k + 1 := ⟨nn - 1, by omega⟩
    obtain rfl : c = 10 := by omega
    refine ⟨g, ?_, z_fr.refl, rfl, rfl⟩
    rw [l_Ways_leastFeast_18, if_pos (by decide)]
    rfl
  | succ k ih =>
    intro c nn g hc hnn hX
    obtain ⟨nn, rfl⟩ : ∃ k, nn = k + 1 := ⟨nn - 1, by omega⟩
    have h97 := hX.2.2.2.2.2.2.2.1
    rw [l_Ways_leastFeast_18, if_neg (show ¬ (9 : Int32) < nI c from nI_nlt (b := c) (a := 9) (by omega) (by decide)), show nI c + 1 = nI (c + 1) from nI_1 c]
    obtain ⟨g1, e1, x1, X1, s1⟩ := z_f27 (K := fun he88 => l_Ways_leastFeast_18 F (some 59) (nI a) (nI N) nn (nI (c + 1)) he88) (c := c) hF hok h0 hm ha hN (by omega) n 0 F g (by omega) (by omega) hX
    have e1' : l_Ways_leastFeast_27 F (some 59) (nI a) (nI N) (nI c) (fun he88 => l_Ways_leastFeast_18 F (some 59) (nI a) (nI N) nn (nI (c + 1)) he88) F (0 : Int32) g = _ := e1
    rw [e1']
    have f1 : z_fr [48, 50, 56, 57, 59, p + 2] g g1 := x1.1.mono (by simp)
    have t1 : z_I g1 48 12 = z_I g 48 12 := x1.2.1 12 (by decide) (by decide) (by decide)
    unfold g_fo
    match hr : g_fi (g_th n w T Wd f lw m a N c) n 0 with
    | some b =>
      refine ⟨z_sI g1 59 3 (nI b), rfl, f1.sI (by simp), ?_, ?_⟩
      · rw [← t1]; exact (z_fr.refl (As := [59])).sI (by simp) |>.I (by decide)
      · exact z_II X1.1 10 rfl
    | none =>
      obtain ⟨g2, b1, b2, b3, b4⟩ := ih (c + 1) nn g1 (by omega) (by omega) X1
      exact ⟨g2, b1, f1.trans b2, b3.trans t1, by rw [b4, s1]⟩
/-- the class: how much more, and who -/
theorem z_leastFeast (hF : 70000 ≤ F) (hok : v_ok n w Wd) (h0 : 0 < n) (hm : m < 2 ^ 12) (ha : a < 12) (hN : N ≤ 30) (hX : g_X h n w T Wd f lw (v_op f) m p) {r : Option (Nat × Nat)} {Q : Bool}
    (hr : r = g_fo (g_th n w T Wd f lw m a N) n 9 1) (hQ : Q = decide ((c_x (v_E n w T Wd f lw (v_op f) (2 ^ n - 1) m) (v_pos f) N).1 = a)) :
    ∃ g', s_Ways_leastFeast F h (some 59) (nI a) (nI N) = some (if Q = true then 0 else g_fv r, g') ∧ (z_fr [48, 50, 56, 57, 59, p + 2] h g' ∧ z_I g' 48 12 = z_I h 48 12 ∧ z_I g' 59 3 = if Q = true then -1 else g_fh (-1) r) := by
  have hS := hX.1
  have h97 := hX.2.2.2.2.2.2.2.1
  have X1 : g_X (z_sI h 59 3 (-1)) n w T Wd f lw (v_op f) m p := hX.s59 hok
  have f0 : z_fr [48, 50, 56, 57, 59, p + 2] h (z_sI h 59 3 (-1)) := z_fr.refl.sI (by simp)
  have f00 : z_fr [59] h (z_sI h 59 3 (-1)) := z_fr.refl.sI (by simp)
  obtain ⟨g1, b1, b2⟩ := z_isThere (a := a) (N := N) hF hok h0 hm X1 ha hN
  have X2 := X1.ww hok b2
  have f1 : z_fr [48, 50, 56, 57, 59, p + 2] h g1 := f0.trans (b2.1.mono (by simp))
  have t1 : z_I g1 48 12 = z_I h 48 12 := (b2.2.1 12 (by decide) (by decide) (by decide)).trans (f00.I (by decide))
  have s1 : z_I g1 59 3 = -1 := (b2.1.I (by decide)).trans (z_II hS 10 rfl)
  unfold s_Ways_leastFeast
  rw [z_c59 hS, Option.bind_some, z_w59_3 hS, Option.bind_some, b1, Option.bind_some, ← hQ]
  simp only []
  by_cases q : Q = true
  · rw [if_pos q, if_pos q, if_pos q]
    exact ⟨g1, rfl, f1, t1, s1⟩
  · rw [if_neg q, if_neg q, if_neg q]
    obtain ⟨g2, c1, c2, c3, c4⟩ := z_f18 hF hok h0 hm ha hN 9 1 F g1 (by omega) (by omega) X2
    rw [← hr] at c1 c4
    exact ⟨g2, c1, f1.trans c2, c3.trans t1, by rw [c4, s1]⟩
/-- the reference's walk of a changed state -/
theorem z_mstart3 (hS : z_Sh h) (h54 : z_A h 84 54 = f 54) (h55 : z_A h 84 55 = f 55) (h56 : z_A h 84 56 = f 56) (hR : v_R g a n w T Wd f) (h0 : 0 < n) (h12 : n ≤ 12) :
    ∃ h', s_Mod_startWalk h (some 68) = some h' ∧ (z_mw h h' ∧ z_mps h' (v_pos f)) := by
  obtain ⟨p1, p2, p3, p4, p5, p6, -⟩ := hR.pos h0 h12
  unfold s_Mod_startWalk
  have S1 : z_Sh (z_sI h 68 32 (f 54)) := z_Sh_sI hS
  have S2 : z_Sh (z_sI (z_sI h 68 32 (f 54)) 68 33 (f 55)) := z_Sh_sI S1
  rw [z_c68 hS, Option.bind_some, z_r68_26 hS, Option.bind_some, show (54 : Int32) = nI 54 from rfl, z_a84 hS (by decide), Option.bind_some, h54, z_w68_32 hS, Option.bind_some]
  rw [z_r68_26 S1, Option.bind_some, show (55 : Int32) = nI 55 from rfl, z_a84 S1 (by decide), Option.bind_some, z_A_sI, h55, z_w68_33 S1, Option.bind_some]
  rw [z_r68_26 S2, Option.bind_some, show (56 : Int32) = nI 56 from rfl, z_a84 S2 (by decide), Option.bind_some, z_A_sI, z_A_sI, h56, p5, show (24 : Int32) = nI 24 from rfl, z_irem (by omega) (by decide) (by decide), Option.bind_some, z_w68_34 S2, Option.bind_some]
  refine ⟨_, rfl, ((z_mw.s (by omega)).trans (z_mw.s (by omega))).trans (z_mw.s (by omega)), ?_, ?_, ?_⟩
  · rw [z_I_sI_nk (by decide), z_I_sI_nk (by decide), z_II hS 12 rfl]; exact p1
  · rw [z_I_sI_nk (by decide), z_II S1 12 rfl]; exact p3
  · rw [z_II S2 12 rfl]; rfl
theorem z_behind3 (hF : 70000 ≤ F) (hok : v_ok n w Wd) (hE : E = v_E n w T Wd f' lw (v_op f') e m) (hB : z_MB f' n m) {N : Nat} (hN : N < 60000) (hC : z_MC h n w T Wd f' lw e) (hR : v_R g a n w T Wd f) (h0 : 0 < n)
    (h54 : f' 54 = f 54) (h55 : f' 55 = f 55) (h56 : f' 56 = f 56) :
    ∃ h', s_Mod_whereBehind F h (some 68) (nI N) = some (nI (e_it E N (v_pos f)).1, h') ∧ z_mw h h' := by
  have hE1 : E.1 = n := by rw [hE]; rfl
  have hA := hC.2.1.2.1.2.2
  unfold s_Mod_whereBehind
  obtain ⟨g1, a1, a2, a3⟩ := z_mstart3 hC.1 ((hA 54 (by decide)).trans h54) ((hA 55 (by decide)).trans h55) ((hA 56 (by decide)).trans h56) hR h0 hok.1
  rw [z_c68 hC.1, Option.bind_some, a1, Option.bind_some]
  obtain ⟨g2, b1, b2⟩ := z_behindL (N := N) hF hok hE hB (by omega) N 0 F g1 _ (hC.mw a2) a3 (hR.ok h0 hok.1 hE1) (by omega) (by omega)
  exact ⟨g2, b1, a2.trans b2⟩
/-- the reference's state with other numbers in it -/
theorem z_MC.s84 (hC : z_MC h n w T Wd f lw e) (f2 : z_fr [84] h g) (A2 : ∀ j, j < 118 → z_A g 84 j = f' j) : z_MC g n w T Wd f' lw e := by
  obtain ⟨c1, ⟨v1, ⟨v2, v3, v4⟩, v5, v6⟩, c3⟩ := hC
  refine ⟨c1.fr f2 (by decide), ⟨by rw [f2.I (by decide)]; exact v1, ⟨by rw [f2.I (by decide)]; exact v2, fun j hj => by rw [f2.A (by decide)]; exact v3 j hj, A2⟩, fun j hj => by rw [f2.A (by decide)]; exact v5 j hj, ?_⟩, fun x hx => by rw [f2.A (by decide)]; exact c3 x hx⟩
  match lw, v6 with
  | none, v6 => rw [f2.I (by decide)]; exact v6
  | some cls, ⟨k, k1, k2, k3, k4⟩ => exact ⟨k, k1, by rw [f2.I (by decide)]; exact k2, k3.of (fun a j ha => f2.A (by simp; omega)), k4⟩
/-- the state is put back -/
theorem z_mw.back (hS : z_Sh h) (hf : z_fr [68, 77, 78, 84] h g) (hA : ∀ j, z_A g 84 j = z_A h 84 j) (hI : ∀ k, k ≠ 32 → k ≠ 33 → k ≠ 34 → z_I g 68 k = z_I h 68 k) : z_mw h g := by
  refine ⟨⟨hf.1, fun j hj => ?_⟩, hI⟩
  by_cases hj84 : j = 84
  · subst hj84; exact z_cell_eq (z_ckT hS rfl) (hf.1 84) hA
  · exact hf.2 j (by simp at hj ⊢; exact ⟨hj.1, hj.2.1, hj.2.2, hj84⟩)
theorem z_m61 (hF : 70000 ≤ F) (hok : v_ok n w Wd) (h0 : 0 < n) (hB : z_MB f n m) (ha : a < 12) (hN : N ≤ 30) (hc : c < 20) (hR : v_R h 29 n w T Wd f) {K1 : fw_H → Option (Int32 × fw_H)} {K2 : Int32 → fw_H → Option (Int32 × fw_H)} :
    ∀ (k o nn : Nat) (g : fw_H), o + k = n → k < nn → z_MC g n w T Wd f lw (2 ^ n - 1) →
    ∃ g', (l_Mod_feast_61 F (some 68) (nI a) (nI N) (nI c) K1 K2 nn (nI o) g = match g_fi (g_th n w T Wd f lw m a N c) k o with
      | some b => K2 (nI b) g'
      | none => K1 g') ∧ z_mw g g' := by
  have hn12 := hok.1
  intro k
  induction k with
  | zero =>
    intro o nn g ho hnn hC
    obtain ⟨nn, rfl⟩ : ∃ k, nn = k + 1 := ⟨nn - 1, by omega⟩
    obtain rfl : o = n := by omega
    refine ⟨g, ?_, z_mw.refl⟩
    rw [l_Mod_feast_61, z_i68_24 hC.1, Option.bind_some, hC.2.1.1, if_pos (nI_le (Nat.le_refl _) (by omega))]
    rfl
  | succ k ih =>
    intro o nn g ho hnn hC
    obtain ⟨nn, rfl⟩ : ∃ k, nn = k + 1 := ⟨nn - 1, by omega⟩
    have hS := hC.1
    have hon : o < n := by omega
    have hf84 := hC.2.1.2.1.2.2
    rw [l_Mod_feast_61, z_i68_24 hS, Option.bind_some, hC.2.1.1, if_neg (nI_ge (by omega) (by omega)), z_r68_26 hS, Option.bind_some, Int32.zero_add, z_a84 hS (by omega), Option.bind_some, hf84 o (by omega), show nI o + 1 = nI (o + 1) from nI_1 o]
    unfold g_fi
    by_cases h9 : (9 : Int32) < f o + nI c
    · rw [if_pos h9, if_neg (by unfold g_th; simp [h9])]
      exact ih (o + 1) nn g (by omega) (by omega) hC
    · rw [if_neg h9, Option.bind_some, z_a84 hS (by omega), Option.bind_some, hf84 o (by omega), z_s84 hS (by omega), Option.bind_some]
      obtain ⟨g1, hg1⟩ : ∃ g1, g1 = z_sA g 84 o (f o + nI c) := ⟨_, rfl⟩
      rw [← hg1]
      have f1 : z_fr [84] g g1 := by rw [hg1]; exact z_fr.refl.sA (by simp)
      have A1 : ∀ j, z_A g1 84 j = if j = o then f o + nI c else z_A g 84 j := fun j => by rw [hg1, z_A_sA (z_ckT hS rfl)]
      have C1 : z_MC g1 n w T Wd (g_w1 f o (f o + nI c)) lw (2 ^ n - 1) := hC.s84 f1 (fun j hj => by rw [A1, hf84 j hj]; rfl)
      have hne : ∀ j, j ≠ o → g_w1 f o (f o + nI c) j = f j := fun j hj => if_neg hj
      have B1 : z_MB (g_w1 f o (f o + nI c)) n m := fun x hx => by rw [hne _ (by omega)]; exact hB x hx
      obtain ⟨g2, b1, b2⟩ := z_behind3 (N := N) hF hok rfl B1 (by omega) C1 hR h0 (hne 54 (by omega)) (hne 55 (by omega)) (hne 56 (by omega))
      rw [g_w1_op (by omega)] at b1
      have S2 := b2.sh C1.1
      have A2 : ∀ j, z_A g2 84 j = z_A g1 84 j := fun j => b2.1.A (by decide)
      have A2o : z_A g2 84 o = f o + nI c := by rw [A2, A1, if_pos rfl]
      have back : f o + nI c - nI c = f o := by rw [Int32.sub_eq_add_neg, Int32.add_assoc, Int32.add_right_neg, Int32.add_zero]
      obtain ⟨g3, hg3⟩ : ∃ g3, g3 = z_sA g2 84 o (f o) := ⟨_, rfl⟩
      have A3 : ∀ j, z_A g3 84 j = z_A g 84 j := fun j => by
        rw [hg3, z_A_sA (z_ckT S2 rfl), A2, A1]
        by_cases x1 : j = o
        · rw [if_pos x1, x1, hf84 o (by omega)]
        · rw [if_neg x1, if_neg x1]
      have w3 : z_mw g g3 := z_mw.back hS (by rw [hg3]; exact ((f1.mono (by simp)).trans (b2.1.mono (by simp))).sA (by simp)) A3 (fun k x1 x2 x3 => by rw [hg3, z_I_sA, b2.2 k x1 x2 x3, f1.I (by decide)])
      have C3 := hC.mw w3
      have hth : g_th n w T Wd f lw m a N c o = decide ((e_it (v_E n w T Wd (g_w1 f o (f o + nI c)) lw (v_op f) (2 ^ n - 1) m) N (v_pos f)).1 = a) := by
        unfold g_th
        rw [decide_eq_true h9, Bool.true_and]
        rfl
      have hat : (e_it (v_E n w T Wd (g_w1 f o (f o + nI c)) lw (v_op f) (2 ^ n - 1) m) N (v_pos f)).1 < n := (c_x_ok (i := N) (hR.ok (E := v_E n w T Wd (g_w1 f o (f o + nI c)) lw (v_op f) (2 ^ n - 1) m) h0 hn12 rfl)).1
      rw [b1, Option.bind_some]
      simp only [fw_jn]
      rw [z_r68_26 S2, Option.bind_some, Option.bind_some, hth]
      by_cases h1 : (e_it (v_E n w T Wd (g_w1 f o (f o + nI c)) lw (v_op f) (2 ^ n - 1) m) N (v_pos f)).1 = a
      · rw [if_neg (fun z => z (by rw [h1])), z_a84 S2 (by omega), Option.bind_some, A2o, back, z_s84 S2 (by omega), Option.bind_some, ← hg3, if_neg (by decide), if_pos (decide_eq_true h1)]
        exact ⟨g3, rfl, w3⟩
      · rw [if_pos (fun z => h1 ((nI_eq (by omega) (by omega)).mp z)), z_a84 S2 (by omega), Option.bind_some, A2o, back, z_s84 S2 (by omega), Option.bind_some, ← hg3, if_pos trivial, if_neg (by rw [decide_eq_true_eq]; exact h1)]
        obtain ⟨g4, d1, d2⟩ := ih (o + 1) nn g3 (by omega) (by omega) C3
        exact ⟨g4, d1, w3.trans d2⟩
theorem z_m51 (hF : 70000 ≤ F) (hok : v_ok n w Wd) (h0 : 0 < n) (hB : z_MB f n m) (ha : a < 12) (hN : N ≤ 30) (hR : v_R h 29 n w T Wd f) :
    ∀ (k c nn : Nat) (g : fw_H), c + k = 10 → k < nn → z_MC g n w T Wd f lw (2 ^ n - 1) →
    ∃ g', l_Mod_feast_51 F (some 68) (nI a) (nI N) (fun e136_4 e136_5 he136 => if ¬ z = (0 : Int32) then (some (e136_5, he136)) else some (e136_4, he136)) nn (nI c) g = some (if ¬ z = (0 : Int32) then g_fh (-1) (g_fo (g_th n w T Wd f lw m a N) n k c) else g_fv (g_fo (g_th n w T Wd f lw m a N) n k c), g') ∧ z_mw g g' := by
  have hn12 := hok.1
  intro k
  induction k with
  | zero =>
    intro c nn g hc hnn hC
    obtain ⟨nn, rfl⟩ : ∃ k, nn = k + 1 := ⟨nn - 1, by omega⟩
    obtain rfl : c = 10 := by omega
    refine ⟨g, ?_, z_mw.refl⟩
    rw [l_Mod_feast_51, if_pos (by decide)]
    unfold g_fo g_fh g_fv
    rw [ite_self]
  | succ k ih =>
    intro c nn g hc hnn hC
    obtain ⟨nn, rfl⟩ : ∃ k, nn = k + 1 := ⟨nn - 1, by omega⟩
    rw [l_Mod_feast_51, if_neg (show ¬ (9 : Int32) < nI c from nI_nlt (b := c) (a := 9) (by omega) (by decide)), show nI c + 1 = nI (c + 1) from nI_1 c]
    obtain ⟨g1, e1, w1⟩ := z_m61 (K1 := fun he154 => l_Mod_feast_51 F (some 68) (nI a) (nI N) (fun e136_4 e136_5 he136 => if ¬ z = (0 : Int32) then (some (e136_5, he136)) else some (e136_4, he136)) nn (nI (c + 1)) he154) (K2 := fun e136_5 he136 => if ¬ z = (0 : Int32) then (some (e136_5, he136)) else some (nI c, he136)) (c := c) hF hok h0 hB ha hN (by omega) hR n 0 F g (by omega) (by omega) hC
    have e1' : l_Mod_feast_61 F (some 68) (nI a) (nI N) (nI c) (fun he154 => l_Mod_feast_51 F (some 68) (nI a) (nI N) (fun e136_4 e136_5 he136 => if ¬ z = (0 : Int32) then (some (e136_5, he136)) else some (e136_4, he136)) nn (nI (c + 1)) he154) (fun e136_5 he136 => if ¬ z = (0 : Int32) then (some (e136_5, he136)) else some (nI c, he136)) F (0 : Int32) g = _ := e1
    rw [e1']
    unfold g_fo
    match hr : g_fi (g_th n w T Wd f lw m a N c) n 0 with
    | some b =>
      refine ⟨g1, ?_, w1⟩
      show (if ¬ z = (0 : Int32) then some (nI b, g1) else some (nI c, g1)) = some (if ¬ z = (0 : Int32) then nI b else nI c, g1)
      by_cases hz : z = 0
      · rw [if_neg (fun y => y hz), if_neg (fun y => y hz)]
      · rw [if_pos hz, if_pos hz]
    | none =>
      obtain ⟨g2, b1, b2⟩ := ih (c + 1) nn g1 (by omega) (by omega) (hC.mw w1)
      exact ⟨g2, b1, w1.trans b2⟩
/-- feast -/
theorem call_feast (hF : 70000 ≤ F) (hR : w_R h) : ∃ v h1 h2, s_Joy_feast F h (some 15) x y z = some (v, h1) ∧ s_Mod_feast F h1 (some 68) x y z = some (v, h2) ∧ w_call h h1 h2 := by
  obtain ⟨n, w, T, Wd, f, lw, p, hR⟩ := hR
  have hS := hR.1
  have hok := hR.ok
  have hn12 := hok.1
  have hn := hR.2.1.2.1.1
  have hnm := hR.2.1.2.2.1
  have em : ∀ g, z_Sh g → z_I g 68 24 = nI n → s_Mod_feast F g (some 68) x y z = if v_in x n = true then (if decide (¬ y < 1 ∧ ¬ (30 : Int32) < y) = true then (if decide (¬ z < 0 ∧ ¬ (1 : Int32) < z) = true then ((s_Mod_whereBehind F g (some 68) y).bind fun x31 =>
if ¬ x31.1 = x then (l_Mod_feast_51 F (some 68) x y (fun e136_4 e136_5 he136 =>
if ¬ z = (0 : Int32) then (some (e136_5, he136)) else
some (e136_4, he136)) F (1 : Int32) x31.2) else
if ¬ z = (0 : Int32) then (some ((-1 : Int32), x31.2)) else
some ((0 : Int32), x31.2)) else some ((-1 : Int32), g)) else some ((-1 : Int32), g)) else some ((-1 : Int32), g) := by
    intro g hg e
    unfold s_Mod_feast
    rw [z_c68 hg, Option.bind_some, z_isHouse hg e hn12, Option.bind_some, z_in, Option.bind_some, z_in, Option.bind_some]
  unfold s_Joy_feast
  rw [z_c15 hS, Option.bind_some, z_r15_3 hS, Option.bind_some, z_hasHouse hS (.inr (.inl rfl)) hn, Option.bind_some]
  by_cases hx : v_in x n = true
  · rw [if_pos hx]
    by_cases y0 : y < 1
    · rw [if_pos y0]; exact ⟨_, h, h, rfl, by rw [em h hS hnm, if_pos hx, if_neg (by simp [y0])], w_call.rr hR⟩
    rw [if_neg y0]
    by_cases y1 : (30 : Int32) < y
    · rw [if_pos y1]; exact ⟨_, h, h, rfl, by rw [em h hS hnm, if_pos hx, if_neg (by simp [y1])], w_call.rr hR⟩
    rw [if_neg y1]
    by_cases z0 : z < 0
    · rw [if_pos z0]; exact ⟨_, h, h, rfl, by rw [em h hS hnm, if_pos hx, if_pos (decide_eq_true ⟨y0, y1⟩), if_neg (by simp [z0])], w_call.rr hR⟩
    rw [if_neg z0]
    by_cases z1 : (1 : Int32) < z
    · rw [if_neg (q_lt_iff.mpr z1)]; exact ⟨_, h, h, rfl, by rw [em h hS hnm, if_pos hx, if_pos (decide_eq_true ⟨y0, y1⟩), if_neg (by simp [z1])], w_call.rr hR⟩
    rw [if_pos (fa_of_nlt z1)]
    obtain ⟨a, ha, rfl⟩ := v_in_t hx (by omega)
    have y00 : ¬ y < 0 := fun zz => y0 (by rw [fa_lt] at zz ⊢; have : (0 : Int32).toInt = 0 := rfl; have : (1 : Int32).toInt = 1 := rfl; omega)
    obtain ⟨N, hN, rfl⟩ := v_le_t (N := 30) y00 y1 (by decide)
    have hpos : 0 < n := by omega
    obtain ⟨m', h1, m1', m2', a1, a2, a3, a4, a5, a6, a7, a8, a9, a10⟩ := w_start hF hR hpos
    have X1 : g_X h1 n w T Wd f lw (v_op f) m' p := ⟨a3.1, a4, a5, a9, a8, a6, a7⟩
    obtain ⟨r, hr⟩ : ∃ r, r = g_fo (g_th n w T Wd f lw m' a N) n 9 1 := ⟨_, rfl⟩
    obtain ⟨Q, hQ⟩ : ∃ Q, Q = decide ((c_x (v_E n w T Wd f lw (v_op f) (2 ^ n - 1) m') (v_pos f) N).1 = a) := ⟨_, rfl⟩
    obtain ⟨h2, b1, b2, b3, b4⟩ := z_leastFeast hF hok hpos m1' (by omega) hN X1 hr hQ
    have hk2 : w_k h1 h2 := w_k.xg b2 b3 a7
    have hR2 := a3.kp hk2
    have S2 := hR2.1
    rw [a1, Option.bind_some, z_r15_13 a3.1, Option.bind_some, b1, Option.bind_some]
    have ej : (if ¬ z = (0 : Int32) then ((f_gR h2 (some 15) 11 13).bind fun x58 => (s_Ways_feaster h2 x58).bind fun x61 => some (x61, h2)) else some ((if Q = true then 0 else g_fv r), h2)) = some (if Q = true then (if ¬ z = (0 : Int32) then -1 else 0) else (if ¬ z = (0 : Int32) then g_fh (-1) r else g_fv r), h2) := by
      unfold s_Ways_feaster
      rw [z_r15_13 S2, Option.bind_some, z_c59 S2, Option.bind_some, z_i59_3 S2, Option.bind_some, Option.bind_some, b4]
      by_cases hz : z = 0
      · simp only [hz, not_true_eq_false, if_false]
      · simp only [hz, not_false_eq_true, if_true]
    -- the reference
    obtain ⟨h3, c1, c2⟩ := z_behind hF hok rfl m2' (N := N) (by omega) hR2.MC hR2.2.1.2.1 hpos
    have hR3 := hR2.kp (w_k.mw c2)
    have hat : (e_it (v_E n w T Wd f lw (v_op f) (2 ^ n - 1) m') N (v_pos f)).1 < n := (c_x_ok (i := N) (hR2.2.1.2.1.ok (E := v_E n w T Wd f lw (v_op f) (2 ^ n - 1) m') hpos hn12 rfl)).1
    have rf : ∃ h4, s_Mod_feast F h2 (some 68) (nI a) (nI N) z = some (if Q = true then (if ¬ z = (0 : Int32) then -1 else 0) else (if ¬ z = (0 : Int32) then g_fh (-1) r else g_fv r), h4) ∧ w_k h2 h4 := by
      rw [em h2 S2 hR2.2.1.2.2.1, if_pos hx, if_pos (decide_eq_true ⟨y0, y1⟩), if_pos (decide_eq_true ⟨z0, z1⟩), c1, Option.bind_some]
      simp only []
      by_cases h1 : (e_it (v_E n w T Wd f lw (v_op f) (2 ^ n - 1) m') N (v_pos f)).1 = a
      · have hQ1 : Q = true := by rw [hQ]; exact decide_eq_true h1
        rw [if_neg (fun zz => zz (by rw [h1])), if_pos hQ1]
        refine ⟨h3, ?_, w_k.mw c2⟩
        by_cases hz : z = 0
        · rw [if_neg (fun y => y hz), if_neg (fun y => y hz)]
        · rw [if_pos hz, if_pos hz]
      · have hQ1 : ¬ Q = true := by rw [hQ, decide_eq_true_eq]; exact h1
        rw [if_pos (fun zz => h1 ((nI_eq (by omega) (by omega)).mp zz)), if_neg hQ1, hr]
        obtain ⟨h4, d1, d2⟩ := z_m51 (z := z) (a := a) (N := N) hF hok hpos m2' (by omega) hN hR2.2.1.2.1 9 1 F h3 (by omega) (by omega) hR3.MC
        exact ⟨h4, d1, w_k.mw (c2.trans d2)⟩
    obtain ⟨h4, d1, d2⟩ := rf
    exact ⟨_, h2, h4, ej, d1, w_call.kk hR (a2.trans hk2) d2⟩
  · rw [if_neg hx]
    exact ⟨_, h, h, rfl, by rw [em h hS hnm, if_neg hx], w_call.rr hR⟩
end FM
