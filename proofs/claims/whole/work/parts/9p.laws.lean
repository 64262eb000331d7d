-- TEXT, FAULT: of a law (1): what stands of a law read
section LA
variable {g g' g'' h m m' m'' M : fw_H} {B : Nat → Nat} {l p p' q d D v mo i j k nn mm F c C n f r s P w a : Nat} {x y : Int32} {T Wd ff : Nat → Int32} {lw : Option (List q_C)} {As : List Nat} {L R N A : List q_O} {o : q_O} {b : Bool} {cls r' : List q_C} {u : q_C} {τ τ' : List Bool}
theorem k_st_bd (h : q_tstep o τ = some τ') : o.1 < 12 ∧ o.2 < 10000 := by
  unfold q_tstep at h
  by_cases h0 : o.1 = 0
  · rw [if_pos h0] at h
    by_cases z : o.2 < 10000 ∧ τ.length < 40
    · exact ⟨by omega, z.1⟩
    · rw [if_neg z] at h; cases h
  · rw [if_neg h0] at h
    by_cases h1 : o.1 = 1
    · rw [if_pos h1] at h
      by_cases z : o.2 < 8 ∧ τ.length < 40
      · exact ⟨by omega, by omega⟩
      · rw [if_neg z] at h; cases h
    · rw [if_neg h1] at h
      by_cases h2 : o.1 = 11
      · rw [if_pos h2] at h
        by_cases z : o.2 = 0 ∧ τ.head? = some true
        · exact ⟨by omega, by omega⟩
        · rw [if_neg z] at h; cases h
      · rw [if_neg h2] at h
        by_cases h3 : 2 ≤ o.1 ∧ o.1 ≤ 5
        · rw [if_pos h3] at h
          by_cases z : o.2 = 0 ∧ τ.head? = some false ∧ τ.tail.head? = some false
          · exact ⟨by omega, by omega⟩
          · rw [if_neg z] at h; cases h
        · rw [if_neg h3] at h
          by_cases h4 : 6 ≤ o.1 ∧ o.1 ≤ 8
          · rw [if_pos h4] at h
            by_cases z : o.2 = 0 ∧ τ.head? = some false ∧ τ.tail.head? = some false
            · exact ⟨by omega, by omega⟩
            · rw [if_neg z] at h; cases h
          · rw [if_neg h4] at h
            by_cases h5 : 9 ≤ o.1 ∧ o.1 ≤ 10
            · rw [if_pos h5] at h
              by_cases z : o.2 = 0 ∧ τ.head? = some true ∧ τ.tail.head? = some true
              · exact ⟨by omega, by omega⟩
              · rw [if_neg z] at h; cases h
            · rw [if_neg h5] at h; cases h
theorem k_ty_bd : ∀ (l : List q_O) (τ τ' : List Bool), q_ty l τ = some τ' → ∀ o, o ∈ l → o.1 < 12 ∧ o.2 < 10000
  | [], _, _, _, o, ho => absurd ho (List.not_mem_nil)
  | u :: l, τ, τ', h, o, ho => by
    have h' : ((q_tstep u τ).bind fun τ1 => q_ty l τ1) = some τ' := h
    match e : q_tstep u τ with
    | none => rw [e] at h'; cases h'
    | some τ1 =>
      rw [e, Option.bind_some] at h'
      rcases List.mem_cons.mp ho with rfl | z
      · exact k_st_bd e
      · exact k_ty_bd l τ1 τ' h' o z
theorem k_enc_bd : ∀ {cls : List q_C} (s : Nat), q_wf cls → s + (q_enc s cls).length ≤ 9999 → ∀ o, o ∈ q_enc s cls → o.1 < 14 ∧ o.2 < 10000
  | [], _, _, _, o, ho => absurd ho (List.not_mem_nil)
  | c :: r, s, hw, hl, o, ho => by
    have hc := hw c (List.mem_cons_self)
    have e : q_enc s (c :: r) = (if c.1 = [] then c.2 ++ [(13, 0)] else c.1 ++ ((12, s + q_len c) :: (c.2 ++ [(13, 0)]))) ++ q_enc (s + q_len c) r := rfl
    rw [e, List.length_append, k_encl] at hl
    rw [e] at ho
    rcases List.mem_append.mp ho with z | z
    · by_cases e1 : c.1 = []
      · rw [if_pos e1] at z
        rcases List.mem_append.mp z with z | z
        · have := k_ty_bd _ _ _ hc.2 o z; omega
        · rw [List.mem_singleton.mp z]; exact ⟨by decide, by decide⟩
      · rw [if_neg e1] at z
        rcases List.mem_append.mp z with z | z
        · rcases hc.1 with w | w
          · exact absurd w e1
          · have := k_ty_bd _ _ _ w o z; omega
        · rcases List.mem_cons.mp z with rfl | z
          · exact ⟨by show 12 < 14; decide, by show s + q_len c < 10000; omega⟩
          · rcases List.mem_append.mp z with z | z
            · have := k_ty_bd _ _ _ hc.2 o z; omega
            · rw [List.mem_singleton.mp z]; exact ⟨by decide, by decide⟩
    · exact k_enc_bd (s + q_len c) (fun c' hc' => hw c' (List.mem_cons_of_mem _ hc')) (by omega) o z
theorem k_enc_mem : ∀ {cls : List q_C} (s : Nat), ∀ c, c ∈ cls → ∀ o, (o ∈ c.1 ∨ o ∈ c.2) → o ∈ q_enc s cls
  | [], _, c, hc, _, _ => absurd hc (List.not_mem_nil)
  | c0 :: r, s, c, hc, o, ho => by
    show o ∈ (if c0.1 = [] then c0.2 ++ [(13, 0)] else c0.1 ++ ((12, s + q_len c0) :: (c0.2 ++ [(13, 0)]))) ++ q_enc (s + q_len c0) r
    rw [List.mem_append]
    rcases List.mem_cons.mp hc with rfl | z
    · refine .inl ?_
      by_cases e : c.1 = []
      · rw [if_pos e]
        rcases ho with w | w
        · rw [e] at w; exact absurd w (List.not_mem_nil)
        · exact List.mem_append.mpr (.inl w)
      · rw [if_neg e]
        rcases ho with w | w
        · exact List.mem_append.mpr (.inl w)
        · exact List.mem_append.mpr (.inr (List.mem_cons_of_mem _ (List.mem_append.mpr (.inl w))))
    · exact .inr (k_enc_mem _ c z o ho)
theorem k_mcl : ∀ {cls : List q_C} {j : Nat} {A : List q_O}, k_pos m n j A.length cls → k_mE m n (A ++ k_R cls) → A.length + (k_R cls).length ≤ 400 → q_mcl m n j A.length cls
  | [], _, _, _, _, _ => trivial
  | c :: r, j, A, hp, hE, hl => by
    have e : k_R (c :: r) = (c.1 ++ c.2) ++ k_R r := rfl
    rw [e, List.length_append, List.length_append] at hl
    rw [e, ← List.append_assoc] at hE
    have e2 : (A ++ (c.1 ++ c.2)).length = A.length + c.1.length + c.2.length := by rw [List.length_append, List.length_append]; omega
    refine ⟨hp.1, hp.2.1, hp.2.2.1, fun i o ho => ?_, by omega, ?_⟩
    · have hi := (List.getElem?_eq_some_iff.mp ho).1
      have := hE.2 (A.length + i) o (by rw [List.append_assoc, List.getElem?_append_right (by omega), Nat.add_sub_cancel_left, List.getElem?_append_left hi]; exact ho)
      rw [← Nat.add_assoc] at this
      exact this
    · have := k_mcl (A := A ++ (c.1 ++ c.2)) (j := j + 1) (by rw [e2]; exact hp.2.2.2) hE (by rw [e2]; omega)
      rw [e2] at this
      exact this
theorem q_mcl.of2 (h1 : ∀ x, x < 520 * n + 520 → z_A m' 70 x = z_A m 70 x ∧ z_A m' 71 x = z_A m 71 x) (h2 : ∀ x, x < 140 * n + 140 → z_A m' 74 x = z_A m 74 x ∧ z_A m' 75 x = z_A m 75 x ∧ z_A m' 76 x = z_A m 76 x) : ∀ {cls : List q_C} {j P : Nat}, j + cls.length ≤ 140 → q_mcl m n j P cls → q_mcl m' n j P cls
  | [], _, _, _, _ => trivial
  | c :: r, j, P, hj, h => by
    rw [List.length_cons] at hj
    have h0 := h2 (140 * n + j) (by omega)
    refine ⟨h0.1.trans h.1, h0.2.1.trans h.2.1, h0.2.2.trans h.2.2.1, fun i o ho => ?_, h.2.2.2.2.1, q_mcl.of2 h1 h2 (by omega) h.2.2.2.2.2⟩
    have hi := (List.getElem?_eq_some_iff.mp ho).1
    rw [List.length_append] at hi
    have hb := h.2.2.2.2.1
    have h3 := h1 (520 * n + P + i) (by omega)
    exact ⟨h3.1.trans (h.2.2.2.1 i o ho).1, h3.2.trans (h.2.2.2.1 i o ho).2⟩
/-- another law's text spares those in force -/
theorem k_pr.mS (hp : k_pr k m m') (hn : n < k) (hM : q_mS m n cls) : q_mS m' n cls := by
  obtain ⟨a1, a2, a3, a4⟩ := hM
  exact ⟨a1, (hp.2.2.2.1 n (by omega)).2.trans a2, a3, q_mcl.of2 (fun x hx => hp.2.2.1 x (by omega)) (fun x hx => hp.2.2.2.2 x (by omega)) (by omega) a4⟩
theorem k_pr.qq (hp : k_pr k g m) : w_q [70, 71, 72, 73, 74, 75, 76] [] [3, 4, 5, 14] g m := by
  refine w_q.m68 hp.1 (by decide) (by decide) (fun j hj => ?_)
  simp only [List.mem_cons, List.not_mem_nil, or_false] at hj
  exact hp.2.1 j (by omega) (by omega) (by omega) (by omega)
/-- a law's text read in its own place spares all that is in force -/
theorem w_S.pr (hR : w_S g n w T Wd ff lw p) (hp : k_pr k g m) (hk : ∀ c, c ≤ 4 → z_I g 15 8 = nI c → c ≤ k) : w_S m n w T Wd ff lw p := by
  have q := hp.qq
  obtain ⟨r1, r2, r3, r4, r5, r6, r7, r8, r9⟩ := hR
  refine ⟨q.sh (by decide) r1, q.vil (by decide) (by decide) r2, ?_, q.tape (by decide) (by decide) r4, q.acts (by decide) (by decide) r5, q.img r2.1.1 r2.1.2.1 (by decide) (by decide) (by decide) r6, q.seen (by decide) (by decide) r7, q.mist (by decide) (by decide) r8, q.trail (by decide) r9⟩
  obtain ⟨mm, cs, ps, m1, m2, m3, m4, m5, m6⟩ := r3
  have hmk := hk mm m1 m2
  refine ⟨mm, cs, ps, m1, (q.2.2.1 8 (by decide)).trans m2, (q.2.2.2 13 (by decide)).trans m3, fun i hi => ⟨(z_Q_of (q.at (by decide) (by decide))).trans (m4 i hi).1, (m4 i hi).2.1, q.LF (by decide) (m4 i hi).2.2.1, hp.mS (by omega) (m4 i hi).2.2.2⟩, q.LF (by decide) m5, ?_⟩
  rw [q.2.2.1 9 (by decide), q.2.2.2 28 (by decide)]
  exact m6
theorem k_lfr (hf : z_fr [16, 26, 27] h g) (h16 : z_I g 16 1 = z_I h 16 1) : w_k h g := w_k.two hf (by decide) (by decide) (by decide) (by decide) (by decide) h16 (fun k _ => hf.I (by decide))
/-- fault of a law -/
theorem call_faultL (hF : 70000 ≤ F) (hR : w_R h) : ∃ r h1 h2, s_Joy_fault F h (some 15) 1 = some (r, h1) ∧ s_Mod_fault F h1 (some 68) 1 = some (r, h2) ∧ w_call h h1 h2 := by
  obtain ⟨n, w, T, Wd, f, lw, p, hR⟩ := hR
  have hS := hR.1
  obtain ⟨B, l, hA, hM⟩ := k_tape hS hR.2.2.2.1
  obtain ⟨g, v, a1, a2, a3, -⟩ := z_lread (k := 4) hF (by decide) hA hM
  have S1 := hS.fr a2 (by decide)
  obtain ⟨g', v', b1, b2, b3, m, b4, b5, b6⟩ := z_lread (k := 4) (M := g) hF (by decide) hA (hM.to a2 (by decide) (by decide) (by decide))
  have e : (v, g) = (v', g') := Option.some.inj (a1.symm.trans b1)
  obtain ⟨rfl, rfl⟩ := Prod.mk.inj e
  have b4' : s_Mod_readLaw F g (some 68) (4 : Int32) = some (v, m) := b4
  have k1 := k_lfr a2 a3
  have n10 : ¬ (1 : Int32) = 0 := by decide
  have hRm := (hR.kp k1).pr b5 (fun c h1 _ => h1)
  refine ⟨v, g, m, ?_, ?_, k1.c0, ⟨n, w, T, Wd, f, lw, p, hRm⟩, (b5.qq.c0 (by decide)).trans k1.c0⟩
  · unfold s_Joy_fault
    rw [z_c15 hS, Option.bind_some, if_neg n10, if_pos rfl, z_r15_2 hS, Option.bind_some, a1, Option.bind_some]
  · unfold s_Mod_fault
    rw [z_c68 S1, Option.bind_some, if_pos n10, if_neg (fun z => z rfl), b4', Option.bind_some]
/-- fault -/
theorem call_fault (hF : 70000 ≤ F) (hR : w_R h) : ∃ r h1 h2, s_Joy_fault F h (some 15) x = some (r, h1) ∧ s_Mod_fault F h1 (some 68) x = some (r, h2) ∧ w_call h h1 h2 := by
  by_cases e0 : x = 0
  · subst e0; exact call_faultV hF hR
  · by_cases e1 : x = 1
    · subst e1; exact call_faultL hF hR
    · obtain ⟨n, w, T, Wd, f, lw, p, hR⟩ := hR
      have hS := hR.1
      refine ⟨-2, h, h, ?_, ?_, w_call.rr hR⟩
      · unfold s_Joy_fault
        rw [z_c15 hS, Option.bind_some, if_neg e0, if_neg e1]
      · unfold s_Mod_fault
        rw [z_c68 hS, Option.bind_some, if_pos e0, if_pos e1]
end LA
