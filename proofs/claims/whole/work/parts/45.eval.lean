-- A LAW EVALUATED: the class's steps and the reference's pieces both give q_worth
def z_LW (h : fw_H) (p : Nat) : Prop := z_ck h p = some (4, (1, [p + 4, p + 5, 0, 0, 0])) ∧ z_ck h (p + 1) = some (1, (240, [])) ∧ z_ck h (p + 2) = some (1, (40, []))
def q_sv (o : q_O) : Int32 := nI (o.1 * 10000 + o.2)
def q_len (c : q_C) : Nat := if c.1 = [] then c.2.length + 1 else c.1.length + 1 + c.2.length + 1
/-- the class's steps of a law, from place n on -/
def q_enc : Nat → List q_C → List q_O
  | _, [] => []
  | n, c :: r => (if c.1 = [] then c.2 ++ [(13, 0)] else c.1 ++ ((12, n + q_len c) :: (c.2 ++ [(13, 0)]))) ++ q_enc (n + q_len c) r
def q_cS (h : fw_H) (p : Nat) (enc : List q_O) : Prop := z_LW h p ∧ z_I h p 2 = nI enc.length ∧ enc.length ≤ 240 ∧ ∀ i o, enc[i]? = some o → z_A h (p + 1) i = q_sv o ∧ o.1 < 14 ∧ o.2 < 10000
section QC
variable {g g' h : fw_H} {p q i d nn n : Nat} {enc rest : List q_O} {L : Nat → Int32} {K : Int32 → fw_H → Option (Int32 × fw_H)} {o : q_O} {s : List Int32} {τ τ' : List Bool}
theorem z_LW.fr {As : List Nat} (hf : z_fr As g g') (hL : z_LW g p) : z_LW g' p := ⟨(hf.1 _).trans hL.1, (hf.1 _).trans hL.2.1, (hf.1 _).trans hL.2.2⟩
theorem q_cS.fr (hf : z_fr [p + 2] g g') (hL : q_cS g p enc) : q_cS g' p enc := by
  refine ⟨hL.1.fr hf, ?_, hL.2.2.1, fun i o e => ?_⟩
  · rw [hf.I (by simp)]; exact hL.2.1
  · rw [hf.A (by simp)]; exact hL.2.2.2 i o e
theorem q_pred (n : Nat) : nI (n + 1) - (1 : Int32) = nI n := nI_pred n
theorem q_cstep (hS : q_cS g p enc) (hq : z_ck g q = some (1, (8, []))) (hne : q ≠ p + 2) (hL : ∀ j, j < 8 → z_A g q j = L j) (he : enc[i]? = some o) (hd : d < 240)
    (ht : q_tstep o τ = some τ') (hv : q_tv τ s) (hT : q_ST (z_A g (p + 2)) s) (h40 : τ.length ≤ 40) :
    ∃ g', l_Law_worth_7 (some p) (some q) K (nn + 1) (nI s.length) (nI i) (nI d) g = l_Law_worth_7 (some p) (some q) K nn (nI (q_step L o s).length) (nI (i + 1)) (nI (d + 1)) g' ∧ z_fr [p + 2] g g' ∧ q_ST (z_A g' (p + 2)) (q_step L o s) := by
  obtain ⟨⟨w1, w2, w3⟩, h2, h3, h4⟩ := hS
  have hi : i < enc.length := (List.getElem?_eq_some_iff.mp he).1
  obtain ⟨e1, e2, e3⟩ := h4 i o he
  have hlen := q_tv_len _ _ hv
  have gI : f_gI g (some p) 1 2 = some (nI enc.length) := by rw [z_gI w1 rfl, h2]
  have gR0 : f_gR g (some p) 1 0 = some (some (p + 1)) := z_gR w1 rfl
  have gR1 : f_gR g (some p) 1 1 = some (some (p + 2)) := z_gR w1 rfl
  have hget : s_Rows_get g (some (p + 1)) (nI i) = some (nI (o.1 * 10000 + o.2)) := by rw [z_rget w2 (by omega) (by decide), e1]; rfl
  have hdiv : f_idiv (nI (o.1 * 10000 + o.2)) (10000 : Int32) = some (nI o.1) := by
    rw [show (10000 : Int32) = nI 10000 from rfl, z_idiv (by omega) (by decide) (by decide)]
    congr 2; omega
  have hrem : f_irem (nI (o.1 * 10000 + o.2)) (10000 : Int32) = some (nI o.2) := by
    rw [show (10000 : Int32) = nI 10000 from rfl, z_irem (by omega) (by decide) (by decide)]
    congr 2; omega
  have hne' : ∀ m : Nat, m < 20 → o.1 ≠ m → ¬ nI o.1 = nI m := fun m hm h z => h ((nI_eq (by omega) (by omega)).mp z)
  have s1 : ∀ n : Nat, nI n + (1 : Int32) = nI (n + 1) := nI_1
  rw [l_Law_worth_7, if_neg (show ¬ (240 : Int32) ≤ nI d from nI_ge (b := 240) hd (by decide)), gI, Option.bind_some, if_neg (nI_ge hi (by omega)), gR0, Option.bind_some, hget, Option.bind_some, hdiv, Option.bind_some, Option.bind_some, hget, Option.bind_some, hrem, Option.bind_some]
  have hput : ∀ (j : Nat) (v : Int32), j < 40 → s_Rows_put g (some (p + 2)) (nI j) v = some (z_sA g (p + 2) j v) := fun j v hj => z_rput w3 hj (by decide)
  have hgt : ∀ (j : Nat), j < 40 → s_Rows_get g (some (p + 2)) (nI j) = some (z_A g (p + 2) j) := fun j hj => z_rget w3 hj (by decide)
  have hfr : ∀ (j : Nat) (v : Int32), z_fr [p + 2] g (z_sA g (p + 2) j v) := fun j v => z_fr.refl.sA (by simp)
  have hST : ∀ (r : List Int32) (v : Int32), q_ST (z_A g (p + 2)) r → q_ST (z_A (z_sA g (p + 2) r.length v) (p + 2)) (v :: r) := fun r v hr =>
    ⟨by rw [z_A_sA w3, if_pos rfl], q_ST_of hr (fun j hj => by rw [z_A_sA_nk (by omega)])⟩
  rcases q_tcase ht with ⟨h0, hv1, hl, rfl⟩ | ⟨h0, hv1, hl, rfl⟩ | ⟨h0, hv1, r, rfl, rfl⟩ | ⟨hk2, hk10, hv1, b, c, r, rfl, rfl, hb, hc⟩
  · rw [show q_step L o s = nI o.2 :: s by unfold q_step; rw [if_pos h0], h0]
    rw [if_pos (by decide), if_pos (by decide), if_pos (by decide), if_pos (by decide), gR1, Option.bind_some, if_neg (by decide), hput _ _ (by omega), Option.bind_some, s1, s1, s1]
    exact ⟨_, rfl, hfr _ _, hST _ _ hT⟩
  · rw [show q_step L o s = L o.2 :: s by unfold q_step; rw [if_neg (by omega), if_pos h0], h0]
    rw [if_pos (by decide), if_pos (by decide), if_pos (by decide), if_neg (by decide), if_neg (by decide), gR1, Option.bind_some, if_pos (by decide), z_rget hq (by omega) (by decide), Option.bind_some, hL _ hv1, hput _ _ (by omega), Option.bind_some, s1, s1, s1]
    exact ⟨_, rfl, hfr _ _, hST _ _ hT⟩
  · rw [show q_step L o s = (1 - q_pop s) :: s.tail by unfold q_step; rw [if_neg (by omega), if_neg (by omega), if_pos h0], h0]
    rw [if_pos (by decide), if_pos (by decide), if_neg (by decide)]
    match s, hv, hT, hlen with
    | x :: s, hv, hT, hlen =>
      simp only [List.length_cons] at hlen h40 ⊢
      rw [gR1, Option.bind_some, Option.bind_some, q_pred, hgt _ (by omega), Option.bind_some, hT.1, hput _ _ (by omega), Option.bind_some, s1, s1]
      exact ⟨_, rfl, hfr _ _, hST _ _ hT.2⟩
  · rw [show q_step L o s = q_j o.1 (q_pop s.tail) (q_pop s) :: s.tail.tail by unfold q_step; rw [if_neg (by omega), if_neg (by omega), if_neg (by omega)]]
    rw [if_pos (show ¬ nI o.1 = (13 : Int32) from hne' 13 (by decide) (by omega)), if_pos (show ¬ nI o.1 = (12 : Int32) from hne' 12 (by decide) (by omega)), if_pos (show ¬ nI o.1 = (11 : Int32) from hne' 11 (by decide) (by omega)), if_neg (show ¬ nI o.1 = (0 : Int32) from hne' 0 (by decide) (by omega)), if_pos (show ¬ nI o.1 = (1 : Int32) from hne' 1 (by decide) (by omega))]
    match s, hv, hT, hlen with
    | x :: y :: s, hv, hT, hlen =>
      simp only [List.length_cons] at hlen h40 ⊢
      rw [gR1, Option.bind_some, Option.bind_some, pk_m1, q_pred, hgt _ (by omega), Option.bind_some, Option.bind_some, hgt _ (by omega), Option.bind_some]
      have hx : z_A g (p + 2) (s.length + 1) = x := hT.1
      have hy : z_A g (p + 2) s.length = y := hT.2.1
      rw [hx, hy, q_joined hk2 hk10 (fun z => ⟨hv.2.1 (hb z), hv.1 (hb z)⟩), Option.bind_some, hput _ _ (by omega), Option.bind_some, s1, s1]
      exact ⟨_, rfl, hfr _ _, hST _ _ hT.2.2⟩
theorem q_tstep_len (ht : q_tstep o τ = some τ') (h : τ.length ≤ 40) : τ'.length ≤ 40 := by
  rcases q_tcase ht with ⟨-, -, hl, rfl⟩ | ⟨-, -, hl, rfl⟩ | ⟨-, -, r, rfl, rfl⟩ | ⟨-, -, -, b, c, r, rfl, rfl, -, -⟩
  · simp; omega
  · simp; omega
  · simpa using h
  · simp at h ⊢; omega
theorem q_cseg (hq : z_ck g q = some (1, (8, []))) (hne : q ≠ p + 2) (hL : ∀ j, j < 8 → z_A g q j = L j) :
    ∀ (l : List q_O) (i d nn : Nat) (s : List Int32) (τ τ' : List Bool) (g1 : fw_H), q_cS g1 p enc → z_fr [p + 2] g g1 → enc.drop i = l ++ rest → d ≤ i → q_ty l τ = some τ' → q_tv τ s → q_ST (z_A g1 (p + 2)) s → τ.length ≤ 40 →
    ∃ g', l_Law_worth_7 (some p) (some q) K (nn + l.length) (nI s.length) (nI i) (nI d) g1 = l_Law_worth_7 (some p) (some q) K nn (nI (q_ev L l s).length) (nI (i + l.length)) (nI (d + l.length)) g' ∧ z_fr [p + 2] g g' ∧ q_cS g' p enc ∧ q_ST (z_A g' (p + 2)) (q_ev L l s) := by
  intro l
  induction l with
  | nil => intro i d nn s τ τ' g1 hS hf he hd ht hv hT h40; exact ⟨g1, rfl, hf, hS, hT⟩
  | cons o l ih =>
    intro i d nn s τ τ' g1 hS hf he hd ht hv hT h40
    obtain ⟨hi, ho, he'⟩ := z_drop he
    match h1 : q_tstep o τ with
    | none =>
      have h2 : (q_tstep o τ).bind (fun τ' => q_ty l τ') = some τ' := ht
      rw [h1] at h2; cases h2
    | some t =>
      have h2 : (q_tstep o τ).bind (fun τ' => q_ty l τ') = some τ' := ht
      rw [h1] at h2
      have hq1 : z_ck g1 q = some (1, (8, [])) := (hf.1 q).trans hq
      obtain ⟨g2, a1, a2, a3⟩ := q_cstep (K := K) (nn := nn + l.length) (L := L) hS hq1 hne (fun j hj => by rw [hf.A (by simpa using hne)]; exact hL j hj) ho (by have := hS.2.2.1; omega) h1 hv hT h40 (d := d)
      obtain ⟨g3, b1, b2, b3, b4⟩ := ih (i + 1) (d + 1) nn (q_step L o s) t τ' g2 (hS.fr a2) (hf.trans a2) he' (by omega) h2 (q_step_ok h1 hv) a3 (q_tstep_len h1 h40)
      refine ⟨g3, ?_, b2, b3, b4⟩
      show l_Law_worth_7 (some p) (some q) K (nn + l.length + 1) _ _ _ _ = _
      rw [a1, b1, show i + 1 + l.length = i + (o :: l).length by simp; omega, show d + 1 + l.length = d + (o :: l).length by simp; omega]
      rfl
def q_KK (p : Nat) : Int32 → fw_H → Option (Int32 × fw_H) := fun e61_2 he61 =>
  (f_gR he61 (some p) 1 1).bind fun x62 => (s_Rows_get he61 x62 (e61_2 - (1 : Int32))).bind fun x68 => some (x68, he61)
theorem q_tv1 {b : Bool} {s : List Int32} (h : q_tv [b] s) : ∃ x, s = [x] ∧ (b = true → x = 0 ∨ x = 1) := by
  match s, h with
  | [x], h => exact ⟨x, rfl, h.1⟩
/-- the step at place i, taken apart -/
theorem q_chead (hS : q_cS g p enc) (he : enc[i]? = some o) (hd : d < 240) {t : Int32} : l_Law_worth_7 (some p) (some q) K (nn + 1) t (nI i) (nI d) g =
    if ¬ nI o.1 = (13 : Int32) then (if ¬ nI o.1 = (12 : Int32) then (l_Law_worth_7 (some p) (some q) K (nn + 1) t (nI i) (nI d) g) else
      (s_Rows_get g (some (p + 2)) (t + (-1 : Int32))).bind fun x87 => if ¬ x87 = (0 : Int32) then (l_Law_worth_7 (some p) (some q) K nn (t + (-1 : Int32)) (nI i + (1 : Int32)) (nI d + (1 : Int32)) g) else
      l_Law_worth_7 (some p) (some q) K nn (t + (-1 : Int32)) (nI o.2) (nI d + (1 : Int32)) g) else K t g := by
  obtain ⟨⟨w1, w2, w3⟩, h2, h3, h4⟩ := hS
  have hi : i < enc.length := (List.getElem?_eq_some_iff.mp he).1
  obtain ⟨e1, e2, e3⟩ := h4 i o he
  have gI : f_gI g (some p) 1 2 = some (nI enc.length) := by rw [z_gI w1 rfl, h2]
  have gR0 : f_gR g (some p) 1 0 = some (some (p + 1)) := z_gR w1 rfl
  have gR1 : f_gR g (some p) 1 1 = some (some (p + 2)) := z_gR w1 rfl
  have hget : s_Rows_get g (some (p + 1)) (nI i) = some (nI (o.1 * 10000 + o.2)) := by rw [z_rget w2 (by omega) (by decide), e1]; rfl
  have hdiv : f_idiv (nI (o.1 * 10000 + o.2)) (10000 : Int32) = some (nI o.1) := by
    rw [show (10000 : Int32) = nI 10000 from rfl, z_idiv (by omega) (by decide) (by decide)]
    congr 2; omega
  have hrem : f_irem (nI (o.1 * 10000 + o.2)) (10000 : Int32) = some (nI o.2) := by
    rw [show (10000 : Int32) = nI 10000 from rfl, z_irem (by omega) (by decide) (by decide)]
    congr 2; omega
  by_cases c1 : nI o.1 = (13 : Int32)
  · rw [if_neg (fun z => z c1), l_Law_worth_7, if_neg (show ¬ (240 : Int32) ≤ nI d from nI_ge (b := 240) hd (by decide)), gI, Option.bind_some, if_neg (nI_ge hi (by omega)), gR0, Option.bind_some, hget, Option.bind_some, hdiv, Option.bind_some, Option.bind_some, hget, Option.bind_some, hrem, Option.bind_some, if_neg (fun z => z c1)]
  · rw [if_pos c1]
    by_cases c2 : nI o.1 = (12 : Int32)
    · rw [if_neg (fun z => z c2), l_Law_worth_7, if_neg (show ¬ (240 : Int32) ≤ nI d from nI_ge (b := 240) hd (by decide)), gI, Option.bind_some, if_neg (nI_ge hi (by omega)), gR0, Option.bind_some, hget, Option.bind_some, hdiv, Option.bind_some, Option.bind_some, hget, Option.bind_some, hrem, Option.bind_some, if_pos c1, if_neg (fun z => z c2), gR1, Option.bind_some]
    · rw [if_pos c2]
theorem q_ccls (hq : z_ck g q = some (1, (8, []))) (hne : q ≠ p + 2) (hL : ∀ j, j < 8 → z_A g q j = L j) :
    ∀ (cls : List q_C) (n d nn : Nat) (g1 : fw_H), q_cS g1 p enc → z_fr [p + 2] g g1 → enc.drop n = q_enc n cls → n ≤ enc.length → q_wf cls → d ≤ n → enc.length - n < nn →
    ∃ g', l_Law_worth_7 (some p) (some q) (q_KK p) nn (nI 0) (nI n) (nI d) g1 = some (q_worth L cls, g') ∧ z_fr [p + 2] g g' := by
  intro cls
  induction cls with
  | nil =>
    intro n d nn g1 hS hf he hn hw hd hnn
    obtain ⟨nn, rfl⟩ : ∃ k, nn = k + 1 := ⟨nn - 1, by omega⟩
    have h1 := z_dropN he
    have hlen := hS.2.2.1
    refine ⟨g1, ?_, hf⟩
    rw [l_Law_worth_7]
    by_cases hd2 : (240 : Int32) ≤ nI d
    · rw [if_pos hd2]; rfl
    · rw [if_neg hd2, z_gI hS.1.1 rfl, Option.bind_some, hS.2.1, if_pos (nI_le h1 (by omega))]; rfl
  | cons c r ih =>
    intro n d nn g1 hS hf he hn hw hd hnn
    have hlen := hS.2.2.1
    have hwc := hw c List.mem_cons_self
    have hwr : q_wf r := fun c hc => hw c (List.mem_cons_of_mem _ hc)
    -- the sum, from any place
    have hsum : ∀ (m d nn : Nat) (g2 : fw_H) (rest : List q_O), q_cS g2 p enc → z_fr [p + 2] g g2 → enc.drop m = c.2 ++ ((13, 0) :: rest) → d ≤ m → enc.length - m < nn → ∃ g', l_Law_worth_7 (some p) (some q) (q_KK p) nn (nI 0) (nI m) (nI d) g2 = some (q_pop (q_ev L c.2 []), g') ∧ z_fr [p + 2] g g' := by
      intro m d nn g2 rest hS2 hf2 he2 hd2 hnn2
      have hl2 : enc.length - m = c.2.length + 1 + rest.length := by
        have := congrArg List.length he2
        simpa [Nat.add_assoc, Nat.add_comm 1] using this
      obtain ⟨k, rfl⟩ : ∃ k, nn = (k + 1) + c.2.length := ⟨nn - 1 - c.2.length, by omega⟩
      obtain ⟨g3, b1, b2, b3, b4⟩ := q_cseg (enc := enc) (rest := (13, 0) :: rest) (K := q_KK p) hq hne hL c.2 m d (k + 1) [] [] [false] g2 hS2 hf2 he2 hd2 hwc.2 trivial trivial (by decide)
      obtain ⟨x, hx, -⟩ := q_tv1 (q_ev_ok (L := L) hwc.2 (s := []) trivial)
      rw [hx] at b1 b4 ⊢
      have h13 : enc[m + c.2.length]? = some (13, 0) := by
        have e3 : (enc.drop m)[c.2.length]? = some (13, 0) := by rw [he2]; simp
        rwa [List.getElem?_drop] at e3
      refine ⟨g3, ?_, b2⟩
      rw [show (nI 0 : Int32) = nI ([] : List Int32).length from rfl, b1, q_chead b3 h13 (by have := (List.getElem?_eq_some_iff.mp h13).1; omega), if_neg (by decide)]
      unfold q_KK
      rw [show f_gR g3 (some p) 1 1 = some (some (p + 2)) from z_gR b3.1.1 rfl, Option.bind_some]
      rw [show nI [x].length - (1 : Int32) = nI 0 from nI_pred 0, z_rget b3.1.2.2 (by decide) (by decide), Option.bind_some]
      rw [show z_A g3 (p + 2) 0 = x from b4.1]
      rfl
    by_cases hc : c.1 = []
    · have he2 : enc.drop n = c.2 ++ ((13, 0) :: q_enc (n + q_len c) r) := by rw [he, q_enc, if_pos hc]; simp
      obtain ⟨g', a1, a2⟩ := hsum n d nn g1 _ hS hf he2 hd hnn
      exact ⟨g', by rw [a1, q_worth, if_pos (.inl hc)], a2⟩
    · have hty : q_ty c.1 [] = some [true] := hwc.1.resolve_left hc
      have he2 : enc.drop n = c.1 ++ ((12, n + q_len c) :: (c.2 ++ ((13, 0) :: q_enc (n + q_len c) r))) := by rw [he, q_enc, if_neg hc]; simp
      have hl2 : enc.length - n = c.1.length + 1 + (c.2.length + 1 + (q_enc (n + q_len c) r).length) := by
        have := congrArg List.length he2
        simp at this
        omega
      have hql : q_len c = c.1.length + 1 + c.2.length + 1 := if_neg hc
      obtain ⟨k, rfl⟩ : ∃ k, nn = (k + 1) + c.1.length := ⟨nn - 1 - c.1.length, by omega⟩
      obtain ⟨g3, b1, b2, b3, b4⟩ := q_cseg (enc := enc) (K := q_KK p) hq hne hL c.1 n d (k + 1) [] [] [true] g1 hS hf he2 hd hty trivial trivial (by decide)
      obtain ⟨x, hx, hx01⟩ := q_tv1 (q_ev_ok (L := L) hty (s := []) trivial)
      rw [hx] at b1 b4
      have h12 : enc[n + c.1.length]? = some (12, n + q_len c) := by
        have e3 : (enc.drop n)[c.1.length]? = some (12, n + q_len c) := by rw [he2]; simp
        rwa [List.getElem?_drop] at e3
      have hd12 : enc.drop (n + c.1.length + 1) = c.2 ++ ((13, 0) :: q_enc (n + q_len c) r) := by
        rw [Nat.add_assoc, ← List.drop_drop, he2, ← List.drop_drop, List.drop_left]; rfl
      rw [show (nI 0 : Int32) = nI ([] : List Int32).length from rfl, b1, q_chead b3 h12 (by omega), if_pos (show ¬ nI (12, n + q_len c).1 = (13 : Int32) from (by decide : ¬ nI 12 = (13 : Int32))), if_neg (show ¬ ¬ nI (12, n + q_len c).1 = (12 : Int32) from (by decide : ¬ ¬ nI 12 = (12 : Int32)))]
      rw [show nI [x].length + (-1 : Int32) = nI 0 from pk_m1 0, z_rget b3.1.2.2 (by decide) (by decide), Option.bind_some]
      rw [show z_A g3 (p + 2) 0 = x from b4.1]
      rw [show nI (d + c.1.length) + (1 : Int32) = nI (d + c.1.length + 1) from nI_1 _, show nI (n + c.1.length) + (1 : Int32) = nI (n + c.1.length + 1) from nI_1 _]
      by_cases hx0 : x = 0
      · rw [if_neg (fun z => z hx0)]
        have hdr : enc.drop (n + q_len c) = q_enc (n + q_len c) r := by
          rw [show enc.drop (n + q_len c) = enc.drop ((n + c.1.length + 1) + (c.2.length + 1)) from congrArg (fun z => enc.drop z) (by omega), ← List.drop_drop, hd12, ← List.drop_drop, List.drop_left]; rfl
        obtain ⟨g', a1, a2⟩ := ih (n + q_len c) (d + c.1.length + 1) k g3 b3 b2 hdr (by omega) hwr (by omega) (by omega)
        exact ⟨g', by rw [a1, q_worth, if_neg (fun z => z.elim hc (fun w => w (by rw [hx]; exact hx0)))], a2⟩
      · rw [if_pos hx0]
        obtain ⟨g', a1, a2⟩ := hsum (n + c.1.length + 1) (d + c.1.length + 1) k g3 _ b3 b2 hd12 (by omega) (by omega)
        exact ⟨g', by rw [a1, q_worth, if_pos (.inr (by rw [hx]; exact hx0))], a2⟩
/-- the class's law is worth q_worth -/
theorem q_cworth {F : Nat} {cls : List q_C} (hF : 70000 ≤ F) (hS : q_cS g p (q_enc 0 cls)) (hw : q_wf cls) (hq : z_ck g q = some (1, (8, []))) (hne : q ≠ p + 2) (hL : ∀ j, j < 8 → z_A g q j = L j) :
    ∃ g', s_Law_worth F g (some p) (some q) = some (q_worth L cls, g') ∧ z_fr [p + 2] g g' := by
  unfold s_Law_worth
  rw [z_ckO hS.1.1, Option.bind_some]
  exact q_ccls hq hne hL cls 0 0 F g hS z_fr.refl rfl (Nat.zero_le _) hw (Nat.le_refl _) (by have := hS.2.2.1; omega)
end QC
