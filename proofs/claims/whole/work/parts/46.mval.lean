-- A LAW EVALUATED by the reference
/-- the reference's pieces of a law in slot n, from piece k and place P on -/
def q_mcl (h : fw_H) (n : Nat) : Nat → Nat → List q_C → Prop
  | _, _, [] => True
  | k, P, c :: r => z_A h 74 (140 * n + k) = nI P ∧ z_A h 75 (140 * n + k) = nI (P + c.1.length) ∧ z_A h 76 (140 * n + k) = nI (P + c.1.length + c.2.length) ∧
    (∀ i o, (c.1 ++ c.2)[i]? = some o → z_A h 70 (520 * n + P + i) = nI (q_mk o.1) ∧ z_A h 71 (520 * n + P + i) = nI o.2) ∧ P + c.1.length + c.2.length ≤ 400 ∧ q_mcl h n (k + 1) (P + c.1.length + c.2.length) r
def q_mS (h : fw_H) (n : Nat) (cls : List q_C) : Prop := n < 5 ∧ z_A h 73 n = nI cls.length ∧ cls.length ≤ 130 ∧ q_mcl h n 0 0 cls
section QM
variable {g g' h : fw_H} {i n e nn : Nat} {L : Nat → Int32} {o : q_O} {s : List Int32} {τ τ' : List Bool}
theorem q_mcl.of (hf : ∀ a j, a = 70 ∨ a = 71 ∨ a = 74 ∨ a = 75 ∨ a = 76 → z_A g' a j = z_A g a j) : ∀ {cls : List q_C} {k P : Nat}, q_mcl g n k P cls → q_mcl g' n k P cls
  | [], _, _, _ => trivial
  | c :: r, k, P, h => ⟨(hf 74 _ (by omega)).trans h.1, (hf 75 _ (by omega)).trans h.2.1, (hf 76 _ (by omega)).trans h.2.2.1, fun i o e => ⟨(hf 70 _ (by omega)).trans (h.2.2.2.1 i o e).1, (hf 71 _ (by omega)).trans (h.2.2.2.1 i o e).2⟩, h.2.2.2.2.1, q_mcl.of hf h.2.2.2.2.2⟩
theorem q_mS.of (hf : ∀ a j, a = 70 ∨ a = 71 ∨ a = 73 ∨ a = 74 ∨ a = 75 ∨ a = 76 → z_A g' a j = z_A g a j) {cls : List q_C} (h : q_mS g n cls) : q_mS g' n cls :=
  ⟨h.1, (hf 73 _ (by omega)).trans h.2.1, h.2.2.1, q_mcl.of (fun a j ha => hf a j (by omega)) h.2.2.2⟩
theorem q_mkn {k m : Nat} (h : k < 20) (hm : m < 20) (hne : q_mk k ≠ m) : ¬ nI (q_mk k) = nI m := by
  intro z
  have : q_mk k < 20 := by unfold q_mk; split; decide; split; decide; split; decide; exact h
  exact hne ((nI_eq (by omega) (by omega)).mp z)
theorem q_mk_ne {k m : Nat} (h2 : 2 ≤ k) (h10 : k ≤ 10) (hm : m = 0 ∨ m = 1 ∨ m = 9) : q_mk k ≠ m := by
  unfold q_mk
  split
  · omega
  · split
    · omega
    · split
      · omega
      · omega
theorem q_mstep (hS : z_Sh g) (hi : i < 2600) (hie : i < 520 * n + e) (he : 520 * n + e < 10000) (hL : ∀ j, j < 8 → z_A g 77 j = L j) (hc : z_A g 70 i = nI (q_mk o.1)) (hvv : z_A g 71 i = nI o.2)
    (ht : q_tstep o τ = some τ') (hv : q_tv τ s) (hT : q_ST (z_A g 78) s) (h40 : τ.length ≤ 40) :
    ∃ g', l_Mod_workOut_12 (some 68) (nI n) (nI e) (nn + 1) (nI s.length) (nI i) g = l_Mod_workOut_12 (some 68) (nI n) (nI e) nn (nI (q_step L o s).length) (nI (i + 1)) g' ∧ z_fr [78] g g' ∧ q_ST (z_A g' 78) (q_step L o s) := by
  have hlen := q_tv_len _ _ hv
  have e1 : f_aI g (some 70) (nI i) = some (nI (q_mk o.1)) := by rw [z_a70 hS hi, hc]
  have e2 : f_aI g (some 71) (nI i) = some (nI o.2) := by rw [z_a71 hS hi, hvv]
  have s1 : ∀ n : Nat, nI n + (1 : Int32) = nI (n + 1) := nI_1
  have hput : ∀ (j : Nat) (v : Int32), j < 80 → f_sI g (some 78) (nI j) v = some (z_sA g 78 j v) := fun j v hj => z_s78 hS hj
  have hgt : ∀ (j : Nat), j < 80 → f_aI g (some 78) (nI j) = some (z_A g 78 j) := fun j hj => z_a78 hS hj
  have hfr : ∀ (j : Nat) (v : Int32), z_fr [78] g (z_sA g 78 j v) := fun j v => z_fr.refl.sA (by simp)
  have hST : ∀ (r : List Int32) (v : Int32), q_ST (z_A g 78) r → q_ST (z_A (z_sA g 78 r.length v) 78) (v :: r) := fun r v hr =>
    ⟨by rw [z_A_sA (z_ckT hS rfl), if_pos rfl], q_ST_of hr (fun j hj => by rw [z_A_sA_nk (by omega)])⟩
  rw [l_Mod_workOut_12, show (520 : Int32) * nI n + nI e = nI (520 * n + e) by rw [show (520 : Int32) = nI 520 from rfl, pk_mul, nI_add], if_neg (nI_ge hie (by omega))]
  simp only [z_r68_6 hS, z_r68_16 hS, z_r68_15 hS, z_r68_7 hS, Option.bind_some, e1, e2]
  rcases q_tcase ht with ⟨h0, hv1, hl, rfl⟩ | ⟨h0, hv1, hl, rfl⟩ | ⟨h0, hv1, r, rfl, rfl⟩ | ⟨hk2, hk10, hv1, b, c, r, rfl, rfl, hb, hc⟩
  · rw [show q_step L o s = nI o.2 :: s by unfold q_step; rw [if_pos h0], h0]
    rw [if_pos (by decide : nI (q_mk 0) = (0 : Int32)), if_neg (by decide : ¬ ¬ nI (q_mk 0) = (0 : Int32)), hput _ _ (by omega), Option.bind_some, s1, s1]
    exact ⟨_, rfl, hfr _ _, hST _ _ hT⟩
  · rw [show q_step L o s = L o.2 :: s by unfold q_step; rw [if_neg (by omega), if_pos h0], h0]
    rw [if_neg (by decide : ¬ nI (q_mk 1) = (0 : Int32)), if_neg (by decide : ¬ ¬ nI (q_mk 1) = (1 : Int32)), if_pos (by decide : ¬ nI (q_mk 1) = (0 : Int32)), z_a77 hS hv1, Option.bind_some, hL _ hv1, hput _ _ (by omega), Option.bind_some, s1, s1]
    exact ⟨_, rfl, hfr _ _, hST _ _ hT⟩
  · rw [show q_step L o s = (1 - q_pop s) :: s.tail by unfold q_step; rw [if_neg (by omega), if_neg (by omega), if_pos h0], h0]
    rw [if_neg (by decide : ¬ nI (q_mk 11) = (0 : Int32)), if_pos (by decide : ¬ nI (q_mk 11) = (1 : Int32)), if_neg (by decide : ¬ ¬ nI (q_mk 11) = (9 : Int32))]
    match s, hv, hT, hlen with
    | x :: s, hv, hT, hlen =>
      simp only [List.length_cons] at hlen h40 ⊢
      rw [q_pred, hgt _ (by omega), Option.bind_some, hT.1, hput _ _ (by omega), Option.bind_some, s1]
      exact ⟨_, rfl, hfr _ _, hST _ _ hT.2⟩
  · rw [show q_step L o s = q_j o.1 (q_pop s.tail) (q_pop s) :: s.tail.tail by unfold q_step; rw [if_neg (by omega), if_neg (by omega), if_neg (by omega)]]
    rw [if_neg (show ¬ nI (q_mk o.1) = (0 : Int32) from q_mkn (by omega) (by decide) (q_mk_ne hk2 hk10 (by decide))), if_pos (show ¬ nI (q_mk o.1) = (1 : Int32) from q_mkn (by omega) (by decide) (q_mk_ne hk2 hk10 (by decide))), if_pos (show ¬ nI (q_mk o.1) = (9 : Int32) from q_mkn (by omega) (by decide) (q_mk_ne hk2 hk10 (by decide)))]
    match s, hv, hT, hlen with
    | x :: y :: s, hv, hT, hlen =>
      simp only [List.length_cons] at hlen h40 ⊢
      have hx : z_A g 78 (s.length + 1) = x := hT.1
      have hy : z_A g 78 s.length = y := hT.2.1
      rw [pk_m1, q_pred, hgt _ (by omega), Option.bind_some, hgt _ (by omega), Option.bind_some, hx, hy, q_worked hk2 hk10, Option.bind_some, hput _ _ (by omega), Option.bind_some, s1]
      exact ⟨_, rfl, hfr _ _, hST _ _ hT.2.2⟩
theorem q_mseg (hS : z_Sh g) (he : 520 * n + e ≤ 2600) (hL : ∀ j, j < 8 → z_A g 77 j = L j) :
    ∀ (l : List q_O) (i nn : Nat) (s : List Int32) (τ τ' : List Bool) (g1 : fw_H), z_fr [78] g g1 → i + l.length = 520 * n + e → (∀ j o, l[j]? = some o → z_A g 70 (i + j) = nI (q_mk o.1) ∧ z_A g 71 (i + j) = nI o.2) → q_ty l τ = some τ' → q_tv τ s → q_ST (z_A g1 78) s → τ.length ≤ 40 →
    ∃ g', l_Mod_workOut_12 (some 68) (nI n) (nI e) (nn + l.length) (nI s.length) (nI i) g1 = l_Mod_workOut_12 (some 68) (nI n) (nI e) nn (nI (q_ev L l s).length) (nI (520 * n + e)) g' ∧ z_fr [78] g g' ∧ q_ST (z_A g' 78) (q_ev L l s) := by
  intro l
  induction l with
  | nil => intro i nn s τ τ' g1 hf hl hc ht hv hT h40; rw [← hl]; exact ⟨g1, rfl, hf, hT⟩
  | cons o l ih =>
    intro i nn s τ τ' g1 hf hl hc ht hv hT h40
    simp only [List.length_cons] at hl
    match h1 : q_tstep o τ with
    | none =>
      have h2 : (q_tstep o τ).bind (fun τ' => q_ty l τ') = some τ' := ht
      rw [h1] at h2; cases h2
    | some t =>
      have h2 : (q_tstep o τ).bind (fun τ' => q_ty l τ') = some τ' := ht
      rw [h1] at h2
      have hc0 := hc 0 o rfl
      obtain ⟨g2, a1, a2, a3⟩ := q_mstep (n := n) (e := e) (nn := nn + l.length) (L := L) (hS.fr hf (by decide)) (i := i) (by omega) (by omega) (by omega) (fun j hj => by rw [hf.A (by decide)]; exact hL j hj) (by rw [hf.A (by decide)]; exact hc0.1) (by rw [hf.A (by decide)]; exact hc0.2) h1 hv hT h40
      obtain ⟨g3, b1, b2, b3⟩ := ih (i + 1) nn (q_step L o s) t τ' g2 (hf.trans a2) (by omega) (fun j o' ho => by rw [show i + 1 + j = i + (j + 1) by omega]; exact hc (j + 1) o' ho) h2 (q_step_ok h1 hv) a3 (q_tstep_len h1 h40)
      refine ⟨g3, ?_, b2, b3⟩
      show l_Mod_workOut_12 (some 68) _ _ (nn + l.length + 1) _ _ _ = _
      rw [a1, b1]
      rfl
/-- a piece that leaves one value -/
theorem q_mwork {F P : Nat} {b : Bool} {l : List q_O} (hF : 70000 ≤ F) (hS : z_Sh g) (he : 520 * n + P + l.length ≤ 2600) (hL : ∀ j, j < 8 → z_A g 77 j = L j) (hc : ∀ j o, l[j]? = some o → z_A g 70 (520 * n + P + j) = nI (q_mk o.1) ∧ z_A g 71 (520 * n + P + j) = nI o.2) (ht : q_ty l [] = some [b]) :
    ∃ g', s_Mod_workOut F g (some 68) (nI n) (nI P) (nI (P + l.length)) = some (q_pop (q_ev L l []), g') ∧ z_fr [78] g g' := by
  unfold s_Mod_workOut
  obtain ⟨k, rfl⟩ : ∃ k, F = (k + 1) + l.length := ⟨F - 1 - l.length, by omega⟩
  obtain ⟨g3, b1, b2, b3⟩ := q_mseg (n := n) (e := P + l.length) hS (by omega) hL l (520 * n + P) (k + 1) [] [] [b] g z_fr.refl (by omega) hc ht trivial trivial (by decide)
  obtain ⟨x, hx, -⟩ := q_tv1 (q_ev_ok (L := L) ht (s := []) trivial)
  rw [hx] at b1 b3 ⊢
  have hS3 := hS.fr b2 (by decide)
  rw [z_c68 hS, Option.bind_some, show (520 : Int32) * nI n + nI P = nI (520 * n + P) by rw [show (520 : Int32) = nI 520 from rfl, pk_mul, nI_add], show (0 : Int32) = nI ([] : List Int32).length from rfl, b1]
  refine ⟨g3, ?_, b2⟩
  rw [l_Mod_workOut_12, show (520 : Int32) * nI n + nI (P + l.length) = nI (520 * n + (P + l.length)) by rw [show (520 : Int32) = nI 520 from rfl, pk_mul, nI_add], if_pos (nI_le (Nat.le_refl _) (by omega)), z_r68_16 hS3, Option.bind_some, show (0 : Int32) = nI 0 from rfl, z_a78 hS3 (by decide), Option.bind_some]
  rw [show z_A g3 78 0 = x from b3.1]
  rfl
def q_MK (F n : Nat) : Int32 → fw_H → Option (Int32 × fw_H) := fun e57_2 he57 =>
  (f_gR he57 (some 68) 12 11).bind fun x60 => (f_aI he57 x60 e57_2).bind fun x64 => (f_gR he57 (some 68) 12 12).bind fun x66 => (f_aI he57 x66 e57_2).bind fun x70 => (s_Mod_workOut F he57 (some 68) (nI n) x64 x70).bind fun x71 => some (x71.1, x71.2)
theorem q_mcls {F : Nat} {cls0 : List q_C} (hF : 70000 ≤ F) (hS : z_Sh g) (hM : q_mS g n cls0) (hL : ∀ j, j < 8 → z_A g 77 j = L j) :
    ∀ (cls : List q_C) (k P nn : Nat) (g1 : fw_H), z_fr [78] g g1 → k + cls.length = cls0.length → q_mcl g n k P cls → q_wf cls → cls.length < nn →
    ∃ g', l_Mod_worthOf_6 F (some 68) (nI n) (q_MK F n) nn (nI (140 * n + k)) g1 = some (q_worth L cls, g') ∧ z_fr [78] g g' := by
  intro cls
  induction cls with
  | nil =>
    intro k P nn g1 hf hk hc hw hnn
    obtain ⟨nn, rfl⟩ : ∃ j, nn = j + 1 := ⟨nn - 1, by omega⟩
    have hS1 := hS.fr hf (by decide)
    obtain ⟨n5, m1, m2, m3⟩ := hM
    refine ⟨g1, ?_, hf⟩
    simp only [List.length_nil] at hk
    rw [l_Mod_worthOf_6, z_r68_9 hS1, Option.bind_some, z_a73 hS1 n5, Option.bind_some, hf.A (by decide), m1, show (140 : Int32) * nI n + nI cls0.length = nI (140 * n + cls0.length) by rw [show (140 : Int32) = nI 140 from rfl, pk_mul, nI_add], if_pos (nI_le (by omega) (by omega))]
    rfl
  | cons c r ih =>
    intro k P nn g1 hf hk hc hw hnn
    obtain ⟨nn, rfl⟩ : ∃ j, nn = j + 1 := ⟨nn - 1, by omega⟩
    have hS1 := hS.fr hf (by decide)
    have hM0 := hM
    obtain ⟨n5, m1, m2, m3⟩ := hM
    obtain ⟨c1, c2, c3, c4, c5, c6⟩ := hc
    have hwc := hw c List.mem_cons_self
    have hwr : q_wf r := fun c hc => hw c (List.mem_cons_of_mem _ hc)
    simp only [List.length_cons] at hk hnn
    have hL1 : ∀ g2, z_fr [78] g g2 → ∀ j, j < 8 → z_A g2 77 j = L j := fun g2 h2 j hj => by rw [h2.A (by decide)]; exact hL j hj
    have hsum : ∀ g2, z_fr [78] g g2 → ∃ g', q_MK F n (nI (140 * n + k)) g2 = some (q_pop (q_ev L c.2 []), g') ∧ z_fr [78] g g' := by
      intro g2 h2
      have hS2 := hS.fr h2 (by decide)
      obtain ⟨g3, a1, a2⟩ := q_mwork (n := n) (P := P + c.1.length) (l := c.2) hF hS2 (by omega) (hL1 g2 h2) (fun j o ho => by
        rw [h2.A (by decide), h2.A (by decide), show 520 * n + (P + c.1.length) + j = 520 * n + P + (c.1.length + j) by omega]
        exact c4 (c.1.length + j) o (by rw [List.getElem?_append_right (by omega)]; rw [show c.1.length + j - c.1.length = j by omega]; exact ho)) hwc.2
      refine ⟨g3, ?_, h2.trans a2⟩
      unfold q_MK
      rw [z_r68_11 hS2, Option.bind_some, z_a75 hS2 (by omega), Option.bind_some, z_r68_12 hS2, Option.bind_some, z_a76 hS2 (by omega), Option.bind_some, h2.A (by decide), h2.A (by decide), c2, c3, a1]
      rfl
    rw [l_Mod_worthOf_6, z_r68_9 hS1, Option.bind_some, z_a73 hS1 n5, Option.bind_some, hf.A (by decide), m1, show (140 : Int32) * nI n + nI cls0.length = nI (140 * n + cls0.length) by rw [show (140 : Int32) = nI 140 from rfl, pk_mul, nI_add], if_neg (nI_ge (by omega) (by omega))]
    rw [z_r68_10 hS1, Option.bind_some, z_a74 hS1 (by omega), Option.bind_some, z_r68_11 hS1, Option.bind_some, z_a75 hS1 (by omega), Option.bind_some, hf.A (by decide), hf.A (by decide), c1, c2]
    by_cases hc0 : c.1 = []
    · rw [if_pos (by rw [hc0]; rfl)]
      obtain ⟨g', a1, a2⟩ := hsum g1 hf
      exact ⟨g', by rw [a1, q_worth, if_pos (.inl hc0)], a2⟩
    · have hty : q_ty c.1 [] = some [true] := hwc.1.resolve_left hc0
      have hpos : 0 < c.1.length := List.length_pos_iff.mpr hc0
      rw [if_neg (fun z => by have := (nI_eq (by omega) (by omega)).mp z; omega)]
      rw [Option.bind_some, z_a74 hS1 (by omega), Option.bind_some, Option.bind_some, z_a75 hS1 (by omega), Option.bind_some, hf.A (by decide), hf.A (by decide), c1, c2]
      obtain ⟨g3, a1, a2⟩ := q_mwork (n := n) (P := P) (l := c.1) hF hS1 (by omega) (hL1 g1 hf) (fun j o ho => by
        rw [hf.A (by decide), hf.A (by decide)]
        exact c4 j o (by rw [List.getElem?_append_left (List.getElem?_eq_some_iff.mp ho).1]; exact ho)) hty
      rw [a1, Option.bind_some]
      by_cases hx0 : q_pop (q_ev L c.1 []) = 0
      · rw [if_pos hx0, show nI (140 * n + k) + (1 : Int32) = nI (140 * n + (k + 1)) from nI_1 _]
        obtain ⟨g', b1, b2⟩ := ih (k + 1) (P + c.1.length + c.2.length) nn g3 (hf.trans a2) (by omega) c6 hwr (by omega)
        exact ⟨g', by rw [b1, q_worth, if_neg (fun z => z.elim hc0 (fun w => w hx0))], b2⟩
      · rw [if_neg hx0]
        obtain ⟨g', b1, b2⟩ := hsum g3 (hf.trans a2)
        exact ⟨g', by rw [b1, q_worth, if_pos (.inr hx0)], b2⟩
/-- the reference's law is worth q_worth -/
theorem q_mworth {F : Nat} {cls : List q_C} (hF : 70000 ≤ F) (hS : z_Sh g) (hM : q_mS g n cls) (hw : q_wf cls) (hL : ∀ j, j < 8 → z_A g 77 j = L j) :
    ∃ g', s_Mod_worthOf F g (some 68) (nI n) = some (q_worth L cls, g') ∧ z_fr [78] g g' := by
  unfold s_Mod_worthOf
  rw [z_c68 hS, Option.bind_some, show (140 : Int32) * nI n = nI (140 * n + 0) by rw [show (140 : Int32) = nI 140 from rfl, pk_mul]; rfl]
  exact q_mcls hF hS hM hL cls 0 0 F g z_fr.refl (by omega) hM.2.2.2 hw (by have := hM.2.2.1; omega)
end QM
