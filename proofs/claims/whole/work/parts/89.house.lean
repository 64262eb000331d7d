-- HOUSE, which may throw
section HO
variable {h g g' h1 h2 : fw_H} {a n w i k t p m F : Nat} {T Wd f s : Nat → Int32} {lw : Option (List q_C)} {x y v : Int32}
theorem w_call.qq {C D D' : List Nat} (hR : w_S h n w T Wd f lw p) (q1 : w_q C D D' h h1) (q2 : w_q C D D' h h2) (hC : ∀ j, j ∈ C → j ∈ w_sc ∧ j < 97 ∧ 15 ≤ j ∧ j ≠ 61) (hD : 5 ∉ D ∧ 8 ∉ D ∧ 9 ∉ D ∧ 11 ∉ D) (hD' : ∀ k, k ∈ [2, 13, 24, 25, 28, 29, 31, 47, 49] → k ∉ D') : w_call h h1 h2 :=
  ⟨q1.c0 (fun j hj => (hC j hj).2.2.1), ⟨n, w, T, Wd, f, lw, p, q2.S hC hD hD' hR⟩, q2.c0 (fun j hj => (hC j hj).2.2.1)⟩
/-- the reference's house -/
theorem z_mhouse (hS : z_Sh g) (h24 : z_I g 68 24 = nI n) (hn : n ≤ 12) (hf : ∀ j, j < 118 → z_A g 84 j = f j) (hT : ∀ j, j < 72 → z_A g 82 j = T j) :
    (v_in x n = false ∨ y < 0 ∨ (6 : Int32) < y → s_Mod_house g (some 68) x y = some (0, z_sI g 68 0 1)) ∧
    ∀ i k, i < n → k ≤ 6 → s_Mod_house g (some 68) (nI i) (nI k) = some (if k = 0 then f i else if k < 5 then T (6 * i + k) else if k = 5 then f (12 + i) else f (24 + i), z_sI g 68 0 0) := by
  have S0 : z_Sh (z_sI g 68 0 0) := z_Sh_sI hS
  have S1 : z_Sh (z_sI g 68 0 1) := z_Sh_sI hS
  refine ⟨fun hc => ?_, fun i k hi hk => ?_⟩
  · unfold s_Mod_house
    simp only [fw_jn]
    rw [z_c68 hS, Option.bind_some, z_isHouse hS h24 hn, Option.bind_some, z_w68_0 hS, z_w68_0 hS, Option.bind_some, Option.bind_some, z_i68_0 S0, z_i68_0 S1, Option.bind_some, Option.bind_some, z_II hS 12 rfl, z_II hS 12 rfl]
    by_cases hx : v_in x n = true
    · rw [if_pos hx, z_in, Option.bind_some, if_neg (by rw [decide_eq_true_eq]; intro z; rcases hc with hc | hc | hc; rw [hx] at hc; cases hc; exact z.1 hc; exact z.2 hc), if_neg (show ¬ ¬ (1 : Int32) = 1 by decide)]
    · rw [if_neg hx, if_neg (show ¬ ¬ (1 : Int32) = 1 by decide)]
  · have hx : v_in (nI i) n = true := v_in_n hi (by omega)
    have h7 : decide (¬ nI k < 0 ∧ ¬ (6 : Int32) < nI k) = true := decide_eq_true ⟨nI_pos (by omega), nI_nlt (b := k) (a := 6) hk (by decide)⟩
    unfold s_Mod_house
    simp only [fw_jn]
    rw [z_c68 hS, Option.bind_some, z_isHouse hS h24 hn, Option.bind_some, z_w68_0 hS, z_w68_0 hS, Option.bind_some, Option.bind_some, z_i68_0 S0, z_i68_0 S1, Option.bind_some, Option.bind_some, z_II hS 12 rfl, z_II hS 12 rfl, if_pos hx, z_in, Option.bind_some, if_pos h7, if_pos (show ¬ (0 : Int32) = 1 by decide)]
    have A84 : ∀ j, j < 118 → f_aI (z_sI g 68 0 0) (some 84) (nI j) = some (f j) := fun j hj => by rw [z_a84 S0 hj, z_A_sI, hf j hj]
    have A82 : ∀ j, j < 72 → f_aI (z_sI g 68 0 0) (some 82) (nI j) = some (T j) := fun j hj => by rw [z_a82 S0 hj, z_A_sI, hT j hj]
    by_cases h0 : k = 0
    · rw [if_neg (show ¬ ¬ nI k = (0 : Int32) from fun z => z (by rw [h0]; rfl)), z_r68_26 S0, Option.bind_some, show (0 : Int32) + nI i = nI (0 + i) from nI_add 0 i, A84 _ (by omega), Option.bind_some, if_pos h0, Nat.zero_add]
    · rw [if_pos (show ¬ nI k = (0 : Int32) from nI_ne0 (by omega) (by omega)), if_neg h0]
      by_cases h5 : k < 5
      · rw [if_neg (show ¬ (5 : Int32) ≤ nI k from nI_ge (b := 5) h5 (by decide)), z_r68_22 S0, Option.bind_some, show (6 : Int32) * nI i + nI k = nI (6 * i + k) by rw [show (6 : Int32) = nI 6 from rfl, pk_mul, nI_add], A82 _ (by omega), Option.bind_some, if_pos h5]
      · rw [if_pos (show (5 : Int32) ≤ nI k from nI_le (a := 5) (by omega) (by omega)), if_neg h5]
        by_cases h55 : k = 5
        · rw [if_neg (show ¬ ¬ nI k = (5 : Int32) from fun z => z (by rw [h55]; rfl)), z_r68_26 S0, Option.bind_some, show (12 : Int32) + nI i = nI (12 + i) from nI_add 12 i, A84 _ (by omega), Option.bind_some, if_pos h55]
        · rw [if_pos (show ¬ nI k = (5 : Int32) from fun z => h55 ((nI_eq (b := 5) (by omega) (by decide)).mp z)), z_r68_26 S0, Option.bind_some, show (24 : Int32) + nI i = nI (24 + i) from nI_add 24 i, A84 _ (by omega), Option.bind_some, if_neg h55]
/-- the class's house -/
theorem z_chouse (hS : z_Sh h) (hok : v_ok n w Wd) (hR : v_R h 29 n w T Wd f) :
    (v_in x n = false ∨ y < 0 ∨ (6 : Int32) < y → s_Joy_house h (some 15) x y = some none) ∧
    ∀ i k, i < n → k ≤ 6 → s_Joy_house h (some 15) (nI i) (nI k) = some (some (if k = 0 then f i else if k < 5 then T (6 * i + k) else if k = 5 then f (12 + i) else f (24 + i))) := by
  have hn12 := hok.1
  have hn := hR.1
  refine ⟨fun hc => ?_, fun i k hi hk => ?_⟩
  · unfold s_Joy_house
    rw [z_c15 hS, Option.bind_some, z_r15_3 hS, Option.bind_some, z_hasHouse hS (.inr (.inl rfl)) hn, Option.bind_some]
    by_cases hx : v_in x n = true
    · rw [if_pos hx]
      by_cases h0 : y < 0
      · rw [if_pos h0]
      · rw [if_neg h0, if_neg (q_lt_iff.mpr (hc.elim (fun z => by rw [hx] at z; cases z) fun z => z.elim (fun z => absurd z h0) id))]
    · rw [if_neg hx]
  · have hx : v_in (nI i) n = true := v_in_n hi (by omega)
    unfold s_Joy_house
    rw [z_c15 hS, Option.bind_some, z_r15_3 hS, Option.bind_some, z_hasHouse hS (.inr (.inl rfl)) hn, Option.bind_some, if_pos hx, if_neg (nI_pos (by omega)), if_pos (show nI k ≤ (6 : Int32) from nI_le (b := 6) hk (by decide))]
    by_cases h5 : k < 5
    · rw [if_neg (show ¬ (5 : Int32) ≤ nI k from nI_ge (b := 5) h5 (by decide)), Option.bind_some, z_trait hS (.inr (.inl rfl)) (by omega) h5, Option.bind_some]
      by_cases h0 : k = 0
      · rw [if_pos h0, h0]
        exact congrArg (fun z => some (some z)) (hR.2.2.1 i hi).1
      · rw [if_neg h0, if_pos h5]
        exact congrArg (fun z => some (some z)) ((hR.2.2.1 i hi).2 k (by omega) h5)
    · rw [if_pos (show (5 : Int32) ≤ nI k from nI_le (a := 5) (by omega) (by omega)), if_neg (show ¬ k = 0 by omega), if_neg h5]
      by_cases h55 : k = 5
      · have hR0 := hR
        obtain ⟨-, -, -, -, -, -, -, ⟨o, o1, o2, o3⟩, -⟩ := hR0
        rw [if_neg (show ¬ ¬ nI k = (5 : Int32) from fun z => z (by rw [h55]; rfl)), Option.bind_some, z_i29_7 hS, Option.bind_some, o2, z_has (by omega) (by omega), Option.bind_some, z_bitJ, Option.bind_some, if_pos h55, o3 i hi]
      · rw [if_pos (show ¬ nI k = (5 : Int32) from fun z => h55 ((nI_eq (b := 5) (by omega) (by decide)).mp z)), Option.bind_some, z_r29_3 hS, Option.bind_some, z_rget (z_ckT hS rfl) (show i < 12 by omega) (by decide), Option.bind_some, if_neg h55]
        exact congrArg (fun z => some (some z)) (hR.2.2.2.1 i hi)
/-- house -/
theorem call_house (hR : w_R h) : ∃ (k : Int32) (h1 : fw_H) (b : Int32) (h2 : fw_H), s_Law0_house h (some 15) x y (some 96) = some (k, h1) ∧ s_Mod_house h1 (some 68) x y = some (b, h2) ∧ s_Mod_thrown h2 (some 68) = some k ∧ z_Sh h2 ∧ (k = 0 → z_J h2 96 0 = b.toInt64) ∧ w_call h h1 h2 := by
  obtain ⟨n, w, T, Wd, f, lw, p, hR⟩ := hR
  have hS := hR.1
  have hok := hR.ok
  have hn12 := hok.1
  have hnm := hR.2.1.2.2.1
  have h84 := hR.2.1.2.2.2.1.2.2
  have h82 := hR.2.1.2.2.2.2.1
  have hth : ∀ (g : fw_H) (v : Int32), z_Sh g → s_Mod_thrown (z_sI g 68 0 v) (some 68) = some v := by
    intro g v hg
    have S1 : z_Sh (z_sI g 68 0 v) := z_Sh_sI hg
    unfold s_Mod_thrown
    rw [z_c68 S1, Option.bind_some, z_i68_0 S1, Option.bind_some, z_II hg 12 rfl]
  obtain ⟨c1, c2⟩ := z_chouse (x := x) (y := y) hS hok hR.2.1.2.1
  unfold s_Law0_house
  by_cases hc : v_in x n = false ∨ y < 0 ∨ (6 : Int32) < y
  · have q1 : w_q [96] [] [0] h (h ++ [fw_opq]) := w_q.app hS
    have S1 := q1.sh (by decide) hS
    have hv1 := q1.vil (by decide) (by decide) hR.2.1
    obtain ⟨d1, -⟩ := z_mhouse (x := x) (y := y) S1 hv1.2.2.1 hn12 hv1.2.2.2.1.2.2 hv1.2.2.2.2.1
    refine ⟨1, h ++ [fw_opq], 0, z_sI (h ++ [fw_opq]) 68 0 1, by rw [c1 hc]; rfl, d1 hc, hth _ 1 S1, z_Sh_sI S1, fun z => absurd z (by decide), ?_⟩
    exact w_call.qq hR q1 (q1.trans (w_q.s68 (by simp))) (by decide) (by decide) (by decide)
  · have hx : v_in x n = true := by
      cases e : v_in x n
      · exact absurd (.inl e) hc
      · rfl
    obtain ⟨i, hi, rfl⟩ := v_in_t hx (by omega)
    obtain ⟨k, hk, rfl⟩ := v_le_t (N := 6) (fun z => hc (.inr (.inl z))) (fun z => hc (.inr (.inr z))) (by decide)
    obtain ⟨v, hv⟩ : ∃ v, v = (if k = 0 then f i else if k < 5 then T (6 * i + k) else if k = 5 then f (12 + i) else f (24 + i)) := ⟨_, rfl⟩
    have c3 := c2 i k hi hk
    rw [← hv] at c3
    have hJ : f_sJ h (some 96) (0 : Int32) v.toInt64 = some (z_sJ h 96 0 v.toInt64) := z_sJx (i := 0) (z_ckT hS rfl) (by decide) (by decide)
    have S1 : z_Sh (z_sJ h 96 0 v.toInt64) := z_Sh_sJ hS
    have q1 : w_q [96] [] [0] h (z_sJ h 96 0 v.toInt64) := w_q.fr (z_fr.refl.sJ (As := [96]) (by simp)) (fun j hj => .inl hj) (by decide) (by decide)
    have hv1 := q1.vil (by decide) (by decide) hR.2.1
    obtain ⟨-, d1⟩ := z_mhouse (x := nI i) (y := nI k) S1 hv1.2.2.1 hn12 hv1.2.2.2.1.2.2 hv1.2.2.2.2.1
    have d2 := d1 i k hi hk
    rw [← hv] at d2
    refine ⟨0, z_sJ h 96 0 v.toInt64, v, z_sI (z_sJ h 96 0 v.toInt64) 68 0 0, ?_, d2, hth _ 0 S1, z_Sh_sI S1, fun _ => ?_, ?_⟩
    · rw [c3, Option.bind_some]
      show (f_sJ h (some 96) (0 : Int32) v.toInt64).bind _ = _
      rw [hJ]
      rfl
    · rw [z_J_sI, z_J_sJ (z_ckT hS rfl), if_pos rfl]
    · exact w_call.qq hR q1 (q1.trans (w_q.s68 (by simp))) (by decide) (by decide) (by decide)
end HO
