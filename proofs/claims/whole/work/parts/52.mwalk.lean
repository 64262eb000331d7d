-- THE REFERENCE'S WALK
/-- the reference's village: f its state, lw the law that holds -/
def z_MV (h : fw_H) (n w : Nat) (T Wd f : Nat → Int32) (lw : Option (List q_C)) : Prop :=
  z_I h 68 24 = nI n ∧ v_MW h w Wd f ∧ (∀ j, j < 72 → z_A h 82 j = T j) ∧ match lw with
    | none => z_I h 68 28 = -1
    | some cls => ∃ k, k < 4 ∧ z_I h 68 28 = nI k ∧ q_mS h k cls ∧ q_wf cls
/-- who envies, as the reference has it -/
def z_ME (h : fw_H) (n : Nat) (T : Nat → Int32) (e : Nat) : Prop := ∀ x, x < n → z_A h 85 x = if e.testBit x = true then T (6 * x + 1) else 0
/-- who turns the back -/
def z_MB (f : Nat → Int32) (n m : Nat) : Prop := ∀ x, x < n → f (12 + x) = fw_b (m.testBit x)
def z_mps (h : fw_H) (p : e_P) : Prop := z_I h 68 32 = nI p.1 ∧ z_I h 68 33 = z_b p.2.1 ∧ z_I h 68 34 = nI p.2.2
/-- nothing but where the reference's walk stands, its letters and its stack -/
def z_mw (h h' : fw_H) : Prop := z_fr [68, 77, 78] h h' ∧ ∀ k, k ≠ 32 → k ≠ 33 → k ≠ 34 → z_I h' 68 k = z_I h 68 k
theorem z_mw.refl {h : fw_H} : z_mw h h := ⟨z_fr.refl, fun _ _ _ _ => rfl⟩
theorem z_mw.trans {h h' h'' : fw_H} (h1 : z_mw h h') (h2 : z_mw h' h'') : z_mw h h'' := ⟨h1.1.trans h2.1, fun k a b c => (h2.2 k a b c).trans (h1.2 k a b c)⟩
section MWK
variable {h g g' : fw_H} {a b i j k m e n w t x F : Nat} {T Wd f : Nat → Int32} {lw : Option (List q_C)} {E : z_E} {p : e_P}
theorem z_mw.s (hk : k = 32 ∨ k = 33 ∨ k = 34) {v : Int32} : z_mw h (z_sI h 68 k v) := ⟨z_fr.refl.sI (by simp), fun j a b c => z_I_sI_nk (by omega)⟩
theorem z_mw.ofr (hf : z_fr [77, 78] h g) : z_mw h g := ⟨hf.mono (by simp), fun k _ _ _ => hf.I (by simp)⟩
theorem z_mw.sh (h1 : z_mw h g) (hS : z_Sh h) : z_Sh g := hS.fr h1.1 (by decide)
theorem z_MV.mw (h1 : z_mw g g') (hV : z_MV g n w T Wd f lw) : z_MV g' n w T Wd f lw := by
  obtain ⟨v1, ⟨v2, v3, v4⟩, v5, v6⟩ := hV
  refine ⟨by rw [h1.2 24 (by decide) (by decide) (by decide)]; exact v1, ⟨by rw [h1.2 25 (by decide) (by decide) (by decide)]; exact v2, fun j hj => by rw [h1.1.A (by decide)]; exact v3 j hj, fun j hj => by rw [h1.1.A (by decide)]; exact v4 j hj⟩, fun j hj => by rw [h1.1.A (by decide)]; exact v5 j hj, ?_⟩
  match lw, v6 with
  | none, v6 => rw [h1.2 28 (by decide) (by decide) (by decide)]; exact v6
  | some cls, ⟨k, k1, k2, k3, k4⟩ =>
    refine ⟨k, k1, by rw [h1.2 28 (by decide) (by decide) (by decide)]; exact k2, k3.of (fun a j ha => h1.1.A (by simp; omega)), k4⟩
theorem z_ME.mw (h1 : z_mw g g') (hE : z_ME g n T e) : z_ME g' n T e := fun x hx => by rw [h1.1.A (by decide)]; exact hE x hx
/-- a wish, as the reference works it out -/
theorem z_wishAt (hF : 70000 ≤ F) (hS : z_Sh h) (hV : z_MV h n w T Wd f lw) (hn : n ≤ 12) (hx : x < n) : ∃ h', s_Mod_wishAt F h (some 68) (nI x) (nI t) = some (v_wish lw T f x (f (12 + x)) t, h') ∧ z_fr [77, 78] h h' := by
  obtain ⟨v1, ⟨v2, v3, v4⟩, v5, v6⟩ := hV
  have i0 : (0 : Int32) + nI x = nI (0 + x) := nI_add 0 x
  have i12 : (12 : Int32) + nI x = nI (12 + x) := nI_add 12 x
  have i6 : ∀ k : Nat, (6 : Int32) * nI x + nI k = nI (6 * x + k) := fun k => by rw [show (6 : Int32) = nI 6 from rfl, pk_mul, nI_add]
  have rf : ∀ g, z_Sh g → z_fr [77, 78] h g → ∀ j, j < 118 → f_aI g (some 84) (nI j) = some (f j) := fun g hg hf j hj => by rw [z_a84 hg hj, hf.A (by decide), v4 j hj]
  have rT : ∀ g, z_Sh g → z_fr [77, 78] h g → ∀ j, j < 72 → f_aI g (some 82) (nI j) = some (T j) := fun g hg hf j hj => by rw [z_a82 hg hj, hf.A (by decide), v5 j hj]
  unfold s_Mod_wishAt
  rw [z_c68 hS, Option.bind_some, z_i68_28 hS, Option.bind_some]
  match lw, v6 with
  | none, v6 =>
    rw [v6, if_neg (by decide)]
    simp only [fw_jn, z_r68_26 hS, z_r68_22 hS, Option.bind_some, i12, i0, show 0 + x = x by omega, rf h hS z_fr.refl (12 + x) (by omega), rf h hS z_fr.refl x (by omega)]
    have hJ : ∀ v : Int32, ((f_aI h (some 84) (52 : Int32)).bind fun x40 => if ¬ x40 = (1 : Int32) then (some (v, h)) else (f_aI h (some 82) (((6 : Int32) * nI x) + (4 : Int32))).bind fun x56 => some ((v - x56), h)) = some (if f 52 = 1 then v - T (6 * x + 4) else v, h) := by
      intro v
      rw [show (52 : Int32) = nI 52 from rfl, rf h hS z_fr.refl _ (by decide), Option.bind_some]
      by_cases h1 : f 52 = 1
      · rw [if_neg (fun z => z h1), show (4 : Int32) = nI 4 from rfl, i6, rT h hS z_fr.refl _ (by omega), Option.bind_some, if_pos h1]
      · rw [if_pos h1, if_neg h1]
    refine ⟨h, ?_, z_fr.refl⟩
    by_cases hb : f (12 + x) = 1
    · rw [if_neg (fun z => z hb), hJ]
      unfold v_wish
      simp only [if_pos hb]
    · rw [if_pos hb, hJ]
      unfold v_wish
      simp only [if_neg hb]
  | some cls, ⟨k, k1, k2, k3, k4⟩ =>
    have put : ∀ g, z_Sh g → z_fr [77, 78] h g → ∀ (j : Nat) (v : Int32), j < 8 → f_sI g (some 77) (nI j) v = some (z_sA g 77 j v) ∧ z_Sh (z_sA g 77 j v) ∧ z_fr [77, 78] h (z_sA g 77 j v) := fun g hg hf j v hj => ⟨z_s77 hg hj, z_Sh_sA hg, hf.sA (by simp)⟩
    rw [k2, if_pos (z_neg1 (by omega)), z_r68_15 hS, Option.bind_some, z_r68_26 hS, Option.bind_some, i0, show 0 + x = x by omega, rf h hS z_fr.refl x (by omega), Option.bind_some]
    obtain ⟨p0, S0, F0⟩ := put h hS z_fr.refl 0 (f x) (by decide)
    rw [show (0 : Int32) = nI 0 from rfl, p0, Option.bind_some, z_r68_15 S0, Option.bind_some, z_r68_22 S0, Option.bind_some, show (1 : Int32) = nI 1 from rfl, i6, rT _ S0 F0 _ (by omega), Option.bind_some]
    obtain ⟨p1, S1, F1⟩ := put _ S0 F0 1 (T (6 * x + 1)) (by decide)
    rw [p1, Option.bind_some, z_r68_15 S1, Option.bind_some, z_r68_22 S1, Option.bind_some, show (2 : Int32) = nI 2 from rfl, i6, rT _ S1 F1 _ (by omega), Option.bind_some]
    obtain ⟨p2, S2, F2⟩ := put _ S1 F1 2 (T (6 * x + 2)) (by decide)
    rw [p2, Option.bind_some, z_r68_15 S2, Option.bind_some, z_r68_22 S2, Option.bind_some, show (3 : Int32) = nI 3 from rfl, i6, rT _ S2 F2 _ (by omega), Option.bind_some]
    obtain ⟨p3, S3, F3⟩ := put _ S2 F2 3 (T (6 * x + 3)) (by decide)
    rw [p3, Option.bind_some, z_r68_15 S3, Option.bind_some, z_r68_22 S3, Option.bind_some, show (4 : Int32) = nI 4 from rfl, i6, rT _ S3 F3 _ (by omega), Option.bind_some]
    obtain ⟨p4, S4, F4⟩ := put _ S3 F3 4 (T (6 * x + 4)) (by decide)
    rw [p4, Option.bind_some, z_r68_15 S4, Option.bind_some, z_r68_26 S4, Option.bind_some, i12, rf _ S4 F4 _ (by omega), Option.bind_some]
    obtain ⟨p5, S5, F5⟩ := put _ S4 F4 5 (f (12 + x)) (by decide)
    rw [show (5 : Int32) = nI 5 from rfl, p5, Option.bind_some, z_r68_15 S5, Option.bind_some, z_r68_26 S5, Option.bind_some, show (52 : Int32) = nI 52 from rfl, rf _ S5 F5 _ (by omega), Option.bind_some]
    obtain ⟨p6, S6, F6⟩ := put _ S5 F5 6 (f 52) (by decide)
    rw [show (6 : Int32) = nI 6 from rfl, p6, Option.bind_some, z_r68_15 S6, Option.bind_some]
    obtain ⟨p7, S7, F7⟩ := put _ S6 F6 7 (nI t) (by decide)
    rw [show (7 : Int32) = nI 7 from rfl, p7, Option.bind_some, z_i68_28 S7, Option.bind_some]
    simp only [z_I_sA]
    rw [k2]
    obtain ⟨g', a1, a2⟩ := q_mworth (L := v_let T f x (f (12 + x)) t) hF S7 (k3.of (fun a j ha => F7.A (by simp; omega))) k4 (fun j hj => by
      rw [z_A_sA (z_ckT S6 rfl), z_A_sA (z_ckT S5 rfl), z_A_sA (z_ckT S4 rfl), z_A_sA (z_ckT S3 rfl), z_A_sA (z_ckT S2 rfl), z_A_sA (z_ckT S1 rfl), z_A_sA (z_ckT S0 rfl), z_A_sA (z_ckT hS rfl)]
      unfold v_let
      obtain rfl | rfl | rfl | rfl | rfl | rfl | rfl | rfl : j = 0 ∨ j = 1 ∨ j = 2 ∨ j = 3 ∨ j = 4 ∨ j = 5 ∨ j = 6 ∨ j = 7 := by omega
      all_goals rfl)
    rw [a1, Option.bind_some]
    exact ⟨g', rfl, F7.trans (a2.mono (by simp))⟩
theorem z_nextML (hF : 70000 ≤ F) (hok : v_ok n w Wd) (hE : E = v_E n w T Wd f lw (v_op f) e m) (hB : z_MB f n m) (ha : a < n) (hb : b = 12 ∨ b < n) (ht : t < 24) {s : Nat} (hs : s < 2 ^ 12) (hd : ∀ x, s.testBit x = E.2.1 a x) {K : Int32 → Int32 → fw_H → Option (Int32 × fw_H)} (hS0 : z_Sh h) (hV0 : z_MV h n w T Wd f lw) (hM0 : z_ME h n T e) :
    ∀ (k i nn : Nat) (g : fw_H), i + k = n → k < nn → z_fr [77, 78] h g →
    ∃ g', l_Mod_nextOf_19 F (some 68) (z_b b) (nI t) (nI s) K nn (e_sum E 0 ((List.range i).filter (E.2.1 a))) (z_b (e_best E b t (12, 0) ((List.range i).filter (E.2.1 a))).1) (e_best E b t (12, 0) ((List.range i).filter (E.2.1 a))).2 (nI i) g = K (e_sum E 0 (e_ds E a)) (z_b (e_best E b t (12, 0) (e_ds E a)).1) g' ∧ z_fr [77, 78] h g' := by
  have hE1 : E.1 = n := by rw [hE]; rfl
  have hn12 := hok.1
  intro k
  induction k with
  | zero =>
    intro i nn g hi hnn hf
    obtain ⟨nn, rfl⟩ : ∃ k, nn = k + 1 := ⟨nn - 1, by omega⟩
    obtain rfl : i = n := by omega
    have hS := hS0.fr hf (by decide)
    refine ⟨g, ?_, hf⟩
    rw [l_Mod_nextOf_19, z_i68_24 hS, Option.bind_some, hf.I (by decide), hV0.1, if_pos (nI_le (Nat.le_refl _) (by omega))]
    unfold e_ds
    rw [hE1]
  | succ k ih =>
    intro i nn g hi hnn hf
    obtain ⟨nn, rfl⟩ : ∃ k, nn = k + 1 := ⟨nn - 1, by omega⟩
    have hS := hS0.fr hf (by decide)
    have hV := hV0.mw (z_mw.ofr hf)
    have hM := hM0.mw (z_mw.ofr hf)
    rw [l_Mod_nextOf_19, z_i68_24 hS, Option.bind_some, hV.1, if_neg (nI_ge (by omega) (by omega)), z_mhas (by omega) (by omega), Option.bind_some, hd i]
    by_cases hp : E.2.1 a i = true
    · have e1 : (List.range (i + 1)).filter (E.2.1 a) = (List.range i).filter (E.2.1 a) ++ [i] := by rw [z_filter_succ, if_pos hp]
      have es : e_sum E 0 ((List.range (i + 1)).filter (E.2.1 a)) = e_sum E 0 ((List.range i).filter (E.2.1 a)) + z_A g 85 i := by
        rw [e1, hM i (by omega)]
        unfold e_sum
        rw [List.foldl_append, hE]
        rfl
      have eb : e_best E b t (12, 0) ((List.range (i + 1)).filter (E.2.1 a)) = e_st E b t (e_best E b t (12, 0) ((List.range i).filter (E.2.1 a))) i := by
        rw [e1]; unfold e_best; rw [List.foldl_append]; rfl
      have hw : E.2.2.2.2 i t = v_wish lw T f i (f (12 + i)) t := by rw [hE, hB i (by omega)]; rfl
      rw [if_pos hp, z_r68_27 hS, Option.bind_some, z_a85 hS (by omega), Option.bind_some, ← es]
      obtain ⟨c, hc⟩ : ∃ c, c = e_best E b t (12, 0) ((List.range i).filter (E.2.1 a)) := ⟨_, rfl⟩
      have hc12 : c.1 ≤ 12 := by
        rcases e_best_mem (E := E) (b := b) (t := t) ((List.range i).filter (E.2.1 a)) (12, 0) with z | z
        · rw [hc, z]; exact Nat.le_refl _
        · rw [hc]; have := (List.mem_filter.mp z.1).1; rw [List.mem_range] at this; omega
      rw [← hc] at eb ⊢
      have ih' := ih (i + 1) nn
      rw [eb] at ih'
      unfold e_st at ih'
      simp only [fw_jn]
      rw [show nI i + 1 = nI (i + 1) from nI_1 i]
      by_cases hib : i = b
      · have h1 : nI i = z_b b := (z_b_eq (by omega) (by omega)).mpr hib
        simp only [if_pos hib] at ih'
        rw [if_neg (fun z => z h1), if_pos h1]
        exact ih' g (by omega) (by omega) hf
      · have h1 : ¬ nI i = z_b b := fun z => hib ((z_b_eq (by omega) (by omega)).mp z)
        simp only [if_neg hib] at ih'
        obtain ⟨g1, a1, a2⟩ := z_wishAt (t := t) hF hS hV hn12 (show i < n by omega)
        rw [if_pos h1, a1, Option.bind_some, if_neg h1]
        simp only
        rw [← hw]
        have hf1 := hf.trans a2
        by_cases h12 : c.1 = 12
        · simp only [if_pos (show c.1 = 12 ∨ E.2.2.2.2 i t < c.2 from .inl h12)] at ih'
          rw [if_pos (by rw [h12]; rfl), ← z_bn (b := i) (by omega)]
          exact ih' g1 (by omega) (by omega) hf1
        · rw [if_neg (by rw [z_bn h12]; exact z_neg1 (by omega))]
          by_cases hlt : E.2.2.2.2 i t < c.2
          · simp only [if_pos (show c.1 = 12 ∨ E.2.2.2.2 i t < c.2 from .inr hlt)] at ih'
            rw [if_neg (q_lt_iff.mpr hlt), ← z_bn (b := i) (by omega)]
            exact ih' g1 (by omega) (by omega) hf1
          · simp only [if_neg (show ¬ (c.1 = 12 ∨ E.2.2.2.2 i t < c.2) from fun z => z.elim h12 hlt)] at ih'
            rw [if_pos (fa_of_nlt hlt)]
            exact ih' g1 (by omega) (by omega) hf1
    · have e1 : (List.range (i + 1)).filter (E.2.1 a) = (List.range i).filter (E.2.1 a) := by rw [z_filter_succ, if_neg hp, List.append_nil]
      have ih' := ih (i + 1) nn
      rw [e1] at ih'
      rw [if_neg hp, show nI i + 1 = nI (i + 1) from nI_1 i]
      exact ih' g (by omega) (by omega) hf
/-- the reference's nextOf -/
theorem z_nextOf (hF : 70000 ≤ F) (hok : v_ok n w Wd) (hE : E = v_E n w T Wd f lw (v_op f) e m) (hB : z_MB f n m) (ha : a < n) (hb : b = 12 ∨ b < n) (ht : t < 24) (hS : z_Sh h) (hV : z_MV h n w T Wd f lw) (hM : z_ME h n T e) :
    ∃ h', s_Mod_nextOf F h (some 68) (nI a) (z_b b) (nI t) = some (nI (e_next E a b t), h') ∧ z_fr [77, 78] h h' := by
  have hn12 := hok.1
  have hE1 : E.1 = n := by rw [hE]; rfl
  obtain ⟨s, s1, s2, s3⟩ := z_seenFrom hF hS hok hV.2.1 (show a < 12 by omega)
  unfold s_Mod_nextOf
  rw [z_c68 hS, Option.bind_some, s1, Option.bind_some]
  refine z_k (z_nextML hF hok hE hB ha hb ht s2 (fun x => by rw [s3 x, hE]; rfl) hS hV hM n 0 F h (by omega) (by omega) z_fr.refl) fun g' hf => ?_
  have S' := hS.fr hf (by decide)
  rw [z_r68_22 S', Option.bind_some, show (6 : Int32) * nI a + (2 : Int32) = nI (6 * a + 2) by rw [show (6 : Int32) = nI 6 from rfl, show (2 : Int32) = nI 2 from rfl, pk_mul, nI_add], z_a82 S' (by omega), Option.bind_some, hf.A (by decide), hV.2.2.1 _ (by omega)]
  have hpe : T (6 * a + 2) = E.2.2.2.1 a := by rw [hE]; rfl
  rw [hpe]
  unfold e_next
  by_cases h1 : e_sum E 0 (e_ds E a) < E.2.2.2.1 a
  · rw [if_pos h1, if_pos h1]; exact ⟨g', rfl, hf⟩
  · rw [if_neg h1, if_neg h1]
    by_cases h2 : (e_best E b t (12, 0) (e_ds E a)).1 = 12
    · rw [if_pos (by rw [h2]; rfl), if_pos h2]; exact ⟨g', rfl, hf⟩
    · have h3 : (e_best E b t (12, 0) (e_ds E a)).1 < n := by
        rcases e_best_mem (E := E) (b := b) (t := t) (e_ds E a) (12, 0) with z | z
        · exact absurd z h2
        · have := (e_ds_mem.mp z.1).1; omega
      rw [if_neg (by rw [z_bn h2]; exact z_neg1 (by omega)), if_neg h2, z_bn h2]; exact ⟨g', rfl, hf⟩
/-- what the reference's walk needs -/
def z_MC (h : fw_H) (n w : Nat) (T Wd f : Nat → Int32) (lw : Option (List q_C)) (e : Nat) : Prop := z_Sh h ∧ z_MV h n w T Wd f lw ∧ z_ME h n T e
theorem z_MC.mw (h1 : z_mw g g') (hC : z_MC g n w T Wd f lw e) : z_MC g' n w T Wd f lw e := ⟨h1.sh hC.1, hC.2.1.mw h1, hC.2.2.mw h1⟩
/-- the reference's walk -/
theorem z_mwalk (hF : 70000 ≤ F) (hok : v_ok n w Wd) (hE : E = v_E n w T Wd f lw (v_op f) e m) (hB : z_MB f n m) (hC : z_MC h n w T Wd f lw e) (hp : z_mps h p) (hk : e_ok E p) :
    ∃ h', s_Mod_walk F h (some 68) = some h' ∧ (z_mw h h' ∧ z_mps h' (e_go E p)) := by
  obtain ⟨a, b, t⟩ := p
  obtain ⟨p1, p2, p3⟩ := hp
  obtain ⟨k1, k2, k3⟩ := hk
  have hE1 : E.1 = n := by rw [hE]; rfl
  rw [hE1] at k1 k2
  simp only at p1 p2 p3 k1 k2 k3
  have hS := hC.1
  have hn12 := hok.1
  obtain ⟨g1, a1, a2⟩ := z_nextOf hF hok hE hB k1 k2 k3 hS hC.2.1 hC.2.2
  have hlt : e_next E a b t < n := hE1 ▸ e_next_lt (hE1.symm ▸ k1)
  unfold s_Mod_walk
  rw [z_c68 hS, Option.bind_some, z_i68_32 hS, Option.bind_some, p1, z_i68_33 hS, Option.bind_some, p2, z_i68_34 hS, Option.bind_some, p3, a1, Option.bind_some]
  have S1 := hS.fr a2 (by decide)
  have m1 : z_mw h g1 := z_mw.ofr a2
  have q1 : z_I g1 68 32 = nI a := by rw [a2.I (by decide)]; exact p1
  have q2 : z_I g1 68 33 = z_b b := by rw [a2.I (by decide)]; exact p2
  have q3 : z_I g1 68 34 = nI t := by rw [a2.I (by decide)]; exact p3
  -- the time goes on
  have hT : ∀ g, z_Sh g → z_mw h g → z_I g 68 34 = nI t → ∃ h', ((f_gI g (some 68) 12 34).bind fun x22 => (f_irem (x22 + (1 : Int32)) (24 : Int32)).bind fun x29 => (f_pI g (some 68) 12 34 x29).bind fun h30 => some h30) = some h' ∧ (z_mw h h' ∧ z_I h' 68 32 = z_I g 68 32 ∧ z_I h' 68 33 = z_I g 68 33 ∧ z_I h' 68 34 = nI ((t + 1) % 24)) := by
    intro g hg hm e
    rw [z_i68_34 hg, Option.bind_some, e, nI_1, show (24 : Int32) = nI 24 from rfl, z_irem (by omega) (by decide) (by decide), Option.bind_some, z_w68_34 hg, Option.bind_some]
    exact ⟨_, rfl, hm.trans (z_mw.s (by omega)), z_I_sI_nk (by decide), z_I_sI_nk (by decide), z_II hg 12 rfl⟩
  have e1 : s_Mod_goTo g1 (some 68) (nI (e_next E a b t)) = some (if e_next E a b t = a then g1 else z_sI (z_sI g1 68 33 (nI a)) 68 32 (nI (e_next E a b t))) := by
    unfold s_Mod_goTo
    rw [z_c68 S1, Option.bind_some, z_i68_32 S1, Option.bind_some, q1]
    by_cases hx : e_next E a b t = a
    · rw [if_pos (by rw [hx]), if_pos hx]
    · rw [if_neg (fun z => hx ((nI_eq (by omega) (by omega)).mp z)), if_neg hx, Option.bind_some, z_w68_33 S1, Option.bind_some, z_w68_32 (z_Sh_sI S1)]
      rfl
  rw [e1, Option.bind_some]
  unfold e_go e_tk e_mv
  by_cases hx : e_next E a b t = a
  · rw [if_pos hx]
    simp only
    rw [if_pos hx]
    obtain ⟨g2, b1, b2, b3, b4, b5⟩ := hT g1 S1 m1 q3
    exact ⟨g2, b1, b2, b3.trans q1, b4.trans q2, b5⟩
  · rw [if_neg hx]
    simp only
    rw [if_neg hx]
    obtain ⟨g2, b1, b2, b3, b4, b5⟩ := hT (z_sI (z_sI g1 68 33 (nI a)) 68 32 (nI (e_next E a b t))) (z_Sh_sI (z_Sh_sI S1)) ((m1.trans (z_mw.s (k := 33) (by omega))).trans (z_mw.s (k := 32) (by omega))) (by rw [z_I_sI_nk (by decide), z_I_sI_nk (by decide)]; exact q3)
    refine ⟨g2, b1, b2, ?_, ?_, b5⟩
    · rw [b3, z_II (z_Sh_sI S1) 12 rfl]
    · rw [b4, z_I_sI_nk (by decide), z_II S1 12 rfl]; exact (z_bn (by omega)).symm
/-- the reference's startWalk -/
theorem z_mstart (hS : z_Sh h) (hW : ∀ j, j < 118 → z_A h 84 j = f j) (hR : v_R g a n w T Wd f) (h0 : 0 < n) (h12 : n ≤ 12) :
    ∃ h', s_Mod_startWalk h (some 68) = some h' ∧ (z_mw h h' ∧ z_mps h' (v_pos f)) := by
  obtain ⟨p1, p2, p3, p4, p5, p6, -⟩ := hR.pos h0 h12
  unfold s_Mod_startWalk
  have S1 : z_Sh (z_sI h 68 32 (f 54)) := z_Sh_sI hS
  have S2 : z_Sh (z_sI (z_sI h 68 32 (f 54)) 68 33 (f 55)) := z_Sh_sI S1
  rw [z_c68 hS, Option.bind_some, z_r68_26 hS, Option.bind_some, show (54 : Int32) = nI 54 from rfl, z_a84 hS (by decide), Option.bind_some, hW 54 (by decide), z_w68_32 hS, Option.bind_some]
  rw [z_r68_26 S1, Option.bind_some, show (55 : Int32) = nI 55 from rfl, z_a84 S1 (by decide), Option.bind_some, z_A_sI, hW 55 (by decide), z_w68_33 S1, Option.bind_some]
  rw [z_r68_26 S2, Option.bind_some, show (56 : Int32) = nI 56 from rfl, z_a84 S2 (by decide), Option.bind_some, z_A_sI, z_A_sI, hW 56 (by decide), p5, show (24 : Int32) = nI 24 from rfl, z_irem (by omega) (by decide) (by decide), Option.bind_some, z_w68_34 S2, Option.bind_some]
  refine ⟨_, rfl, ((z_mw.s (by omega)).trans (z_mw.s (by omega))).trans (z_mw.s (by omega)), ?_, ?_, ?_⟩
  · rw [z_I_sI_nk (by decide), z_I_sI_nk (by decide), z_II hS 12 rfl]; exact p1
  · rw [z_I_sI_nk (by decide), z_II S1 12 rfl]; exact p3
  · rw [z_II S2 12 rfl]; rfl
end MWK
