-- LIES (2): the reference; the call
section ML
variable {E : z_E} {p q : e_P} {i j k n w m e c t F a b nn N hr pp v : Nat} {h h' g g' : fw_H} {T Wd f : Nat → Int32} {lw : Option (List q_C)} {L B : Nat → Nat} {x y z : Int32}
theorem z_MC.fr2 (hf : z_fr [77, 78, 89, 90] g g') (hC : z_MC g n w T Wd f lw e) : z_MC g' n w T Wd f lw e := hC.of hf (by decide) (by decide) (fun k _ => hf.I (by decide))
theorem w_k.m5 (hf : z_fr [77, 78, 89, 90] h h') : w_k h h' := w_k.fr hf (by decide) (fun j hj => .inl (by simp only [List.mem_cons, List.not_mem_nil, or_false] at hj; rcases hj with rfl | rfl | rfl | rfl <;> decide))
theorem g_n1000 : g_n 1000 = -1 := rfl
theorem g_nn (hv : v ≠ 1000) : g_n v = nI v := if_neg hv
theorem z_doorsOn (hS : z_Sh h) (h24 : z_I h 68 24 = nI n) (h0 : 0 < n) (h12 : n ≤ 12) (ha : a < 12) : s_Mod_doorsOn h (some 68) (nI a) = some (nI ((a + 3) % n)) := by
  unfold s_Mod_doorsOn
  rw [z_c68 hS, Option.bind_some, z_i68_24 hS, Option.bind_some, h24, show nI a + (3 : Int32) = nI (a + 3) from nI_add a 3, z_irem (by omega) h0 (by omega)]
  rfl
/-- the reference's tellLie -/
theorem z_tellLie (hF : 70000 ≤ F) (hok : v_ok n w Wd) (hE : E = v_E n w T Wd f lw (v_op f) e m) (hB : z_MB f n m) (hC : z_MC h n w T Wd f lw e) (hk : e_ok E (a, (b, t))) (hJ : ∀ i, i < 156 → z_A h 90 i = g_n (B i)) (hB1 : ∀ i, B i ≤ 1000) (hv : v < 1000) :
    ∃ h', s_Mod_tellLie F h (some 68) (nI a) (z_b b) (nI t) (nI v) = some h' ∧ (z_fr [77, 78, 89, 90] h h' ∧ (∀ i, z_A h' 89 i = z_A h 89 i) ∧ ∀ i, i < 156 → z_A h' 90 i = g_n (g_put B (g_s (e_go E (a, (b, t)))) v i)) := by
  have hE1 : E.1 = n := by rw [hE]; rfl
  have h12 := hok.1
  have hS := hC.1
  have hk' := hk
  obtain ⟨k1, k2, k3⟩ := hk'
  rw [hE1] at k1 k2
  simp only at k1 k2 k3
  obtain ⟨g1, a1, a2⟩ := z_nextOf (b := b) (t := t) hF hok hE hB k1 k2 k3 hS hC.2.1 hC.2.2
  have S1 := hS.fr a2 (by decide)
  have hlt : e_next E a b t < n := hE1 ▸ e_next_lt (hE1.symm ▸ k1)
  have hto : g_s (e_go E (a, (b, t))) < 156 := g_s_lt (e_go_ok hk) (hE1 ▸ h12)
  have put : ∀ to : Nat, to < 156 → to = g_s (e_go E (a, (b, t))) → ∃ h', ((f_gR g1 (some 68) 12 42).bind fun x32 => (f_gR g1 (some 68) 12 42).bind fun x38 => (f_aI g1 x38 (nI to)).bind fun x43 => if ¬ x43 = (-1 : Int32) then ((f_gR g1 (some 68) 12 42).bind fun x54 => (f_aI g1 x54 (nI to)).bind fun x59 => (f_sI g1 x32 (nI to) (fw_min x59 (nI v))).bind fun h65 => some h65) else (f_sI g1 x32 (nI to) (nI v)).bind fun h65 => some h65) = some h' ∧ (z_fr [77, 78, 89, 90] h h' ∧ (∀ i, z_A h' 89 i = z_A h 89 i) ∧ ∀ i, i < 156 → z_A h' 90 i = g_n (g_put B (g_s (e_go E (a, (b, t)))) v i)) := by
    intro to hto' hte
    have hr : f_aI g1 (some 90) (nI to) = some (g_n (B to)) := by rw [z_a90 S1 hto', a2.A (by decide), hJ to hto']
    have hB2 := hB1 to
    have fin : ∃ h', (f_sI g1 (some 90) (nI to) (g_n (min (B to) v))) = some h' ∧ (z_fr [77, 78, 89, 90] h h' ∧ (∀ i, z_A h' 89 i = z_A h 89 i) ∧ ∀ i, i < 156 → z_A h' 90 i = g_n (g_put B (g_s (e_go E (a, (b, t)))) v i)) := by
      refine ⟨_, z_s90 S1 hto', (a2.mono (by simp)).sA (by simp), fun i => by rw [z_A_sA_ne (by decide), a2.A (by decide)], fun i hi => ?_⟩
      rw [z_A_sA (z_ckT S1 rfl), a2.A (by decide), hJ i hi, ← hte]
      unfold g_put
      by_cases e : i = to
      · rw [if_pos e, if_pos e]
      · rw [if_neg e, if_neg e]
    obtain ⟨h', f1, f2⟩ := fin
    refine ⟨h', ?_, f2⟩
    simp only [z_r68_42 S1, Option.bind_some, hr]
    by_cases hb : B to = 1000
    · rw [hb, if_neg (fun z => z rfl)]
      rw [hb, Nat.min_eq_right (by omega), g_nn (by omega)] at f1
      rw [f1]; rfl
    · rw [g_nn hb, if_pos (z_neg1 (by omega)), z_min (by omega) (by omega)]
      rw [g_nn (by omega)] at f1
      rw [f1]; rfl
  unfold s_Mod_tellLie
  rw [z_c68 hS, Option.bind_some, a1, Option.bind_some]
  simp only [fw_jn]
  by_cases hx : e_next E a b t = a
  · have hte : 13 * a + b = g_s (e_go E (a, (b, t))) := by
      unfold e_go e_mv e_tk g_s
      simp only [hx, if_true]
      omega
    rw [if_neg (fun z => z (by rw [hx])), show s_Mod_stateOf (nI a) (z_b b) = some (nI (13 * a + b)) from z_stateOf hk (hE1 ▸ h12), Option.bind_some]
    exact put _ (by omega) hte
  · have hte : 13 * e_next E a b t + a = g_s (e_go E (a, (b, t))) := by
      unfold e_go e_mv e_tk g_s
      simp only [if_neg hx]
      omega
    have e2 : s_Mod_stateOf (nI (e_next E a b t)) (nI a) = some (nI (13 * e_next E a b t + a)) := by
      unfold s_Mod_stateOf
      rw [if_pos (z_neg1 (by omega)), show (13 : Int32) * nI (e_next E a b t) = nI (13 * e_next E a b t) from pk_mul 13 _, nI_add]
    rw [if_pos (fun z => hx ((nI_eq (by omega) (by omega)).mp z)), e2, Option.bind_some]
    exact put _ (by omega) hte
theorem z_lfill (hS0 : z_Sh h) {K : fw_H → Option fw_H} : ∀ (k i nn : Nat) (g : fw_H), i + k = 156 → k < nn → z_fr [90] h g → (∀ j, j < i → z_A g 90 j = -1) →
    ∃ g', l_Mod_lieOn_2 (some 68) K nn (nI i) g = K g' ∧ (z_fr [90] h g' ∧ ∀ j, j < 156 → z_A g' 90 j = -1) := by
  intro k
  induction k with
  | zero =>
    intro i nn g hi hnn hf hl
    obtain ⟨nn, rfl⟩ : ∃ k, nn = k + 1 := ⟨nn - 1, by omega⟩
    refine ⟨g, ?_, hf, fun j hj => hl j (by omega)⟩
    rw [l_Mod_lieOn_2, if_pos (show (156 : Int32) ≤ nI i from nI_le (a := 156) (by omega) (by omega))]
  | succ k ih =>
    intro i nn g hi hnn hf hl
    obtain ⟨nn, rfl⟩ : ∃ k, nn = k + 1 := ⟨nn - 1, by omega⟩
    have hS := hS0.fr hf (by decide)
    rw [l_Mod_lieOn_2, if_neg (show ¬ (156 : Int32) ≤ nI i from nI_ge (b := 156) (by omega) (by decide)), z_r68_42 hS, Option.bind_some, z_s90 hS (by omega), Option.bind_some, show nI i + 1 = nI (i + 1) from nI_1 i]
    refine ih (i + 1) nn _ (by omega) (by omega) (hf.sA (by simp)) (fun j hj => ?_)
    rw [z_A_sA (z_ckT hS rfl)]
    by_cases e : j = i
    · rw [if_pos e]
    · rw [if_neg e]; exact hl j (by omega)
theorem z_lcopy (hS0 : z_Sh h) : ∀ (k i nn : Nat) (g : fw_H), i + k = 156 → k < nn → z_fr [89] h g → (∀ j, j < i → z_A g 89 j = z_A h 90 j) →
    ∃ g', l_Mod_lieOn_115 (some 68) nn (nI i) g = some g' ∧ (z_fr [89] h g' ∧ ∀ j, j < 156 → z_A g' 89 j = z_A h 90 j) := by
  intro k
  induction k with
  | zero =>
    intro i nn g hi hnn hf hl
    obtain ⟨nn, rfl⟩ : ∃ k, nn = k + 1 := ⟨nn - 1, by omega⟩
    refine ⟨g, ?_, hf, fun j hj => hl j (by omega)⟩
    rw [l_Mod_lieOn_115, if_pos (show (156 : Int32) ≤ nI i from nI_le (a := 156) (by omega) (by omega))]
  | succ k ih =>
    intro i nn g hi hnn hf hl
    obtain ⟨nn, rfl⟩ : ∃ k, nn = k + 1 := ⟨nn - 1, by omega⟩
    have hS := hS0.fr hf (by decide)
    rw [l_Mod_lieOn_115, if_neg (show ¬ (156 : Int32) ≤ nI i from nI_ge (b := 156) (by omega) (by decide)), z_r68_41 hS, Option.bind_some, z_r68_42 hS, Option.bind_some, z_a90 hS (by omega), Option.bind_some, z_s89 hS (by omega), Option.bind_some, show nI i + 1 = nI (i + 1) from nI_1 i]
    refine ih (i + 1) nn _ (by omega) (by omega) (hf.sA (by simp)) (fun j hj => ?_)
    rw [z_A_sA (z_ckT hS rfl)]
    by_cases e : j = i
    · subst e; rw [if_pos rfl]; exact hf.A (by decide)
    · rw [if_neg e]; exact hl j (by omega)
theorem z_lfill0 (hS0 : z_Sh h) {K : fw_H → Option (Int32 × fw_H)} : ∀ (k i nn : Nat) (g : fw_H), i + k = 156 → k < nn → z_fr [89] h g → (∀ j, j < i → z_A g 89 j = -1) →
    ∃ g', l_Mod_lies_22 (some 68) K nn (nI i) g = K g' ∧ (z_fr [89] h g' ∧ ∀ j, j < 156 → z_A g' 89 j = -1) := by
  intro k
  induction k with
  | zero =>
    intro i nn g hi hnn hf hl
    obtain ⟨nn, rfl⟩ : ∃ k, nn = k + 1 := ⟨nn - 1, by omega⟩
    refine ⟨g, ?_, hf, fun j hj => hl j (by omega)⟩
    rw [l_Mod_lies_22, if_pos (show (156 : Int32) ≤ nI i from nI_le (a := 156) (by omega) (by omega))]
  | succ k ih =>
    intro i nn g hi hnn hf hl
    obtain ⟨nn, rfl⟩ : ∃ k, nn = k + 1 := ⟨nn - 1, by omega⟩
    have hS := hS0.fr hf (by decide)
    rw [l_Mod_lies_22, if_neg (show ¬ (156 : Int32) ≤ nI i from nI_ge (b := 156) (by omega) (by decide)), z_r68_41 hS, Option.bind_some, z_s89 hS (by omega), Option.bind_some, show nI i + 1 = nI (i + 1) from nI_1 i]
    refine ih (i + 1) nn _ (by omega) (by omega) (hf.sA (by simp)) (fun j hj => ?_)
    rw [z_A_sA (z_ckT hS rfl)]
    by_cases e : j = i
    · rw [if_pos e]
    · rw [if_neg e]; exact hl j (by omega)
theorem z_mlieL (hF : 70000 ≤ F) (hok : v_ok n w Wd) (hE : E = v_E n w T Wd f lw (v_op f) e m) (hB : z_MB f n m) (ht : t < 24) (hi : i ≤ 60) (hL : g_lok n i L) {K : fw_H → Option fw_H} :
    ∀ (k j nn : Nat) (g : fw_H), j + k = 156 → k < nn → z_MC g n w T Wd f lw e → g_ML g L → (∀ i, i < 156 → z_A g 90 i = g_n (g_lieN E t L j i)) →
    ∃ g', l_Mod_lieOn_24 F (some 68) (nI t) K nn (nI j) g = K g' ∧ (z_fr [77, 78, 89, 90] g g' ∧ ∀ i, i < 156 → z_A g' 90 i = g_n (g_lieN E t L 156 i)) := by
  have hE1 : E.1 = n := by rw [hE]; rfl
  have h12 := hok.1
  have hle : ∀ m k, g_lieN E t L m k ≤ 1000 := fun m k => by rcases ((g_lieN_ok hE1 h12 ht (by omega) hL m) k).2 with z | z <;> omega
  have hleL : ∀ k, L k ≤ 1000 := fun k => by rcases (hL k).2 with z | z <;> omega
  intro k
  induction k with
  | zero =>
    intro j nn g hj hnn hC hP hJ
    obtain ⟨nn, rfl⟩ : ∃ k, nn = k + 1 := ⟨nn - 1, by omega⟩
    obtain rfl : j = 156 := by omega
    refine ⟨g, ?_, z_fr.refl, hJ⟩
    rw [l_Mod_lieOn_24, if_pos (by decide)]
  | succ k ih =>
    intro j nn g hj hnn hC hP hJ
    obtain ⟨nn, rfl⟩ : ∃ k, nn = k + 1 := ⟨nn - 1, by omega⟩
    have hS := hC.1
    have hLj := hleL j
    have hr : f_aI g (some 89) (nI j) = some (g_n (L j)) := by rw [z_a89 hS (by omega), hP j (by omega)]
    rw [l_Mod_lieOn_24, if_neg (show ¬ (156 : Int32) ≤ nI j from nI_ge (b := 156) (by omega) (by decide))]
    simp only [z_r68_41 hS, Option.bind_some, hr]
    rw [show nI j + 1 = nI (j + 1) from nI_1 j]
    by_cases h0 : L j < 1000
    · have hjo : g_ok n j := Classical.byContradiction fun z => by have := (hL j).1 z; omega
      have hkP : e_ok E (j / 13, (j % 13, t)) := g_P_ok hjo hE1 ht
      have hn0 : 0 < n := by have := hjo.1; omega
      have hj13 : j / 13 < n := hjo.1
      have hm3 : (j / 13 + 3) % n < n := Nat.mod_lt _ hn0
      rw [g_nn (by omega), if_neg (z_neg1 (by omega)), show (13 : Int32) = nI 13 from rfl, z_idiv (by omega) (by decide) (by decide), Option.bind_some, z_irem (by omega) (by decide) (by decide), Option.bind_some]
      have key : ∃ g', ((s_Mod_tellLie F g (some 68) (nI (j / 13)) (z_b (j % 13)) (nI t) (nI (L j))).bind fun h76 => (s_Mod_doorsOn h76 (some 68) (nI (j / 13))).bind fun x81 => if x81 = nI (j / 13) then (l_Mod_lieOn_24 F (some 68) (nI t) K nn (nI (j + 1)) h76) else (s_Mod_doorsOn h76 (some 68) (nI (j / 13))).bind fun x91 => (f_gR h76 (some 68) 12 41).bind fun x97 => (f_aI h76 x97 (nI j)).bind fun x101 => (s_Mod_tellLie F h76 (some 68) x91 (nI (j / 13)) (nI t) (x101 + (1 : Int32))).bind fun h104 => l_Mod_lieOn_24 F (some 68) (nI t) K nn (nI (j + 1)) h104) = K g' ∧ (z_fr [77, 78, 89, 90] g g' ∧ ∀ i, i < 156 → z_A g' 90 i = g_n (g_lieN E t L 156 i)) := by
        obtain ⟨g1, a1, a2, a3, a4⟩ := z_tellLie hF hok hE hB hC hkP hJ (hle j) h0
        have C1 := hC.fr2 a2
        have S1 := C1.1
        have P1 : g_ML g1 L := fun i hi => (a3 i).trans (hP i hi)
        rw [a1, Option.bind_some, z_doorsOn S1 C1.2.1.1 hn0 h12 (by omega), Option.bind_some]
        by_cases h3 : (j / 13 + 3) % n = j / 13
        · rw [if_pos (by rw [h3])]
          obtain ⟨g5, d1, d2, d3⟩ := ih (j + 1) nn g1 (by omega) (by omega) C1 P1 (fun i hi => by
            rw [a4 i hi]
            show _ = g_n (g_lie E t L j (g_lieN E t L j) i)
            unfold g_lie
            rw [if_pos h0, hE1, if_pos h3]
            rfl)
          exact ⟨g5, d1, a2.trans d2, d3⟩
        · have hk2 : e_ok E ((j / 13 + 3) % n, (j / 13, t)) := ⟨by rw [hE1]; exact hm3, .inr (by rw [hE1]; exact hj13), ht⟩
          obtain ⟨g2, b1, b2, b3, b4⟩ := z_tellLie (v := L j + 1) (B := g_put (g_lieN E t L j) (g_s (e_go E (j / 13, (j % 13, t)))) (L j)) hF hok hE hB C1 hk2 a4 (fun i => by unfold g_put; split; omega; exact hle j i) (by have : L j ≤ i := (by rcases (hL j).2 with z | z <;> omega); omega)
          have C2 := C1.fr2 b2
          rw [if_neg (fun z => h3 ((nI_eq (by omega) (by omega)).mp z)), Option.bind_some, z_r68_41 S1, Option.bind_some, z_a89 S1 (by omega), Option.bind_some, P1 j (by omega), g_nn (by omega), nI_1, ← z_bn (b := j / 13) (by omega), b1, Option.bind_some]
          obtain ⟨g5, d1, d2, d3⟩ := ih (j + 1) nn g2 (by omega) (by omega) C2 (fun i hi => (b3 i).trans (P1 i hi)) (fun i hi => by
            rw [b4 i hi]
            show _ = g_n (g_lie E t L j (g_lieN E t L j) i)
            unfold g_lie
            rw [if_pos h0, hE1, if_neg h3]
            rfl)
          exact ⟨g5, d1, (a2.trans b2).trans d2, d3⟩
      simp only [fw_jn]
      rw [g_nn (by omega)] at hr
      by_cases h13 : j % 13 = 12
      · rw [if_neg (by rw [h13]; decide)]
        rw [h13] at key
        exact key
      · rw [if_pos (show ¬ nI (j % 13) = (12 : Int32) from fun z => h13 ((nI_eq (b := 12) (by omega) (by decide)).mp z)), Option.bind_some]
        rw [z_bn h13] at key
        exact key
    · have hj1000 : L j = 1000 := by omega
      rw [hj1000, if_pos g_n1000]
      exact ih (j + 1) nn g (by omega) (by omega) hC hP (fun i hi => by rw [hJ i hi]; show _ = g_n (g_lie E t L j _ i); unfold g_lie; rw [if_neg h0])
/-- the reference's lieOn -/
theorem z_lieOn (hF : 70000 ≤ F) (hok : v_ok n w Wd) (hE : E = v_E n w T Wd f lw (v_op f) e m) (hB : z_MB f n m) (ht : t < 24) (hi : i ≤ 60) (hL : g_lok n i L) (hC : z_MC g n w T Wd f lw e) (hP : g_ML g L) :
    ∃ g', s_Mod_lieOn F g (some 68) (nI t) = some g' ∧ (z_fr [77, 78, 89, 90] g g' ∧ g_ML g' (g_lieN E t L 156)) := by
  unfold s_Mod_lieOn
  rw [z_c68 hC.1, Option.bind_some]
  refine z_k (z_lfill hC.1 156 0 F g (by omega) (by omega) z_fr.refl (fun j hj => absurd hj (Nat.not_lt_zero _))) fun g1 ⟨a1, a2⟩ => ?_
  have f1 : z_fr [77, 78, 89, 90] g g1 := a1.mono (by simp)
  refine z_k (z_mlieL hF hok hE hB ht hi hL 156 0 F g1 (by omega) (by omega) (hC.fr2 f1) (fun i hi => by rw [a1.A (by decide)]; exact hP i hi) (fun i hi => a2 i hi)) fun g2 ⟨b1, b3⟩ => ?_
  have f2 := f1.trans b1
  obtain ⟨g3, c1, c2, c3⟩ := z_lcopy (hC.1.fr f2 (by decide)) 156 0 F g2 (by omega) (by omega) z_fr.refl (fun j hj => absurd hj (Nat.not_lt_zero _))
  exact ⟨g3, c1, f2.trans (c2.mono (by simp)), fun i hi => (c3 i hi).trans (b3 i hi)⟩
theorem z_liesM (hF : 70000 ≤ F) (hok : v_ok n w Wd) (hE : E = v_E n w T Wd f lw (v_op f) e m) (hB : z_MB f n m) (hk : e_ok E p) (hN : N ≤ 30) (hf56 : f 56 = nI hr) (hhr : hr ≤ 9999) {K : fw_H → Option (Int32 × fw_H)} :
    ∀ (k i nn : Nat) (g : fw_H), i + k = N → k < nn → z_MC g n w T Wd f lw e → g_ML g (g_L E p hr i) →
    ∃ g', l_Mod_lies_67 F (some 68) (nI N) K nn (nI i) g = K g' ∧ (z_fr [77, 78, 89, 90] g g' ∧ g_ML g' (g_L E p hr N)) := by
  have hE1 : E.1 = n := by rw [hE]; rfl
  intro k
  induction k with
  | zero =>
    intro i nn g hi hnn hC hP
    obtain ⟨nn, rfl⟩ : ∃ k, nn = k + 1 := ⟨nn - 1, by omega⟩
    obtain rfl : i = N := by omega
    refine ⟨g, ?_, z_fr.refl, hP⟩
    rw [l_Mod_lies_67, if_pos (nI_le (Nat.le_refl _) (by omega))]
  | succ k ih =>
    intro i nn g hi hnn hC hP
    obtain ⟨nn, rfl⟩ : ∃ k, nn = k + 1 := ⟨nn - 1, by omega⟩
    obtain ⟨g1, a1, a2, a3⟩ := z_lieOn hF hok hE hB (Nat.mod_lt (hr + i) (by decide)) (show i ≤ 60 by omega) (g_L_ok hE1 hok.1 hk i (by omega)) hC hP
    rw [l_Mod_lies_67, if_neg (nI_ge (by omega) (by omega)), z_r68_26 hC.1, Option.bind_some, show (56 : Int32) = nI 56 from rfl, z_a84 hC.1 (by decide), Option.bind_some, hC.2.1.2.1.2.2 56 (by decide), hf56, nI_add, show (24 : Int32) = nI 24 from rfl, z_irem (by omega) (by decide) (by decide), Option.bind_some, a1, Option.bind_some, show nI i + 1 = nI (i + 1) from nI_1 i]
    obtain ⟨g2, b1, b2, b3⟩ := ih (i + 1) nn g1 (by omega) (by omega) (hC.fr2 a2) a3
    exact ⟨g2, b1, a2.trans b2, b3⟩
theorem z_minM (hS : z_Sh h) (hP : g_ML h L) (hL : ∀ k, L k ≤ 1000) (ha : a < 12) : ∀ (k j nn : Nat), j + k = 13 → k < nn → l_Mod_lies_102 (some 68) (nI a) h nn (g_n (g_min L a j)) (nI (13 * a + j)) = some (g_n (g_min L a 13), h) := by
  have e13 : (13 : Int32) * nI a + (12 : Int32) = nI (13 * a + 12) := by rw [show (13 : Int32) = nI 13 from rfl, show (12 : Int32) = nI 12 from rfl, pk_mul, nI_add]
  intro k
  induction k with
  | zero =>
    intro j nn hj hnn
    obtain ⟨nn, rfl⟩ : ∃ k, nn = k + 1 := ⟨nn - 1, by omega⟩
    obtain rfl : j = 13 := by omega
    rw [l_Mod_lies_102, e13, if_pos (nI_lt (by omega) (by omega))]
  | succ k ih =>
    intro j nn hj hnn
    obtain ⟨nn, rfl⟩ : ∃ k, nn = k + 1 := ⟨nn - 1, by omega⟩
    have h1 := g_min_le (L := L) (a := a) j
    have h2 := hL (13 * a + j)
    have hr : f_aI h (some 89) (nI (13 * a + j)) = some (g_n (L (13 * a + j))) := by rw [z_a89 hS (by omega), hP _ (by omega)]
    have ih' := ih (j + 1) nn (by omega) (by omega)
    rw [show g_min L a (j + 1) = min (g_min L a j) (L (13 * a + j)) from rfl, show 13 * a + (j + 1) = 13 * a + j + 1 by omega] at ih'
    rw [l_Mod_lies_102, e13, if_neg (nI_nlt (by omega) (by omega))]
    simp only [z_r68_41 hS, Option.bind_some, hr]
    rw [show nI (13 * a + j) + 1 = nI (13 * a + j + 1) from nI_1 _]
    by_cases hl : L (13 * a + j) = 1000
    · rw [hl, if_pos g_n1000]
      rw [hl, Nat.min_eq_left h1] at ih'
      exact ih'
    · rw [g_nn hl, if_neg (z_neg1 (by omega))]
      by_cases hm : g_min L a j = 1000
      · rw [hm, if_pos g_n1000]
        rw [hm, Nat.min_eq_right (by omega), g_nn hl] at ih'
        exact ih'
      · rw [g_nn hm, if_neg (z_neg1 (by omega))]
        by_cases hle : g_min L a j ≤ L (13 * a + j)
        · rw [if_pos (nI_le hle (by omega))]
          rw [Nat.min_eq_left hle, g_nn hm] at ih'
          exact ih'
        · rw [if_neg (nI_ge (by omega) (by omega))]
          rw [Nat.min_eq_right (by omega), g_nn hl] at ih'
          exact ih'
/-- lies -/
theorem call_lies (hF : 70000 ≤ F) (hR : w_R h) : ∃ v h1 h2, s_Joy_lies F h (some 15) x y = some (v, h1) ∧ s_Mod_lies F h1 (some 68) x y = some (v, h2) ∧ w_call h h1 h2 := by
  obtain ⟨n, w, T, Wd, f, lw, p, hR⟩ := hR
  have hS := hR.1
  have hok := hR.ok
  have hn12 := hok.1
  have hn := hR.2.1.2.1.1
  have hnm := hR.2.1.2.2.1
  have em : ∀ g, z_Sh g → z_I g 68 24 = nI n → s_Mod_lies F g (some 68) x y = if v_in x n = true then (if decide (¬ y < 0 ∧ ¬ (30 : Int32) < y) = true then (l_Mod_lies_22 (some 68) (fun he42 =>
(f_gR he42 (some 68) 12 41).bind fun x43 =>
(f_gR he42 (some 68) 12 26).bind fun x47 =>
(f_aI he42 x47 (54 : Int32)).bind fun x52 =>
(f_gR he42 (some 68) 12 26).bind fun x54 =>
(f_aI he42 x54 (55 : Int32)).bind fun x59 =>
(s_Mod_stateOf x52 x59).bind fun x60 =>
(f_sI he42 x43 x60 (0 : Int32)).bind fun h64 =>
l_Mod_lies_67 F (some 68) y (fun he94 =>
l_Mod_lies_102 (some 68) x he94 F (-1 : Int32) ((13 : Int32) * x)) F (0 : Int32) h64) F (0 : Int32) g) else some ((-1 : Int32), g)) else some ((-1 : Int32), g) := by
    intro g hg e
    unfold s_Mod_lies
    rw [z_c68 hg, Option.bind_some, z_isHouse hg e hn12, Option.bind_some, z_in, Option.bind_some]
  unfold s_Joy_lies
  rw [z_c15 hS, Option.bind_some, z_r15_3 hS, Option.bind_some, z_hasHouse hS (.inr (.inl rfl)) hn, Option.bind_some]
  by_cases hx : v_in x n = true
  · rw [if_pos hx]
    by_cases y0 : y < 0
    · rw [if_pos y0]; exact ⟨_, h, h, rfl, by rw [em h hS hnm, if_pos hx, if_neg (by simp [y0])], w_call.rr hR⟩
    rw [if_neg y0]
    by_cases y1 : (30 : Int32) < y
    · rw [if_neg (q_lt_iff.mpr y1)]; exact ⟨_, h, h, rfl, by rw [em h hS hnm, if_pos hx, if_neg (by simp [y1])], w_call.rr hR⟩
    rw [if_pos (fa_of_nlt y1)]
    obtain ⟨a, ha, rfl⟩ := v_in_t hx (by omega)
    obtain ⟨N, hN, rfl⟩ := v_le_t (N := 30) y0 y1 (by decide)
    have hpos : 0 < n := by omega
    obtain ⟨m, h1, m1, m2, a1, a2, a3, a4, a5, a6, a7, a8, a9, a10⟩ := w_start hF hR hpos
    obtain ⟨E, hE⟩ : ∃ E, E = v_E n w T Wd f lw (v_op f) (2 ^ n - 1) m := ⟨_, rfl⟩
    have hC : z_CW h1 E := by rw [hE]; exact a4.go hok m1 a8 a9
    have hE1 : E.1 = n := by rw [hE]; rfl
    have hk0 : e_ok E (v_pos f) := a5.ok hpos hok.1 hE1
    obtain ⟨p1, p2, p3, p4, p5, p6, -⟩ := a5.pos hpos hn12
    have hlt0 : g_s (v_pos f) < 156 := g_s_lt hk0 (hE1 ▸ hn12)
    obtain ⟨g1, b1, b2, b3⟩ := z_begin (x := 1000) (y := 0) hF a3.1 a3.2.2.2.2.2.2.2.2.2 a10 (hE1 ▸ hn12) hk0
    have S1 := b2.sh a3.1
    have b3' : g_SL g1 (g_L E (v_pos f) (v_hr f) 0) ((v_hr f + 0) % 24) := by
      obtain ⟨aa, bb, q1, q2, q3, q4, q5⟩ := b3
      refine ⟨aa, bb, q1, q2, q3, fun i hi => ?_, q5⟩
      rw [q4 i hi]
      show (if i = g_s (v_pos f) then (0 : Int64) else 1000) = lN (if i = g_s (v_pos f) then 0 else 1000)
      split <;> rfl
    rw [a1, Option.bind_some, z_r15_14 a3.1, Option.bind_some]
    unfold s_Spread_fewestLies
    rw [z_c61 a3.1, Option.bind_some, b1, Option.bind_some]
    obtain ⟨g2, c1, c2, c3⟩ := z_liesC (K := fun he25 => l_Spread_fewestLies_32 (some 61) (nI a) he25 (fun e64_3 => if (0 : Int32) ≤ (lg_cmp e64_3 (1000 : Int64)) then (some ((-1 : Int32), he25)) else some ((Int64.toInt32 e64_3), he25)) F (1000 : Int64) (0 : Int32)) (hr := v_hr f) (p := v_pos f) hF hE1 hn12 hk0 hN N 0 F g1 (by omega) (by omega) S1 (b2.cw hC) b3'
    have w2 := b2.trans c2
    have S2 := w2.sh a3.1
    have k2 : w_k h1 g2 := w_k.gw w2 c3.spr
    have hR2 := a3.kp k2
    have hLle : ∀ k, g_L E (v_pos f) (v_hr f) N k ≤ 1000 := fun k => by rcases (g_L_ok (hr := v_hr f) hE1 hn12 hk0 N (by omega) k).2 with z | z <;> omega
    have hmin := z_minC (K := fun e64_3 => if (0 : Int32) ≤ (lg_cmp e64_3 (1000 : Int64)) then (some ((-1 : Int32), g2)) else some ((Int64.toInt32 e64_3), g2)) S2 c3 hLle (show a < 12 by omega) 13 0 F (by omega) (by omega)
    have hml := g_min_le (L := g_L E (v_pos f) (v_hr f) N) (a := a) 13
    -- the reference
    have C2 := hR2.MC
    obtain ⟨g3, d1, d2, d3⟩ := z_lfill0 (K := fun he42 =>
(f_gR he42 (some 68) 12 41).bind fun x43 =>
(f_gR he42 (some 68) 12 26).bind fun x47 =>
(f_aI he42 x47 (54 : Int32)).bind fun x52 =>
(f_gR he42 (some 68) 12 26).bind fun x54 =>
(f_aI he42 x54 (55 : Int32)).bind fun x59 =>
(s_Mod_stateOf x52 x59).bind fun x60 =>
(f_sI he42 x43 x60 (0 : Int32)).bind fun h64 =>
l_Mod_lies_67 F (some 68) (nI N) (fun he94 =>
l_Mod_lies_102 (some 68) (nI a) he94 F (-1 : Int32) ((13 : Int32) * nI a)) F (0 : Int32) h64) S2 156 0 F g2 (by omega) (by omega) z_fr.refl (fun j hj => absurd hj (Nat.not_lt_zero _))
    have f3 : z_fr [77, 78, 89, 90] g2 g3 := d2.mono (by simp)
    have C3 := C2.fr2 f3
    have S3 := C3.1
    have f4 : z_fr [77, 78, 89, 90] g2 (z_sA g3 89 (g_s (v_pos f)) (nI 0)) := f3.sA (by simp)
    have C4 := C2.fr2 f4
    obtain ⟨g5, e1, e2, e3⟩ := z_liesM (K := fun he94 => l_Mod_lies_102 (some 68) (nI a) he94 F (-1 : Int32) ((13 : Int32) * nI a)) (p := v_pos f) hF hok hE m2 hk0 hN p5 p6 N 0 F (z_sA g3 89 (g_s (v_pos f)) (nI 0)) (by omega) (by omega) C4 (fun i hi => by
      rw [z_A_sA (z_ckT S3 rfl), d3 i hi]
      show (if i = g_s (v_pos f) then nI 0 else (-1 : Int32)) = g_n (if i = g_s (v_pos f) then 0 else 1000)
      split <;> rfl)
    have S5 := C4.1.fr e2 (by decide)
    have af : ∀ j, j < 118 → f_aI g3 (some 84) (nI j) = some (f j) := fun j hj => by rw [z_a84 S3 hj]; exact congrArg some (C3.2.1.2.1.2.2 j hj)
    refine ⟨g_n (g_min (g_L E (v_pos f) (v_hr f) N) a 13), g2, g5, ?_, ?_, w_call.kk hR (a2.trans k2) (w_k.m5 (f4.trans e2))⟩
    · have hm2 : l_Spread_fewestLies_32 (some 61) (nI a) g2 (fun e64_3 => if (0 : Int32) ≤ (lg_cmp e64_3 (1000 : Int64)) then (some ((-1 : Int32), g2)) else some ((Int64.toInt32 e64_3), g2)) F (1000 : Int64) (0 : Int32) = some (g_n (g_min (g_L E (v_pos f) (v_hr f) N) a 13), g2) := by
        refine hmin.trans ?_
        by_cases hz : g_min (g_L E (v_pos f) (v_hr f) N) a 13 = 1000
        · rw [hz, if_pos (by decide)]; rfl
        · rw [if_neg (fun z => by have := (q_cge _ _).mp z; have := (lN_le (a := 1000) (by decide) (by omega)).mp this; omega), g_nn hz, lN_i]
      have c1' : l_Spread_fewestLies_10 F (some 61) (nI N) (fun he25 => l_Spread_fewestLies_32 (some 61) (nI a) he25 (fun e64_3 => if (0 : Int32) ≤ (lg_cmp e64_3 (1000 : Int64)) then (some ((-1 : Int32), he25)) else some ((Int64.toInt32 e64_3), he25)) F (1000 : Int64) (0 : Int32)) F (0 : Int32) g1 = l_Spread_fewestLies_32 (some 61) (nI a) g2 (fun e64_3 => if (0 : Int32) ≤ (lg_cmp e64_3 (1000 : Int64)) then (some ((-1 : Int32), g2)) else some ((Int64.toInt32 e64_3), g2)) F (1000 : Int64) (0 : Int32) := c1
      rw [c1', hm2, Option.bind_some]
    · rw [em g2 S2 hR2.2.1.2.2.1, if_pos hx, if_pos (decide_eq_true ⟨y0, y1⟩)]
      refine d1.trans ?_
      rw [z_r68_41 S3, Option.bind_some, z_r68_26 S3, Option.bind_some, show (54 : Int32) = nI 54 from rfl, af 54 (by decide), Option.bind_some, Option.bind_some, show (55 : Int32) = nI 55 from rfl, af 55 (by decide), Option.bind_some, p1, p3, show s_Mod_stateOf (nI (v_at f)) (z_b (v_be f)) = some (nI (13 * v_at f + v_be f)) from z_stateOf hk0 (hE1 ▸ hn12), Option.bind_some, show nI (13 * v_at f + v_be f) = nI (g_s (v_pos f)) from congrArg nI (show 13 * v_at f + v_be f = v_at f * 13 + v_be f by omega), show (0 : Int32) = nI 0 from rfl, z_s89 S3 hlt0, Option.bind_some, e1, show (13 : Int32) * nI a = nI (13 * a + 0) from pk_mul 13 a]
      exact z_minM S5 e3 hLle (by omega) 13 0 F (by omega) (by omega)
  · rw [if_neg hx]
    exact ⟨_, h, h, rfl, by rw [em h hS hnm, if_neg hx], w_call.rr hR⟩
end ML
