-- FOG'S PARTS (2): the reference; odds, mean
def g_MP (h : fw_H) (A : Nat → Int64) : Prop := ∀ i, i < 156 → z_J h 91 i = A i
/-- the parts behind i hours -/
def g_A (E : z_E) (ch : Int64) (p : e_P) (hr : Nat) : Nat → Nat → Int64
  | 0 => vp_updL (fun _ => 0) (g_s p) 1000000000
  | i + 1 => g_fogN E ((hr + i) % 24) ch (g_A E ch p hr i) 156
/-- what a house has behind 1 .. i hours together -/
def g_T (E : z_E) (ch : Int64) (p : e_P) (hr a : Nat) : Nat → Int64
  | 0 => 0
  | i + 1 => g_T E ch p hr a i + g_sum (g_A E ch p hr (i + 1)) a 13
section OD
variable {E : z_E} {p q : e_P} {i j k n w m e c t F a b nn N hr pp : Nat} {h h' g g' : fw_H} {T Wd f : Nat → Int32} {lw : Option (List q_C)} {A B : Nat → Int64} {ch v : Int64} {x y z : Int32}
theorem g_A_ok (hE : E.1 = n) (h12 : n ≤ 12) (hk : e_ok E p) : ∀ (i k : Nat), ¬ g_ok n k → g_A E ch p hr i k = 0
  | 0, k, hn => by
    show vp_updL (fun _ => 0) (g_s p) 1000000000 k = 0
    rw [pk_uLn (fun z => hn (by rw [z]; exact g_s_ok hk hE h12))]
  | i + 1, k, hn => g_fogN_ok hE h12 (Nat.mod_lt _ (by decide)) (g_A_ok hE h12 hk i) 156 k hn
theorem z_ck91 (hS : z_Sh h) : z_ck h 91 = some (2, (156, [])) := z_ckT hS rfl
theorem z_ck92 (hS : z_Sh h) : z_ck h 92 = some (2, (156, [])) := z_ckT hS rfl
theorem z_MC.fr (hf : z_fr [77, 78, 91, 92] g g') (hC : z_MC g n w T Wd f lw e) : z_MC g' n w T Wd f lw e := hC.of hf (by decide) (by decide) (fun k _ => hf.I (by decide))
theorem z_mfill (hS0 : z_Sh h) {K : fw_H → Option fw_H} : ∀ (k i nn : Nat) (g : fw_H), i + k = 156 → k < nn → z_fr [92] h g → (∀ j, j < i → z_J g 92 j = 0) →
    ∃ g', l_Mod_fogOn_2 (some 68) K nn (nI i) g = K g' ∧ (z_fr [92] h g' ∧ ∀ j, j < 156 → z_J g' 92 j = 0) := by
  intro k
  induction k with
  | zero =>
    intro i nn g hi hnn hf hl
    obtain ⟨nn, rfl⟩ : ∃ k, nn = k + 1 := ⟨nn - 1, by omega⟩
    refine ⟨g, ?_, hf, fun j hj => hl j (by omega)⟩
    rw [l_Mod_fogOn_2, if_pos (show (156 : Int32) ≤ nI i from nI_le (a := 156) (by omega) (by omega))]
  | succ k ih =>
    intro i nn g hi hnn hf hl
    obtain ⟨nn, rfl⟩ : ∃ k, nn = k + 1 := ⟨nn - 1, by omega⟩
    have hS := hS0.fr hf (by decide)
    rw [l_Mod_fogOn_2, if_neg (show ¬ (156 : Int32) ≤ nI i from nI_ge (b := 156) (by omega) (by decide)), z_r68_44 hS, Option.bind_some, z_sJx (z_ck92 hS) (by omega) (by decide), Option.bind_some, show nI i + 1 = nI (i + 1) from nI_1 i]
    refine ih (i + 1) nn _ (by omega) (by omega) (hf.sJ (by simp)) (fun j hj => ?_)
    rw [z_J_sJ (z_ck92 hS)]
    by_cases e : j = i
    · rw [if_pos e]
    · rw [if_neg e]; exact hl j (by omega)
theorem z_mcopy (hS0 : z_Sh h) : ∀ (k i nn : Nat) (g : fw_H), i + k = 156 → k < nn → z_fr [91] h g → (∀ j, j < i → z_J g 91 j = z_J h 92 j) →
    ∃ g', l_Mod_fogOn_147 (some 68) nn (nI i) g = some g' ∧ (z_fr [91] h g' ∧ ∀ j, j < 156 → z_J g' 91 j = z_J h 92 j) := by
  intro k
  induction k with
  | zero =>
    intro i nn g hi hnn hf hl
    obtain ⟨nn, rfl⟩ : ∃ k, nn = k + 1 := ⟨nn - 1, by omega⟩
    refine ⟨g, ?_, hf, fun j hj => hl j (by omega)⟩
    rw [l_Mod_fogOn_147, if_pos (show (156 : Int32) ≤ nI i from nI_le (a := 156) (by omega) (by omega))]
  | succ k ih =>
    intro i nn g hi hnn hf hl
    obtain ⟨nn, rfl⟩ : ∃ k, nn = k + 1 := ⟨nn - 1, by omega⟩
    have hS := hS0.fr hf (by decide)
    rw [l_Mod_fogOn_147, if_neg (show ¬ (156 : Int32) ≤ nI i from nI_ge (b := 156) (by omega) (by decide)), z_r68_43 hS, Option.bind_some, z_r68_44 hS, Option.bind_some, z_aJ (z_ck92 hS) (by omega) (by decide), Option.bind_some, z_sJx (z_ck91 hS) (by omega) (by decide), Option.bind_some, show nI i + 1 = nI (i + 1) from nI_1 i]
    refine ih (i + 1) nn _ (by omega) (by omega) (hf.sJ (by simp)) (fun j hj => ?_)
    rw [z_J_sJ (z_ck91 hS)]
    by_cases e : j = i
    · subst e; rw [if_pos rfl]; exact hf.J (by decide)
    · rw [if_neg e]; exact hl j (by omega)
theorem z_mfogL (hF : 70000 ≤ F) (hok : v_ok n w Wd) (hE : E = v_E n w T Wd f lw (v_op f) e m) (hB : z_MB f n m) (ht : t < 24) (hA : ∀ k, ¬ g_ok n k → A k = 0) {K : fw_H → Option fw_H} (hc : ch = (nI c).toInt64) :
    ∀ (k j nn : Nat) (g : fw_H), j + k = 156 → k < nn → z_MC g n w T Wd f lw e → g_MP g A → (∀ i, i < 156 → z_J g 92 i = g_fogN E t ch A j i) →
    ∃ g', l_Mod_fogOn_24 F (some 68) (nI t) (nI c) K nn (nI j) g = K g' ∧ (z_fr [77, 78, 91, 92] g g' ∧ g_MP g' A ∧ ∀ i, i < 156 → z_J g' 92 i = g_fogN E t ch A 156 i) := by
  have hE1 : E.1 = n := by rw [hE]; rfl
  have h12 := hok.1
  intro k
  induction k with
  | zero =>
    intro j nn g hj hnn hC hP hJ
    obtain ⟨nn, rfl⟩ : ∃ k, nn = k + 1 := ⟨nn - 1, by omega⟩
    obtain rfl : j = 156 := by omega
    refine ⟨g, ?_, z_fr.refl, hP, hJ⟩
    rw [l_Mod_fogOn_24, if_pos (by decide)]
  | succ k ih =>
    intro j nn g hj hnn hC hP hJ
    obtain ⟨nn, rfl⟩ : ∃ k, nn = k + 1 := ⟨nn - 1, by omega⟩
    have hS := hC.1
    rw [l_Mod_fogOn_24, if_neg (show ¬ (156 : Int32) ≤ nI j from nI_ge (b := 156) (by omega) (by decide)), z_r68_43 hS, Option.bind_some, z_aJ (z_ck91 hS) (by omega) (by decide), Option.bind_some, hP j (by omega)]
    rw [show nI j + 1 = nI (j + 1) from nI_1 j]
    by_cases h0 : A j ≤ 0
    · rw [if_pos ((q_cle _ _).mpr h0)]
      exact ih (j + 1) nn g (by omega) (by omega) hC hP (fun i hi => by rw [hJ i hi]; show _ = g_fog E t ch A j _ i; unfold g_fog; rw [if_pos h0])
    · have hjo : g_ok n j := Classical.byContradiction fun z => h0 (by rw [hA j z]; decide)
      have hkP : e_ok E (g_P j t) := g_P_ok hjo hE1 ht
      have hko : e_ok E (e_go E (g_P j t)) := e_go_ok hkP
      have hlt : g_to E t j < 156 := g_s_lt hko (hE1 ▸ h12)
      have key : ∃ g', ((some (some 91) : Option (Option Nat)).bind fun x68 =>
    (f_aJ g x68 (nI j)).bind fun x72 =>
    (f_ldiv (x72 * (Int32.toInt64 (nI c))) (100 : Int64)).bind fun x79 =>
    (s_Mod_nextOf F g (some 68) (nI (j / 13)) (z_b (j % 13)) (nI t)).bind fun x88 =>
    (f_gR x88.2 (some 68) 12 44).bind fun x94 =>
    (f_aJ x88.2 x94 (nI j)).bind fun x99 =>
    (f_sJ x88.2 x94 (nI j) (x99 + x79)).bind fun h103 =>
    (f_gR h103 (some 68) 12 44).bind fun x105 =>
    if ¬ x88.1 = nI (j / 13) then ((s_Mod_stateOf x88.1 (nI (j / 13))).bind fun x123 =>
    (f_aJ h103 x105 x123).bind fun x127 =>
    (f_gR h103 (some 68) 12 43).bind fun x129 =>
    (f_aJ h103 x129 (nI j)).bind fun x133 =>
    (f_sJ h103 x105 x123 (x127 + (x133 - x79))).bind fun h138 =>
    l_Mod_fogOn_24 F (some 68) (nI t) (nI c) K nn (nI (j + 1)) h138) else
    (f_aJ h103 x105 (nI j)).bind fun x127 =>
    (f_gR h103 (some 68) 12 43).bind fun x129 =>
    (f_aJ h103 x129 (nI j)).bind fun x133 =>
    (f_sJ h103 x105 (nI j) (x127 + (x133 - x79))).bind fun h138 =>
    l_Mod_fogOn_24 F (some 68) (nI t) (nI c) K nn (nI (j + 1)) h138) = K g' ∧ (z_fr [77, 78, 91, 92] g g' ∧ g_MP g' A ∧ ∀ i, i < 156 → z_J g' 92 i = g_fogN E t ch A 156 i) := by
        obtain ⟨g1, a1, a2⟩ := z_nextOf (b := j % 13) (t := t) hF hok hE hB hjo.1 hjo.2 ht hS hC.2.1 hC.2.2
        have f1 : z_fr [77, 78, 91, 92] g g1 := a2.mono (by simp)
        have S1 := hS.fr f1 (by decide)
        have P1 : g_MP g1 A := fun i hi => by rw [a2.J (by decide)]; exact hP i hi
        obtain ⟨g2, hg2⟩ : ∃ g2, g2 = z_sJ g1 92 j (z_J g1 92 j + A j * ch / 100) := ⟨_, rfl⟩
        have f2 : z_fr [77, 78, 91, 92] g g2 := by rw [hg2]; exact f1.sJ (by simp)
        have S2 := hS.fr f2 (by decide)
        have P2 : g_MP g2 A := fun i hi => by rw [hg2, z_J_sJ_ne (by decide)]; exact P1 i hi
        have hlt13 : e_next E (j / 13) (j % 13) t < n := hE1 ▸ e_next_lt (hE1.symm ▸ hjo.1)
        rw [Option.bind_some, z_aJ (z_ck91 hS) (by omega) (by decide), Option.bind_some, hP j (by omega), ← hc, g_div, Option.bind_some, a1, Option.bind_some]
        simp only []
        rw [z_r68_44 S1, Option.bind_some, z_aJ (z_ck92 S1) (by omega) (by decide), Option.bind_some, z_sJx (z_ck92 S1) (by omega) (by decide), Option.bind_some, ← hg2, z_r68_44 S2, Option.bind_some]
        -- the rest goes to 'to'
        have put : ∀ to : Nat, to < 156 → to = g_to E t j → ∃ g', ((f_aJ g2 (some 92) (nI to)).bind fun x127 => (f_gR g2 (some 68) 12 43).bind fun x129 => (f_aJ g2 x129 (nI j)).bind fun x133 => (f_sJ g2 (some 92) (nI to) (x127 + (x133 - A j * ch / 100))).bind fun h138 => l_Mod_fogOn_24 F (some 68) (nI t) (nI c) K nn (nI (j + 1)) h138) = K g' ∧ (z_fr [77, 78, 91, 92] g g' ∧ g_MP g' A ∧ ∀ i, i < 156 → z_J g' 92 i = g_fogN E t ch A 156 i) := by
          intro to hto hte
          rw [z_aJ (z_ck92 S2) hto (by decide), Option.bind_some, z_r68_43 S2, Option.bind_some, z_aJ (z_ck91 S2) (by omega) (by decide), Option.bind_some, P2 j (by omega), z_sJx (z_ck92 S2) hto (by decide), Option.bind_some]
          have f3 : z_fr [77, 78, 91, 92] g (z_sJ g2 92 to (z_J g2 92 to + (A j - A j * ch / 100))) := f2.sJ (by simp)
          obtain ⟨g5, d1, d2, d3⟩ := ih (j + 1) nn _ (by omega) (by omega) (hC.fr f3) (fun i hi => by rw [z_J_sJ_ne (by decide)]; exact P2 i hi) (fun i hi => by
            rw [z_J_sJ (z_ck92 S2), hg2, z_J_sJ (z_ck92 S1), z_J_sJ (z_ck92 S1), a2.J (by decide), a2.J (by decide), a2.J (by decide), hJ j (by omega), hJ i hi, hJ to hto, hte]
            show _ = g_fog E t ch A j _ i
            unfold g_fog
            rw [if_neg h0]
            rfl)
          exact ⟨g5, d1, f3.trans d2, d3⟩
        by_cases hx : e_next E (j / 13) (j % 13) t = j / 13
        · have hto : j = g_to E t j := by
            unfold g_to e_go e_mv e_tk g_P g_s
            simp only [hx, if_true]
            omega
          rw [if_neg (fun z => z (by rw [hx]))]
          exact put j (by omega) hto
        · have hto : 13 * e_next E (j / 13) (j % 13) t + j / 13 = g_to E t j := by
            unfold g_to e_go e_mv e_tk g_P g_s
            simp only [if_neg hx]
            omega
          have e2 : s_Mod_stateOf (nI (e_next E (j / 13) (j % 13) t)) (nI (j / 13)) = some (nI (13 * e_next E (j / 13) (j % 13) t + j / 13)) := by
            unfold s_Mod_stateOf
            rw [if_pos (z_neg1 (by omega)), show (13 : Int32) * nI (e_next E (j / 13) (j % 13) t) = nI (13 * e_next E (j / 13) (j % 13) t) from pk_mul 13 _, nI_add]
          rw [if_pos (fun z => hx ((nI_eq (by omega) (by omega)).mp z)), e2, Option.bind_some]
          exact put _ (by omega) hto
      rw [if_neg (fun z => h0 ((q_cle _ _).mp z)), show (13 : Int32) = nI 13 from rfl, z_idiv (by omega) (by decide) (by decide), Option.bind_some, z_irem (by omega) (by decide) (by decide), Option.bind_some]
      simp only [fw_jn]
      by_cases h13 : j % 13 = 12
      · rw [if_neg (by rw [h13]; decide)]
        rw [h13] at key
        exact key
      · rw [if_pos (show ¬ nI (j % 13) = (12 : Int32) from fun z => h13 ((nI_eq (b := 12) (by omega) (by decide)).mp z)), Option.bind_some]
        rw [z_bn h13] at key
        exact key
/-- the reference's fogOn -/
theorem z_fogOn (hF : 70000 ≤ F) (hok : v_ok n w Wd) (hE : E = v_E n w T Wd f lw (v_op f) e m) (hB : z_MB f n m) (ht : t < 24) (hA : ∀ k, ¬ g_ok n k → A k = 0) (hc : ch = (nI c).toInt64) (hC : z_MC g n w T Wd f lw e) (hP : g_MP g A) :
    ∃ g', s_Mod_fogOn F g (some 68) (nI t) (nI c) = some g' ∧ (z_fr [77, 78, 91, 92] g g' ∧ g_MP g' (g_fogN E t ch A 156)) := by
  unfold s_Mod_fogOn
  rw [z_c68 hC.1, Option.bind_some]
  refine z_k (z_mfill hC.1 156 0 F g (by omega) (by omega) z_fr.refl (fun j hj => absurd hj (Nat.not_lt_zero _))) fun g1 ⟨a1, a2⟩ => ?_
  have f1 : z_fr [77, 78, 91, 92] g g1 := a1.mono (by simp)
  refine z_k (z_mfogL hF hok hE hB ht hA hc 156 0 F g1 (by omega) (by omega) (hC.fr f1) (fun i hi => by rw [a1.J (by decide)]; exact hP i hi) (fun i hi => a2 i hi)) fun g2 ⟨b1, b2, b3⟩ => ?_
  have f2 := f1.trans b1
  obtain ⟨g3, c1, c2, c3⟩ := z_mcopy (hC.1.fr f2 (by decide)) 156 0 F g2 (by omega) (by omega) z_fr.refl (fun j hj => absurd hj (Nat.not_lt_zero _))
  exact ⟨g3, c1, f2.trans (c2.mono (by simp)), fun i hi => (c3 i hi).trans (b3 i hi)⟩
theorem z_mpartsL (hS : z_Sh h) (hP : g_MP h A) (ha : a < 12) : ∀ (k j nn : Nat), j + k = 13 → k < nn → l_Mod_partsAt_5 h (some 68) (nI a) nn (g_sum A a j) (nI j) = some (g_sum A a 13) := by
  intro k
  induction k with
  | zero =>
    intro j nn hj hnn
    obtain ⟨nn, rfl⟩ : ∃ k, nn = k + 1 := ⟨nn - 1, by omega⟩
    obtain rfl : j = 13 := by omega
    rw [l_Mod_partsAt_5, if_pos (by decide)]
  | succ k ih =>
    intro j nn hj hnn
    obtain ⟨nn, rfl⟩ : ∃ k, nn = k + 1 := ⟨nn - 1, by omega⟩
    rw [l_Mod_partsAt_5, if_neg (show ¬ (12 : Int32) < nI j from nI_nlt (a := 12) (by omega) (by decide)), z_r68_43 hS, Option.bind_some, show (13 : Int32) * nI a + nI j = nI (13 * a + j) by rw [show (13 : Int32) = nI 13 from rfl, pk_mul, nI_add], z_aJ (z_ck91 hS) (show 13 * a + j < 156 by omega) (by decide), Option.bind_some, hP _ (by omega), show nI j + 1 = nI (j + 1) from nI_1 j]
    exact ih (j + 1) nn (by omega) (by omega)
theorem z_mpartsAt (hF : 70000 ≤ F) (hS : z_Sh h) (hP : g_MP h A) (ha : a < 12) : s_Mod_partsAt F h (some 68) (nI a) = some (g_sum A a 13) := by
  unfold s_Mod_partsAt
  rw [z_c68 hS, Option.bind_some]
  exact z_mpartsL hS hP ha 13 0 F (by omega) (by omega)
theorem z_mbegL (hS0 : z_Sh h) {K : fw_H → Option fw_H} : ∀ (k i nn : Nat) (g : fw_H), i + k = 156 → k < nn → z_fr [91] h g → (∀ j, j < i → z_J g 91 j = 0) →
    ∃ g', l_Mod_beginParts_2 (some 68) K nn (nI i) g = K g' ∧ (z_fr [91] h g' ∧ ∀ j, j < 156 → z_J g' 91 j = 0) := by
  intro k
  induction k with
  | zero =>
    intro i nn g hi hnn hf hl
    obtain ⟨nn, rfl⟩ : ∃ k, nn = k + 1 := ⟨nn - 1, by omega⟩
    refine ⟨g, ?_, hf, fun j hj => hl j (by omega)⟩
    rw [l_Mod_beginParts_2, if_pos (show (156 : Int32) ≤ nI i from nI_le (a := 156) (by omega) (by omega))]
  | succ k ih =>
    intro i nn g hi hnn hf hl
    obtain ⟨nn, rfl⟩ : ∃ k, nn = k + 1 := ⟨nn - 1, by omega⟩
    have hS := hS0.fr hf (by decide)
    rw [l_Mod_beginParts_2, if_neg (show ¬ (156 : Int32) ≤ nI i from nI_ge (b := 156) (by omega) (by decide)), z_r68_43 hS, Option.bind_some, z_sJx (z_ck91 hS) (by omega) (by decide), Option.bind_some, show nI i + 1 = nI (i + 1) from nI_1 i]
    refine ih (i + 1) nn _ (by omega) (by omega) (hf.sJ (by simp)) (fun j hj => ?_)
    rw [z_J_sJ (z_ck91 hS)]
    by_cases e : j = i
    · rw [if_pos e]
    · rw [if_neg e]; exact hl j (by omega)
theorem z_mbegin (hF : 70000 ≤ F) (hE : E.1 = n) (hC : z_MC h n w T Wd f lw e) (hV : v_R g a n w T Wd f) (h0 : 0 < n) (h12 : n ≤ 12) : ∃ h', s_Mod_beginParts F h (some 68) = some h' ∧ (z_fr [77, 78, 91, 92] h h' ∧ g_MP h' (vp_updL (fun _ => 0) (g_s (v_pos f)) 1000000000)) := by
  have hk : e_ok E (v_pos f) := hV.ok h0 h12 hE
  obtain ⟨p1, p2, p3, p4, p5, p6, -⟩ := hV.pos h0 h12
  unfold s_Mod_beginParts
  rw [z_c68 hC.1, Option.bind_some]
  refine z_k (z_mbegL hC.1 156 0 F h (by omega) (by omega) z_fr.refl (fun j hj => absurd hj (Nat.not_lt_zero _))) fun g1 ⟨a1, a2⟩ => ?_
  have S1 := hC.1.fr a1 (by decide)
  have af : ∀ j, j < 118 → f_aI g1 (some 84) (nI j) = some (f j) := fun j hj => by rw [z_a84 S1 hj, a1.A (by decide)]; exact congrArg some (hC.2.1.2.1.2.2 j hj)
  have hlt : g_s (v_pos f) < 156 := g_s_lt hk (hE ▸ h12)
  rw [z_r68_43 S1, Option.bind_some, z_r68_26 S1, Option.bind_some, show (54 : Int32) = nI 54 from rfl, af 54 (by decide), Option.bind_some, Option.bind_some, show (55 : Int32) = nI 55 from rfl, af 55 (by decide), Option.bind_some, p1, p3, show s_Mod_stateOf (nI (v_at f)) (z_b (v_be f)) = some (nI (13 * v_at f + v_be f)) from z_stateOf hk (hE ▸ h12), Option.bind_some, show nI (13 * v_at f + v_be f) = nI (g_s (v_pos f)) from congrArg nI (show 13 * v_at f + v_be f = v_at f * 13 + v_be f by omega), z_sJx (z_ck91 S1) hlt (by decide), Option.bind_some]
  refine ⟨_, rfl, (a1.mono (by simp)).sJ (by simp), fun i hi => ?_⟩
  rw [z_J_sJ (z_ck91 S1), a2 i hi]
  rfl
end OD
