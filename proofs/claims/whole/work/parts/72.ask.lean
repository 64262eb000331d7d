-- SEEN: the asking, and the reference's trial
/-- how many sets, who is in all, the one asked for -/
def g_ask (P : Nat → Bool) (x : Int32) : Nat → Nat → Nat → Int32 → Int32 → Nat × (Int32 × Int32)
  | 0, _, c, cm, ch => (c, (cm, ch))
  | k + 1, e, c, cm, ch => if P e = true then g_ask P x k (e + 1) (c + 1) (cm &&& nI e) (if nI c = x then nI e else ch) else g_ask P x k (e + 1) c cm ch
section AK
variable {E : z_E} {p : e_P} {i j k n w m a b o e s nn N F pp c : Nat} {h h' g g' : fw_H} {T Wd f : Nat → Int32} {lw : Option (List q_C)} {op : Nat → Bool} {v x y z cm ch : Int32} {P Q B : Nat → Bool} {J X : Nat → Nat}
theorem g_V.fr (hok : v_ok n w Wd) {As : List Nat} (hf : z_fr As h h') (hA : ∀ j, j ∈ As → j = 64 ∨ j = 67) (hV : g_V h n w T Wd f lw m) : g_V h' n w T Wd f lw m := by
  have hn : ∀ d, d ≠ 64 → d ≠ 67 → d ∉ As := fun d h1 h2 h3 => by rcases hA d h3 with z | z <;> omega
  exact ⟨hV.1.fr hf (fun j hj => by rcases hA j hj with z | z <;> omega), hV.2.1.fr hf (hn _ (by decide) (by decide)) (hn _ (by decide) (by decide)) (hn _ (by decide) (by decide)) (hn _ (by decide) (by decide)) (hn _ (by decide) (by decide)), hV.2.2.1.fr hok.1 hok.2.1 hf (fun d hd => hn _ (by omega) (by omega)), (hf.I (hn _ (by decide) (by decide))).trans hV.2.2.2⟩
theorem z_askL (hF : 70000 ≤ F) (hok : v_ok n w Wd) (h0 : 0 < n) (hm : m < 2 ^ 12) (hJ : ∀ i, i < s → 1 ≤ J i ∧ J i ≤ 20) :
    ∀ (k e c nn : Nat) (cm ch : Int32) (g : fw_H), e + k = 2 ^ n → k < nn → g_V g n w T Wd f lw m → (∀ j, j < 21 → g_av (z_A g 67 j) (g_pl J X s j)) → z_I g 64 5 = nI (g_mx J s) → z_I g 64 6 = nI c → z_I g 64 7 = cm → z_I g 64 8 = ch →
    ∃ g', l_Seen_ask_21 F (some 64) (nI (2 ^ n - 1)) x nn (nI e) g = some g' ∧ (z_fr [48, 64] g g' ∧ z_I g' 48 12 = z_I g 48 12 ∧ z_I g' 64 3 = z_I g 64 3 ∧
      z_I g' 64 6 = nI (g_ask (fun e => g_so J X s (v_E n w T Wd f lw (v_op f) e m) (v_pos f)) x k e c cm ch).1 ∧ z_I g' 64 7 = (g_ask (fun e => g_so J X s (v_E n w T Wd f lw (v_op f) e m) (v_pos f)) x k e c cm ch).2.1 ∧ z_I g' 64 8 = (g_ask (fun e => g_so J X s (v_E n w T Wd f lw (v_op f) e m) (v_pos f)) x k e c cm ch).2.2) := by
  have hp12 := z_pole hok.1
  have hp0 := Nat.two_pow_pos n
  intro k
  induction k with
  | zero =>
    intro e c nn cm ch g he hnn hV hA h5 h6 h7 h8
    obtain ⟨nn, rfl⟩ : ∃ k, nn = k + 1 := ⟨nn - 1, by omega⟩
    refine ⟨g, ?_, z_fr.refl, rfl, rfl, h6, h7, h8⟩
    rw [l_Seen_ask_21, if_pos (nI_lt (by omega) (by omega))]
  | succ k ih =>
    intro e c nn cm ch g he hnn hV hA h5 h6 h7 h8
    obtain ⟨nn, rfl⟩ : ∃ k, nn = k + 1 := ⟨nn - 1, by omega⟩
    obtain ⟨g1, a1, a2, V1⟩ := z_fits (e := e) hF hok h0 hm (by omega) hV hJ hA h5
    have S1 := V1.1
    have A1 : ∀ j, j < 21 → g_av (z_A g1 67 j) (g_pl J X s j) := fun j hj => by rw [a2.1.A (by decide)]; exact hA j hj
    have i1 : ∀ k, z_I g1 64 k = z_I g 64 k := fun k => a2.1.I (by decide)
    have t1 : z_I g1 48 12 = z_I g 48 12 := a2.2.1 12 (by decide) (by decide) (by decide) (by decide)
    have f1 : z_fr [48, 64] g g1 := a2.1.mono (by simp)
    rw [l_Seen_ask_21, if_neg (nI_nlt (by omega) (by omega)), a1, Option.bind_some, show nI e + 1 = nI (e + 1) from nI_1 e]
    simp only []
    unfold g_ask
    by_cases hq : g_so J X s (v_E n w T Wd f lw (v_op f) e m) (v_pos f) = true
    · rw [if_pos hq, if_pos hq, z_i64_6 S1, Option.bind_some, i1, h6]
      -- what both do then
      have fin : ∀ (g2 : fw_H) (ch' : Int32), z_Sh g2 → z_fr [64] g1 g2 → (∀ k, k ≠ 8 → z_I g2 64 k = z_I g1 64 k) → z_I g2 64 8 = ch' → ∃ g', ((f_gI g2 (some 64) 4 6).bind fun x49 => (f_pI g2 (some 64) 4 6 (x49 + (1 : Int32))).bind fun h54 => (f_gI h54 (some 64) 4 7).bind fun x59 => (f_pI h54 (some 64) 4 7 (x59 &&& nI e)).bind fun h64 => l_Seen_ask_21 F (some 64) (nI (2 ^ n - 1)) x nn (nI (e + 1)) h64) = some g' ∧ (z_fr [48, 64] g g' ∧ z_I g' 48 12 = z_I g 48 12 ∧ z_I g' 64 3 = z_I g 64 3 ∧
          z_I g' 64 6 = nI (g_ask (fun e => g_so J X s (v_E n w T Wd f lw (v_op f) e m) (v_pos f)) x k (e + 1) (c + 1) (cm &&& nI e) ch').1 ∧ z_I g' 64 7 = (g_ask (fun e => g_so J X s (v_E n w T Wd f lw (v_op f) e m) (v_pos f)) x k (e + 1) (c + 1) (cm &&& nI e) ch').2.1 ∧ z_I g' 64 8 = (g_ask (fun e => g_so J X s (v_E n w T Wd f lw (v_op f) e m) (v_pos f)) x k (e + 1) (c + 1) (cm &&& nI e) ch').2.2) := by
        intro g2 ch' S2 f2 i2 e8
        obtain ⟨g3, hg3⟩ : ∃ g3, g3 = z_sI g2 64 6 (nI (c + 1)) := ⟨_, rfl⟩
        have S3 : z_Sh g3 := by rw [hg3]; exact z_Sh_sI S2
        obtain ⟨g4, hg4⟩ : ∃ g4, g4 = z_sI g3 64 7 (cm &&& nI e) := ⟨_, rfl⟩
        have S4 : z_Sh g4 := by rw [hg4]; exact z_Sh_sI S3
        have f4 : z_fr [64] g1 g4 := by rw [hg4, hg3]; exact (f2.sI (by simp)).sI (by simp)
        have e6 : z_I g2 64 6 = nI c := by rw [i2 6 (by decide), i1]; exact h6
        have e7 : z_I g3 64 7 = cm := by rw [hg3, z_I_sI_nk (by decide), i2 7 (by decide), i1]; exact h7
        have i4 : ∀ k, k ≠ 6 → k ≠ 7 → k ≠ 8 → z_I g4 64 k = z_I g 64 k := fun k x1 x2 x3 => by rw [hg4, z_I_sI_nk x2, hg3, z_I_sI_nk x1, i2 k x3, i1]
        obtain ⟨g5, b1, b2, b3, b4, b5⟩ := ih (e + 1) (c + 1) nn (cm &&& nI e) ch' g4 (by omega) (by omega) (V1.fr hok f4 (by simp)) (fun j hj => by rw [f4.A (by decide)]; exact A1 j hj) ((i4 5 (by decide) (by decide) (by decide)).trans h5) (by rw [hg4, z_I_sI_nk (by decide), hg3, z_II S2 4 rfl]) (by rw [hg4, z_II S3 4 rfl]) (by rw [hg4, z_I_sI_nk (by decide), hg3, z_I_sI_nk (by decide)]; exact e8)
        refine ⟨g5, ?_, f1.trans ((f4.mono (by simp)).trans b2), ?_, ?_, b5⟩
        · rw [z_i64_6 S2, Option.bind_some, e6, show nI c + 1 = nI (c + 1) from nI_1 c, z_w64_6 S2, Option.bind_some, ← hg3, z_i64_7 S3, Option.bind_some, e7, z_w64_7 S3, Option.bind_some, ← hg4]
          exact b1
        · rw [b3, f4.I (by decide), t1]
        · rw [b4, i4 3 (by decide) (by decide) (by decide)]
      by_cases hc : nI c = x
      · rw [if_neg (fun z => z hc), if_pos hc, z_w64_8 S1, Option.bind_some]
        exact fin (z_sI g1 64 8 (nI e)) (nI e) (z_Sh_sI S1) (z_fr.refl.sI (by simp)) (fun k hk => z_I_sI_nk hk) (z_II S1 4 rfl)
      · rw [if_pos hc, if_neg hc]
        have t2 := fin g1 ch S1 z_fr.refl (fun _ _ => rfl) ((i1 8).trans h8)
        rw [z_i64_6 S1, Option.bind_some, i1, h6] at t2
        exact t2
    · rw [if_neg hq, if_neg hq]
      obtain ⟨g5, b1, b2, b3, b4, b5⟩ := ih (e + 1) c nn cm ch g1 (by omega) (by omega) V1 A1 ((i1 5).trans h5) ((i1 6).trans h6) ((i1 7).trans h7) ((i1 8).trans h8)
      exact ⟨g5, b1, f1.trans b2, b3.trans t1, b4.trans (i1 3), b5⟩
/-- Seen.ask -/
theorem z_ask (hF : 70000 ≤ F) (hok : v_ok n w Wd) (h0 : 0 < n) (hm : m < 2 ^ 12) (hV : g_V h n w T Wd f lw m) (hN : g_sn h J X s) {r : Nat × (Int32 × Int32)} (hr : r = g_ask (fun e => g_so J X s (v_E n w T Wd f lw (v_op f) e m) (v_pos f)) x (2 ^ n) 0 0 (nI (2 ^ n - 1)) (-1)) :
    ∃ g', s_Seen_ask F h (some 64) (nI (2 ^ n - 1)) x = some g' ∧ (z_fr [48, 64, 67] h g' ∧ z_I g' 48 12 = z_I h 48 12 ∧ z_I g' 64 3 = z_I h 64 3 ∧ z_I g' 64 6 = nI r.1 ∧ z_I g' 64 7 = r.2.1 ∧ z_I g' 64 8 = r.2.2) := by
  have hS := hV.1
  have hp12 := z_pole hok.1
  obtain ⟨g1, a1, a2, a3, a4, a5⟩ := z_gather hF hS hN
  have S1 := hS.fr a2 (by decide)
  have T1 : z_Sh (z_sI g1 64 6 0) := z_Sh_sI S1
  have T2 : z_Sh (z_sI (z_sI g1 64 6 0) 64 7 (nI (2 ^ n - 1))) := z_Sh_sI T1
  obtain ⟨g2, hg2⟩ : ∃ g2, g2 = z_sI (z_sI (z_sI g1 64 6 0) 64 7 (nI (2 ^ n - 1))) 64 8 (-1) := ⟨_, rfl⟩
  have f2 : z_fr [64] g1 g2 := by rw [hg2]; exact ((z_fr.refl.sI (by simp)).sI (by simp)).sI (by simp)
  have f02 : z_fr [64, 67] h g2 := a2.trans (f2.mono (by simp))
  have i2 : ∀ k, k ≠ 6 → k ≠ 7 → k ≠ 8 → z_I g2 64 k = z_I g1 64 k := fun k x1 x2 x3 => by rw [hg2, z_I_sI_nk x3, z_I_sI_nk x2, z_I_sI_nk x1]
  obtain ⟨g3, b1, b2, b3, b4, b5⟩ := z_askL (x := x) (J := J) (X := X) (s := s) hF hok h0 hm (fun i hi => ⟨(hN.2.2 i hi).1, (hN.2.2 i hi).2.1⟩) (2 ^ n) 0 0 F (nI (2 ^ n - 1)) (-1) g2 (by omega) (by omega) (hV.fr hok f02 (by simp)) (fun j hj => by rw [f2.A (by decide)]; exact a4 j hj) ((i2 5 (by decide) (by decide) (by decide)).trans a5) (by rw [hg2, z_I_sI_nk (by decide), z_I_sI_nk (by decide), z_II S1 4 rfl]; rfl) (by rw [hg2, z_I_sI_nk (by decide), z_II T1 4 rfl]) (by rw [hg2, z_II T2 4 rfl])
  rw [← hr] at b5
  unfold s_Seen_ask
  rw [z_c64 hS, Option.bind_some, a1, Option.bind_some, z_w64_6 S1, Option.bind_some, z_w64_7 T1, Option.bind_some, z_w64_8 T2, Option.bind_some, ← hg2]
  refine ⟨g3, b1, (f02.mono (by simp)).trans (b2.mono (by simp)), ?_, ?_, b5⟩
  · rw [b3, f02.I (by decide)]
  · rw [b4, i2 3 (by decide) (by decide) (by decide), a3 3 (by decide)]
-- the reference
def g_mn (h : fw_H) (J X : Nat → Nat) (s : Nat) : Prop := s ≤ 12 ∧ z_I h 68 47 = nI s ∧ ∀ i, i < s → 1 ≤ J i ∧ J i ≤ 20 ∧ X i < 12 ∧ z_A h 93 i = nI (J i) ∧ z_A h 94 i = nI (X i)
theorem z_layEL (hn12 : n ≤ 12) (hB : ∀ x, x < n → s_Mod_has v (nI x) = some (B x)) : ∀ (k i nn : Nat) (g : fw_H), i + k = n → k < nn → z_Sh g → z_I g 68 24 = nI n → (∀ j, j < 72 → z_A g 82 j = T j) → (∀ x, x < i → z_A g 85 x = if B x = true then T (6 * x + 1) else 0) →
    ∃ g', l_Mod_layEnvy_2 (some 68) v nn (nI i) g = some g' ∧ (z_fr [85] g g' ∧ (∀ x, x < n → z_A g' 85 x = if B x = true then T (6 * x + 1) else 0) ∧ ∀ j, n ≤ j → z_A g' 85 j = z_A g 85 j) := by
  intro k
  induction k with
  | zero =>
    intro i nn g hi hnn hS h24 hT hA
    obtain ⟨nn, rfl⟩ : ∃ k, nn = k + 1 := ⟨nn - 1, by omega⟩
    obtain rfl : i = n := by omega
    refine ⟨g, ?_, z_fr.refl, hA, fun _ _ => rfl⟩
    rw [l_Mod_layEnvy_2, z_i68_24 hS, Option.bind_some, h24, if_pos (nI_le (Nat.le_refl _) (by omega))]
  | succ k ih =>
    intro i nn g hi hnn hS h24 hT hA
    obtain ⟨nn, rfl⟩ : ∃ k, nn = k + 1 := ⟨nn - 1, by omega⟩
    have e6 : (6 : Int32) * nI i + (1 : Int32) = nI (6 * i + 1) := by rw [show (6 : Int32) = nI 6 from rfl, pk_mul, show nI (6 * i) + (1 : Int32) = nI (6 * i + 1) from nI_1 _]
    have fin : ∀ u : Int32, u = (if B i = true then T (6 * i + 1) else 0) → ∃ g', l_Mod_layEnvy_2 (some 68) v nn (nI (i + 1)) (z_sA g 85 i u) = some g' ∧ (z_fr [85] g g' ∧ (∀ x, x < n → z_A g' 85 x = if B x = true then T (6 * x + 1) else 0) ∧ ∀ j, n ≤ j → z_A g' 85 j = z_A g 85 j) := by
      intro u hu
      have f1 : z_fr [85] g (z_sA g 85 i u) := z_fr.refl.sA (by simp)
      obtain ⟨g2, b1, b2, b3, b4⟩ := ih (i + 1) nn (z_sA g 85 i u) (by omega) (by omega) (z_Sh_sA hS) (by rw [z_I_sA]; exact h24) (fun j hj => by rw [f1.A (by decide)]; exact hT j hj) (fun x hx => by
        rw [z_A_sA (z_ckT hS rfl)]
        by_cases e : x = i
        · subst e; rw [if_pos rfl]; exact hu
        · rw [if_neg e]; exact hA x (by omega))
      refine ⟨g2, b1, f1.trans b2, b3, fun j hj => ?_⟩
      rw [b4 j hj, z_A_sA (z_ckT hS rfl), if_neg (by omega)]
    rw [l_Mod_layEnvy_2, z_i68_24 hS, Option.bind_some, h24, if_neg (nI_ge (by omega) (by omega)), z_r68_27 hS, Option.bind_some, hB i (by omega), Option.bind_some, show nI i + 1 = nI (i + 1) from nI_1 i]
    by_cases hb : B i = true
    · rw [if_pos hb, z_r68_22 hS, Option.bind_some, e6, z_a82 hS (by omega), Option.bind_some, hT _ (by omega), z_s85 hS (by omega), Option.bind_some]
      exact fin _ (if_pos hb).symm
    · rw [if_neg hb, z_s85 hS (by omega), Option.bind_some]
      exact fin _ (if_neg hb).symm
theorem z_layEnvy (hF : 70000 ≤ F) (hok : v_ok n w Wd) (hC : z_MC h n w T Wd f lw e) {e' : Nat} (hB : ∀ x, x < n → s_Mod_has v (nI x) = some (e'.testBit x)) :
    ∃ h', s_Mod_layEnvy F h (some 68) v = some h' ∧ (z_fr [85] h h' ∧ z_MC h' n w T Wd f lw e' ∧ ∀ j, n ≤ j → z_A h' 85 j = z_A h 85 j) := by
  have hn12 := hok.1
  obtain ⟨g1, b1, b2, b3, b4⟩ := z_layEL (T := T) hn12 hB n 0 F h (by omega) (by omega) hC.1 hC.2.1.1 hC.2.1.2.2.1 (fun x hx => absurd hx (Nat.not_lt_zero _))
  unfold s_Mod_layEnvy
  rw [z_c68 hC.1, Option.bind_some]
  refine ⟨g1, b1, b2, ?_, b4⟩
  obtain ⟨c1, ⟨v1, ⟨v2, v3, v4⟩, v5, v6⟩, c3⟩ := hC
  refine ⟨c1.fr b2 (by decide), ⟨by rw [b2.I (by decide)]; exact v1, ⟨by rw [b2.I (by decide)]; exact v2, fun j hj => by rw [b2.A (by decide)]; exact v3 j hj, fun j hj => by rw [b2.A (by decide)]; exact v4 j hj⟩, fun j hj => by rw [b2.A (by decide)]; exact v5 j hj, ?_⟩, b3⟩
  match lw, v6 with
  | none, v6 => rw [b2.I (by decide)]; exact v6
  | some cls, ⟨k, k1, k2, k3, k4⟩ => exact ⟨k, k1, by rw [b2.I (by decide)]; exact k2, k3.of (fun a j ha => b2.A (by simp; omega)), k4⟩
theorem z_so30 (hS : z_Sh h) (hN : g_mn h J X s) (ha : a < 12) (h32 : z_I h 68 32 = nI a) (hj : j < 30) {K : Int32 → Option (Bool × fw_H)} :
    ∀ (k i nn : Nat) (t : Bool), i + k = s → k < nn → l_Mod_isSoBy_30 (some 68) (nI j) h K nn (fw_b t) (nI i) = K (fw_b (t && g_alf (fun k => !decide (J k = j) || decide (a = X k)) k i)) := by
  obtain ⟨hs, n3, n4⟩ := hN
  intro k
  induction k with
  | zero =>
    intro i nn t hi hnn
    obtain ⟨nn, rfl⟩ : ∃ k, nn = k + 1 := ⟨nn - 1, by omega⟩
    obtain rfl : i = s := by omega
    rw [l_Mod_isSoBy_30, z_i68_47 hS, Option.bind_some, n3, if_pos (nI_le (Nat.le_refl _) (by omega))]
    show _ = K (fw_b (t && true))
    rw [Bool.and_true]
  | succ k ih =>
    intro i nn t hi hnn
    obtain ⟨nn, rfl⟩ : ∃ k, nn = k + 1 := ⟨nn - 1, by omega⟩
    obtain ⟨j1, j2, j3, j4, j5⟩ := n4 i (by omega)
    have hgo : g_alf (fun k => !decide (J k = j) || decide (a = X k)) (k + 1) i = ((!decide (J i = j) || decide (a = X i)) && g_alf (fun k => !decide (J k = j) || decide (a = X k)) k (i + 1)) := rfl
    have i0 := ih (i + 1) nn false (by omega) (by omega)
    have i1 := ih (i + 1) nn true (by omega) (by omega)
    have i0' : l_Mod_isSoBy_30 (some 68) (nI j) h K nn (0 : Int32) (nI (i + 1)) = K (fw_b false) := i0
    have i1' : l_Mod_isSoBy_30 (some 68) (nI j) h K nn (1 : Int32) (nI (i + 1)) = _ := i1
    rw [l_Mod_isSoBy_30, z_i68_47 hS, Option.bind_some, n3, if_neg (nI_ge (by omega) (by omega)), show nI i + 1 = nI (i + 1) from nI_1 i, hgo]
    match t with
    | false =>
      rw [if_pos (show fw_b false = 0 from rfl), i0', Bool.false_and]
    | true =>
      rw [if_neg (show ¬ fw_b true = 0 by decide), z_r68_45 hS, Option.bind_some, z_a93 hS (by omega), Option.bind_some, j4]
      by_cases h1 : J i = j
      · rw [if_neg (fun z => z (by rw [h1])), z_r68_46 hS, Option.bind_some, z_a94 hS (by omega), Option.bind_some, z_i68_32 hS, Option.bind_some, j5, h32]
        by_cases h2 : a = X i
        · rw [if_neg (fun z => z (by rw [h2])), i1']
          simp [h1, h2]
        · rw [if_pos (fun z => h2 ((nI_eq (by omega) (by omega)).mp z).symm), i0']
          simp [h1, h2]
      · rw [if_pos (fun z => h1 ((nI_eq (by omega) (by omega)).mp z)), i1']
        simp [h1]
theorem z_so13 (hF : 70000 ≤ F) (hok : v_ok n w Wd) (hE : E = v_E n w T Wd f lw (v_op f) e m) (hB : z_MB f n m) (hp0 : e_ok E p) {K : Int32 → fw_H → Option (Bool × fw_H)} :
    ∀ (k j nn : Nat) (t : Bool) (g : fw_H), 1 ≤ j → j + k = 21 → k < nn → z_MC g n w T Wd f lw e → g_mn g J X s → z_mps g (c_x E p (j - 1)) →
    ∃ g', l_Mod_isSoBy_13 F (some 68) K nn (fw_b t) (nI j) g = K (fw_b (t && g_alf (fun j => g_pl J X s j (c_x E p j).1) k j)) g' ∧ z_mw g g' := by
  have hE12 : E.1 ≤ 12 := by rw [hE]; exact hok.1
  intro k
  induction k with
  | zero =>
    intro j nn t g h1 hj hnn hC hN hp
    obtain ⟨nn, rfl⟩ : ∃ k, nn = k + 1 := ⟨nn - 1, by omega⟩
    obtain rfl : j = 21 := by omega
    refine ⟨g, ?_, z_mw.refl⟩
    rw [l_Mod_isSoBy_13, if_pos (by decide)]
    show _ = K (fw_b (t && true)) g
    rw [Bool.and_true]
  | succ k ih =>
    intro j nn t g h1 hj hnn hC hN hp
    obtain ⟨nn, rfl⟩ : ∃ k, nn = k + 1 := ⟨nn - 1, by omega⟩
    rw [l_Mod_isSoBy_13, if_neg (show ¬ (20 : Int32) < nI j from nI_nlt (b := j) (a := 20) (by omega) (by decide))]
    match t with
    | false =>
      rw [if_pos (show fw_b false = 0 from rfl)]
      exact ⟨g, by rw [Bool.false_and], z_mw.refl⟩
    | true =>
      obtain ⟨g1, a1, a2, a3⟩ := z_mwalk hF hok hE hB hC hp (c_x_ok hp0)
      rw [← c_x_succ, show j - 1 + 1 = j by omega] at a3
      have C1 := hC.mw a2
      have hat : (c_x E p j).1 < 12 := Nat.lt_of_lt_of_le (c_x_ok (i := j) hp0).1 hE12
      have hs := hN.1
      have N1 : g_mn g1 J X s := ⟨hs, (a2.2 47 (by decide) (by decide) (by decide)).trans hN.2.1, fun i hi => by rw [a2.1.A (by decide), a2.1.A (by decide)]; exact hN.2.2 i hi⟩
      rw [if_neg (show ¬ fw_b true = 0 by decide), a1, Option.bind_some, show nI j + 1 = nI (j + 1) from nI_1 j]
      have c1 := z_so30 (K := fun e80_2 => l_Mod_isSoBy_13 F (some 68) K nn e80_2 (nI (j + 1)) g1) C1.1 N1 hat a3.1 (show j < 30 by omega) s 0 F true (by omega) (by omega)
      have hq : g_alf (fun k => !decide (J k = j) || decide ((c_x E p j).1 = X k)) s 0 = g_pl J X s j (c_x E p j).1 := by
        rw [Bool.eq_iff_iff, g_alf_iff]
        unfold g_pl
        rw [g_all_iff]
        exact ⟨fun h i hi => h i (Nat.zero_le _) (by omega), fun h i _ hi => h i (by omega)⟩
      rw [Bool.true_and, hq] at c1
      obtain ⟨g4, d1, d2⟩ := ih (j + 1) nn (g_pl J X s j (c_x E p j).1) g1 (by omega) (by omega) (by omega) C1 N1 a3
      exact ⟨g4, by rw [Bool.true_and]; exact c1.trans d1, a2.trans d2⟩
/-- the reference's isSoBy -/
theorem z_isSoBy (hF : 70000 ≤ F) (hok : v_ok n w Wd) (h0 : 0 < n) (hB : z_MB f n m) (he : e < 2 ^ 12) (hC : z_MC h n w T Wd f lw (2 ^ n - 1)) (hR : v_R g 29 n w T Wd f) (hN : g_mn h J X s) :
    ∃ h', s_Mod_isSoBy F h (some 68) (nI e) = some (g_so J X s (v_E n w T Wd f lw (v_op f) e m) (v_pos f), h') ∧ z_mw h h' := by
  have hn12 := hok.1
  have hS := hC.1
  have hs := hN.1
  obtain ⟨g1, a1, a2, C1, a4⟩ := z_layEnvy (v := nI e) (e' := e) hF hok hC (fun x hx => z_mhas (by omega) (by omega))
  obtain ⟨g2, b1, b2, b3⟩ := z_mstart C1.1 C1.2.1.2.1.2.2 hR h0 hok.1
  have C2 := C1.mw b2
  have hk0 : e_ok (v_E n w T Wd f lw (v_op f) e m) (v_pos f) := hR.ok h0 hn12 rfl
  have N2 : g_mn g2 J X s := ⟨hs, ((b2.2 47 (by decide) (by decide) (by decide)).trans (a2.I (by decide))).trans hN.2.1, fun i hi => by rw [b2.1.A (by decide), b2.1.A (by decide), a2.A (by decide), a2.A (by decide)]; exact hN.2.2 i hi⟩
  have hone : ∀ x, x < 12 → s_Mod_has (-1) (nI x) = some true := by decide
  have hfull : ∀ x, x < n → (2 ^ n - 1).testBit x = true := fun x hx => by rw [Nat.testBit_two_pow_sub_one]; exact decide_eq_true hx
  unfold s_Mod_isSoBy
  rw [z_c68 hS, Option.bind_some, a1, Option.bind_some, b1, Option.bind_some]
  refine z_k (z_so13 (J := J) (X := X) (s := s) hF hok rfl hB hk0 20 1 F true g2 (by omega) (by omega) (by omega) C2 N2 b3) fun g3 c2 => ?_
  have C3 := C2.mw c2
  obtain ⟨g4, d1, d2, C4, d4⟩ := z_layEnvy (v := -1) (e' := 2 ^ n - 1) hF hok C3 (fun x hx => by rw [hone x (by omega), hfull x hx])
  have hb : ∀ t : Bool, f_toB (fw_b t) = some t := by decide
  rw [d1, Option.bind_some, hb, Option.bind_some, Bool.true_and, g_so_eq (fun i hi => ⟨(hN.2.2 i hi).1, (hN.2.2 i hi).2.1⟩)]
  refine ⟨g4, rfl, ⟨fun j => ?_, fun j hj => ?_⟩, fun k x1 x2 x3 => ?_⟩
  · rw [d2.1, c2.1.1, b2.1.1, a2.1]
  · by_cases hj85 : j = 85
    · subst hj85
      refine z_cell_eq (z_ckT hS rfl) (by rw [d2.1, c2.1.1, b2.1.1, a2.1]) (fun j => ?_)
      by_cases hjn : j < n
      · exact (C4.2.2 j hjn).trans (hC.2.2 j hjn).symm
      · rw [d4 j (by omega), c2.1.A (by decide), b2.1.A (by decide), a4 j (by omega)]
    · rw [d2.2 j (by simpa using hj85), c2.1.2 j hj, b2.1.2 j hj, a2.2 j (by simpa using hj85)]
  · rw [d2.I (by decide), c2.2 k x1 x2 x3, b2.2 k x1 x2 x3, a2.I (by decide)]
end AK
