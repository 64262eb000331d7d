-- A LAW'S TEXT (2): atoms, terms, sums
/-- what comes of a piece of a law, both sides: good, or a fault. I: what lies on the stack before, b behind -/
def k_O (g m : fw_H) (B : Nat → Nat) (l k d c e p : Nat) (L R : List q_O) (I : List Bool) (b : Bool) : Prop :=
  (∃ p' N, p + N.length ≤ p' ∧ p + e ≤ p' ∧ k_ok g B l p' ∧ k_mo m B l p' ∧ z_I m 68 5 = nI d ∧ k_cE g (L ++ N) ∧ k_mE m k (R ++ N) ∧ ∀ τ, τ.length + 2 * (6 - d) + c < 40 → q_ty N (I ++ τ) = some (b :: τ)) ∨
  ∃ q R', k_no g B l q ∧ k_mn m B l q ∧ k_mE m k R' ∧ R'.length ≤ l + 2 * (6 - d) + c
def k_SP (fc fm : fw_H → Option fw_H) (B : Nat → Nat) (l k d c : Nat) (b : Bool) : Prop :=
  ∀ (g m : fw_H) (p : Nat) (L R : List q_O), k_ok g B l p → k_mo m B l p → z_I m 68 5 = nI d → z_I m 68 14 = nI k → k_cE g L → k_mE m k R → L.length ≤ p → R.length ≤ p →
    ∃ g' m', fc g = some g' ∧ fm m = some m' ∧ (k_lc g g' ∧ k_pf k m m' ∧ k_O g' m' B l k d c 1 p L R [] b)
def k_e3 (m m' : fw_H) : Prop := z_fr [68] m m' ∧ ∀ j, j ≠ 3 → j ≠ 4 → j ≠ 5 → z_I m' 68 j = z_I m 68 j
section SP
variable {g g' g'' h m m' m'' : fw_H} {B : Nat → Nat} {l p q d D v mo i j k nn F c n f r Dc Dm c0 : Nat} {x y : Int32} {As : List Nat} {L R N : List q_O} {o : q_O} {b : Bool}
theorem k_e3.trans (h1 : k_e3 m m') (h2 : k_e3 m' m'') : k_e3 m m'' := ⟨h1.1.trans h2.1, fun j a b c => (h2.2 j a b c).trans (h1.2 j a b c)⟩
theorem k_e3.refl : k_e3 m m := ⟨z_fr.refl, fun _ _ _ _ => rfl⟩
theorem k_e3.pf (h : k_e3 m m') : k_pf k m m' := k_pf.f68 h.1 h.2
theorem k_bf.e3 (h : k_bf m m') : k_e3 m m' := ⟨h.1, fun j a b _ => h.2 j a b⟩
theorem k_lf.e3 (h : k_lf m m') : k_e3 m m' := h.bf.e3
theorem k_e3.s3 : k_e3 m (z_sI m 68 3 x) := ⟨z_fr.refl.sI (by simp), fun j a _ _ => z_I_sI_nk a⟩
theorem k_e3.s5 : k_e3 m (z_sI m 68 5 x) := ⟨z_fr.refl.sI (by simp), fun j _ _ a => z_I_sI_nk a⟩
theorem k_mo.s5 (hk : k_mo m B l p) : k_mo (z_sI m 68 5 x) B l p := hk.fr (As := [68]) (z_fr.refl.sI (by simp)) (by decide) (by decide) (fun k hk => z_I_sI_nk (by omega))
theorem k_mn.s5 (hk : k_mn m B l p) : k_mn (z_sI m 68 5 x) B l p := hk.fr (As := [68]) (z_fr.refl.sI (by simp)) (by decide) (by decide) (fun k hk => z_I_sI_nk (by omega))
theorem k_mn.s3 (hk : k_mn m B l p) : k_mn (z_sI m 68 3 x) B l p := hk.fr (As := [68]) (z_fr.refl.sI (by simp)) (by decide) (by decide) (fun k hk => z_I_sI_nk (by omega))
theorem z_opens (hk : k_mo m B l p) (hp : p < l) (h5 : z_I m 68 5 = nI d) (hd : d < 6) : ∃ m', s_Mod_opens m (some 68) = some m' ∧ (k_e3 m m' ∧ k_mo m' B l (p + 1) ∧ z_I m' 68 5 = nI (d + 1)) := by
  have n6 : ¬ nI d = (6 : Int32) := fun z => by have := (nI_eq (b := 6) (by omega) (by decide)).mp z; omega
  have hk5 : k_mo (z_sI m 68 5 (nI (d + 1))) B l p := hk.s5
  unfold s_Mod_opens
  rw [z_c68 hk.1.1, Option.bind_some, z_i68_5 hk.1.1, Option.bind_some, h5, if_pos n6, Option.bind_some, nI_1, z_w68_5 hk.1.1, Option.bind_some, z_i68_3 hk5.1.1, Option.bind_some, hk5.2.2.1, nI_1, z_w68_3 hk5.1.1, Option.bind_some]
  exact ⟨_, rfl, k_e3.s5.trans k_e3.s3, hk5.to (by omega), (z_I_sI_nk (by decide)).trans (z_II hk.1.1 12 rfl)⟩
theorem z_opens6 (hk : k_mo m B l p) (h5 : z_I m 68 5 = nI 6) : ∃ m', s_Mod_opens m (some 68) = some m' ∧ (k_e3 m m' ∧ k_mn m' B l p) := by
  obtain ⟨m1, a1, a2, a3, -⟩ := z_bad hk
  unfold s_Mod_opens
  have n6 : ¬ ¬ nI 6 = (6 : Int32) := fun z => z rfl
  have k2 : k_mn (z_sI m1 68 5 (z_I m1 68 5 + (1 : Int32))) B l p := a3.s5
  rw [z_c68 hk.1.1, Option.bind_some, z_i68_5 hk.1.1, Option.bind_some, h5, if_neg n6, a1, Option.bind_some, z_i68_5 a3.1.1, Option.bind_some, z_w68_5 a3.1.1, Option.bind_some, z_i68_3 k2.1.1, Option.bind_some, z_w68_3 k2.1.1, Option.bind_some]
  exact ⟨_, rfl, (a2.e3.trans k_e3.s5).trans k_e3.s3, k2.s3⟩
theorem z_closesT (hS : z_Sh m) : ∃ m', ((f_gI m (some 68) 12 3).bind fun x22 => (f_pI m (some 68) 12 3 (x22 + (1 : Int32))).bind fun h27 => (f_gI h27 (some 68) 12 5).bind fun x32 => (f_pI h27 (some 68) 12 5 (x32 - (1 : Int32))).bind fun h37 => some h37) = some m' ∧ m' = z_sI (z_sI m 68 3 (z_I m 68 3 + (1 : Int32))) 68 5 (z_I m 68 5 - (1 : Int32)) := by
  have S1 : z_Sh (z_sI m 68 3 (z_I m 68 3 + (1 : Int32))) := z_Sh_sI hS
  rw [z_i68_3 hS, Option.bind_some, z_w68_3 hS, Option.bind_some, z_i68_5 S1, Option.bind_some, z_w68_5 S1, Option.bind_some, z_I_sI_nk (by decide)]
  exact ⟨_, rfl, rfl⟩
theorem z_closesN (hk : k_mn m B l q) : ∃ m', s_Mod_closes F m (some 68) x = some m' ∧ (k_e3 m m' ∧ k_mn m' B l q) := by
  obtain ⟨m1, a1, a2⟩ := z_closesT hk.1.1
  unfold s_Mod_closes
  rw [z_c68 hk.1.1, Option.bind_some, z_i68_4 hk.1.1, Option.bind_some, if_pos hk.ne, a1, a2]
  exact ⟨_, rfl, k_e3.s3.trans k_e3.s5, hk.s3.s5⟩
theorem z_closes (hF : 70000 ≤ F) (hk : k_mo m B l p) (h5 : z_I m 68 5 = nI (d + 1)) (hc : 1 ≤ c) (hc2 : c < 256) : ∃ m', s_Mod_closes F m (some 68) (nI c) = some m' ∧ (k_e3 m m' ∧ ((k_b B l (k_n B l p) = c ∧ k_mo m' B l (k_n B l p + 1) ∧ z_I m' 68 5 = nI d) ∨ (k_b B l (k_n B l p) ≠ c ∧ k_mn m' B l (k_n B l p)))) := by
  obtain ⟨m1, a1, a2, a3⟩ := z_look hF hk
  have S1 := a3.1.1
  have i5 : z_I m1 68 5 = nI (d + 1) := (a2.2 5 (by decide)).trans h5
  unfold s_Mod_closes
  rw [z_c68 hk.1.1, Option.bind_some, z_i68_4 hk.1.1, Option.bind_some, hk.2.2.2, if_neg (fun z => z rfl), a1, Option.bind_some]
  by_cases e : k_b B l (k_n B l p) = c
  · have hlt := k_b_lt (B := B) (l := l) (q := k_n B l p) (by omega)
    obtain ⟨m2, b1, b2⟩ := z_closesT S1
    rw [if_pos ((k_g_b hk.1.2.2.2.1 hc hc2).mpr e), b1, b2]
    refine ⟨_, rfl, (a2.e3.trans k_e3.s3).trans k_e3.s5, .inl ⟨e, ?_, ?_⟩⟩
    · rw [a3.2.2.1, nI_1]
      exact (a3.to (q := k_n B l p + 1) (by omega)).s5
    · rw [z_II (z_Sh_sI S1) 12 rfl, i5]
      exact pk_sub (b := 1) (by omega)
  · obtain ⟨m2, b1, b2, b3, -⟩ := z_bad a3
    obtain ⟨m3, c1, c2⟩ := z_closesT b3.1.1
    rw [if_neg (fun z => e ((k_g_b hk.1.2.2.2.1 hc hc2).mp z))]
    show ∃ m', ((s_Mod_bad m1 (some 68)).bind fun h17 => _) = some m' ∧ _
    rw [b1, Option.bind_some, c1, c2]
    exact ⟨_, rfl, ((a2.e3.trans b2.e3).trans k_e3.s3).trans k_e3.s5, .inr ⟨e, b3.s3.s5⟩⟩
theorem k_ty0 {w : Nat} {τ : List Bool} (hw : w < 10000) (ht : τ.length < 40) : q_ty [(0, w)] τ = some (false :: τ) := by
  unfold q_ty q_tstep
  rw [if_pos rfl, if_pos ⟨hw, ht⟩]
  rfl
theorem k_ty1 {w : Nat} {τ : List Bool} (hw : w < 8) (ht : τ.length < 40) : q_ty [(1, w)] τ = some (false :: τ) := by
  unfold q_ty q_tstep
  rw [if_neg (show ¬ ((1 : Nat), w).1 = 0 from Nat.succ_ne_zero 0), if_pos rfl, if_pos ⟨hw, ht⟩]
  rfl
/-- an atom -/
theorem k_atom (hF : 70000 ≤ F) (hk5 : k < 5) (hd : d ≤ 6) (hs : d < 6 → k_SP (fun g => gr_LText_atom F Dc 1 g (some 25) (nI (d + 1))) (fun m => gr_Mod_atom F Dm 1 m (some 68)) B l k (d + 1) 2 false) :
    k_SP (fun g => gr_LText_atom F (Dc + 1) 0 g (some 25) (nI d)) (fun m => gr_Mod_atom F (Dm + 1) 0 m (some 68)) B l k d 0 false := by
  intro g m p L R hk hm h5 h14 hL hR hLl hRl
  have hS := hk.1.1
  have hl := hk.1.2.1
  have hBB := hk.1.2.2.2.1
  obtain ⟨r, hr⟩ : ∃ r, r = k_n B l p := ⟨_, rfl⟩
  have hle := k_n_le (B := B) hk.2.1
  obtain ⟨g1, a1, a2, a3⟩ := z_peek hF hk
  obtain ⟨m1, b1, b2, b3⟩ := z_look hF hm
  rw [← hr] at hle a1 a3 b1 b3
  have hrn : k_n B l r = r := by rw [hr]; exact k_n_id hk.2.1
  have S1 := a3.1.1
  have T1 := b3.1.1
  have cE1 : k_cE g1 L := hL.f16 a2
  have mE1 : k_mE m1 k R := hR.f68 b2.1
  have i14 : z_I m1 68 14 = nI k := (b2.2 14 (by decide)).trans h14
  have i5 : z_I m1 68 5 = nI d := (b2.2 5 (by decide)).trans h5
  have C1 : k_lc g g1 := k_lc.f16 a2
  show ∃ g' m', b_LText_atom F (gr_LText_atom F Dc) g (some 25) (nI d) = some g' ∧ b_Mod_atom F (gr_Mod_atom F Dm) m (some 68) = some m' ∧ _
  unfold b_LText_atom b_Mod_atom
  have hidx : ∀ J : Int32 → Option fw_H, (if ¬ k_g B l r = (-1 : Int32) then ((s_Jdk_indexOf1 F g1 (some 10) (fw_i2c (k_g B l r))).bind fun x53 => J x53) else J (-1 : Int32)) = J (g_on (k_it 3 (k_b B l r)) (-1)) := by
    intro J
    by_cases e : k_b B l r = 0
    · rw [if_neg (fun z => z ((k_g_end hBB).mpr e)), e, k_it_0 3 (by omega)]
      rfl
    · have hlt := k_b_lt e
      have eb : k_b B l r = B r := if_pos hlt
      have eg : k_g B l r = nI (B r) := if_pos hlt
      rw [if_pos (fun z => e ((k_g_end hBB).mp z)), eg, eb, show (some 10 : Option Nat) = some (3 + 7) from rfl, z_indexOf hF S1 (by omega) (hBB r hlt).2, Option.bind_some]
  rw [z_c25 hS, Option.bind_some, z_r25_0 hS, Option.bind_some, a1, Option.bind_some, k_jn1, z_c68 hm.1.1, Option.bind_some, b1, Option.bind_some]
  dsimp only
  rw [hidx, (k_dig hBB).2, Option.bind_some, z_letterOf hBB]
  match e : k_it 3 (k_b B l r) with
  | some j =>
    have h0 : k_b B l r ≠ 0 := fun z => by rw [z, k_it_0 3 (by omega)] at e; cases e
    have hlt := k_b_lt h0
    have eb : k_b B l r = B r := if_pos hlt
    have hj8 : j < 8 := k_let.2.2.2.2.2 _ (by rw [eb]; exact (hBB r hlt).2) j e
    have nd : ¬ k_d B l r = true := fun z => by
      obtain ⟨z1, z2, z3⟩ := k_d_t z
      rw [eb, k_let.2.2.2.2.1 _ (hBB r hlt).2 z2 z3] at e
      cases e
    have eon : g_on (some j) (-1) = nI j := rfl
    have nj : ¬ nI j < (0 : Int32) := nI_pos (by omega)
    have nj1 : ¬ nI j = (-1 : Int32) := nI_ne_m1 (by omega)
    obtain ⟨g2, c1, c2, c3⟩ := z_skip a3 hlt
    obtain ⟨g3, d1, d2, d3, d4⟩ := z_emit (o := (1, j)) c3.1.1 (cE1.f16 c2) (by omega) (by show 1 < 12; decide) (by show j < 10000; omega)
    have m2 := b3.to (q := r + 1) (by omega)
    obtain ⟨m3, e1, e2, e3, e4⟩ := z_mput (o := (1, j)) (R := R) m2.1.1 hk5 ((z_I_sI_nk (by decide)).trans i14) (mE1.f68 (z_fr.refl.sI (by simp))) (by omega)
    have d1' : s_Law_emit g2 (some 26) (1 : Int32) (nI j) = some g3 := d1
    have e1' : s_Mod_put (z_sI m1 68 3 (nI (r + 1))) (some 68) (1 : Int32) (nI j) = some m3 := e1
    rw [eon, if_neg nj, z_r25_0 S1, Option.bind_some, c1, Option.bind_some, z_r25_1 c3.1.1, Option.bind_some, d1', Option.bind_some, if_neg nd, Option.bind_some, if_neg nj1, z_i68_3 T1, Option.bind_some, b3.2.2.1, nI_1, z_w68_3 T1, Option.bind_some, Option.bind_some, e1', Option.bind_some]
    refine ⟨g3, m3, rfl, rfl, C1.trans ((k_lc.f16 c2).trans ⟨d2.mono (by simp), d3⟩), (b2.e3.trans k_e3.s3).pf.trans e2, .inl ⟨r + 1, [(1, j)], ?_, by omega, c3.ef d2, m2.fr e2.1 (by decide) (by decide) (fun k _ => e3 k), ?_, d4, e4, fun τ ht => k_ty1 hj8 (by show τ.length < 40; omega)⟩⟩
    · show p + 1 ≤ r + 1; omega
    · rw [e3, z_I_sI_nk (by decide), i5]
  | none =>
    have eon : g_on none (-1) = (-1 : Int32) := rfl
    have neg : (-1 : Int32) < 0 := by decide
    rw [eon, if_pos neg]
    by_cases e91 : k_b B l r = 91
    · have g91 : k_g B l r = (91 : Int32) := (k_g_b hBB (c := 91) (by decide) (by decide)).mpr e91
      have n91 : ¬ ¬ k_g B l r = (91 : Int32) := fun z => z g91
      have hlt := k_b_lt (B := B) (l := l) (q := r) (by omega)
      have nd : ¬ k_d B l r = true := fun z => by
        obtain ⟨z1, z2, z3⟩ := k_d_t z
        have : k_b B l r = B r := if_pos hlt
        omega
      rw [if_pos g91, if_neg nd, Option.bind_some, if_pos rfl, if_neg n91]
      by_cases h6 : d < 6
      · have l6 : nI d < (6 : Int32) := nI_lt (b := 6) h6 (by decide)
        obtain ⟨g2, c1, c2, c3⟩ := z_skip a3 hlt
        obtain ⟨m2, d1, d2, d3, d4⟩ := z_opens b3 hlt i5 h6
        have C2 := C1.trans (k_lc.f16 c2)
        have E2 := b2.e3.trans d2
        obtain ⟨g3, m3, s1, s2, s3, s4, s5⟩ := hs h6 g2 m2 (r + 1) L R c3 d3 d4 ((d2.2 14 (by decide) (by decide) (by decide)).trans i14) (cE1.f16 c2) (mE1.f68 d2.1) (by omega) (by omega)
        have s1' : gr_LText_atom F Dc 1 g2 (some 25) (nI (d + 1)) = some g3 := s1
        have s2' : gr_Mod_atom F Dm 1 m2 (some 68) = some m3 := s2
        rw [if_pos l6, z_r25_0 S1, Option.bind_some, c1, Option.bind_some, nI_1, s1', Option.bind_some, d1, Option.bind_some, z_i68_4 d3.1.1, Option.bind_some, d3.2.2.2, if_neg (fun z => z rfl), s2', Option.bind_some]
        rcases s5 with ⟨p', N, y1, y2, y3, y4, y5, y6, y7, y8⟩ | ⟨q, R', y1, y2, y3, y4⟩
        · obtain ⟨g4, u1, u2, u3⟩ := z_expect (c := 93) hF y3 (by decide) (by decide)
          obtain ⟨m4, w1, w2, w3⟩ := z_closes (c := 93) hF y4 y5 (by decide) (by decide)
          have u1' : s_Tape_expect F g3 (some 16) (93 : Int32) = some g4 := u1
          have w1' : s_Mod_closes F m3 (some 68) (93 : Int32) = some m4 := w1
          have hlp := k_n_le (B := B) y3.2.1
          rw [z_r25_0 y3.1.1, Option.bind_some, u1', Option.bind_some, w1', Option.bind_some]
          refine ⟨g4, m4, rfl, rfl, C2.trans (s3.trans (k_lc.f16 u2)), (E2.pf.trans s4).trans w2.pf, ?_⟩
          rcases u3 with ⟨u3, u4⟩ | ⟨u3, u4⟩
          · rcases w3 with ⟨w3, w4, w5⟩ | ⟨w3, w4⟩
            · exact .inl ⟨k_n B l p' + 1, N, by omega, by omega, u4, w4, w5, y6.f16 u2, y7.f68 w2.1, fun τ ht => y8 τ (by omega)⟩
            · exact absurd u3 w3
          · rcases w3 with ⟨w3, w4, w5⟩ | ⟨w3, w4⟩
            · exact absurd w3 u3
            · refine .inr ⟨k_n B l p', R ++ N, u4, w4, y7.f68 w2.1, ?_⟩
              rw [List.length_append]
              omega
        · obtain ⟨m4, w1, w2, w3⟩ := z_closesN (F := F) (x := (93 : Int32)) y2
          have u1 : s_Tape_expect F g3 (some 16) (93 : Int32) = some g3 := z_expectN (c := 93) y1 (by decide) (by decide)
          rw [z_r25_0 y1.1.1, Option.bind_some, u1, Option.bind_some, w1, Option.bind_some]
          exact ⟨g3, m4, rfl, rfl, C2.trans s3, (E2.pf.trans s4).trans w2.pf, .inr ⟨q, R', y1, w3, y3.f68 w2.1, by omega⟩⟩
      · obtain rfl : d = 6 := by omega
        have l6 : ¬ nI 6 < (6 : Int32) := by decide
        obtain ⟨g2, c1, c2, c3⟩ := z_fail a3
        obtain ⟨m2, d1, d2, d3⟩ := z_opens6 b3 i5
        rw [if_neg l6, z_r25_0 S1, Option.bind_some, c1, Option.bind_some, d1, Option.bind_some, z_i68_4 d3.1.1, Option.bind_some, if_pos d3.ne]
        exact ⟨g2, m2, rfl, rfl, C1.trans (k_lc.f16 c2), (b2.e3.trans d2).pf, .inr ⟨r, R, c3, d3, mE1.f68 d2.1, by omega⟩⟩
    · have g91 : ¬ k_g B l r = (91 : Int32) := fun z => e91 ((k_g_b hBB (c := 91) (by decide) (by decide)).mp z)
      rw [if_neg g91]
      obtain ⟨g2, w, c1, c2, c3⟩ := z_cnum (D := 4) (mo := 9999) hF (by omega) (by omega) (by omega) a3
      rw [hrn] at c3
      have c1' : s_Tape_number F g1 (some 16) (4 : Int32) (9999 : Int32) = some (w, g2) := c1
      have S2 := S1.fr c2 (by decide)
      rw [z_r25_1 S1, Option.bind_some, z_r25_0 S1, Option.bind_some, c1', Option.bind_some]
      have C2 := C1.trans (k_lc.f16 c2)
      by_cases ed : k_d B l r = true
      · obtain ⟨m2, w', d1, d2, d3⟩ := z_plain hF b3 ed
        have hlt := (k_d_t ed).1
        have T2 := T1.fr d2.1 (by decide)
        have i14' : z_I m2 68 14 = nI k := (d2.2 14 (by decide) (by decide)).trans i14
        have i5' : z_I m2 68 5 = nI d := (d2.2 5 (by decide) (by decide)).trans i5
        rw [if_pos ed, d1, Option.bind_some]
        show ∃ g' m', ((s_Law_emit g2 (some 26) (0 : Int32) w).bind fun h70 => some h70) = some g' ∧ ((s_Mod_put m2 (some 68) (0 : Int32) w').bind fun h18 => some h18) = some m' ∧ _
        match en : k_nu B l 4 9999 r with
        | .inl q =>
          rw [en] at c3 d3
          obtain ⟨d3, w2, w3, rfl⟩ := d3
          obtain ⟨g3, u1, u2⟩ := z_emitN (x := (0 : Int32)) (y := w) S2
          obtain ⟨m3, e1, e2, e3, e4⟩ := z_mput (o := (0, w2)) (R := R) T2 hk5 i14' (mE1.f68 d2.1) (by omega)
          have e1' : s_Mod_put m2 (some 68) (0 : Int32) (nI w2) = some m3 := e1
          rw [u1, Option.bind_some, e1', Option.bind_some]
          refine ⟨g3, m3, rfl, rfl, C2.trans ?_, (b2.pf.trans d2.pf).trans e2, .inr ⟨q, R ++ [(0, w2)], c3.ef u2.1, d3.fr e2.1 (by decide) (by decide) (fun k _ => e3 k), e4, ?_⟩⟩
          · exact ⟨u2.1.mono (by simp), u2.2 (by decide) (by decide)⟩
          · rw [List.length_append]
            show R.length + 1 ≤ _
            omega
        | .inr (w2, p') =>
          rw [en] at c3 d3
          obtain ⟨rfl, c3⟩ := c3
          obtain ⟨⟨rfl, w3⟩, d3⟩ := d3
          have hpp := k_nu_ok (D := 3) en
          obtain ⟨g3, u1, u2, u3, u4⟩ := z_emit (o := (0, w2)) S2 (cE1.f16 c2) (by omega) (by show 0 < 12; decide) w3
          obtain ⟨m3, e1, e2, e3, e4⟩ := z_mput (o := (0, w2)) (R := R) T2 hk5 i14' (mE1.f68 d2.1) (by omega)
          have u1' : s_Law_emit g2 (some 26) (0 : Int32) (nI w2) = some g3 := u1
          have e1' : s_Mod_put m2 (some 68) (0 : Int32) (nI w2) = some m3 := e1
          rw [u1', Option.bind_some, e1', Option.bind_some]
          refine ⟨g3, m3, rfl, rfl, C2.trans ⟨u2.mono (by simp), u3⟩, (b2.pf.trans d2.pf).trans e2, .inl ⟨p', [(0, w2)], ?_, by omega, c3.ef u2, d3.fr e2.1 (by decide) (by decide) (fun k _ => e3 k), (e3 5).trans i5', u4, e4, fun τ ht => k_ty0 w3 (by show τ.length < 40; omega)⟩⟩
          show p + 1 ≤ p'
          omega
      · have en : k_nu B l 4 9999 r = .inl r := if_neg ed
        rw [en] at c3
        obtain ⟨g3, u1, u2⟩ := z_emitN (x := (0 : Int32)) (y := w) S2
        obtain ⟨m2, d1, d2, d3, -⟩ := z_bad b3
        rw [if_neg ed, Option.bind_some, if_pos rfl, if_pos g91, d1, Option.bind_some]
        show ∃ g' m', ((s_Law_emit g2 (some 26) (0 : Int32) w).bind fun h70 => some h70) = some g' ∧ some m2 = some m' ∧ _
        rw [u1, Option.bind_some]
        exact ⟨g3, m2, rfl, rfl, C2.trans (⟨u2.1.mono (by simp), u2.2 (by decide) (by decide)⟩), b2.pf.trans d2.pf, .inr ⟨r, R, c3.ef u2.1, d3, mE1.f68 d2.1, by omega⟩⟩
/-- term: what follows the first -/
theorem k_termL (hF : 70000 ≤ F) (hk5 : k < 5) (hd : d ≤ 6) (hc0 : c0 ≤ 1) {fc : Nat → fw_H → Option Nat → Int32 → Option fw_H} {fm : Nat → fw_H → Option Nat → Option fw_H} (hs : k_SP (fun g => fc 0 g (some 25) (nI d)) (fun m => fm 0 m (some 68)) B l k d c0 false) :
    ∀ (nn mm i p : Nat) (g m : fw_H) (L R : List q_O), l - p < nn → l - p + 1 < mm → 2 * i ≤ p → k_ok g B l p → k_mo m B l (k_n B l p) → z_I m 68 5 = nI d → z_I m 68 14 = nI k → k_cE g L → k_mE m k R → L.length ≤ p → R.length ≤ p →
    ∃ g' m', l_LText_term_7 F fc (some 25) (nI d) nn (nI i) g = some g' ∧ l_Mod_term_21 F fm (some 68) mm (k_g B l (k_n B l p)) m = some m' ∧ (k_lc g g' ∧ k_pf k m m' ∧ k_O g' m' B l k d (c0 + 1) 0 p L R [false] false) := by
  intro nn
  induction nn with
  | zero => intro mm i p g m L R h; omega
  | succ nn ih =>
    intro mm i p g m L R hnn hmm hi hk hm h5 h14 hL hR hLl hRl
    obtain ⟨mm, rfl⟩ : ∃ k, mm = k + 1 := ⟨mm - 1, by omega⟩
    have hS := hk.1.1
    have hl := hk.1.2.1
    have hpl := hk.2.1
    have hBB := hk.1.2.2.2.1
    obtain ⟨r, hr⟩ : ∃ r, r = k_n B l p := ⟨_, rfl⟩
    have hle := k_n_le (B := B) hk.2.1
    obtain ⟨g1, a1, a2, a3⟩ := z_peek hF hk
    rw [← hr] at hle a1 a3 hm ⊢
    have S1 := a3.1.1
    have T0 := hm.1.1
    have cE1 : k_cE g1 L := hL.f16 a2
    have C1 : k_lc g g1 := k_lc.f16 a2
    have i240 : ¬ (240 : Int32) ≤ nI i := nI_ge (b := 240) (by omega) (by decide)
    have E : ∀ c, 1 ≤ c → c < 256 → (k_g B l r = nI c ↔ k_b B l r = c) := fun c h1 h2 => k_g_b hBB h1 h2
    rw [l_LText_term_7, if_neg i240, z_r25_0 hS, Option.bind_some, a1, Option.bind_some, l_Mod_term_21]
    dsimp only
    by_cases e12 : k_b B l r = 42 ∨ k_b B l r = 47
    · have hlt := k_b_lt (B := B) (l := l) (q := r) (by omega)
      obtain ⟨g2, c1, c2, c3⟩ := z_skip a3 hlt
      have m2 := hm.to (q := r + 1) (by omega)
      have mE2 : k_mE (z_sI m 68 3 (nI (r + 1))) k R := hR.f68 (z_fr.refl.sI (by simp))
      obtain ⟨g3, m3, s1, s2, s3, s4, s5⟩ := hs g2 (z_sI m 68 3 (nI (r + 1))) (r + 1) L R c3 m2 ((z_I_sI_nk (by decide)).trans h5) ((z_I_sI_nk (by decide)).trans h14) (cE1.f16 c2) mE2 (by omega) (by omega)
      have s1' : fc 0 g2 (some 25) (nI d) = some g3 := s1
      have s2' : fm 0 (z_sI m 68 3 (nI (r + 1))) (some 68) = some m3 := s2
      have S3 : z_Sh g3 := c3.1.1.fr s3.1 (by decide)
      have T3 : z_Sh m3 := m2.1.1.fr s4.1 (by decide)
      have i14 : z_I m3 68 14 = nI k := (s4.2.1 14 (by decide) (by decide) (by decide)).trans ((z_I_sI_nk (by decide)).trans h14)
      have C3 : k_lc g g3 := C1.trans ((k_lc.f16 c2).trans s3)
      have P3 : k_pf k m m3 := (k_e3.s3.pf).trans s4
      have fin : ∀ kd, (kd = 4 ∨ kd = 5) → ∃ g' m', ((s_Law_emit g3 (some 26) (nI kd) (0 : Int32)).bind fun h63 => l_LText_term_7 F fc (some 25) (nI d) nn (nI i + (1 : Int32)) h63) = some g' ∧ ((s_Mod_put m3 (some 68) (nI kd) (0 : Int32)).bind fun h60 => (f_gI h60 (some 68) 12 4).bind fun x64 => if ¬ x64 = (-1 : Int32) then (l_Mod_term_21 F fm (some 68) mm (-1 : Int32) h60) else (s_Mod_look F h60 (some 68)).bind fun x72 => l_Mod_term_21 F fm (some 68) mm x72.1 x72.2) = some m' ∧ (k_lc g g' ∧ k_pf k m m' ∧ k_O g' m' B l k d (c0 + 1) 0 p L R [false] false) := by
        intro kd hkd
        have qm : q_mk kd = kd := by rcases hkd with rfl | rfl <;> rfl
        have n12 : ¬ nI kd = (12 : Int32) := by rcases hkd with rfl | rfl <;> decide
        have n13 : ¬ nI kd = (13 : Int32) := by rcases hkd with rfl | rfl <;> decide
        rcases s5 with ⟨p', N, y1, y2, y3, y4, y5, y6, y7, y8⟩ | ⟨q, R', y1, y2, y3, y4⟩
        · have hp'l := y3.2.1
          have lLN : (L ++ N).length + 1 ≤ p' := by rw [List.length_append]; omega
          have lRN : (R ++ N).length + 1 ≤ p' := by rw [List.length_append]; omega
          obtain ⟨g4, u1, u2, u3, u4⟩ := z_emit (o := (kd, 0)) S3 y6 (by omega) (by show kd < 12; omega) (by show 0 < 10000; decide)
          obtain ⟨m4, w1, w2, w3, w4⟩ := z_mput (o := (kd, 0)) (R := R ++ N) T3 hk5 i14 y7 (by omega)
          have u1' : s_Law_emit g3 (some 26) (nI kd) (0 : Int32) = some g4 := u1
          have w1' : s_Mod_put m3 (some 68) (nI kd) (0 : Int32) = some m4 := by
            have := w1
            rw [show q_mk (kd, 0).1 = kd from qm] at this
            exact this
          have ko4 : k_ok g4 B l p' := y3.ef u2
          have mo4 : k_mo m4 B l p' := y4.fr w2.1 (by decide) (by decide) (fun k _ => w3 k)
          obtain ⟨m5, t1, t2, t3⟩ := z_look hF mo4
          rw [u1', Option.bind_some, nI_1, w1', Option.bind_some, z_i68_4 mo4.1.1, Option.bind_some, mo4.2.2.2, if_neg (fun z => z rfl), t1, Option.bind_some]
          obtain ⟨g6, m6, v1, v2, v3, v4, v5⟩ := ih mm (i + 1) p' g4 m5 (L ++ N ++ [(kd, 0)]) (R ++ N ++ [(kd, 0)]) (by omega) (by omega) (by omega) ko4 t3 ((t2.2 5 (by decide)).trans ((w3 5).trans y5)) ((t2.2 14 (by decide)).trans ((w3 14).trans i14)) u4 (w4.f68 t2.1) (by rw [List.length_append]; show (L ++ N).length + 1 ≤ p'; exact lLN) (by rw [List.length_append]; show (R ++ N).length + 1 ≤ p'; exact lRN)
          refine ⟨g6, m6, v1, v2, (C3.trans ⟨u2.mono (by simp), u3⟩).trans v3, ((P3.trans w2).trans t2.pf).trans v4, ?_⟩
          rcases v5 with ⟨p2, N2, z1, z2, z3, z4, z5, z6, z7, z8⟩ | ⟨q, R', z1, z2, z3, z4⟩
          · refine .inl ⟨p2, N ++ (kd, 0) :: N2, ?_, by omega, z3, z4, z5, ?_, ?_, fun τ ht => ?_⟩
            · rw [List.length_append, List.length_cons]
              omega
            · have : L ++ (N ++ (kd, 0) :: N2) = L ++ N ++ [(kd, 0)] ++ N2 := by simp
              rw [this]; exact z6
            · have : R ++ (N ++ (kd, 0) :: N2) = R ++ N ++ [(kd, 0)] ++ N2 := by simp
              rw [this]; exact z7
            · have y9 := y8 (false :: τ) (by rw [List.length_cons]; omega)
              have z9 := z8 τ ht
              rw [q_ty_app, show q_ty N ([false] ++ τ) = some (false :: false :: τ) from y9, Option.bind_some]
              show (q_tstep (kd, 0) (false :: false :: τ)).bind (fun τ' => q_ty N2 τ') = some (false :: τ)
              have st : q_tstep (kd, 0) (false :: false :: τ) = some (false :: τ) := by rcases hkd with rfl | rfl <;> rfl
              rw [st, Option.bind_some]
              exact z9
          · exact .inr ⟨q, R', z1, z2, z3, z4⟩
        · obtain ⟨g4, u1, u2⟩ := z_emitN (x := nI kd) (y := (0 : Int32)) S3
          obtain ⟨m4, w1, w2, w3, w4⟩ := z_mput (o := (kd, 0)) (R := R') T3 hk5 i14 y3 (by omega)
          have w1' : s_Mod_put m3 (some 68) (nI kd) (0 : Int32) = some m4 := by
            have := w1
            rw [show q_mk (kd, 0).1 = kd from qm] at this
            exact this
          have no4 : k_no g4 B l q := y1.ef u2.1
          have mn4 : k_mn m4 B l q := y2.fr w2.1 (by decide) (by decide) (fun k _ => w3 k)
          obtain ⟨nn, rfl⟩ : ∃ k, nn = k + 1 := ⟨nn - 1, by omega⟩
          obtain ⟨mm, rfl⟩ : ∃ k, mm = k + 1 := ⟨mm - 1, by omega⟩
          refine ⟨g4, m4, ?_, ?_, C3.trans ⟨u2.1.mono (by simp), u2.2 n12 n13⟩, P3.trans w2, .inr ⟨q, R' ++ [(kd, 0)], no4, mn4, w4, ?_⟩⟩
          · rw [u1, Option.bind_some, l_LText_term_7]
            by_cases e : (240 : Int32) ≤ nI i + (1 : Int32)
            · rw [if_pos e]
            · rw [if_neg e, z_r25_0 no4.1.1, Option.bind_some, z_peekN no4, Option.bind_some]
              exact (if_neg (show ¬ (-1 : Int32) = (42 : Int32) from by decide)).trans (if_neg (show ¬ (-1 : Int32) = (47 : Int32) from by decide))
          · rw [w1', Option.bind_some, z_i68_4 mn4.1.1, Option.bind_some, if_pos mn4.ne, l_Mod_term_21, if_neg (show ¬ (-1 : Int32) = (42 : Int32) from by decide), if_pos (show ¬ (-1 : Int32) = (47 : Int32) from by decide)]
          · rw [List.length_append]
            show R'.length + 1 ≤ _
            omega
      by_cases e1 : k_b B l r = 42
      · have gs : k_g B l r = (42 : Int32) := (E 42 (by decide) (by decide)).mpr e1
        have ns : ¬ ¬ k_g B l r = (42 : Int32) := fun z => z gs
        rw [if_pos gs, z_r25_0 S1, Option.bind_some, c1, Option.bind_some, s1', Option.bind_some, z_r25_1 S3, Option.bind_some, if_neg ns, if_pos gs, z_i68_3 T0, Option.bind_some, hm.2.2.1, nI_1 r, z_w68_3 T0, Option.bind_some, s2', Option.bind_some, if_neg ns]
        exact fin 4 (.inl rfl)
      · have gs : ¬ k_g B l r = (42 : Int32) := fun z => e1 ((E 42 (by decide) (by decide)).mp z)
        have e2 : k_b B l r = 47 := e12.resolve_left e1
        have gs2 : k_g B l r = (47 : Int32) := (E 47 (by decide) (by decide)).mpr e2
        have ns2 : ¬ ¬ k_g B l r = (47 : Int32) := fun z => z gs2
        rw [if_neg gs, if_pos gs2, z_r25_0 S1, Option.bind_some, c1, Option.bind_some, s1', Option.bind_some, z_r25_1 S3, Option.bind_some, if_pos gs, if_neg gs, if_neg ns2, z_i68_3 T0, Option.bind_some, hm.2.2.1, nI_1 r, z_w68_3 T0, Option.bind_some, s2', Option.bind_some, if_pos gs]
        exact fin 5 (.inr rfl)
    · have gs1 : ¬ k_g B l r = (42 : Int32) := fun z => e12 (.inl ((E 42 (by decide) (by decide)).mp z))
      have gs2 : ¬ k_g B l r = (47 : Int32) := fun z => e12 (.inr ((E 47 (by decide) (by decide)).mp z))
      rw [if_neg gs1, if_neg gs2, if_neg gs1, if_pos gs2]
      refine ⟨g1, m, rfl, rfl, C1, k_pf.refl, .inl ⟨r, [], ?_, by omega, a3, hm, h5, ?_, ?_, fun τ _ => rfl⟩⟩
      · show p + 0 ≤ r; omega
      · rw [List.append_nil]; exact cE1
      · rw [List.append_nil]; exact hR
/-- term -/
theorem k_term (hF : 70000 ≤ F) (hk5 : k < 5) (hd : d ≤ 6) (hs : k_SP (fun g => gr_LText_atom F Dc 0 g (some 25) (nI d)) (fun m => gr_Mod_atom F Dm 0 m (some 68)) B l k d 0 false) :
    k_SP (fun g => gr_LText_atom F (Dc + 1) 2 g (some 25) (nI d)) (fun m => gr_Mod_atom F (Dm + 1) 2 m (some 68)) B l k d (0 + 1) false := by
  intro g m p L R hk hm h5 h14 hL hR hLl hRl
  have hS := hk.1.1
  have hl := hk.1.2.1
  show ∃ g' m', b_LText_term F (gr_LText_atom F Dc) g (some 25) (nI d) = some g' ∧ b_Mod_term F (gr_Mod_atom F Dm) m (some 68) = some m' ∧ _
  obtain ⟨g1, m1, s1, s2, s3, s4, s5⟩ := hs g m p L R hk hm h5 h14 hL hR hLl hRl
  have s1' : gr_LText_atom F Dc 0 g (some 25) (nI d) = some g1 := s1
  have s2' : gr_Mod_atom F Dm 0 m (some 68) = some m1 := s2
  have i14 : z_I m1 68 14 = nI k := (s4.2.1 14 (by decide) (by decide) (by decide)).trans h14
  unfold b_LText_term b_Mod_term
  rw [z_c25 hS, Option.bind_some, s1', Option.bind_some, z_c68 hm.1.1, Option.bind_some, s2', Option.bind_some]
  rcases s5 with ⟨p', N, y1, y2, y3, y4, y5, y6, y7, y8⟩ | ⟨q, R', y1, y2, y3, y4⟩
  · obtain ⟨m2, t1, t2, t3⟩ := z_look hF y4
    rw [z_i68_4 y4.1.1, Option.bind_some, k_jn2, y4.2.2.2, if_neg (fun z => z rfl), t1, Option.bind_some]
    obtain ⟨g6, m6, v1, v2, v3, v4, v5⟩ := k_termL hF hk5 hd (by decide) hs F F 0 p' g1 m2 (L ++ N) (R ++ N) (by have := y3.2.1; omega) (by have := y3.2.1; omega) (by omega) y3 t3 ((t2.2 5 (by decide)).trans y5) ((t2.2 14 (by decide)).trans i14) y6 (y7.f68 t2.1) (by rw [List.length_append]; omega) (by rw [List.length_append]; omega)
    refine ⟨g6, m6, v1, v2, s3.trans v3, (s4.trans t2.pf).trans v4, ?_⟩
    rcases v5 with ⟨p2, N2, z1, z2, z3, z4, z5, z6, z7, z8⟩ | ⟨q, R', z1, z2, z3, z4⟩
    · refine .inl ⟨p2, N ++ N2, ?_, by omega, z3, z4, z5, ?_, ?_, fun τ ht => ?_⟩
      · rw [List.length_append]; omega
      · rw [← List.append_assoc]; exact z6
      · rw [← List.append_assoc]; exact z7
      · rw [q_ty_app, show q_ty N ([] ++ τ) = some (false :: τ) from y8 τ (by omega), Option.bind_some]
        exact z8 τ ht
    · exact .inr ⟨q, R', z1, z2, z3, z4⟩
  · obtain ⟨FF, rfl⟩ : ∃ k, F = k + 1 := ⟨F - 1, by omega⟩
    rw [z_i68_4 y2.1.1, Option.bind_some, k_jn2, if_pos y2.ne]
    refine ⟨g1, m1, ?_, ?_, s3, s4, .inr ⟨q, R', y1, y2, y3, by omega⟩⟩
    · rw [l_LText_term_7, if_neg (by decide), z_r25_0 y1.1.1, Option.bind_some, z_peekN y1, Option.bind_some]
      exact (if_neg (show ¬ (-1 : Int32) = (42 : Int32) from by decide)).trans (if_neg (show ¬ (-1 : Int32) = (47 : Int32) from by decide))
    · show l_Mod_term_21 (FF + 1) (gr_Mod_atom (FF + 1) Dm) (some 68) (FF + 1) (-1 : Int32) m1 = some m1
      rw [l_Mod_term_21, if_neg (show ¬ (-1 : Int32) = (42 : Int32) from by decide), if_pos (show ¬ (-1 : Int32) = (47 : Int32) from by decide)]
/-- sum: what follows the first -/
theorem k_sumL (hF : 70000 ≤ F) (hk5 : k < 5) (hd : d ≤ 6) (hc0 : c0 ≤ 1) {fc : Nat → fw_H → Option Nat → Int32 → Option fw_H} {fm : Nat → fw_H → Option Nat → Option fw_H} (hs : k_SP (fun g => fc 2 g (some 25) (nI d)) (fun m => fm 2 m (some 68)) B l k d c0 false) :
    ∀ (nn mm i p : Nat) (g m : fw_H) (L R : List q_O), l - p < nn → l - p + 1 < mm → 2 * i ≤ p → k_ok g B l p → k_mo m B l (k_n B l p) → z_I m 68 5 = nI d → z_I m 68 14 = nI k → k_cE g L → k_mE m k R → L.length ≤ p → R.length ≤ p →
    ∃ g' m', l_LText_sum_7 F fc (some 25) (nI d) nn (nI i) g = some g' ∧ l_Mod_sum_21 F fm (some 68) mm (k_g B l (k_n B l p)) m = some m' ∧ (k_lc g g' ∧ k_pf k m m' ∧ k_O g' m' B l k d (c0 + 1) 0 p L R [false] false) := by
  intro nn
  induction nn with
  | zero => intro mm i p g m L R h; omega
  | succ nn ih =>
    intro mm i p g m L R hnn hmm hi hk hm h5 h14 hL hR hLl hRl
    obtain ⟨mm, rfl⟩ : ∃ k, mm = k + 1 := ⟨mm - 1, by omega⟩
    have hS := hk.1.1
    have hl := hk.1.2.1
    have hpl := hk.2.1
    have hBB := hk.1.2.2.2.1
    obtain ⟨r, hr⟩ : ∃ r, r = k_n B l p := ⟨_, rfl⟩
    have hle := k_n_le (B := B) hk.2.1
    obtain ⟨g1, a1, a2, a3⟩ := z_peek hF hk
    rw [← hr] at hle a1 a3 hm ⊢
    have S1 := a3.1.1
    have T0 := hm.1.1
    have cE1 : k_cE g1 L := hL.f16 a2
    have C1 : k_lc g g1 := k_lc.f16 a2
    have i240 : ¬ (240 : Int32) ≤ nI i := nI_ge (b := 240) (by omega) (by decide)
    have E : ∀ c, 1 ≤ c → c < 256 → (k_g B l r = nI c ↔ k_b B l r = c) := fun c h1 h2 => k_g_b hBB h1 h2
    rw [l_LText_sum_7, if_neg i240, z_r25_0 hS, Option.bind_some, a1, Option.bind_some, l_Mod_sum_21]
    dsimp only
    by_cases e12 : k_b B l r = 43 ∨ k_b B l r = 45
    · have hlt := k_b_lt (B := B) (l := l) (q := r) (by omega)
      obtain ⟨g2, c1, c2, c3⟩ := z_skip a3 hlt
      have m2 := hm.to (q := r + 1) (by omega)
      have mE2 : k_mE (z_sI m 68 3 (nI (r + 1))) k R := hR.f68 (z_fr.refl.sI (by simp))
      obtain ⟨g3, m3, s1, s2, s3, s4, s5⟩ := hs g2 (z_sI m 68 3 (nI (r + 1))) (r + 1) L R c3 m2 ((z_I_sI_nk (by decide)).trans h5) ((z_I_sI_nk (by decide)).trans h14) (cE1.f16 c2) mE2 (by omega) (by omega)
      have s1' : fc 2 g2 (some 25) (nI d) = some g3 := s1
      have s2' : fm 2 (z_sI m 68 3 (nI (r + 1))) (some 68) = some m3 := s2
      have S3 : z_Sh g3 := c3.1.1.fr s3.1 (by decide)
      have T3 : z_Sh m3 := m2.1.1.fr s4.1 (by decide)
      have i14 : z_I m3 68 14 = nI k := (s4.2.1 14 (by decide) (by decide) (by decide)).trans ((z_I_sI_nk (by decide)).trans h14)
      have C3 : k_lc g g3 := C1.trans ((k_lc.f16 c2).trans s3)
      have P3 : k_pf k m m3 := (k_e3.s3.pf).trans s4
      have fin : ∀ kd, (kd = 2 ∨ kd = 3) → ∃ g' m', ((s_Law_emit g3 (some 26) (nI kd) (0 : Int32)).bind fun h63 => l_LText_sum_7 F fc (some 25) (nI d) nn (nI i + (1 : Int32)) h63) = some g' ∧ ((s_Mod_put m3 (some 68) (nI kd) (0 : Int32)).bind fun h60 => (f_gI h60 (some 68) 12 4).bind fun x64 => if ¬ x64 = (-1 : Int32) then (l_Mod_sum_21 F fm (some 68) mm (-1 : Int32) h60) else (s_Mod_look F h60 (some 68)).bind fun x72 => l_Mod_sum_21 F fm (some 68) mm x72.1 x72.2) = some m' ∧ (k_lc g g' ∧ k_pf k m m' ∧ k_O g' m' B l k d (c0 + 1) 0 p L R [false] false) := by
        intro kd hkd
        have qm : q_mk kd = kd := by rcases hkd with rfl | rfl <;> rfl
        have n12 : ¬ nI kd = (12 : Int32) := by rcases hkd with rfl | rfl <;> decide
        have n13 : ¬ nI kd = (13 : Int32) := by rcases hkd with rfl | rfl <;> decide
        rcases s5 with ⟨p', N, y1, y2, y3, y4, y5, y6, y7, y8⟩ | ⟨q, R', y1, y2, y3, y4⟩
        · have hp'l := y3.2.1
          have lLN : (L ++ N).length + 1 ≤ p' := by rw [List.length_append]; omega
          have lRN : (R ++ N).length + 1 ≤ p' := by rw [List.length_append]; omega
          obtain ⟨g4, u1, u2, u3, u4⟩ := z_emit (o := (kd, 0)) S3 y6 (by omega) (by show kd < 12; omega) (by show 0 < 10000; decide)
          obtain ⟨m4, w1, w2, w3, w4⟩ := z_mput (o := (kd, 0)) (R := R ++ N) T3 hk5 i14 y7 (by omega)
          have u1' : s_Law_emit g3 (some 26) (nI kd) (0 : Int32) = some g4 := u1
          have w1' : s_Mod_put m3 (some 68) (nI kd) (0 : Int32) = some m4 := by
            have := w1
            rw [show q_mk (kd, 0).1 = kd from qm] at this
            exact this
          have ko4 : k_ok g4 B l p' := y3.ef u2
          have mo4 : k_mo m4 B l p' := y4.fr w2.1 (by decide) (by decide) (fun k _ => w3 k)
          obtain ⟨m5, t1, t2, t3⟩ := z_look hF mo4
          rw [u1', Option.bind_some, nI_1, w1', Option.bind_some, z_i68_4 mo4.1.1, Option.bind_some, mo4.2.2.2, if_neg (fun z => z rfl), t1, Option.bind_some]
          obtain ⟨g6, m6, v1, v2, v3, v4, v5⟩ := ih mm (i + 1) p' g4 m5 (L ++ N ++ [(kd, 0)]) (R ++ N ++ [(kd, 0)]) (by omega) (by omega) (by omega) ko4 t3 ((t2.2 5 (by decide)).trans ((w3 5).trans y5)) ((t2.2 14 (by decide)).trans ((w3 14).trans i14)) u4 (w4.f68 t2.1) (by rw [List.length_append]; show (L ++ N).length + 1 ≤ p'; exact lLN) (by rw [List.length_append]; show (R ++ N).length + 1 ≤ p'; exact lRN)
          refine ⟨g6, m6, v1, v2, (C3.trans ⟨u2.mono (by simp), u3⟩).trans v3, ((P3.trans w2).trans t2.pf).trans v4, ?_⟩
          rcases v5 with ⟨p2, N2, z1, z2, z3, z4, z5, z6, z7, z8⟩ | ⟨q, R', z1, z2, z3, z4⟩
          · refine .inl ⟨p2, N ++ (kd, 0) :: N2, ?_, by omega, z3, z4, z5, ?_, ?_, fun τ ht => ?_⟩
            · rw [List.length_append, List.length_cons]
              omega
            · have : L ++ (N ++ (kd, 0) :: N2) = L ++ N ++ [(kd, 0)] ++ N2 := by simp
              rw [this]; exact z6
            · have : R ++ (N ++ (kd, 0) :: N2) = R ++ N ++ [(kd, 0)] ++ N2 := by simp
              rw [this]; exact z7
            · have y9 := y8 (false :: τ) (by rw [List.length_cons]; omega)
              have z9 := z8 τ ht
              rw [q_ty_app, show q_ty N ([false] ++ τ) = some (false :: false :: τ) from y9, Option.bind_some]
              show (q_tstep (kd, 0) (false :: false :: τ)).bind (fun τ' => q_ty N2 τ') = some (false :: τ)
              have st : q_tstep (kd, 0) (false :: false :: τ) = some (false :: τ) := by rcases hkd with rfl | rfl <;> rfl
              rw [st, Option.bind_some]
              exact z9
          · exact .inr ⟨q, R', z1, z2, z3, z4⟩
        · obtain ⟨g4, u1, u2⟩ := z_emitN (x := nI kd) (y := (0 : Int32)) S3
          obtain ⟨m4, w1, w2, w3, w4⟩ := z_mput (o := (kd, 0)) (R := R') T3 hk5 i14 y3 (by omega)
          have w1' : s_Mod_put m3 (some 68) (nI kd) (0 : Int32) = some m4 := by
            have := w1
            rw [show q_mk (kd, 0).1 = kd from qm] at this
            exact this
          have no4 : k_no g4 B l q := y1.ef u2.1
          have mn4 : k_mn m4 B l q := y2.fr w2.1 (by decide) (by decide) (fun k _ => w3 k)
          obtain ⟨nn, rfl⟩ : ∃ k, nn = k + 1 := ⟨nn - 1, by omega⟩
          obtain ⟨mm, rfl⟩ : ∃ k, mm = k + 1 := ⟨mm - 1, by omega⟩
          refine ⟨g4, m4, ?_, ?_, C3.trans ⟨u2.1.mono (by simp), u2.2 n12 n13⟩, P3.trans w2, .inr ⟨q, R' ++ [(kd, 0)], no4, mn4, w4, ?_⟩⟩
          · rw [u1, Option.bind_some, l_LText_sum_7]
            by_cases e : (240 : Int32) ≤ nI i + (1 : Int32)
            · rw [if_pos e]
            · rw [if_neg e, z_r25_0 no4.1.1, Option.bind_some, z_peekN no4, Option.bind_some]
              exact (if_neg (show ¬ (-1 : Int32) = (43 : Int32) from by decide)).trans (if_neg (show ¬ (-1 : Int32) = (45 : Int32) from by decide))
          · rw [w1', Option.bind_some, z_i68_4 mn4.1.1, Option.bind_some, if_pos mn4.ne, l_Mod_sum_21, if_neg (show ¬ (-1 : Int32) = (43 : Int32) from by decide), if_pos (show ¬ (-1 : Int32) = (45 : Int32) from by decide)]
          · rw [List.length_append]
            show R'.length + 1 ≤ _
            omega
      by_cases e1 : k_b B l r = 43
      · have gs : k_g B l r = (43 : Int32) := (E 43 (by decide) (by decide)).mpr e1
        have ns : ¬ ¬ k_g B l r = (43 : Int32) := fun z => z gs
        rw [if_pos gs, z_r25_0 S1, Option.bind_some, c1, Option.bind_some, s1', Option.bind_some, z_r25_1 S3, Option.bind_some, if_neg ns, if_pos gs, z_i68_3 T0, Option.bind_some, hm.2.2.1, nI_1 r, z_w68_3 T0, Option.bind_some, s2', Option.bind_some, if_neg ns]
        exact fin 2 (.inl rfl)
      · have gs : ¬ k_g B l r = (43 : Int32) := fun z => e1 ((E 43 (by decide) (by decide)).mp z)
        have e2 : k_b B l r = 45 := e12.resolve_left e1
        have gs2 : k_g B l r = (45 : Int32) := (E 45 (by decide) (by decide)).mpr e2
        have ns2 : ¬ ¬ k_g B l r = (45 : Int32) := fun z => z gs2
        rw [if_neg gs, if_pos gs2, z_r25_0 S1, Option.bind_some, c1, Option.bind_some, s1', Option.bind_some, z_r25_1 S3, Option.bind_some, if_pos gs, if_neg gs, if_neg ns2, z_i68_3 T0, Option.bind_some, hm.2.2.1, nI_1 r, z_w68_3 T0, Option.bind_some, s2', Option.bind_some, if_pos gs]
        exact fin 3 (.inr rfl)
    · have gs1 : ¬ k_g B l r = (43 : Int32) := fun z => e12 (.inl ((E 43 (by decide) (by decide)).mp z))
      have gs2 : ¬ k_g B l r = (45 : Int32) := fun z => e12 (.inr ((E 45 (by decide) (by decide)).mp z))
      rw [if_neg gs1, if_neg gs2, if_neg gs1, if_pos gs2]
      refine ⟨g1, m, rfl, rfl, C1, k_pf.refl, .inl ⟨r, [], ?_, by omega, a3, hm, h5, ?_, ?_, fun τ _ => rfl⟩⟩
      · show p + 0 ≤ r; omega
      · rw [List.append_nil]; exact cE1
      · rw [List.append_nil]; exact hR
/-- sum -/
theorem k_sum (hF : 70000 ≤ F) (hk5 : k < 5) (hd : d ≤ 6) (hs : k_SP (fun g => gr_LText_atom F Dc 2 g (some 25) (nI d)) (fun m => gr_Mod_atom F Dm 2 m (some 68)) B l k d 1 false) :
    k_SP (fun g => gr_LText_atom F (Dc + 1) 1 g (some 25) (nI d)) (fun m => gr_Mod_atom F (Dm + 1) 1 m (some 68)) B l k d (1 + 1) false := by
  intro g m p L R hk hm h5 h14 hL hR hLl hRl
  have hS := hk.1.1
  have hl := hk.1.2.1
  show ∃ g' m', b_LText_sum F (gr_LText_atom F Dc) g (some 25) (nI d) = some g' ∧ b_Mod_sum F (gr_Mod_atom F Dm) m (some 68) = some m' ∧ _
  obtain ⟨g1, m1, s1, s2, s3, s4, s5⟩ := hs g m p L R hk hm h5 h14 hL hR hLl hRl
  have s1' : gr_LText_atom F Dc 2 g (some 25) (nI d) = some g1 := s1
  have s2' : gr_Mod_atom F Dm 2 m (some 68) = some m1 := s2
  have i14 : z_I m1 68 14 = nI k := (s4.2.1 14 (by decide) (by decide) (by decide)).trans h14
  unfold b_LText_sum b_Mod_sum
  rw [z_c25 hS, Option.bind_some, s1', Option.bind_some, z_c68 hm.1.1, Option.bind_some, s2', Option.bind_some]
  rcases s5 with ⟨p', N, y1, y2, y3, y4, y5, y6, y7, y8⟩ | ⟨q, R', y1, y2, y3, y4⟩
  · obtain ⟨m2, t1, t2, t3⟩ := z_look hF y4
    rw [z_i68_4 y4.1.1, Option.bind_some, k_jn2, y4.2.2.2, if_neg (fun z => z rfl), t1, Option.bind_some]
    obtain ⟨g6, m6, v1, v2, v3, v4, v5⟩ := k_sumL hF hk5 hd (by decide) hs F F 0 p' g1 m2 (L ++ N) (R ++ N) (by have := y3.2.1; omega) (by have := y3.2.1; omega) (by omega) y3 t3 ((t2.2 5 (by decide)).trans y5) ((t2.2 14 (by decide)).trans i14) y6 (y7.f68 t2.1) (by rw [List.length_append]; omega) (by rw [List.length_append]; omega)
    refine ⟨g6, m6, v1, v2, s3.trans v3, (s4.trans t2.pf).trans v4, ?_⟩
    rcases v5 with ⟨p2, N2, z1, z2, z3, z4, z5, z6, z7, z8⟩ | ⟨q, R', z1, z2, z3, z4⟩
    · refine .inl ⟨p2, N ++ N2, ?_, by omega, z3, z4, z5, ?_, ?_, fun τ ht => ?_⟩
      · rw [List.length_append]; omega
      · rw [← List.append_assoc]; exact z6
      · rw [← List.append_assoc]; exact z7
      · rw [q_ty_app, show q_ty N ([] ++ τ) = some (false :: τ) from y8 τ (by omega), Option.bind_some]
        exact z8 τ ht
    · exact .inr ⟨q, R', z1, z2, z3, z4⟩
  · obtain ⟨FF, rfl⟩ : ∃ k, F = k + 1 := ⟨F - 1, by omega⟩
    rw [z_i68_4 y2.1.1, Option.bind_some, k_jn2, if_pos y2.ne]
    refine ⟨g1, m1, ?_, ?_, s3, s4, .inr ⟨q, R', y1, y2, y3, by omega⟩⟩
    · rw [l_LText_sum_7, if_neg (by decide), z_r25_0 y1.1.1, Option.bind_some, z_peekN y1, Option.bind_some]
      exact (if_neg (show ¬ (-1 : Int32) = (43 : Int32) from by decide)).trans (if_neg (show ¬ (-1 : Int32) = (45 : Int32) from by decide))
    · show l_Mod_sum_21 (FF + 1) (gr_Mod_atom (FF + 1) Dm) (some 68) (FF + 1) (-1 : Int32) m1 = some m1
      rw [l_Mod_sum_21, if_neg (show ¬ (-1 : Int32) = (43 : Int32) from by decide), if_pos (show ¬ (-1 : Int32) = (45 : Int32) from by decide)]
/-- all of them, at every depth -/
theorem k_sums (hF : 70000 ≤ F) (hk5 : k < 5) : ∀ (e d Dc Dm : Nat), d + e = 6 → 3 * e + 3 ≤ Dc → 3 * e + 3 ≤ Dm → k_SP (fun g => gr_LText_atom F Dc 1 g (some 25) (nI d)) (fun m => gr_Mod_atom F Dm 1 m (some 68)) B l k d 2 false := by
  intro e
  induction e with
  | zero =>
    intro d Dc Dm hd h1 h2
    obtain ⟨Dc, rfl⟩ : ∃ k, Dc = k + 3 := ⟨Dc - 3, by omega⟩
    obtain ⟨Dm, rfl⟩ : ∃ k, Dm = k + 3 := ⟨Dm - 3, by omega⟩
    exact k_sum hF hk5 (by omega) (k_term hF hk5 (by omega) (k_atom hF hk5 (by omega) (fun z => by omega)))
  | succ e ih =>
    intro d Dc Dm hd h1 h2
    obtain ⟨Dc, rfl⟩ : ∃ k, Dc = k + 3 := ⟨Dc - 3, by omega⟩
    obtain ⟨Dm, rfl⟩ : ∃ k, Dm = k + 3 := ⟨Dm - 3, by omega⟩
    exact k_sum hF hk5 (by omega) (k_term hF hk5 (by omega) (k_atom hF hk5 (by omega) (fun z => ih (d + 1) Dc Dm (by omega) (by omega) (by omega))))
theorem k_sumS (hF : 70000 ≤ F) (hk5 : k < 5) (hd : d ≤ 6) : k_SP (fun g => s_LText_sum F g (some 25) (nI d)) (fun m => s_Mod_sum F m (some 68)) B l k d 2 false :=
  k_sums hF hk5 (6 - d) d 80 80 (by omega) (by omega) (by omega)
end SP
