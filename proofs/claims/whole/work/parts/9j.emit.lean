-- A LAW'S TEXT (1): steps put down, numbers, letters
def k_cE (g : fw_H) (L : List q_O) : Prop := z_I g 26 2 = nI L.length ∧ (∀ i o, L[i]? = some o → z_A g 27 i = q_sv o) ∧ ∃ bt, z_I g 26 4 = fw_b bt ∧ (bt = false → ∀ o, o ∈ L → o ≠ (1, 7))
def k_mE (m : fw_H) (k : Nat) (R : List q_O) : Prop := z_A m 72 k = nI R.length ∧ ∀ i o, R[i]? = some o → z_A m 70 (520 * k + i) = nI (q_mk o.1) ∧ z_A m 71 (520 * k + i) = nI o.2
def k_pf (k : Nat) (m m' : fw_H) : Prop := z_fr [68, 70, 71, 72] m m' ∧ (∀ j, j ≠ 3 → j ≠ 4 → j ≠ 5 → z_I m' 68 j = z_I m 68 j) ∧ (∀ x, (x < 520 * k ∨ 520 * k + 520 ≤ x) → z_A m' 70 x = z_A m 70 x ∧ z_A m' 71 x = z_A m 71 x) ∧ ∀ j, j ≠ k → z_A m' 72 j = z_A m 72 j
def k_lc (g g' : fw_H) : Prop := z_fr [16, 26, 27] g g' ∧ z_I g' 26 3 = z_I g 26 3
section EM
variable {g g' g'' h m m' m'' : fw_H} {B : Nat → Nat} {l p q d D v mo i j k nn F c n f r : Nat} {x y : Int32} {As : List Nat} {L R N : List q_O} {o : q_O}
theorem k_pf.refl : k_pf k m m := ⟨z_fr.refl, fun _ _ _ _ => rfl, fun _ _ => ⟨rfl, rfl⟩, fun _ _ => rfl⟩
theorem k_pf.trans (h1 : k_pf k m m') (h2 : k_pf k m' m'') : k_pf k m m'' := ⟨h1.1.trans h2.1, fun j a b c => (h2.2.1 j a b c).trans (h1.2.1 j a b c), fun x hx => ⟨(h2.2.2.1 x hx).1.trans (h1.2.2.1 x hx).1, (h2.2.2.1 x hx).2.trans (h1.2.2.1 x hx).2⟩, fun j hj => (h2.2.2.2 j hj).trans (h1.2.2.2 j hj)⟩
theorem k_pf.f68 (hf : z_fr [68] m m') (hk : ∀ j, j ≠ 3 → j ≠ 4 → j ≠ 5 → z_I m' 68 j = z_I m 68 j) : k_pf k m m' := ⟨hf.mono (by simp), hk, fun x _ => ⟨hf.A (by decide), hf.A (by decide)⟩, fun j _ => hf.A (by decide)⟩
theorem k_bf.pf (hb : k_bf m m') : k_pf k m m' := k_pf.f68 hb.1 (fun j a b _ => hb.2 j a b)
theorem k_lf.pf (hb : k_lf m m') : k_pf k m m' := hb.bf.pf
theorem k_lc.refl : k_lc g g := ⟨z_fr.refl, rfl⟩
theorem k_lc.trans (h1 : k_lc g g') (h2 : k_lc g' g'') : k_lc g g'' := ⟨h1.1.trans h2.1, h2.2.trans h1.2⟩
theorem k_lc.f16 (hf : z_fr [16] g g') : k_lc g g' := ⟨hf.mono (by simp), hf.I (by decide)⟩
theorem k_cE.f16 (hf : z_fr [16] g g') (hE : k_cE g L) : k_cE g' L := by
  obtain ⟨a, b, bt, c, d⟩ := hE
  exact ⟨(hf.I (by decide)).trans a, fun i o e => (hf.A (by decide)).trans (b i o e), bt, (hf.I (by decide)).trans c, d⟩
theorem k_mE.f68 (hf : z_fr [68] m m') (hE : k_mE m k R) : k_mE m' k R := ⟨(hf.A (by decide)).trans hE.1, fun i o e => ⟨(hf.A (by decide)).trans (hE.2 i o e).1, (hf.A (by decide)).trans (hE.2 i o e).2⟩⟩
theorem k_ok.ef (hf : z_fr [26, 27] g g') (hk : k_ok g B l p) : k_ok g' B l p := hk.fr hf (by decide) (by decide) (by decide)
theorem k_no.ef (hf : z_fr [26, 27] g g') (hk : k_no g B l p) : k_no g' B l p := hk.fr hf (by decide) (by decide) (by decide)
theorem k_app_get {L : List q_O} {o o' : q_O} {i : Nat} (e : (L ++ [o])[i]? = some o') : L[i]? = some o' ∨ (i = L.length ∧ o' = o) := by
  by_cases hi : i < L.length
  · rw [List.getElem?_append_left hi] at e; exact .inl e
  · rw [List.getElem?_append_right (by omega)] at e
    have : i - L.length < 1 := by
      have := (List.getElem?_eq_some_iff.mp e).1
      simpa using this
    have h0 : i = L.length := by omega
    subst h0
    rw [Nat.sub_self] at e
    exact .inr ⟨rfl, (Option.some.inj e).symm⟩
/-- the class: a step whatever it is -/
theorem z_emitN (hS : z_Sh g) : ∃ g', s_Law_emit g (some 26) x y = some g' ∧ (z_fr [26, 27] g g' ∧ (¬ x = (12 : Int32) → ¬ x = (13 : Int32) → z_I g' 26 3 = z_I g 26 3)) := by
  have A : ∀ g, z_Sh g → ∃ g', ((f_gR g (some 26) 1 0).bind fun x31 => (f_gI g (some 26) 1 2).bind fun x35 => (s_Rows_put g x31 x35 ((x * (10000 : Int32)) + y)).bind fun h45 => (f_gI h45 (some 26) 1 2).bind fun x50 => (f_gR h45 (some 26) 1 0).bind fun x56 => (f_lnI h45 x56).bind fun x59 => (f_pI h45 (some 26) 1 2 (fw_min (x50 + (1 : Int32)) x59)).bind fun h63 => if ¬ x = (13 : Int32) then (some h63) else (f_gI h63 (some 26) 1 3).bind fun x73 => if x73 = (-1 : Int32) then (some h63) else (f_gR h63 (some 26) 1 0).bind fun x81 => (f_gI h63 (some 26) 1 3).bind fun x85 => (f_gI h63 (some 26) 1 2).bind fun x91 => (s_Rows_put h63 x81 x85 ((120000 : Int32) + x91)).bind fun h95 => (f_pI h95 (some 26) 1 3 (-1 : Int32)).bind fun h100 => some h100) = some g' ∧ (z_fr [26, 27] g g' ∧ (¬ x = (13 : Int32) → z_I g' 26 3 = z_I g 26 3)) := by
    intro g hS
    rw [z_r26_0 hS, Option.bind_some, z_i26_2 hS, Option.bind_some]
    obtain ⟨g1, a1, a2⟩ := z_rputx (h := g) (a := 27) (n := 240) (z_ckT hS rfl) (by decide) (z_I g 26 2) ((x * (10000 : Int32)) + y)
    have S1 := hS.fr a2 (by decide)
    rw [a1, Option.bind_some, z_i26_2 S1, Option.bind_some, z_r26_0 S1, Option.bind_some, z_l27 S1, Option.bind_some, z_w26_2 S1, Option.bind_some]
    obtain ⟨g2, hg2⟩ : ∃ g2, g2 = z_sI g1 26 2 (fw_min (z_I g1 26 2 + (1 : Int32)) (nI 240)) := ⟨_, rfl⟩
    have S2 : z_Sh g2 := by rw [hg2]; exact z_Sh_sI S1
    have f2 : z_fr [26, 27] g g2 := by rw [hg2]; exact (a2.mono (by simp)).sI (by simp)
    rw [← hg2]
    by_cases e13 : x = (13 : Int32)
    · rw [if_neg (fun z => z e13), z_i26_3 S2, Option.bind_some]
      by_cases e3 : z_I g2 26 3 = (-1 : Int32)
      · rw [if_pos e3]; exact ⟨g2, rfl, f2, fun z => absurd e13 z⟩
      · obtain ⟨g3, b1, b2⟩ := z_rputx (h := g2) (a := 27) (n := 240) (z_ckT S2 rfl) (by decide) (z_I g2 26 3) ((120000 : Int32) + z_I g2 26 2)
        have S3 := S2.fr b2 (by decide)
        rw [if_neg e3, z_r26_0 S2, Option.bind_some, Option.bind_some, z_i26_2 S2, Option.bind_some, b1, Option.bind_some, z_w26_3 S3, Option.bind_some]
        exact ⟨_, rfl, (f2.trans (b2.mono (by simp))).sI (by simp), fun z => absurd e13 z⟩
    · rw [if_pos e13]; exact ⟨g2, rfl, f2, fun _ => by rw [hg2, z_I_sI_nk (by decide), a2.I (by decide)]⟩
  unfold s_Law_emit
  rw [z_c26 hS, Option.bind_some, k_jn2]
  have A2 : ∀ g, z_Sh g → ∃ g', (if ¬ x = (1 : Int32) then ((f_gR g (some 26) 1 0).bind fun x31 => (f_gI g (some 26) 1 2).bind fun x35 => (s_Rows_put g x31 x35 ((x * (10000 : Int32)) + y)).bind fun h45 => (f_gI h45 (some 26) 1 2).bind fun x50 => (f_gR h45 (some 26) 1 0).bind fun x56 => (f_lnI h45 x56).bind fun x59 => (f_pI h45 (some 26) 1 2 (fw_min (x50 + (1 : Int32)) x59)).bind fun h63 => if ¬ x = (13 : Int32) then (some h63) else (f_gI h63 (some 26) 1 3).bind fun x73 => if x73 = (-1 : Int32) then (some h63) else (f_gR h63 (some 26) 1 0).bind fun x81 => (f_gI h63 (some 26) 1 3).bind fun x85 => (f_gI h63 (some 26) 1 2).bind fun x91 => (s_Rows_put h63 x81 x85 ((120000 : Int32) + x91)).bind fun h95 => (f_pI h95 (some 26) 1 3 (-1 : Int32)).bind fun h100 => some h100) else if ¬ y = (7 : Int32) then ((f_gR g (some 26) 1 0).bind fun x31 => (f_gI g (some 26) 1 2).bind fun x35 => (s_Rows_put g x31 x35 ((x * (10000 : Int32)) + y)).bind fun h45 => (f_gI h45 (some 26) 1 2).bind fun x50 => (f_gR h45 (some 26) 1 0).bind fun x56 => (f_lnI h45 x56).bind fun x59 => (f_pI h45 (some 26) 1 2 (fw_min (x50 + (1 : Int32)) x59)).bind fun h63 => if ¬ x = (13 : Int32) then (some h63) else (f_gI h63 (some 26) 1 3).bind fun x73 => if x73 = (-1 : Int32) then (some h63) else (f_gR h63 (some 26) 1 0).bind fun x81 => (f_gI h63 (some 26) 1 3).bind fun x85 => (f_gI h63 (some 26) 1 2).bind fun x91 => (s_Rows_put h63 x81 x85 ((120000 : Int32) + x91)).bind fun h95 => (f_pI h95 (some 26) 1 3 (-1 : Int32)).bind fun h100 => some h100) else (f_pB g (some 26) 1 4 true).bind fun h27 => (f_gR h27 (some 26) 1 0).bind fun x31 => (f_gI h27 (some 26) 1 2).bind fun x35 => (s_Rows_put h27 x31 x35 ((x * (10000 : Int32)) + y)).bind fun h45 => (f_gI h45 (some 26) 1 2).bind fun x50 => (f_gR h45 (some 26) 1 0).bind fun x56 => (f_lnI h45 x56).bind fun x59 => (f_pI h45 (some 26) 1 2 (fw_min (x50 + (1 : Int32)) x59)).bind fun h63 => if ¬ x = (13 : Int32) then (some h63) else (f_gI h63 (some 26) 1 3).bind fun x73 => if x73 = (-1 : Int32) then (some h63) else (f_gR h63 (some 26) 1 0).bind fun x81 => (f_gI h63 (some 26) 1 3).bind fun x85 => (f_gI h63 (some 26) 1 2).bind fun x91 => (s_Rows_put h63 x81 x85 ((120000 : Int32) + x91)).bind fun h95 => (f_pI h95 (some 26) 1 3 (-1 : Int32)).bind fun h100 => some h100) = some g' ∧ (z_fr [26, 27] g g' ∧ (¬ x = (13 : Int32) → z_I g' 26 3 = z_I g 26 3)) := by
    intro g hS
    by_cases e1 : x = (1 : Int32)
    · rw [if_neg (fun z => z e1)]
      by_cases e7 : y = (7 : Int32)
      · rw [if_neg (fun z => z e7), z_pBS hS rfl, Option.bind_some]
        obtain ⟨g', a1, a2, a3⟩ := A _ (z_Sh_sI (a := 26) (k := 4) (v := fw_b true) hS)
        exact ⟨g', a1, (z_fr.refl.sI (by simp)).trans a2, fun z => (a3 z).trans (z_I_sI_nk (by decide))⟩
      · rw [if_pos e7]; exact A g hS
    · rw [if_pos e1]; exact A g hS
  by_cases e12 : x = (12 : Int32)
  · rw [if_neg (fun z => z e12), z_i26_2 hS, Option.bind_some, z_w26_3 hS, Option.bind_some]
    dsimp only
    rw [k_jn2]
    obtain ⟨g', a1, a2, -⟩ := A2 _ (z_Sh_sI (a := 26) (k := 3) (v := z_I g 26 2) hS)
    exact ⟨g', a1, (z_fr.refl.sI (by simp)).trans a2, fun z => absurd e12 z⟩
  · rw [if_pos e12]
    dsimp only
    rw [k_jn2]
    obtain ⟨g', a1, a2, a3⟩ := A2 g hS
    exact ⟨g', a1, a2, fun _ => a3⟩
/-- the class: a step of a good law -/
theorem z_emit (hS : z_Sh g) (hE : k_cE g L) (hL : L.length < 240) (h1 : o.1 < 12) (h2 : o.2 < 10000) : ∃ g', s_Law_emit g (some 26) (nI o.1) (nI o.2) = some g' ∧ (z_fr [26, 27] g g' ∧ z_I g' 26 3 = z_I g 26 3 ∧ k_cE g' (L ++ [o])) := by
  obtain ⟨c1, c2, bt, c3, c4⟩ := hE
  have n12 : ¬ nI o.1 = (12 : Int32) := fun z => by have := (nI_eq (b := 12) (by omega) (by decide)).mp z; omega
  have n13 : ¬ nI o.1 = (13 : Int32) := fun z => by have := (nI_eq (b := 13) (by omega) (by decide)).mp z; omega
  have ev : nI o.1 * (10000 : Int32) + nI o.2 = q_sv o := by
    unfold q_sv
    rw [show (10000 : Int32) = nI 10000 from rfl, pk_mul, nI_add]
  -- behind the note on the time
  have A : ∀ (g1 : fw_H) (b1 : Bool), z_fr [26] g g1 → z_I g1 26 2 = nI L.length → z_I g1 26 3 = z_I g 26 3 → z_I g1 26 4 = fw_b b1 → (b1 = false → bt = false ∧ o ≠ (1, 7)) → ∃ g', ((f_gR g1 (some 26) 1 0).bind fun x31 => (f_gI g1 (some 26) 1 2).bind fun x35 => (s_Rows_put g1 x31 x35 ((nI o.1 * (10000 : Int32)) + nI o.2)).bind fun h45 => (f_gI h45 (some 26) 1 2).bind fun x50 => (f_gR h45 (some 26) 1 0).bind fun x56 => (f_lnI h45 x56).bind fun x59 => (f_pI h45 (some 26) 1 2 (fw_min (x50 + (1 : Int32)) x59)).bind fun h63 => if ¬ nI o.1 = (13 : Int32) then (some h63) else (f_gI h63 (some 26) 1 3).bind fun x73 => if x73 = (-1 : Int32) then (some h63) else (f_gR h63 (some 26) 1 0).bind fun x81 => (f_gI h63 (some 26) 1 3).bind fun x85 => (f_gI h63 (some 26) 1 2).bind fun x91 => (s_Rows_put h63 x81 x85 ((120000 : Int32) + x91)).bind fun h95 => (f_pI h95 (some 26) 1 3 (-1 : Int32)).bind fun h100 => some h100) = some g' ∧ (z_fr [26, 27] g g' ∧ z_I g' 26 3 = z_I g 26 3 ∧ k_cE g' (L ++ [o])) := by
    intro g1 b1 f1 i2 i3 i4 hb
    have S1 := hS.fr f1 (by decide)
    have ck := z_ckT (a := 27) S1 rfl
    obtain ⟨g2, hg2⟩ : ∃ g2, g2 = z_sA g1 27 L.length (q_sv o) := ⟨_, rfl⟩
    have S2 : z_Sh g2 := by rw [hg2]; exact z_Sh_sA S1
    have j2 : ∀ k, z_I g2 26 k = z_I g1 26 k := fun k => by rw [hg2, z_I_sA]
    rw [z_r26_0 S1, Option.bind_some, z_i26_2 S1, Option.bind_some, i2, ev, z_rput ck hL (by decide), Option.bind_some, ← hg2, z_i26_2 S2, Option.bind_some, z_r26_0 S2, Option.bind_some, z_l27 S2, Option.bind_some, j2, i2, nI_1, z_min (by omega) (by decide), z_w26_2 S2, Option.bind_some, if_pos n13, show min (L.length + 1) 240 = L.length + 1 by omega]
    refine ⟨_, rfl, ?_, ?_, ?_, fun i o' e => ?_, b1, ?_, fun hf o' ho' => ?_⟩
    · rw [hg2]; exact ((f1.mono (by simp)).sA (by simp)).sI (by simp)
    · rw [z_I_sI_nk (by decide), j2, i3]
    · rw [z_II S2 1 rfl, List.length_append]; rfl
    · rw [z_A_sI, hg2, z_A_sA ck]
      rcases k_app_get e with e | ⟨rfl, rfl⟩
      · have := (List.getElem?_eq_some_iff.mp e).1
        rw [if_neg (by omega), f1.A (by decide)]
        exact c2 i o' e
      · rw [if_pos rfl]
    · rw [z_I_sI_nk (by decide), j2, i4]
    · obtain ⟨hf1, hf2⟩ := hb hf
      rcases List.mem_append.mp ho' with z | z
      · exact c4 hf1 o' z
      · rw [List.mem_singleton.mp z]; exact hf2
  unfold s_Law_emit
  rw [z_c26 hS, Option.bind_some, k_jn2, if_pos n12]
  dsimp only
  rw [k_jn2]
  by_cases e1 : o.1 = 1
  · have n1 : ¬ ¬ nI o.1 = (1 : Int32) := fun z => z (by rw [e1]; rfl)
    rw [if_neg n1]
    by_cases e7 : o.2 = 7
    · have n7 : ¬ ¬ nI o.2 = (7 : Int32) := fun z => z (by rw [e7]; rfl)
      rw [if_neg n7, z_pBS hS rfl, Option.bind_some]
      exact A _ true (z_fr.refl.sI (by simp)) ((z_I_sI_nk (by decide)).trans c1) (z_I_sI_nk (by decide)) (z_II hS 1 rfl) (fun z => Bool.noConfusion z)
    · have n7 : ¬ nI o.2 = (7 : Int32) := fun z => e7 ((nI_eq (b := 7) (by omega) (by decide)).mp z)
      rw [if_pos n7]
      exact A g bt z_fr.refl c1 rfl c3 (fun z => ⟨z, fun w => e7 (by rw [w])⟩)
  · have n1 : ¬ nI o.1 = (1 : Int32) := fun z => e1 ((nI_eq (b := 1) (by omega) (by decide)).mp z)
    rw [if_pos n1]
    exact A g bt z_fr.refl c1 rfl c3 (fun z => ⟨z, fun w => e1 (by rw [w])⟩)
/-- the reference: a step -/
theorem z_mput (hS : z_Sh m) (hk : k < 5) (h14 : z_I m 68 14 = nI k) (hE : k_mE m k R) (hR : R.length < 520) : ∃ m', s_Mod_put m (some 68) (nI (q_mk o.1)) (nI o.2) = some m' ∧ (k_pf k m m' ∧ (∀ j, z_I m' 68 j = z_I m 68 j) ∧ k_mE m' k (R ++ [o])) := by
  obtain ⟨c1, c2⟩ := hE
  have e520 : (520 : Int32) * nI k + nI R.length = nI (520 * k + R.length) := by rw [show (520 : Int32) = nI 520 from rfl, pk_mul, nI_add]
  obtain ⟨m1, hm1⟩ : ∃ m1, m1 = z_sA m 70 (520 * k + R.length) (nI (q_mk o.1)) := ⟨_, rfl⟩
  obtain ⟨m2, hm2⟩ : ∃ m2, m2 = z_sA m1 71 (520 * k + R.length) (nI o.2) := ⟨_, rfl⟩
  have f1 : z_fr [70] m m1 := by rw [hm1]; exact z_fr.refl.sA (by simp)
  have f2 : z_fr [71] m1 m2 := by rw [hm2]; exact z_fr.refl.sA (by simp)
  have S1 := hS.fr f1 (by decide)
  have S2 := S1.fr f2 (by decide)
  have ck0 := z_ckT (a := 70) hS rfl
  have ck1 := z_ckT (a := 71) S1 rfl
  have ck2 := z_ckT (a := 72) S2 rfl
  unfold s_Mod_put
  rw [z_c68 hS, Option.bind_some, z_r68_6 hS, Option.bind_some, z_i68_14 hS, Option.bind_some, z_r68_8 hS, Option.bind_some, Option.bind_some, h14, z_a72 hS hk, Option.bind_some, c1, e520, z_s70 hS (by omega), Option.bind_some, ← hm1, z_r68_7 S1, Option.bind_some, z_i68_14 S1, Option.bind_some, z_r68_8 S1, Option.bind_some, Option.bind_some, f1.I (by decide), h14, z_a72 S1 hk, Option.bind_some, f1.A (by decide), c1, e520, z_s71 S1 (by omega), Option.bind_some, ← hm2, z_r68_8 S2, Option.bind_some, z_i68_14 S2, Option.bind_some, f2.I (by decide), f1.I (by decide), h14, z_a72 S2 hk, Option.bind_some, f2.A (by decide), f1.A (by decide), c1, nI_1, z_s72 S2 hk, Option.bind_some]
  refine ⟨_, rfl, ⟨((f1.mono (by simp)).trans (f2.mono (by simp))).sA (by simp), fun j _ _ _ => ?_, fun x hx => ⟨?_, ?_⟩, fun j hj => ?_⟩, fun j => ?_, ?_, fun i o' e => ?_⟩
  · rw [z_I_sA, f2.I (by decide), f1.I (by decide)]
  · rw [z_A_sA_ne (by decide), f2.A (by decide), hm1, z_A_sA ck0, if_neg (by omega)]
  · rw [z_A_sA_ne (by decide), hm2, z_A_sA ck1, if_neg (by omega), f1.A (by decide)]
  · rw [z_A_sA ck2, if_neg hj, f2.A (by decide), f1.A (by decide)]
  · rw [z_I_sA, f2.I (by decide), f1.I (by decide)]
  · rw [z_A_sA ck2, if_pos rfl, List.length_append]; rfl
  · rcases k_app_get e with e | ⟨rfl, rfl⟩
    · have := (List.getElem?_eq_some_iff.mp e).1
      refine ⟨?_, ?_⟩
      · rw [z_A_sA_ne (by decide), f2.A (by decide), hm1, z_A_sA ck0, if_neg (by omega)]
        exact (c2 i o' e).1
      · rw [z_A_sA_ne (by decide), hm2, z_A_sA ck1, if_neg (by omega), f1.A (by decide)]
        exact (c2 i o' e).2
    · refine ⟨?_, ?_⟩
      · rw [z_A_sA_ne (by decide), f2.A (by decide), hm1, z_A_sA ck0, if_pos rfl]
      · rw [z_A_sA_ne (by decide), hm2, z_A_sA ck1, if_pos rfl]
theorem k_let : (∀ c, c < 256 → s_Mod_letterOf (nI c) = some (g_on (k_it 3 c) (-1))) ∧ s_Mod_letterOf (-1) = some (-1) ∧ k_it 3 0 = none ∧ k_it 3 91 = none ∧ (∀ c, c < 256 → 48 ≤ c → c ≤ 57 → k_it 3 c = none) ∧ ∀ c, c < 256 → ∀ j, k_it 3 c = some j → j < 8 := by decide +kernel
theorem z_letterOf (hBB : ∀ i, i < l → 1 ≤ B i ∧ B i < 256) : s_Mod_letterOf (k_g B l q) = some (g_on (k_it 3 (k_b B l q)) (-1)) := by
  unfold k_g k_b
  by_cases e : q < l
  · rw [if_pos e, if_pos e]; exact k_let.1 _ (hBB q e).2
  · rw [if_neg e, if_neg e, k_let.2.2.1]; exact k_let.2.1
/-- a law's number, the reference -/
theorem z_plainL {K : Int32 → fw_H → Option (Int32 × fw_H)} : ∀ (d i nn v p : Nat) (m : fw_H), i + d = 4 → d < nn → k_mo m B l p → ∃ m', l_Mod_plainNumber_4 (some 68) K nn (nI v) (nI i) m = K (nI (k_dg B l d v p).1) m' ∧ (k_lf m m' ∧ k_mo m' B l (k_dg B l d v p).2) := by
  intro d
  induction d with
  | zero =>
    intro i nn v p m hi hnn hk
    obtain ⟨nn, rfl⟩ : ∃ k, nn = k + 1 := ⟨nn - 1, by omega⟩
    exact ⟨m, by rw [l_Mod_plainNumber_4, if_pos (show (4 : Int32) ≤ nI i from nI_le (a := 4) (by omega) (by omega))]; rfl, k_lf.refl, hk⟩
  | succ d ih =>
    intro i nn v p m hi hnn hk
    obtain ⟨nn, rfl⟩ : ∃ k, nn = k + 1 := ⟨nn - 1, by omega⟩
    have hl := hk.1.2.1
    rw [l_Mod_plainNumber_4, if_neg (show ¬ (4 : Int32) ≤ nI i from nI_ge (a := i) (b := 4) (by omega) (by decide)), z_mhere hk, Option.bind_some, (k_dig hk.1.2.2.2.1).2, Option.bind_some]
    by_cases e : k_d B l p = true
    · obtain ⟨e1, e2, e3⟩ := k_d_t e
      have e4 : k_dg B l (d + 1) v p = k_dg B l d (v * 10 + B p - 48) (p + 1) := if_pos e
      have e5 : (10 : Int32) * nI v + k_g B l p - (48 : Int32) = nI (v * 10 + B p - 48) := by
        unfold k_g
        rw [if_pos e1, show (10 : Int32) = nI 10 from rfl, pk_mul, nI_add, Nat.mul_comm]
        exact pk_sub (b := 48) (by omega)
      rw [if_pos e, Option.bind_some, z_i68_3 hk.1.1, Option.bind_some, hk.2.2.1, nI_1, z_w68_3 hk.1.1, Option.bind_some, e5, nI_1, e4]
      obtain ⟨g2, b1, b2, b3⟩ := ih (i + 1) nn (v * 10 + B p - 48) (p + 1) _ (by omega) (by omega) (hk.to (q := p + 1) (by omega))
      exact ⟨g2, b1, k_lf.s3.trans b2, b3⟩
    · have e4 : k_dg B l (d + 1) v p = (v, p) := if_neg e
      rw [if_neg e, e4]
      exact ⟨m, rfl, k_lf.refl, hk⟩
theorem z_plain (hF : 70000 ≤ F) (hk : k_mo m B l p) (e : k_d B l p = true) : ∃ m' v, s_Mod_plainNumber F m (some 68) = some (v, m') ∧ (k_bf m m' ∧ match k_nu B l 4 9999 p with
    | .inl q => k_mn m' B l q ∧ ∃ w, w < 10000 ∧ v = nI w
    | .inr (w, p') => (v = nI w ∧ w < 10000) ∧ k_mo m' B l p') := by
  have hl := hk.1.2.1
  unfold s_Mod_plainNumber k_nu
  rw [z_c68 hk.1.1, Option.bind_some, if_pos e]
  obtain ⟨m1, a1, a2, a3⟩ := z_plainL (B := B) (l := l) (K := fun e48_1 he48 => (s_Mod_here he48 (some 68)).bind fun x49 => (s_Mod_isDigit x49).bind fun x52 => if x52 = true then ((s_Mod_bad he48 (some 68)).bind fun h59 => some (e48_1, h59)) else some (e48_1, he48)) 4 0 F 0 p m (by omega) (by omega) hk
  have h10 := k_dg_10 (B := B) (l := l) (p := p) (D := 4) (by omega)
  obtain ⟨W, hW⟩ : ∃ W, W = k_dg B l 4 0 p := ⟨_, rfl⟩
  rw [← hW] at a1 a3 h10 ⊢
  have fin : ∃ m' v, ((s_Mod_here m1 (some 68)).bind fun x49 => (s_Mod_isDigit x49).bind fun x52 => if x52 = true then ((s_Mod_bad m1 (some 68)).bind fun h59 => some (nI W.1, h59)) else some (nI W.1, m1)) = some (v, m') ∧ (k_bf m m' ∧ match (if k_d B l W.2 = true then .inl W.2 else if 9999 < W.1 then .inl (W.2 - 1) else .inr W : k_r Nat) with
    | .inl q => k_mn m' B l q ∧ ∃ w, w < 10000 ∧ v = nI w
    | .inr (w, p') => (v = nI w ∧ w < 10000) ∧ k_mo m' B l p') := by
    rw [z_mhere a3, Option.bind_some, (k_dig hk.1.2.2.2.1).2, Option.bind_some]
    by_cases e2 : k_d B l W.2 = true
    · rw [if_pos e2, if_pos e2]
      obtain ⟨m2, b1, b2, b3, -⟩ := z_bad a3
      rw [b1, Option.bind_some]
      exact ⟨m2, nI W.1, rfl, a2.bf.trans b2, b3, W.1, h10, rfl⟩
    · rw [if_neg e2, if_neg e2, if_neg (by omega)]
      exact ⟨m1, nI W.1, rfl, a2.bf, ⟨rfl, h10⟩, a3⟩
  obtain ⟨m', v, c1, c2⟩ := fin
  exact ⟨m', v, a1.trans c1, c2⟩
end EM
