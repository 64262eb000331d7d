-- A LAW'S TEXT (4): the end of a clause
/-- the class, from the comparison on -/
def k_J100 (F : Nat) (j100_2 : Int32) (hj100 : fw_H) : Option fw_H := if j100_2 = (0 : Int32) then ((f_gR hj100 (some 25) 2 1).bind fun x129 => (s_Law_emit hj100 x129 (13 : Int32) (0 : Int32)).bind fun h135 => some h135) else (f_gR hj100 (some 25) 2 0).bind fun x105 => (s_Tape_expect F hj100 x105 (63 : Int32)).bind fun h110 => (f_gR h110 (some 25) 2 1).bind fun x114 => (s_Law_emit h110 x114 (12 : Int32) (0 : Int32)).bind fun h120 => (s_LText_sum F h120 (some 25) (0 : Int32)).bind fun h125 => (f_gR h125 (some 25) 2 1).bind fun x129 => (s_Law_emit h125 x129 (13 : Int32) (0 : Int32)).bind fun h135 => some h135
/-- the reference, from the comparison on -/
def k_J184 (F : Nat) (x4 x16 : Int32) (j184_2 : Int32) (hj184 : fw_H) : Option fw_H := (f_gR hj184 (some 68) 12 11).bind fun x185 => (f_gR hj184 (some 68) 12 10).bind fun x190 => (f_aI hj184 x190 (((140 : Int32) * x4) + x16)).bind fun x194 => (f_sI hj184 x185 (((140 : Int32) * x4) + x16) x194).bind fun h195 => if j184_2 = (0 : Int32) then ((f_gR h195 (some 68) 12 12).bind fun x252 => (f_gR h195 (some 68) 12 8).bind fun x257 => (f_gI h195 (some 68) 12 14).bind fun x261 => (f_aI h195 x257 x261).bind fun x264 => (f_sI h195 x252 (((140 : Int32) * x4) + x16) x264).bind fun h265 => (f_gR h265 (some 68) 12 9).bind fun x267 => (f_gI h265 (some 68) 12 14).bind fun x271 => (f_aI h265 x267 x271).bind fun x275 => (f_sI h265 x267 x271 (x275 + (1 : Int32))).bind fun h278 => some h278) else (f_gI h195 (some 68) 12 4).bind fun x201 => if ¬ x201 = (-1 : Int32) then ((f_gR h195 (some 68) 12 12).bind fun x252 => (f_gR h195 (some 68) 12 8).bind fun x257 => (f_gI h195 (some 68) 12 14).bind fun x261 => (f_aI h195 x257 x261).bind fun x264 => (f_sI h195 x252 (((140 : Int32) * x4) + x16) x264).bind fun h265 => (f_gR h265 (some 68) 12 9).bind fun x267 => (f_gI h265 (some 68) 12 14).bind fun x271 => (f_aI h265 x267 x271).bind fun x275 => (f_sI h265 x267 x271 (x275 + (1 : Int32))).bind fun h278 => some h278) else (s_Mod_look F h195 (some 68)).bind fun x209 => if x209.1 = (63 : Int32) then ((f_gI x209.2 (some 68) 12 3).bind fun x224 => (f_pI x209.2 (some 68) 12 3 (x224 + (1 : Int32))).bind fun h229 => (f_gR h229 (some 68) 12 11).bind fun x233 => (f_gR h229 (some 68) 12 8).bind fun x238 => (f_gI h229 (some 68) 12 14).bind fun x242 => (f_aI h229 x238 x242).bind fun x245 => (f_sI h229 x233 (((140 : Int32) * x4) + x16) x245).bind fun h246 => (s_Mod_sum F h246 (some 68)).bind fun h248 => (f_gR h248 (some 68) 12 12).bind fun x252 => (f_gR h248 (some 68) 12 8).bind fun x257 => (f_gI h248 (some 68) 12 14).bind fun x261 => (f_aI h248 x257 x261).bind fun x264 => (f_sI h248 x252 (((140 : Int32) * x4) + x16) x264).bind fun h265 => (f_gR h265 (some 68) 12 9).bind fun x267 => (f_gI h265 (some 68) 12 14).bind fun x271 => (f_aI h265 x267 x271).bind fun x275 => (f_sI h265 x267 x271 (x275 + (1 : Int32))).bind fun h278 => some h278) else (s_Mod_bad x209.2 (some 68)).bind fun h218 => some h218
def k_fin (x4 x16 : Int32) (g : fw_H) : Option fw_H := (f_gR g (some 68) 12 12).bind fun x252 => (f_gR g (some 68) 12 8).bind fun x257 => (f_gI g (some 68) 12 14).bind fun x261 => (f_aI g x257 x261).bind fun x264 => (f_sI g x252 (((140 : Int32) * x4) + x16) x264).bind fun h265 => (f_gR h265 (some 68) 12 9).bind fun x267 => (f_gI h265 (some 68) 12 14).bind fun x271 => (f_aI h265 x267 x271).bind fun x275 => (f_sI h265 x267 x271 (x275 + (1 : Int32))).bind fun h278 => some h278
def k_pg (k C : Nat) (m m' : fw_H) : Prop := z_fr [68, 70, 71, 72, 73, 74, 75, 76] m m' ∧ (∀ j, j ≠ 3 → j ≠ 4 → j ≠ 5 → z_I m' 68 j = z_I m 68 j) ∧ (∀ x, (x < 520 * k ∨ 520 * k + 520 ≤ x) → z_A m' 70 x = z_A m 70 x ∧ z_A m' 71 x = z_A m 71 x) ∧ (∀ j, j ≠ k → z_A m' 72 j = z_A m 72 j ∧ z_A m' 73 j = z_A m 73 j) ∧ ∀ x, x ≠ 140 * k + C → z_A m' 74 x = z_A m 74 x ∧ z_A m' 75 x = z_A m 75 x ∧ z_A m' 76 x = z_A m 76 x
section CL
variable {g g' g'' h m m' m'' : fw_H} {B : Nat → Nat} {l p p' q d D v mo i j k nn F c C n f r s : Nat} {x y : Int32} {As : List Nat} {L R N E0 R0 c1 c2 : List q_O} {o : q_O} {b : Bool}
theorem k_pg.trans (h1 : k_pg k C m m') (h2 : k_pg k C m' m'') : k_pg k C m m'' := ⟨h1.1.trans h2.1, fun j a b c => (h2.2.1 j a b c).trans (h1.2.1 j a b c), fun x hx => ⟨(h2.2.2.1 x hx).1.trans (h1.2.2.1 x hx).1, (h2.2.2.1 x hx).2.trans (h1.2.2.1 x hx).2⟩, fun j hj => ⟨(h2.2.2.2.1 j hj).1.trans (h1.2.2.2.1 j hj).1, (h2.2.2.2.1 j hj).2.trans (h1.2.2.2.1 j hj).2⟩, fun x hx => ⟨(h2.2.2.2.2 x hx).1.trans (h1.2.2.2.2 x hx).1, (h2.2.2.2.2 x hx).2.1.trans (h1.2.2.2.2 x hx).2.1, (h2.2.2.2.2 x hx).2.2.trans (h1.2.2.2.2 x hx).2.2⟩⟩
theorem k_pf.pg (h : k_pf k m m') : k_pg k C m m' := ⟨h.1.mono (by simp), h.2.1, h.2.2.1, fun j hj => ⟨h.2.2.2 j hj, h.1.A (by decide)⟩, fun x _ => ⟨h.1.A (by decide), h.1.A (by decide), h.1.A (by decide)⟩⟩
theorem k_pg.a73 (hf : z_fr [73] m m') (hj : ∀ j, j ≠ k → z_A m' 73 j = z_A m 73 j) : k_pg k C m m' := ⟨hf.mono (by simp), fun _ _ _ _ => hf.I (by decide), fun _ _ => ⟨hf.A (by decide), hf.A (by decide)⟩, fun j h => ⟨hf.A (by decide), hj j h⟩, fun _ _ => ⟨hf.A (by decide), hf.A (by decide), hf.A (by decide)⟩⟩
theorem k_pg.a74 (hf : z_fr [74, 75, 76] m m') (hx : ∀ x, x ≠ 140 * k + C → z_A m' 74 x = z_A m 74 x ∧ z_A m' 75 x = z_A m 75 x ∧ z_A m' 76 x = z_A m 76 x) : k_pg k C m m' := ⟨hf.mono (by simp), fun _ _ _ _ => hf.I (by decide), fun _ _ => ⟨hf.A (by decide), hf.A (by decide)⟩, fun j h => ⟨hf.A (by decide), hf.A (by decide)⟩, hx⟩
theorem k_mo.pgf (hf : z_fr [73, 74, 75, 76] m m') (hk : k_mo m B l p) : k_mo m' B l p := hk.fr hf (by decide) (by decide) (fun _ _ => hf.I (by decide))
theorem k_mn.pgf (hf : z_fr [73, 74, 75, 76] m m') (hk : k_mn m B l p) : k_mn m' B l p := hk.fr hf (by decide) (by decide) (fun _ _ => hf.I (by decide))
theorem k_mE.pgf (hf : z_fr [73, 74, 75, 76] m m') (hE : k_mE m k R) : k_mE m' k R := ⟨(hf.A (by decide)).trans hE.1, fun i o e => ⟨(hf.A (by decide)).trans (hE.2 i o e).1, (hf.A (by decide)).trans (hE.2 i o e).2⟩⟩
theorem k_140 : (140 : Int32) * nI k + nI C = nI (140 * k + C) := by rw [show (140 : Int32) = nI 140 from rfl, pk_mul, nI_add]
theorem z_fin (hS : z_Sh m) (hk : k < 5) (h14 : z_I m 68 14 = nI k) (hC : C < 140) (h73 : z_A m 73 k = nI C) : ∃ m', k_fin (nI k) (nI C) m = some m' ∧ (z_fr [73, 74, 75, 76] m m' ∧ k_pg k C m m' ∧ z_A m' 73 k = nI (C + 1) ∧ (∀ x, z_A m' 74 x = z_A m 74 x ∧ z_A m' 75 x = z_A m 75 x) ∧ z_A m' 76 (140 * k + C) = z_A m 72 k) := by
  obtain ⟨m1, hm1⟩ : ∃ m1, m1 = z_sA m 76 (140 * k + C) (z_A m 72 k) := ⟨_, rfl⟩
  have f1 : z_fr [76] m m1 := by rw [hm1]; exact z_fr.refl.sA (by simp)
  have S1 := hS.fr f1 (by decide)
  have ck := z_ckT (a := 76) hS rfl
  have ck3 := z_ckT (a := 73) S1 rfl
  unfold k_fin
  rw [z_r68_12 hS, Option.bind_some, z_r68_8 hS, Option.bind_some, z_i68_14 hS, Option.bind_some, h14, z_a72 hS hk, Option.bind_some, k_140, z_s76 hS (by omega), Option.bind_some, ← hm1, z_r68_9 S1, Option.bind_some, z_i68_14 S1, Option.bind_some, f1.I (by decide), h14, z_a73 S1 hk, Option.bind_some, f1.A (by decide), h73, nI_1, z_s73 S1 hk, Option.bind_some]
  refine ⟨_, rfl, (f1.mono (by simp)).sA (by simp), ?_, ?_, fun x => ⟨?_, ?_⟩, ?_⟩
  · refine (k_pg.a74 (f1.mono (by simp)) (fun x hx => ⟨f1.A (by decide), f1.A (by decide), ?_⟩)).trans (k_pg.a73 (z_fr.refl.sA (by simp)) (fun j hj => ?_))
    · rw [hm1, z_A_sA ck, if_neg hx]
    · rw [z_A_sA ck3, if_neg hj]
  · rw [z_A_sA ck3, if_pos rfl]
  · rw [z_A_sA_ne (by decide), f1.A (by decide)]
  · rw [z_A_sA_ne (by decide), f1.A (by decide)]
  · rw [z_A_sA_ne (by decide), hm1, z_A_sA ck, if_pos rfl]
/-- the note where the sum begins -/
theorem z_75 (hS : z_Sh m) (hk : k < 5) (hC : C < 140) : ∃ m', ((f_gR m (some 68) 12 11).bind fun x185 => (f_gR m (some 68) 12 10).bind fun x190 => (f_aI m x190 (((140 : Int32) * nI k) + nI C)).bind fun x194 => f_sI m x185 (((140 : Int32) * nI k) + nI C) x194) = some m' ∧ (m' = z_sA m 75 (140 * k + C) (z_A m 74 (140 * k + C)) ∧ z_fr [75] m m' ∧ k_pg k C m m') := by
  have ck := z_ckT (a := 75) hS rfl
  rw [z_r68_11 hS, Option.bind_some, z_r68_10 hS, Option.bind_some, k_140, z_a74 hS (by omega), Option.bind_some, z_s75 hS (by omega)]
  refine ⟨_, rfl, rfl, z_fr.refl.sA (by simp), k_pg.a74 (z_fr.refl.sA (by simp)) (fun x hx => ⟨z_A_sA_ne (by decide), ?_, z_A_sA_ne (by decide)⟩)⟩
  rw [z_A_sA ck, if_neg hx]
theorem k_J184_0 (hS : z_Sh m) (hk : k < 5) (hC : C < 140) : k_J184 F (nI k) (nI C) 0 m = k_fin (nI k) (nI C) (z_sA m 75 (140 * k + C) (z_A m 74 (140 * k + C))) := by
  unfold k_J184 k_fin
  rw [z_r68_11 hS, Option.bind_some, z_r68_10 hS, Option.bind_some, k_140, z_a74 hS (by omega), Option.bind_some, z_s75 hS (by omega), Option.bind_some, if_pos rfl]
theorem k_J184_N (hk : k_mn m B l q) (hk5 : k < 5) (hC : C < 140) : k_J184 F (nI k) (nI C) x m = k_fin (nI k) (nI C) (z_sA m 75 (140 * k + C) (z_A m 74 (140 * k + C))) := by
  have hS := hk.1.1
  have S1 : z_Sh (z_sA m 75 (140 * k + C) (z_A m 74 (140 * k + C))) := z_Sh_sA hS
  have n4 : ¬ z_I (z_sA m 75 (140 * k + C) (z_A m 74 (140 * k + C))) 68 4 = (-1 : Int32) := by rw [z_I_sA]; exact hk.ne
  unfold k_J184 k_fin
  rw [z_r68_11 hS, Option.bind_some, z_r68_10 hS, Option.bind_some, k_140, z_a74 hS (by omega), Option.bind_some, z_s75 hS (by omega), Option.bind_some]
  by_cases e : x = 0
  · rw [if_pos e]
  · rw [if_neg e, z_i68_4 S1, Option.bind_some, if_pos n4]
theorem z_J184_N (hk : k_mn m B l q) (hk5 : k < 5) (h14 : z_I m 68 14 = nI k) (hC : C < 140) (h73 : z_A m 73 k = nI C) : ∃ m', k_J184 F (nI k) (nI C) x m = some m' ∧ (k_pg k C m m' ∧ k_mn m' B l q) := by
  have hS := hk.1.1
  have ck := z_ckT (a := 75) hS rfl
  obtain ⟨m1, hm1⟩ : ∃ m1, m1 = z_sA m 75 (140 * k + C) (z_A m 74 (140 * k + C)) := ⟨_, rfl⟩
  have f1 : z_fr [75] m m1 := by rw [hm1]; exact z_fr.refl.sA (by simp)
  have p1 : k_pg k C m m1 := k_pg.a74 (f1.mono (by simp)) (fun x hx => ⟨f1.A (by decide), by rw [hm1, z_A_sA ck, if_neg hx], f1.A (by decide)⟩)
  obtain ⟨m2, a1, a2, a3, -⟩ := z_fin (hS.fr f1 (by decide)) hk5 ((f1.I (by decide)).trans h14) hC ((f1.A (by decide)).trans h73)
  exact ⟨m2, by rw [k_J184_N hk hk5 hC, ← hm1, a1], p1.trans a3, (hk.pgf (f1.mono (by simp))).pgf a2⟩
/-- steps of two kinds more, the class -/
theorem z_emit12 (hS : z_Sh g) (hE : k_cE g L) (hL : L.length < 240) : ∃ g', s_Law_emit g (some 26) 12 0 = some g' ∧ (z_fr [26, 27] g g' ∧ z_I g' 26 3 = nI L.length ∧ k_cE g' (L ++ [(12, 0)])) := by
  obtain ⟨c1, c2, bt, c3, c4⟩ := hE
  obtain ⟨g1, hg1⟩ : ∃ g1, g1 = z_sI g 26 3 (nI L.length) := ⟨_, rfl⟩
  have f1 : z_fr [26] g g1 := by rw [hg1]; exact z_fr.refl.sI (by simp)
  have S1 := hS.fr f1 (by decide)
  have ck := z_ckT (a := 27) S1 rfl
  have i2 : z_I g1 26 2 = nI L.length := by rw [hg1, z_I_sI_nk (by decide), c1]
  obtain ⟨g2, hg2⟩ : ∃ g2, g2 = z_sA g1 27 L.length (q_sv (12, 0)) := ⟨_, rfl⟩
  have S2 : z_Sh g2 := by rw [hg2]; exact z_Sh_sA S1
  have j2 : ∀ k, z_I g2 26 k = z_I g1 26 k := fun k => by rw [hg2, z_I_sA]
  have ev : (12 : Int32) * (10000 : Int32) + (0 : Int32) = q_sv (12, 0) := by decide
  have n12 : ¬ ¬ (12 : Int32) = (12 : Int32) := fun z => z rfl
  have n1 : ¬ (12 : Int32) = (1 : Int32) := by decide
  have n13 : ¬ (12 : Int32) = (13 : Int32) := by decide
  unfold s_Law_emit
  rw [z_c26 hS, Option.bind_some, k_jn2, if_neg n12, z_i26_2 hS, Option.bind_some, c1, z_w26_3 hS, Option.bind_some, ← hg1]
  show ∃ g', (fw_jn (fun (hj30 : fw_H) => _) fun J30 => _) = some g' ∧ _
  rw [k_jn2, if_pos n1]
  show ∃ g', ((f_gR g1 (some 26) 1 0).bind fun x31 => _) = some g' ∧ _
  rw [z_r26_0 S1, Option.bind_some, z_i26_2 S1, Option.bind_some, i2, ev, z_rput ck hL (by decide), Option.bind_some, ← hg2, z_i26_2 S2, Option.bind_some, z_r26_0 S2, Option.bind_some, z_l27 S2, Option.bind_some, j2, i2, nI_1, z_min (by omega) (by decide), z_w26_2 S2, Option.bind_some, if_pos n13, show min (L.length + 1) 240 = L.length + 1 by omega]
  refine ⟨_, rfl, ?_, ?_, ?_, fun i o' e => ?_, bt, ?_, fun hf o' ho' => ?_⟩
  · rw [hg2]; exact ((f1.mono (by simp)).sA (by simp)).sI (by simp)
  · rw [z_I_sI_nk (by decide), j2, hg1, z_II hS 1 rfl]
  · rw [z_II S2 1 rfl, List.length_append]; rfl
  · rw [z_A_sI, hg2, z_A_sA ck]
    rcases k_app_get e with e | ⟨rfl, rfl⟩
    · have := (List.getElem?_eq_some_iff.mp e).1
      rw [if_neg (by omega), f1.A (by decide)]
      exact c2 i o' e
    · rw [if_pos rfl]
  · rw [z_I_sI_nk (by decide), j2, hg1, z_I_sI_nk (by decide), c3]
  · rcases List.mem_append.mp ho' with z | z
    · exact c4 hf o' z
    · rw [List.mem_singleton.mp z]; intro w; cases w
theorem z_emit13 (hS : z_Sh g) (hE : k_cE g L) (hL : L.length < 240) (h3 : z_I g 26 3 = -1 ∨ ∃ s, s < L.length ∧ z_I g 26 3 = nI s) : ∃ g', s_Law_emit g (some 26) 13 0 = some g' ∧ (z_fr [26, 27] g g' ∧ z_I g' 26 3 = -1 ∧ k_cE g' (match (if z_I g 26 3 = -1 then none else some (z_I g 26 3).toNatClampNeg : Option Nat) with
    | none => L ++ [(13, 0)]
    | some s => (L ++ [(13, 0)]).set s (12, L.length + 1))) := by
  obtain ⟨c1, c2, bt, c3, c4⟩ := hE
  have ck := z_ckT (a := 27) hS rfl
  obtain ⟨g2, hg2⟩ : ∃ g2, g2 = z_sA g 27 L.length (q_sv (13, 0)) := ⟨_, rfl⟩
  have S2 : z_Sh g2 := by rw [hg2]; exact z_Sh_sA hS
  have j2 : ∀ k, z_I g2 26 k = z_I g 26 k := fun k => by rw [hg2, z_I_sA]
  obtain ⟨g3, hg3⟩ : ∃ g3, g3 = z_sI g2 26 2 (nI (L.length + 1)) := ⟨_, rfl⟩
  have S3 : z_Sh g3 := by rw [hg3]; exact z_Sh_sI S2
  have f3 : z_fr [26, 27] g g3 := by rw [hg3, hg2]; exact (z_fr.refl.sA (by simp)).sI (by simp)
  have ck3 := z_ckT (a := 27) S3 rfl
  have ev : (13 : Int32) * (10000 : Int32) + (0 : Int32) = q_sv (13, 0) := by decide
  have n12 : ¬ (13 : Int32) = (12 : Int32) := by decide
  have n1 : ¬ (13 : Int32) = (1 : Int32) := by decide
  have n13 : ¬ ¬ (13 : Int32) = (13 : Int32) := fun z => z rfl
  have i33 : z_I g3 26 3 = z_I g 26 3 := by rw [hg3, z_I_sI_nk (by decide), j2]
  have E3 : k_cE g3 (L ++ [(13, 0)]) := by
    refine ⟨?_, fun i o' e => ?_, bt, ?_, fun hf o' ho' => ?_⟩
    · rw [hg3, z_II S2 1 rfl, List.length_append]; rfl
    · rw [hg3, z_A_sI, hg2, z_A_sA ck]
      rcases k_app_get e with e | ⟨rfl, rfl⟩
      · have := (List.getElem?_eq_some_iff.mp e).1
        rw [if_neg (by omega)]
        exact c2 i o' e
      · rw [if_pos rfl]
    · rw [hg3, z_I_sI_nk (by decide), j2, c3]
    · rcases List.mem_append.mp ho' with z | z
      · exact c4 hf o' z
      · rw [List.mem_singleton.mp z]; intro w; cases w
  unfold s_Law_emit
  rw [z_c26 hS, Option.bind_some, k_jn2, if_pos n12]
  show ∃ g', (fw_jn (fun (hj30 : fw_H) => _) fun J30 => _) = some g' ∧ _
  rw [k_jn2, if_pos n1]
  show ∃ g', ((f_gR g (some 26) 1 0).bind fun x31 => _) = some g' ∧ _
  rw [z_r26_0 hS, Option.bind_some, z_i26_2 hS, Option.bind_some, c1, ev, z_rput ck hL (by decide), Option.bind_some, ← hg2, z_i26_2 S2, Option.bind_some, z_r26_0 S2, Option.bind_some, z_l27 S2, Option.bind_some, j2, c1, nI_1, z_min (by omega) (by decide), show min (L.length + 1) 240 = L.length + 1 by omega, z_w26_2 S2, Option.bind_some, ← hg3, if_neg n13, z_i26_3 S3, Option.bind_some, i33]
  rcases h3 with h3 | ⟨s, hs, h3⟩
  · rw [if_pos h3, if_pos h3]
    exact ⟨g3, rfl, f3, i33.trans h3, E3⟩
  · have nm : ¬ z_I g 26 3 = (-1 : Int32) := by rw [h3]; exact nI_ne_m1 (by omega)
    rw [if_neg nm, if_neg nm, z_r26_0 S3, Option.bind_some, Option.bind_some, z_i26_2 S3, Option.bind_some, h3, z_rput ck3 (by omega) (by decide), Option.bind_some, z_w26_3 (z_Sh_sA S3), Option.bind_some, nI_clamp (by omega)]
    obtain ⟨e1, e2, bt3, e3, e4⟩ := E3
    have v120 : (120000 : Int32) + z_I g3 26 2 = q_sv (12, L.length + 1) := by
      rw [hg3, z_II S2 1 rfl, show (120000 : Int32) = nI 120000 from rfl, nI_add]
      unfold q_sv
      exact congrArg nI (by show 120000 + (L.length + 1) = 12 * 10000 + (L.length + 1); omega)
    refine ⟨_, rfl, (f3.sA (by simp)).sI (by simp), z_II (z_Sh_sA S3) 1 rfl, ?_, fun i o' e => ?_, bt3, ?_, fun hf o' ho' => ?_⟩
    · rw [z_I_sI_nk (by decide), z_I_sA, List.length_set]; exact e1
    · rw [z_A_sI, z_A_sA ck3, v120]
      rw [List.getElem?_set] at e
      by_cases hi : s = i
      · rw [if_pos hi] at e
        have : s < (L ++ [((13 : Nat), (0 : Nat))]).length := by rw [List.length_append]; omega
        rw [if_pos this] at e
        rw [if_pos hi.symm, ← Option.some.inj e]
      · rw [if_neg hi] at e
        rw [if_neg (fun z => hi z.symm)]
        exact e2 i o' e
    · rw [z_I_sI_nk (by decide), z_I_sA]; exact e3
    · rcases List.mem_or_eq_of_mem_set ho' with z | z
      · exact e4 hf o' z
      · rw [z]; intro w; cases w
/-- the class behind a fault -/
theorem z_J100_N (hF : 70000 ≤ F) (hk : k_no g B l q) : ∃ g', k_J100 F x g = some g' ∧ (z_fr [16, 26, 27] g g' ∧ k_no g' B l q) := by
  unfold k_J100
  have e13 : ∀ g, k_no g B l q → ∃ g', ((f_gR g (some 25) 2 1).bind fun x129 => (s_Law_emit g x129 (13 : Int32) (0 : Int32)).bind fun h135 => some h135) = some g' ∧ (z_fr [26, 27] g g' ∧ k_no g' B l q) := by
    intro g hk
    obtain ⟨g1, a1, a2, -⟩ := z_emitN (x := (13 : Int32)) (y := (0 : Int32)) hk.1.1
    exact ⟨g1, by rw [z_r25_1 hk.1.1, Option.bind_some, a1, Option.bind_some], a2, hk.ef a2⟩
  by_cases e : x = 0
  · rw [if_pos e]
    obtain ⟨g1, a1, a2, a3⟩ := e13 g hk
    exact ⟨g1, a1, a2.mono (by simp), a3⟩
  · have ex : s_Tape_expect F g (some 16) (63 : Int32) = some g := z_expectN (c := 63) hk (by decide) (by decide)
    obtain ⟨g1, a1, a2, -⟩ := z_emitN (x := (12 : Int32)) (y := (0 : Int32)) hk.1.1
    have k1 := hk.ef a2
    obtain ⟨g2, b1, b2, -, b3⟩ := z_sumSN (F := F) (x := (0 : Int32)) hF k1
    obtain ⟨g3, c1, c2, c3⟩ := e13 g2 b3
    rw [if_neg e, z_r25_0 hk.1.1, Option.bind_some, ex, Option.bind_some, z_r25_1 hk.1.1, Option.bind_some, a1, Option.bind_some, b1, Option.bind_some]
    exact ⟨g3, c1, ((a2.trans b2).trans c2).mono (by simp), c3⟩
theorem k_set_app {A Z : List q_O} {u w : q_O} : (A ++ u :: Z).set A.length w = A ++ w :: Z := by
  rw [List.set_append_right _ _ (Nat.le_refl _), Nat.sub_self]
  rfl
/-- a clause with a condition, from the sign ? on -/
theorem z_J1 (hF : 70000 ≤ F) (hk5 : k < 5) (hC : C < 140) (hk : k_ok g B l p) (hm : k_mo m B l p) (h5 : z_I m 68 5 = nI 0) (h14 : z_I m 68 14 = nI k) (hL : k_cE g L) (hR : k_mE m k R) (hLl : L.length + 2 ≤ p) (hRl : R.length ≤ p) (h73 : z_A m 73 k = nI C) :
    ∃ g' m', k_J100 F 1 g = some g' ∧ k_J184 F (nI k) (nI C) 1 m = some m' ∧ (z_fr [16, 26, 27] g g' ∧ k_pg k C m m' ∧ ((∃ p' c2, p + c2.length + 1 ≤ p' ∧ p + 2 ≤ p' ∧ k_ok g' B l p' ∧ k_mo m' B l p' ∧ z_I m' 68 5 = nI 0 ∧ z_I g' 26 3 = -1 ∧ k_cE g' (L ++ (12, L.length + c2.length + 2) :: (c2 ++ [(13, 0)])) ∧ k_mE m' k (R ++ c2) ∧ z_A m' 73 k = nI (C + 1) ∧ z_A m' 74 (140 * k + C) = z_A m 74 (140 * k + C) ∧ z_A m' 75 (140 * k + C) = nI R.length ∧ z_A m' 76 (140 * k + C) = nI (R ++ c2).length ∧ q_ty c2 [] = some [false]) ∨ ∃ q, k_no g' B l q ∧ k_mn m' B l q)) := by
  have hS := hk.1.1
  have hl := hk.1.2.1
  have hBB := hk.1.2.2.2.1
  have hSm := hm.1.1
  have ck := z_ckT (a := 75) hSm rfl
  have n0 : ¬ (1 : Int32) = 0 := by decide
  have nw : ¬ ¬ (-1 : Int32) = (-1 : Int32) := fun z => z rfl
  obtain ⟨m1, hm1⟩ : ∃ m1, m1 = z_sA m 75 (140 * k + C) (z_A m 74 (140 * k + C)) := ⟨_, rfl⟩
  have f1 : z_fr [75] m m1 := by rw [hm1]; exact z_fr.refl.sA (by simp)
  have p1 : k_pg k C m m1 := k_pg.a74 (f1.mono (by simp)) (fun x hx => ⟨f1.A (by decide), by rw [hm1, z_A_sA ck, if_neg hx], f1.A (by decide)⟩)
  have k1 : k_mo m1 B l p := hm.pgf (f1.mono (by simp))
  have R1 : k_mE m1 k R := hR.pgf (f1.mono (by simp))
  have S1 := k1.1.1
  obtain ⟨m2, b1, b2, b3⟩ := z_look hF k1
  obtain ⟨r, hr⟩ : ∃ r, r = k_n B l p := ⟨_, rfl⟩
  have hle := k_n_le (B := B) hk.2.1
  obtain ⟨g1, a1, a2, a3⟩ := z_expect (c := 63) hF hk (by decide) (by decide)
  rw [← hr] at hle b1 b3 a3
  have a1' : s_Tape_expect F g (some 16) (63 : Int32) = some g1 := a1
  have Sg1 : z_Sh g1 := hS.fr a2 (by decide)
  have E : k_g B l r = (63 : Int32) ↔ k_b B l r = 63 := k_g_b hBB (c := 63) (by decide) (by decide)
  unfold k_J100 k_J184
  rw [if_neg n0, z_r25_0 hS, Option.bind_some, a1', Option.bind_some, z_r25_1 Sg1, Option.bind_some, z_r68_11 hSm, Option.bind_some, z_r68_10 hSm, Option.bind_some, k_140, z_a74 hSm (by omega), Option.bind_some, z_s75 hSm (by omega), Option.bind_some, ← hm1, if_neg n0, z_i68_4 S1, Option.bind_some, k1.2.2.2, if_neg nw, b1, Option.bind_some]
  dsimp only
  rcases a3 with ⟨e63, a3⟩ | ⟨e63, a3⟩
  · have hlt := k_b_lt (B := B) (l := l) (q := r) (by omega)
    obtain ⟨g2, c1, c2, c3, c4⟩ := z_emit12 Sg1 (hL.f16 a2) (by omega)
    have ko2 : k_ok g2 B l (r + 1) := a3.ef c2
    have m3k := b3.to (q := r + 1) (by omega)
    have T2 := b3.1.1
    obtain ⟨m3, hm3⟩ : ∃ m3, m3 = z_sI m2 68 3 (nI (r + 1)) := ⟨_, rfl⟩
    have f3 : z_fr [68] m2 m3 := by rw [hm3]; exact z_fr.refl.sI (by simp)
    rw [← hm3] at m3k
    have T3 := m3k.1.1
    have R3 : k_mE m3 k R := (R1.f68 b2.1).f68 f3
    have j14 : z_I m3 68 14 = nI k := by rw [hm3, z_I_sI_nk (by decide), b2.2 14 (by decide), f1.I (by decide), h14]
    have j5 : z_I m3 68 5 = nI 0 := by rw [hm3, z_I_sI_nk (by decide), b2.2 5 (by decide), f1.I (by decide), h5]
    have ck3 := z_ckT (a := 75) T3 rfl
    obtain ⟨m4, hm4⟩ : ∃ m4, m4 = z_sA m3 75 (140 * k + C) (nI R.length) := ⟨_, rfl⟩
    have f4 : z_fr [75] m3 m4 := by rw [hm4]; exact z_fr.refl.sA (by simp)
    have p4 : k_pg k C m3 m4 := k_pg.a74 (f4.mono (by simp)) (fun x hx => ⟨f4.A (by decide), by rw [hm4, z_A_sA ck3, if_neg hx], f4.A (by decide)⟩)
    have k4 : k_mo m4 B l (r + 1) := m3k.pgf (f4.mono (by simp))
    have R4 : k_mE m4 k R := R3.pgf (f4.mono (by simp))
    have P4 : k_pg k C m m4 := p1.trans ((b2.pf.trans (by rw [hm3]; exact k_e3.s3.pf : k_pf k m2 m3)).pg.trans p4)
    rw [c1, Option.bind_some, if_pos (E.mpr e63), z_i68_3 T2, Option.bind_some, b3.2.2.1, nI_1, z_w68_3 T2, Option.bind_some, ← hm3, z_r68_11 T3, Option.bind_some, z_r68_8 T3, Option.bind_some, z_i68_14 T3, Option.bind_some, j14, z_a72 T3 hk5, Option.bind_some, R3.1, z_s75 T3 (by omega), Option.bind_some, ← hm4]
    -- the class's steps: one more than the reference's
    obtain ⟨g3, m5, s1, s2, s3, s4, s5⟩ := k_sumS (l := l) (d := 0) hF hk5 (by omega) g2 m4 (r + 1) (L ++ [(12, 0)]) R ko2 k4 ((f4.I (by decide)).trans j5) ((f4.I (by decide)).trans j14) c4 R4 (by rw [List.length_append]; show L.length + 1 ≤ r + 1; omega) (by omega)
    have s1' : s_LText_sum F g2 (some 25) (0 : Int32) = some g3 := s1
    have s2' : s_Mod_sum F m4 (some 68) = some m5 := s2
    have Sg3 : z_Sh g3 := ko2.1.1.fr s3.1 (by decide)
    have T5 : z_Sh m5 := k4.1.1.fr s4.1 (by decide)
    have j514 : z_I m5 68 14 = nI k := (s4.2.1 14 (by decide) (by decide) (by decide)).trans ((f4.I (by decide)).trans j14)
    have j573 : z_A m5 73 k = nI C := by rw [s4.1.A (by decide), f4.A (by decide), hm3, z_A_sI, b2.1.A (by decide), f1.A (by decide), h73]
    obtain ⟨m6, d1, d2, d3, d4, d5, d6⟩ := z_fin T5 hk5 j514 hC j573
    have d1' := d1
    unfold k_fin at d1'
    rw [k_140] at d1'
    rw [s1', Option.bind_some, s2', Option.bind_some, d1']
    have C3 : z_fr [16, 26, 27] g g3 := ((a2.mono (by simp)).trans (c2.mono (by simp))).trans s3.1
    have P6 : k_pg k C m m6 := (P4.trans s4.pg).trans d3
    rw [z_r25_1 Sg3, Option.bind_some]
    rcases s5 with ⟨p', N, y1, y2, y3, y4, y5, y6, y7, y8⟩ | ⟨q, R', y1, y2, y3, y4⟩
    · have hp'l := y3.2.1
      have h3 : z_I g3 26 3 = nI L.length := s3.2.trans c3
      have ll : (L ++ [((12 : Nat), (0 : Nat))] ++ N).length = L.length + 1 + N.length := by rw [List.length_append, List.length_append]; rfl
      obtain ⟨g4, u1, u2, u3, u4⟩ := z_emit13 Sg3 y6 (by omega) (.inr ⟨L.length, by omega, h3⟩)
      have nm : ¬ z_I g3 26 3 = (-1 : Int32) := by rw [h3]; exact nI_ne_m1 (by omega)
      rw [if_neg nm, h3, nI_clamp (by omega)] at u4
      have el : ((L ++ [((12 : Nat), (0 : Nat))] ++ N) ++ [((13 : Nat), (0 : Nat))]).set L.length (12, (L ++ [((12 : Nat), (0 : Nat))] ++ N).length + 1) = L ++ (12, L.length + N.length + 2) :: (N ++ [(13, 0)]) := by
        rw [ll, List.append_assoc, List.append_assoc]
        show (L ++ (12, 0) :: (N ++ [(13, 0)])).set L.length _ = _
        rw [k_set_app]
        congr 3
        omega
      have u4' : k_cE g4 (L ++ (12, L.length + N.length + 2) :: (N ++ [(13, 0)])) := by rw [← el]; exact u4
      rw [u1, Option.bind_some]
      refine ⟨g4, m6, rfl, rfl, C3.trans (u2.mono (by simp)), P6, .inl ⟨p', N, by omega, by omega, y3.ef u2, y4.pgf d2, (d2.I (by decide)).trans y5, u3, u4', y7.pgf d2, d4, ?_, ?_, ?_, y8 [] (by decide)⟩⟩
      · rw [(d5 _).1, s4.1.A (by decide), f4.A (by decide), hm3, z_A_sI, b2.1.A (by decide), f1.A (by decide)]
      · rw [(d5 _).2, s4.1.A (by decide), hm4, z_A_sA ck3, if_pos rfl]
      · rw [d6, y7.1]
    · obtain ⟨g4, u1, u2, -⟩ := z_emitN (x := (13 : Int32)) (y := (0 : Int32)) Sg3
      rw [u1, Option.bind_some]
      exact ⟨g4, m6, rfl, rfl, C3.trans (u2.mono (by simp)), P6, .inr ⟨q, y1.ef u2, y2.pgf d2⟩⟩
  · obtain ⟨m3, d1, d2, d3, -⟩ := z_bad b3
    obtain ⟨g2, c1, c2, -⟩ := z_emitN (x := (12 : Int32)) (y := (0 : Int32)) Sg1
    have n2 := a3.ef c2
    obtain ⟨g3, e1, e2, -, e3⟩ := z_sumSN (F := F) (x := (0 : Int32)) hF n2
    obtain ⟨g4, u1, u2, -⟩ := z_emitN (x := (13 : Int32)) (y := (0 : Int32)) e3.1.1
    rw [c1, Option.bind_some, e1, Option.bind_some, z_r25_1 e3.1.1, Option.bind_some, u1, Option.bind_some, if_neg (fun z => e63 (E.mp z)), d1, Option.bind_some]
    exact ⟨g4, m3, rfl, rfl, (a2.mono (by simp)).trans (((c2.trans e2).trans u2).mono (by simp)), p1.trans (b2.pf.trans d2.pf).pg, .inr ⟨r, e3.ef u2, d3⟩⟩
end CL
