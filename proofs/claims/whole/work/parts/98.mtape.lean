-- THE TAPE READ (2): the reference
section MT
variable {g g' g'' h : fw_H} {B : Nat → Nat} {l p q d D v mo i j k nn F c : Nat} {x y : Int32} {As : List Nat}
/-- the reference's place set -/
theorem k_mo.to (hA : k_mo g B l p) (hp : q ≤ l) : k_mo (z_sI g 68 3 (nI q)) B l q :=
  ⟨hA.1.fr (As := [68]) (z_fr.refl.sI (by simp)) (by decide) (by decide) (z_I_sI_nk (by decide)), hp, z_II hA.1.1 12 rfl, (z_I_sI_nk (by decide)).trans hA.2.2.2⟩
theorem z_mhere (hk : k_mo g B l p) : s_Mod_here g (some 68) = some (k_g B l p) := by
  have hl := hk.1.2.1
  have hp := hk.2.1
  unfold s_Mod_here
  rw [z_c68 hk.1.1, Option.bind_some, z_i68_3 hk.1.1, Option.bind_some, z_i68_2 hk.1.1, Option.bind_some, hk.2.2.1, hk.1.2.2.1]
  unfold k_g
  by_cases h : p < l
  · rw [if_neg (nI_ge h (by omega)), z_r68_1 hk.1.1, Option.bind_some, Option.bind_some, z_a69 hk.1.1 (by omega), Option.bind_some, hk.1.2.2.2.2 p h, if_pos h]
  · rw [if_pos (nI_le (by omega) (by omega)), if_neg h]
/-- what look changes -/
def k_lf (g g' : fw_H) : Prop := z_fr [68] g g' ∧ ∀ k, k ≠ 3 → z_I g' 68 k = z_I g 68 k
theorem k_lf.refl : k_lf g g := ⟨z_fr.refl, fun _ _ => rfl⟩
theorem k_lf.trans (h1 : k_lf g g') (h2 : k_lf g' g'') : k_lf g g'' := ⟨h1.1.trans h2.1, fun k a => (h2.2 k a).trans (h1.2 k a)⟩
theorem k_lf.s3 : k_lf g (z_sI g 68 3 x) := ⟨z_fr.refl.sI (by simp), fun k hk => z_I_sI_nk hk⟩
/-- what a reading without putting changes -/
def k_bf (g g' : fw_H) : Prop := z_fr [68] g g' ∧ ∀ k, k ≠ 3 → k ≠ 4 → z_I g' 68 k = z_I g 68 k
theorem k_bf.refl : k_bf g g := ⟨z_fr.refl, fun _ _ _ => rfl⟩
theorem k_bf.trans (h1 : k_bf g g') (h2 : k_bf g' g'') : k_bf g g'' := ⟨h1.1.trans h2.1, fun k a b => (h2.2 k a b).trans (h1.2 k a b)⟩
theorem k_lf.bf (h : k_lf g g') : k_bf g g' := ⟨h.1, fun k a _ => h.2 k a⟩
theorem z_lookL : ∀ (d p nn : Nat) (g : fw_H), p + d = l → d < nn → k_mo g B l p → ∃ g', l_Mod_look_0 (some 68) (fun he22 => (s_Mod_here he22 (some 68)).bind fun x23 => some (x23, he22)) nn g = some (k_g B l (k_n B l p), g') ∧ (k_lf g g' ∧ k_mo g' B l (k_n B l p)) := by
  intro d
  induction d with
  | zero =>
    intro p nn g hp hnn hk
    obtain ⟨nn, rfl⟩ : ∃ k, nn = k + 1 := ⟨nn - 1, by omega⟩
    rw [k_n_end (show l ≤ p by omega)]
    have e : k_g B l p = -1 := if_neg (by omega)
    refine ⟨g, ?_, k_lf.refl, hk⟩
    rw [l_Mod_look_0, z_mhere hk, Option.bind_some, if_pos (by rw [e]; decide), Option.bind_some]
  | succ d ih =>
    intro p nn g hp hnn hk
    obtain ⟨nn, rfl⟩ : ∃ k, nn = k + 1 := ⟨nn - 1, by omega⟩
    have hl := hk.1.2.1
    have hB := hk.1.2.2.2.1 p (by omega)
    have e : k_g B l p = nI (B p) := if_pos (by omega)
    rw [l_Mod_look_0, z_mhere hk, Option.bind_some, k_n_step (show p < l by omega)]
    by_cases h32 : B p = 32
    · rw [if_neg (fun z => z (by rw [e, h32]; rfl)), if_pos h32, z_i68_3 hk.1.1, Option.bind_some, hk.2.2.1, nI_1, z_w68_3 hk.1.1, Option.bind_some]
      obtain ⟨g2, b1, b2, b3⟩ := ih (p + 1) nn _ (by omega) (by omega) (hk.to (q := p + 1) (by omega))
      exact ⟨g2, b1, k_lf.s3.trans b2, b3⟩
    · rw [if_pos (show ¬ k_g B l p = (32 : Int32) from by rw [e]; exact fun z => h32 ((nI_eq (b := 32) (by omega) (by decide)).mp z)), if_neg h32, Option.bind_some]
      exact ⟨g, rfl, k_lf.refl, hk⟩
theorem z_look (hF : 70000 ≤ F) (hk : k_mo g B l p) : ∃ g', s_Mod_look F g (some 68) = some (k_g B l (k_n B l p), g') ∧ (k_lf g g' ∧ k_mo g' B l (k_n B l p)) := by
  have hl := hk.1.2.1
  have hp := hk.2.1
  unfold s_Mod_look
  rw [z_c68 hk.1.1, Option.bind_some]
  exact z_lookL (l - p) p F g (by omega) (by omega) hk
theorem z_bad (hk : k_mo g B l p) : ∃ g', s_Mod_bad g (some 68) = some g' ∧ (k_bf g g' ∧ k_mn g' B l p ∧ z_I g' 68 3 = nI p) := by
  have := hk.1.2.1
  have := hk.2.1
  unfold s_Mod_bad
  rw [z_c68 hk.1.1, Option.bind_some, z_i68_4 hk.1.1, Option.bind_some, hk.2.2.2, if_neg (fun z => z rfl), z_i68_3 hk.1.1, Option.bind_some, hk.2.2.1, z_w68_4 hk.1.1]
  exact ⟨_, rfl, ⟨z_fr.refl.sI (by simp), fun k _ h4 => z_I_sI_nk h4⟩, ⟨hk.1.fr (As := [68]) (z_fr.refl.sI (by simp)) (by decide) (by decide) (z_I_sI_nk (by decide)), by omega, z_II hk.1.1 12 rfl⟩, (z_I_sI_nk (by decide)).trans hk.2.2.1⟩
theorem z_badN (hk : k_mn g B l q) : ∃ g', s_Mod_bad g (some 68) = some g' ∧ (k_bf g g' ∧ k_mn g' B l q) := by
  unfold s_Mod_bad
  rw [z_c68 hk.1.1, Option.bind_some, z_i68_4 hk.1.1, Option.bind_some, hk.2.2, if_pos (nI_ne_m1 (by have := hk.2.1; omega)), Option.bind_some, z_w68_4 hk.1.1]
  exact ⟨_, rfl, ⟨z_fr.refl.sI (by simp), fun k _ h4 => z_I_sI_nk h4⟩, hk.1.fr (As := [68]) (z_fr.refl.sI (by simp)) (by decide) (by decide) (z_I_sI_nk (by decide)), hk.2.1, z_II hk.1.1 12 rfl⟩
theorem k_mn.ne (hk : k_mn g B l q) : ¬ z_I g 68 4 = (-1 : Int32) := by
  rw [hk.2.2]
  exact nI_ne_m1 (by have := hk.2.1; omega)
/-- the village's number, the reference -/
theorem z_mnum (hF : 70000 ≤ F) (hmo : mo < 10000) (hk : k_mo g B l p) : ∃ g' v, s_Mod_number F g (some 68) (nI mo) = some (v, g') ∧ (k_bf g g' ∧ match k_nu B l 2 mo (k_n B l p) with
    | .inl q => k_mn g' B l q
    | .inr (w, p') => v = nI w ∧ k_mo g' B l p') := by
  obtain ⟨g1, a1, a2, a3⟩ := z_look hF hk
  have hl := hk.1.2.1
  have hle := k_n_le (B := B) hk.2.1
  have hBB := hk.1.2.2.2.1
  obtain ⟨r, hr⟩ : ∃ r, r = k_n B l p := ⟨_, rfl⟩
  rw [← hr] at a1 a3 hle ⊢
  unfold s_Mod_number k_nu
  simp only [fw_jn]
  rw [z_c68 hk.1.1, Option.bind_some, a1, Option.bind_some, (k_dig hBB).2, Option.bind_some]
  by_cases e : k_d B l r = true
  · obtain ⟨e1, e2, e3⟩ := k_d_t e
    have hg1 := a3.to (q := r + 1) (by omega)
    have eg : k_g B l r - (48 : Int32) = nI (B r - 48) := by unfold k_g; rw [if_pos e1]; exact pk_sub (b := 48) e2
    rw [if_pos e, if_pos e, z_mhere a3, Option.bind_some, z_i68_3 a3.1.1, Option.bind_some, a3.2.2.1, nI_1, z_w68_3 a3.1.1, Option.bind_some, z_mhere hg1, Option.bind_some, (k_dig hBB).2, Option.bind_some, eg]
    -- the end, from the number W at the place w
    have fin : ∀ (W w : Nat) (g2 : fw_H), r + 1 ≤ w → W < 10000 → k_bf g g2 → k_mo g2 B l w → ∃ g' v, ((s_Mod_here g2 (some 68)).bind fun x68 => (s_Mod_isDigit x68).bind fun x71 => if x71 = true then ((s_Mod_bad g2 (some 68)).bind fun h78 => some (nI W, h78)) else if nI W ≤ nI mo then (some (nI W, g2)) else (f_gI g2 (some 68) 12 3).bind fun x91 => (f_pI g2 (some 68) 12 3 (x91 - (1 : Int32))).bind fun h96 => (s_Mod_bad h96 (some 68)).bind fun h100 => some (nI W, h100)) = some (v, g') ∧ (k_bf g g' ∧ match (if k_d B l w = true then .inl w else if mo < W then .inl (w - 1) else .inr (W, w) : k_r Nat) with
        | .inl q => k_mn g' B l q
        | .inr (w, p') => v = nI w ∧ k_mo g' B l p') := by
      intro W w g2 hw hW hb h2
      have hwl := h2.2.1
      rw [z_mhere h2, Option.bind_some, (k_dig hBB).2, Option.bind_some]
      by_cases e4 : k_d B l w = true
      · rw [if_pos e4, if_pos e4]
        obtain ⟨g3, c1, c2, c3, -⟩ := z_bad h2
        rw [c1, Option.bind_some]
        exact ⟨g3, nI W, rfl, hb.trans c2, c3⟩
      · rw [if_neg e4, if_neg e4]
        by_cases e5 : mo < W
        · have h3 := h2.to (q := w - 1) (by omega)
          rw [if_neg (nI_ge e5 (by omega)), if_pos e5, z_i68_3 h2.1.1, Option.bind_some, h2.2.2.1, show nI w - (1 : Int32) = nI (w - 1) from pk_sub (b := 1) (by omega), z_w68_3 h2.1.1, Option.bind_some]
          obtain ⟨g3, c1, c2, c3, -⟩ := z_bad h3
          rw [c1, Option.bind_some]
          exact ⟨g3, nI W, rfl, (hb.trans k_lf.s3.bf).trans c2, c3⟩
        · rw [if_pos (nI_le (by omega) (by omega)), if_neg e5]
          exact ⟨g2, nI W, rfl, hb, rfl, h2⟩
    have hb1 : k_bf g (z_sI g1 68 3 (nI (r + 1))) := a2.bf.trans k_lf.s3.bf
    by_cases e6 : k_d B l (r + 1) = true
    · obtain ⟨e7, e8, e9⟩ := k_d_t e6
      have hg2 := hg1.to (q := r + 2) (by omega)
      have ew : k_dg B l 2 0 r = ((0 * 10 + B r - 48) * 10 + B (r + 1) - 48, r + 2) := by
        show (if k_d B l r = true then (if k_d B l (r + 1) = true then ((0 * 10 + B r - 48) * 10 + B (r + 1) - 48, r + 2) else (0 * 10 + B r - 48, r + 1)) else (0, r)) = _
        rw [if_pos e, if_pos e6]
      have ev : (10 : Int32) * nI (B r - 48) + k_g B l (r + 1) - (48 : Int32) = nI ((0 * 10 + B r - 48) * 10 + B (r + 1) - 48) := by
        unfold k_g
        rw [if_pos e7, show (10 : Int32) = nI 10 from rfl, pk_mul, nI_add, show nI (10 * (B r - 48) + B (r + 1)) - (48 : Int32) = nI (10 * (B r - 48) + B (r + 1) - 48) from pk_sub (b := 48) (by omega)]
        congr 1
        omega
      rw [if_pos e6, Option.bind_some, z_i68_3 hg1.1.1, Option.bind_some, hg1.2.2.1, show nI (r + 1) + (1 : Int32) = nI (r + 2) from nI_1 (r + 1), z_w68_3 hg1.1.1, Option.bind_some, ev, ew]
      exact fin _ (r + 2) _ (by omega) (by omega) (hb1.trans k_lf.s3.bf) hg2
    · have ew : k_dg B l 2 0 r = (0 * 10 + B r - 48, r + 1) := by
        show (if k_d B l r = true then (if k_d B l (r + 1) = true then ((0 * 10 + B r - 48) * 10 + B (r + 1) - 48, r + 2) else (0 * 10 + B r - 48, r + 1)) else (0, r)) = _
        rw [if_pos e, if_neg e6]
      have h48 : 0 * 10 + B r - 48 = B r - 48 := by omega
      rw [if_neg e6, ew, h48]
      have h5 := fin (B r - 48) (r + 1) _ (by omega) (by omega) hb1 hg1
      rw [z_mhere hg1] at h5
      exact h5
  · rw [if_neg e, if_neg e]
    obtain ⟨g2, b1, b2, b3, -⟩ := z_bad a3
    rw [b1, Option.bind_some]
    exact ⟨g2, 0, rfl, a2.bf.trans b2, b3⟩
end MT
