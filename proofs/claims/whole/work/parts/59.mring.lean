-- ROUND AND ROUND (2): the reference's ring; when, round, never, feud
section MR
variable {E : z_E} {p q : e_P} {i j u F n w m e N : Nat} {h h' g g' : fw_H} {T Wd f : Nat → Int32} {lw : Option (List q_C)} {As : List Nat} {pp : Nat} {x : Int32}
theorem z_MC.of (hf : z_fr As g g') (hA : ∀ j, j ∈ [70, 71, 73, 74, 75, 76, 82, 83, 84, 85] → j ∉ As) (h15 : ∀ j, j ∈ As → 15 ≤ j) (hk : ∀ k, k = 24 ∨ k = 25 ∨ k = 28 → z_I g' 68 k = z_I g 68 k) (hC : z_MC g n w T Wd f lw e) : z_MC g' n w T Wd f lw e := by
  obtain ⟨c1, ⟨v1, ⟨v2, v3, v4⟩, v5, v6⟩, c3⟩ := hC
  refine ⟨c1.fr hf h15, ⟨(hk 24 (by omega)).trans v1, ⟨(hk 25 (by omega)).trans v2, fun j hj => by rw [hf.A (hA 83 (by decide))]; exact v3 j hj, fun j hj => by rw [hf.A (hA 84 (by decide))]; exact v4 j hj⟩, fun j hj => by rw [hf.A (hA 82 (by decide))]; exact v5 j hj, ?_⟩, fun x hx => by rw [hf.A (hA 85 (by decide))]; exact c3 x hx⟩
  match lw, v6 with
  | none, v6 => exact (hk 28 (by omega)).trans v6
  | some cls, ⟨k, k1, k2, k3, k4⟩ => exact ⟨k, k1, (hk 28 (by omega)).trans k2, k3.of (fun a j ha => hf.A (hA a (by simp; omega))), k4⟩
theorem w_k.mm (hf : z_fr As h h') (h61 : 61 ∉ As) (hA : ∀ j, j ∈ As → j = 68 ∨ j ∈ w_sc) (hk : ∀ k, k = 2 ∨ k = 13 ∨ k = 24 ∨ k = 25 ∨ k = 28 ∨ k = 29 ∨ k = 31 ∨ k = 47 ∨ k = 49 → z_I h' 68 k = z_I h 68 k) : w_k h h' := by
  have hn : ∀ j, j ≠ 68 → j ∉ w_sc → j ∉ As := fun j h1 h2 h3 => (hA j h3).elim h1 h2
  exact ⟨hf.1, fun j h1 _ _ _ _ h2 _ => hf.2 j (hn j h2 h1), hk, hf.I (hn 64 (by decide) (by decide)), hf.I (hn 16 (by decide) (by decide)), fun hT => hT.of (hf.I (hn 48 (by decide) (by decide))) (fun j => hf.A (hn 58 (by decide) (by decide))) (fun k => hf.R h61)⟩
theorem z_stateOf (hk : e_ok E p) (hE : E.1 ≤ 12) : s_Mod_stateOf (nI p.1) (z_b p.2.1) = some (nI (13 * p.1 + p.2.1)) := by
  obtain ⟨k1, k2, k3⟩ := hk
  unfold s_Mod_stateOf
  rw [show (13 : Int32) * nI p.1 = nI (13 * p.1) from pk_mul 13 _]
  by_cases h12 : p.2.1 = 12
  · rw [if_neg (by rw [h12]; decide), h12]
    exact congrArg some (nI_add _ 12)
  · rw [z_bn h12, if_pos (z_neg1 (by omega)), nI_add]
theorem z_layFill (hS0 : z_Sh h) {K : fw_H → Option fw_H} : ∀ (k i nn : Nat) (g : fw_H), i + k = 3744 → k < nn → z_fr [87] h g → (∀ j, j < i → z_A g 87 j = -1) →
    ∃ g', l_Mod_layRing_2 (some 68) K nn (nI i) g = K g' ∧ (z_fr [87] h g' ∧ ∀ j, j < 3744 → z_A g' 87 j = -1) := by
  intro k
  induction k with
  | zero =>
    intro i nn g hi hnn hf hl
    obtain ⟨nn, rfl⟩ : ∃ k, nn = k + 1 := ⟨nn - 1, by omega⟩
    refine ⟨g, ?_, hf, fun j hj => hl j (by omega)⟩
    rw [l_Mod_layRing_2, if_pos (show (3744 : Int32) ≤ nI i from nI_le (a := 3744) (by omega) (by omega))]
  | succ k ih =>
    intro i nn g hi hnn hf hl
    obtain ⟨nn, rfl⟩ : ∃ k, nn = k + 1 := ⟨nn - 1, by omega⟩
    have hS := hS0.fr hf (by decide)
    rw [l_Mod_layRing_2, if_neg (show ¬ (3744 : Int32) ≤ nI i from nI_ge (b := 3744) (by omega) (by decide)), z_r68_35 hS, Option.bind_some, z_s87 hS (by omega), Option.bind_some, show nI i + 1 = nI (i + 1) from nI_1 i]
    refine ih (i + 1) nn _ (by omega) (by omega) (hf.sA (by simp)) (fun j hj => ?_)
    rw [z_A_sA (z_ckT hS rfl)]
    by_cases e : j = i
    · rw [if_pos e]
    · rw [if_neg e]; exact hl j (by omega)
/-- the marks behind i hours -/
def c_F (h : fw_H) (x : Nat → e_P) (i : Nat) : Prop := (∀ j, j < i → z_A h 87 (c_s (x j)) = nI j) ∧ ∀ s, s < 3744 → (∀ j, j < i → c_s (x j) ≠ s) → z_A h 87 s = -1
theorem z_layL (hF : 70000 ≤ F) (hok : v_ok n w Wd) (hE : E = v_E n w T Wd f lw (v_op f) e m) (hB : z_MB f n m) (hp0 : e_ok E p) (hR : c_R (c_x E p) j u) {K : Int32 → Int32 → fw_H → Option fw_H} :
    ∀ (k i nn : Nat) (g : fw_H), i + k = u → k < nn → z_MC g n w T Wd f lw e → z_mps g (c_x E p i) → c_F g (c_x E p) i → z_I g 68 38 = nI (c_m (c_x E p) i) →
    ∃ g', l_Mod_layRing_53 F (some 68) K nn (nI i) (nI (c_s (c_x E p i))) g = K (nI u) (nI (c_s (c_x E p u))) g' ∧ (z_fr [68, 77, 78, 87] g g' ∧ (∀ k, k ≠ 32 → k ≠ 33 → k ≠ 34 → k ≠ 38 → z_I g' 68 k = z_I g 68 k) ∧ z_mps g' (c_x E p u) ∧ z_A g' 87 (c_s (c_x E p u)) = nI j ∧ z_I g' 68 38 = nI (c_m (c_x E p) u)) := by
  obtain ⟨r1, r2, r3, r4⟩ := hR
  have hk : ∀ i, e_ok E (c_x E p i) := fun i => c_x_ok hp0
  have hE12 : E.1 ≤ 12 := by rw [hE]; exact hok.1
  have hinj : ∀ a b, c_s (c_x E p a) = c_s (c_x E p b) → c_x E p a = c_x E p b := fun a b z => c_s_inj hE12 (hk a) (hk b) z
  intro k
  induction k with
  | zero =>
    intro i nn g hi hnn hC hp hT hm
    obtain ⟨nn, rfl⟩ : ∃ k, nn = k + 1 := ⟨nn - 1, by omega⟩
    obtain rfl : i = u := by omega
    have hlt := c_s_lt (hk i) hE12
    have hv : z_A g 87 (c_s (c_x E p i)) = nI j := by rw [← r3]; exact hT.1 j r1
    refine ⟨g, ?_, z_fr.refl, fun _ _ _ _ _ => rfl, hp, hv, hm⟩
    rw [l_Mod_layRing_53, z_r68_35 hC.1, Option.bind_some, z_a87 hC.1 hlt, Option.bind_some, hv, if_pos (z_neg1 (by omega))]
  | succ k ih =>
    intro i nn g hi hnn hC hp hT hm
    obtain ⟨nn, rfl⟩ : ∃ k, nn = k + 1 := ⟨nn - 1, by omega⟩
    have hlt := c_s_lt (hk i) hE12
    have hat : (c_x E p i).1 < 12 := Nat.lt_of_lt_of_le (hk i).1 hE12
    have hns : ∀ j, j < i → c_s (c_x E p j) ≠ c_s (c_x E p i) := fun j hj z => r4 j i hj (by omega) (hinj j i z)
    have hv : z_A g 87 (c_s (c_x E p i)) = -1 := hT.2 _ hlt hns
    obtain ⟨g1, hg1⟩ : ∃ g1, g1 = z_sA g 87 (c_s (c_x E p i)) (nI i) := ⟨_, rfl⟩
    have S1 : z_Sh g1 := by rw [hg1]; exact z_Sh_sA hC.1
    have i1 : ∀ k, z_I g1 68 k = z_I g 68 k := fun k => by rw [hg1, z_I_sA]
    obtain ⟨g2, hg2⟩ : ∃ g2, g2 = z_sI g1 68 38 (nI (c_m (c_x E p) (i + 1))) := ⟨_, rfl⟩
    have f2 : z_fr [68, 77, 78, 87] g g2 := by rw [hg2, hg1]; exact (z_fr.refl.sA (by simp)).sI (by simp)
    have i2 : ∀ k, k ≠ 38 → z_I g2 68 k = z_I g 68 k := fun k hk => by rw [hg2, z_I_sI_nk hk, i1]
    have C2 : z_MC g2 n w T Wd f lw e := hC.of f2 (by decide) (by decide) (fun k hk => i2 k (by omega))
    have P2 : z_mps g2 (c_x E p i) := ⟨(i2 32 (by decide)).trans hp.1, (i2 33 (by decide)).trans hp.2.1, (i2 34 (by decide)).trans hp.2.2⟩
    obtain ⟨g3, a1, a2, a3⟩ := z_mwalk hF hok hE hB C2 P2 (hk i)
    have C3 := C2.mw a2
    rw [← c_x_succ] at a3
    have hk1 := hk (i + 1)
    rw [l_Mod_layRing_53, z_r68_35 hC.1, Option.bind_some, z_a87 hC.1 hlt, Option.bind_some, hv, if_neg (fun z => z rfl), Option.bind_some, z_s87 hC.1 hlt, Option.bind_some, ← hg1, z_i68_38 S1, Option.bind_some, i1, hm, z_i68_32 S1, Option.bind_some, i1, hp.1, z_sh1 (by omega), fa_or, z_w68_38 S1, Option.bind_some, show c_m (c_x E p) i ||| 2 ^ (c_x E p i).1 = c_m (c_x E p) (i + 1) from rfl, ← hg2, a1, Option.bind_some, z_i68_32 C3.1, Option.bind_some, a3.1, z_i68_33 C3.1, Option.bind_some, a3.2.1, z_stateOf hk1 hE12, Option.bind_some, z_i68_34 C3.1, Option.bind_some, a3.2.2, show nI i + 1 = nI (i + 1) from nI_1 i]
    rw [show (24 : Int32) * nI (13 * (c_x E p (i + 1)).1 + (c_x E p (i + 1)).2.1) + nI (c_x E p (i + 1)).2.2 = nI (c_s (c_x E p (i + 1))) by rw [show (24 : Int32) = nI 24 from rfl, pk_mul, nI_add]; unfold c_s; congr 1; omega]
    have T3 : c_F g3 (c_x E p) (i + 1) := by
      have e87 : ∀ s, z_A g3 87 s = z_A g1 87 s := fun s => by rw [a2.1.A (by decide), hg2, z_A_sI]
      refine ⟨fun j hj => ?_, fun s hs hn => ?_⟩
      · rw [e87, hg1, z_A_sA (z_ckT hC.1 rfl)]
        by_cases ej : j = i
        · subst ej; rw [if_pos rfl]
        · rw [if_neg (hns j (by omega))]; exact hT.1 j (by omega)
      · rw [e87, hg1, z_A_sA (z_ckT hC.1 rfl), if_neg (fun z => hn i (by omega) z.symm)]
        exact hT.2 s hs (fun j hj => hn j (by omega))
    obtain ⟨g4, b1, b2, b3, b4⟩ := ih (i + 1) nn g3 (by omega) (by omega) C3 a3 T3 (by rw [a2.2 38 (by decide) (by decide) (by decide), hg2, z_II S1 12 rfl])
    exact ⟨g4, b1, (f2.trans (a2.1.mono (by simp))).trans b2, fun k x y z t => by rw [b3 k x y z t, a2.2 k x y z, i2 k t], b4⟩
theorem z_onL (hF : 70000 ≤ F) (hok : v_ok n w Wd) (hE : E = v_E n w T Wd f lw (v_op f) e m) (hB : z_MB f n m) (hp0 : e_ok E p) (hN : N ≤ 3744) :
    ∀ (k i nn : Nat) (g : fw_H), i + k = N → k < nn → z_MC g n w T Wd f lw e → z_mps g (c_x E p i) → z_I g 68 37 = nI N → z_I g 68 39 = nI (c_m (c_x E p) i) →
    ∃ g', l_Mod_layRing_142 F (some 68) nn (nI i) g = some g' ∧ (z_fr [68, 77, 78, 87] g g' ∧ (∀ k, k ≠ 32 → k ≠ 33 → k ≠ 34 → k ≠ 39 → z_I g' 68 k = z_I g 68 k) ∧ z_I g' 68 39 = nI (c_m (c_x E p) N)) := by
  have hk : ∀ i, e_ok E (c_x E p i) := fun i => c_x_ok hp0
  have hE12 : E.1 ≤ 12 := by rw [hE]; exact hok.1
  intro k
  induction k with
  | zero =>
    intro i nn g hi hnn hC hp hl hm
    obtain ⟨nn, rfl⟩ : ∃ k, nn = k + 1 := ⟨nn - 1, by omega⟩
    obtain rfl : i = N := by omega
    refine ⟨g, ?_, z_fr.refl, fun _ _ _ _ _ => rfl, hm⟩
    rw [l_Mod_layRing_142, z_i68_37 hC.1, Option.bind_some, hl, if_pos (nI_le (by omega) (by omega))]
  | succ k ih =>
    intro i nn g hi hnn hC hp hl hm
    obtain ⟨nn, rfl⟩ : ∃ k, nn = k + 1 := ⟨nn - 1, by omega⟩
    have hat : (c_x E p i).1 < 12 := Nat.lt_of_lt_of_le (hk i).1 hE12
    obtain ⟨g2, hg2⟩ : ∃ g2, g2 = z_sI g 68 39 (nI (c_m (c_x E p) (i + 1))) := ⟨_, rfl⟩
    have f2 : z_fr [68, 77, 78, 87] g g2 := by rw [hg2]; exact z_fr.refl.sI (by simp)
    have i2 : ∀ k, k ≠ 39 → z_I g2 68 k = z_I g 68 k := fun k hk => by rw [hg2, z_I_sI_nk hk]
    have C2 : z_MC g2 n w T Wd f lw e := hC.of f2 (by decide) (by decide) (fun k hk => i2 k (by omega))
    have P2 : z_mps g2 (c_x E p i) := ⟨(i2 32 (by decide)).trans hp.1, (i2 33 (by decide)).trans hp.2.1, (i2 34 (by decide)).trans hp.2.2⟩
    obtain ⟨g3, a1, a2, a3⟩ := z_mwalk hF hok hE hB C2 P2 (hk i)
    rw [← c_x_succ] at a3
    rw [l_Mod_layRing_142, z_i68_37 hC.1, Option.bind_some, hl, if_neg (nI_ge (by omega) (by omega)), z_i68_39 hC.1, Option.bind_some, hm, z_i68_32 hC.1, Option.bind_some, hp.1, z_sh1 (by omega), fa_or, z_w68_39 hC.1, Option.bind_some, show c_m (c_x E p) i ||| 2 ^ (c_x E p i).1 = c_m (c_x E p) (i + 1) from rfl, ← hg2, a1, Option.bind_some, show nI i + 1 = nI (i + 1) from nI_1 i]
    obtain ⟨g4, b1, b2, b3, b4⟩ := ih (i + 1) nn g3 (by omega) (by omega) (C2.mw a2) a3 (by rw [a2.2 37 (by decide) (by decide) (by decide), i2 37 (by decide)]; exact hl) (by rw [a2.2 39 (by decide) (by decide) (by decide), hg2, z_II hC.1 12 rfl])
    exact ⟨g4, b1, (f2.trans (a2.1.mono (by simp))).trans b2, fun k x y z t => by rw [b3 k x y z t, a2.2 k x y z, i2 k t], b4⟩
/-- the reference's layRing -/
theorem z_layRing {a : Nat} (hF : 70000 ≤ F) (hok : v_ok n w Wd) (hE : E = v_E n w T Wd f lw (v_op f) e m) (hB : z_MB f n m) (hC : z_MC h n w T Wd f lw e) (hV : v_R g a n w T Wd f) (h0 : 0 < n) (hR : c_R (c_x E (v_pos f)) j u) :
    ∃ h', s_Mod_layRing F h (some 68) = some h' ∧ (z_fr [68, 77, 78, 87] h h' ∧ (∀ k, k ≠ 32 → k ≠ 33 → k ≠ 34 → k ≠ 36 → k ≠ 37 → k ≠ 38 → k ≠ 39 → z_I h' 68 k = z_I h 68 k) ∧ z_I h' 68 36 = nI j ∧ z_I h' 68 37 = nI (u - j) ∧ z_I h' 68 38 = nI (c_m (c_x E (v_pos f)) u) ∧ z_I h' 68 39 = nI (c_m (c_x E (c_x E (v_pos f) u)) (u - j))) := by
  have hE1 : E.1 = n := by rw [hE]; rfl
  have hk0 : e_ok E (v_pos f) := hV.ok h0 hok.1 hE1
  have hE12 : E.1 ≤ 12 := hE1 ▸ hok.1
  have hS := hC.1
  have hr := hR
  obtain ⟨r1, r2, r3, r4⟩ := hr
  unfold s_Mod_layRing
  rw [z_c68 hS, Option.bind_some]
  refine z_k (z_layFill hS 3744 0 F h (by omega) (by omega) z_fr.refl (fun j hj => absurd hj (Nat.not_lt_zero _))) fun g1 ⟨f1, l1⟩ => ?_
  have C1 : z_MC g1 n w T Wd f lw e := hC.of f1 (by decide) (by decide) (fun k _ => f1.I (by decide))
  obtain ⟨g2, a1, a2, a3⟩ := z_mstart C1.1 C1.2.1.2.1.2.2 hV h0 hok.1
  have S2 := a2.sh C1.1
  obtain ⟨g3, hg3⟩ : ∃ g3, g3 = z_sI g2 68 38 (nI 0) := ⟨_, rfl⟩
  have S3 : z_Sh g3 := by rw [hg3]; exact z_Sh_sI S2
  have i3 : ∀ k, k ≠ 38 → z_I g3 68 k = z_I g2 68 k := fun k hk => by rw [hg3, z_I_sI_nk hk]
  have f3 : z_fr [68, 77, 78, 87] h g3 := by rw [hg3]; exact ((f1.mono (by simp)).trans (a2.1.mono (by simp))).sI (by simp)
  have P3 : z_mps g3 (v_pos f) := ⟨(i3 32 (by decide)).trans a3.1, (i3 33 (by decide)).trans a3.2.1, (i3 34 (by decide)).trans a3.2.2⟩
  have k3 : ∀ k, k ≠ 32 → k ≠ 33 → k ≠ 34 → k ≠ 38 → z_I g3 68 k = z_I h 68 k := fun k x y z t => by rw [i3 k t, a2.2 k x y z, f1.I (by decide)]
  have C3 : z_MC g3 n w T Wd f lw e := hC.of f3 (by decide) (by decide) (fun k hk => k3 k (by omega) (by omega) (by omega) (by omega))
  rw [a1, Option.bind_some, show (0 : Int32) = nI 0 from rfl, z_w68_38 S2, Option.bind_some, ← hg3, z_i68_32 S3, Option.bind_some, P3.1, z_i68_33 S3, Option.bind_some, P3.2.1, z_stateOf hk0 hE12, Option.bind_some, z_i68_34 S3, Option.bind_some, P3.2.2]
  rw [show (24 : Int32) * nI (13 * (v_pos f).1 + (v_pos f).2.1) + nI (v_pos f).2.2 = nI (c_s (c_x E (v_pos f) 0)) by rw [show (24 : Int32) = nI 24 from rfl, pk_mul, nI_add]; show _ = nI (c_s (v_pos f)); unfold c_s; congr 1; omega]
  refine z_k (z_layL (p := v_pos f) hF hok hE hB hk0 hR u 0 F g3 (by omega) (by omega) C3 P3 ⟨fun j hj => absurd hj (Nat.not_lt_zero _), fun s hs _ => ?_⟩ (by rw [hg3, z_II S2 12 rfl]; rfl)) fun g4 ⟨b1, b2, b3, b4, b5⟩ => ?_
  · rw [hg3, z_A_sI, a2.1.A (by decide)]; exact l1 s hs
  · have S4 : z_Sh g4 := C3.1.fr b1 (by decide)
    have hlt := c_s_lt (c_x_ok (i := u) hk0) hE12
    obtain ⟨g5, hg5⟩ : ∃ g5, g5 = z_sI g4 68 36 (nI j) := ⟨_, rfl⟩
    have S5 : z_Sh g5 := by rw [hg5]; exact z_Sh_sI S4
    obtain ⟨g6, hg6⟩ : ∃ g6, g6 = z_sI g5 68 37 (nI (u - j)) := ⟨_, rfl⟩
    have S6 : z_Sh g6 := by rw [hg6]; exact z_Sh_sI S5
    obtain ⟨g7, hg7⟩ : ∃ g7, g7 = z_sI g6 68 39 (nI 0) := ⟨_, rfl⟩
    have S7 : z_Sh g7 := by rw [hg7]; exact z_Sh_sI S6
    have i7 : ∀ k, k ≠ 36 → k ≠ 37 → k ≠ 39 → z_I g7 68 k = z_I g4 68 k := fun k x y z => by rw [hg7, z_I_sI_nk z, hg6, z_I_sI_nk y, hg5, z_I_sI_nk x]
    have f7 : z_fr [68, 77, 78, 87] h g7 := by rw [hg7, hg6, hg5]; exact (((f3.trans b1).sI (by simp)).sI (by simp)).sI (by simp)
    have k7 : ∀ k, k ≠ 32 → k ≠ 33 → k ≠ 34 → k ≠ 36 → k ≠ 37 → k ≠ 38 → k ≠ 39 → z_I g7 68 k = z_I h 68 k := fun k x y z a b c d => by rw [i7 k a b d, b2 k x y z c, k3 k x y z c]
    have C7 : z_MC g7 n w T Wd f lw e := hC.of f7 (by decide) (by decide) (fun k hk => k7 k (by omega) (by omega) (by omega) (by omega) (by omega) (by omega) (by omega))
    have P7 : z_mps g7 (c_x E (c_x E (v_pos f) u) 0) := ⟨(i7 32 (by decide) (by decide) (by decide)).trans b3.1, (i7 33 (by decide) (by decide) (by decide)).trans b3.2.1, (i7 34 (by decide) (by decide) (by decide)).trans b3.2.2⟩
    rw [z_r68_35 S4, Option.bind_some, z_a87 S4 hlt, Option.bind_some, b4, z_w68_36 S4, Option.bind_some, ← hg5, z_i68_36 S5, Option.bind_some, show z_I g5 68 36 = nI j by rw [hg5, z_II S4 12 rfl], pk_sub (by omega), z_w68_37 S5, Option.bind_some, ← hg6, z_w68_39 S6, Option.bind_some, ← hg7]
    obtain ⟨g8, d1, d2, d3, d4⟩ := z_onL (p := c_x E (v_pos f) u) (N := u - j) hF hok hE hB (c_x_ok hk0) (by omega) (u - j) 0 F g7 (by omega) (by omega) C7 P7 (by rw [hg7, z_I_sI_nk (by decide), hg6, z_II S5 12 rfl]) (by rw [hg7, z_II S6 12 rfl]; rfl)
    refine ⟨g8, d1, f7.trans d2, fun k x y z a b c d => by rw [d3 k x y z d, k7 k x y z a b c d], ?_, ?_, ?_, d4⟩
    · rw [d3 36 (by decide) (by decide) (by decide) (by decide), hg7, z_I_sI_nk (by decide), hg6, z_I_sI_nk (by decide), hg5, z_II S4 12 rfl]
    · rw [d3 37 (by decide) (by decide) (by decide) (by decide), hg7, z_I_sI_nk (by decide), hg6, z_II S5 12 rfl]
    · rw [d3 38 (by decide) (by decide) (by decide) (by decide), i7 38 (by decide) (by decide) (by decide)]; exact b5
end MR
