-- FEED
theorem k_byte (x : Int32) {n : Nat} (hn : n ≤ 24) : (x >>> (nI n &&& 31)) &&& (255 : Int32) = (fw_iushr x (nI n)) &&& (255 : Int32) := by
  refine b_ext fun i hi => ?_
  rw [b_and, b_and, b_255]
  unfold fw_iushr
  rw [b_ushr n (by omega), b_sshr n (by omega) x hi]
  by_cases h8 : i < 8
  · rw [if_pos (by omega)]
  · rw [decide_eq_false h8, Bool.and_false, Bool.and_false]
/-- the twenty bytes -/
def k_V (v1 v2 v3 v4 v5 : Int32) (q : Nat) : Int32 := if q = 0 then v1 else if q = 1 then v2 else if q = 2 then v3 else if q = 3 then v4 else v5
def k_Y (V : Nat → Int32) (k : Nat) : Nat := ((fw_iushr (V (k / 4)) (nI (24 - 8 * (k % 4)))) &&& (255 : Int32)).toNatClampNeg
def k_c (Y : Nat → Nat) : Nat → Nat
  | 0 => 0
  | k + 1 => k_c Y k + (if Y k = 0 then 0 else 1)
/-- the tape behind k bytes: C ahead of them, l long -/
def k_t (Y C : Nat → Nat) (l : Nat) : Nat → Nat → Nat
  | 0 => C
  | k + 1 => if Y k = 0 then k_t Y C l k else fun i => if i = l + k_c Y k then Y k else k_t Y C l k i
section FE
variable {h g g' h1 h2 : fw_H} {n w i k t p m F l j q nn : Nat} {T Wd f s : Nat → Int32} {lw : Option (List q_C)} {x y v v1 v2 v3 v4 v5 : Int32} {V : Nat → Int32} {Y C : Nat → Nat}
theorem k_Y_eq : (fw_iushr (V (k / 4)) (nI (24 - 8 * (k % 4)))) &&& (255 : Int32) = nI (k_Y V k) ∧ k_Y V k < 256 := by
  obtain ⟨j, hj, e⟩ := pk_andE (fw_iushr (V (k / 4)) (nI (24 - 8 * (k % 4)))) (m := 255) 8 (by decide)
  unfold k_Y
  rw [e, nI_clamp (by omega)]
  exact ⟨rfl, by omega⟩
theorem k_c_le : ∀ k, k_c Y k ≤ k
  | 0 => Nat.le_refl _
  | k + 1 => by
    have := k_c_le k
    show k_c Y k + (if Y k = 0 then 0 else 1) ≤ k + 1
    split <;> omega
theorem k_c_mono : ∀ j k, k_c Y k ≤ k_c Y (k + j)
  | 0, k => Nat.le_refl _
  | j + 1, k => by
    have := k_c_mono j k
    show k_c Y k ≤ k_c Y (k + j) + (if Y (k + j) = 0 then 0 else 1)
    omega
/-- the shift of the j-th byte of a number -/
def k_s (j : Nat) : Int32 := if j = 4 then -8 else nI (24 - 8 * j)
theorem k_s_next (hj : j < 4) : k_s j + (-8 : Int32) = k_s (j + 1) := by
  obtain rfl | rfl | rfl | rfl : j = 0 ∨ j = 1 ∨ j = 2 ∨ j = 3 := by omega
  all_goals decide
theorem k_s_lt (hj : j < 4) : k_s j = nI (24 - 8 * j) ∧ ¬ k_s j < 0 := by
  have e : k_s j = nI (24 - 8 * j) := if_neg (by omega)
  exact ⟨e, by rw [e]; exact nI_pos (by omega)⟩
theorem k_at (hq : q < 5) (hj : j < 4) : (fw_iushr (V q) (k_s j)) &&& (255 : Int32) = nI (k_Y V (4 * q + j)) := by
  have h1 := (k_Y_eq (V := V) (k := 4 * q + j)).1
  rw [show (4 * q + j) / 4 = q by omega, show (4 * q + j) % 4 = j by omega] at h1
  rw [(k_s_lt hj).1]
  exact h1
/-- how many bytes of a number count -/
theorem z_signs (hF : 70000 ≤ F) (hq : q < 5) : s_Tape_signsOf F (V q) = some (nI (k_c (k_Y V) (4 * q + 4) - k_c (k_Y V) (4 * q))) := by
  have main : ∀ (k j nn : Nat), j + k = 4 → k < nn → l_Tape_signsOf_5 (V q) nn (nI (k_c (k_Y V) (4 * q + j) - k_c (k_Y V) (4 * q))) (k_s j) = some (nI (k_c (k_Y V) (4 * q + 4) - k_c (k_Y V) (4 * q))) := by
    intro k
    induction k with
    | zero =>
      intro j nn hj hnn
      obtain ⟨nn, rfl⟩ : ∃ k, nn = k + 1 := ⟨nn - 1, by omega⟩
      obtain rfl : j = 4 := by omega
      rw [l_Tape_signsOf_5, if_pos (by decide)]
    | succ k ih =>
      intro j nn hj hnn
      obtain ⟨nn, rfl⟩ : ∃ k, nn = k + 1 := ⟨nn - 1, by omega⟩
      have h1 := k_c_mono (Y := k_Y V) j (4 * q)
      have hlt := (k_Y_eq (V := V) (k := 4 * q + j)).2
      have hc : k_c (k_Y V) (4 * q + (j + 1)) = k_c (k_Y V) (4 * q + j) + (if k_Y V (4 * q + j) = 0 then 0 else 1) := rfl
      rw [l_Tape_signsOf_5, if_neg (k_s_lt (by omega)).2, k_at hq (by omega), k_s_next (by omega)]
      have ih' := ih (j + 1) nn (by omega) (by omega)
      by_cases h0 : k_Y V (4 * q + j) = 0
      · rw [if_pos (by rw [h0]; rfl)]
        rw [hc, if_pos h0, Nat.add_zero] at ih'
        exact ih'
      · rw [if_neg (nI_ne0 (by omega) (by omega)), nI_1]
        rw [hc, if_neg h0, show k_c (k_Y V) (4 * q + j) + 1 - k_c (k_Y V) (4 * q) = k_c (k_Y V) (4 * q + j) - k_c (k_Y V) (4 * q) + 1 by omega] at ih'
        exact ih'
  have := main 4 0 F (by omega) (by omega)
  rw [Nat.add_zero, Nat.sub_self] at this
  exact this
/-- the class's tape behind k bytes -/
def k_P (g : fw_H) (Y C : Nat → Nat) (l k : Nat) : Prop := z_I g 16 1 = nI (l + k_c Y k) ∧ ∀ i, i < l + k_c Y k → z_A g 17 i = nI (k_t Y C l k i)
theorem z_tadd (hF : 70000 ≤ F) (hq : q < 5) (hl : l + k_c (k_Y V) 20 ≤ 240) (hS : z_Sh h) (hP : k_P h (k_Y V) C l (4 * q)) :
    ∃ g, s_Tape_add F h (some 16) (V q) = some g ∧ (z_Sh g ∧ z_fr [16, 17] h g ∧ k_P g (k_Y V) C l (4 * q + 4)) := by
  have main : ∀ (k j nn : Nat) (g : fw_H), j + k = 4 → k < nn → z_Sh g → k_P g (k_Y V) C l (4 * q + j) → ∃ g', l_Tape_add_3 (some 16) (V q) nn (k_s j) g = some g' ∧ (z_Sh g' ∧ z_fr [16, 17] g g' ∧ k_P g' (k_Y V) C l (4 * q + 4)) := by
    intro k
    induction k with
    | zero =>
      intro j nn g hj hnn hS hP
      obtain ⟨nn, rfl⟩ : ∃ k, nn = k + 1 := ⟨nn - 1, by omega⟩
      obtain rfl : j = 4 := by omega
      refine ⟨g, ?_, hS, z_fr.refl, hP⟩
      rw [l_Tape_add_3, if_pos (by decide)]
    | succ k ih =>
      intro j nn g hj hnn hS hP
      obtain ⟨nn, rfl⟩ : ∃ k, nn = k + 1 := ⟨nn - 1, by omega⟩
      have hlt := (k_Y_eq (V := V) (k := 4 * q + j)).2
      have hc : k_c (k_Y V) (4 * q + (j + 1)) = k_c (k_Y V) (4 * q + j) + (if k_Y V (4 * q + j) = 0 then 0 else 1) := rfl
      have ht : k_t (k_Y V) C l (4 * q + (j + 1)) = if k_Y V (4 * q + j) = 0 then k_t (k_Y V) C l (4 * q + j) else fun i => if i = l + k_c (k_Y V) (4 * q + j) then k_Y V (4 * q + j) else k_t (k_Y V) C l (4 * q + j) i := rfl
      rw [l_Tape_add_3, if_neg (k_s_lt (by omega)).2, k_at hq (by omega), k_s_next (by omega)]
      by_cases h0 : k_Y V (4 * q + j) = 0
      · rw [if_pos (by rw [h0]; rfl)]
        refine ih (j + 1) nn g (by omega) (by omega) hS ?_
        unfold k_P
        rw [hc, ht, if_pos h0, if_pos h0, Nat.add_zero]
        exact hP
      · obtain ⟨P1, P2⟩ := hP
        have hm := k_c_mono (Y := k_Y V) (20 - (4 * q + (j + 1))) (4 * q + (j + 1))
        rw [show 4 * q + (j + 1) + (20 - (4 * q + (j + 1))) = 20 by omega, hc, if_neg h0] at hm
        obtain ⟨L, hL⟩ : ∃ L, L = l + k_c (k_Y V) (4 * q + j) := ⟨_, rfl⟩
        rw [← hL] at P1 P2
        obtain ⟨g1, hg1⟩ : ∃ g1, g1 = z_sA g 17 L (nI (k_Y V (4 * q + j))) := ⟨_, rfl⟩
        have S1 : z_Sh g1 := by rw [hg1]; exact z_Sh_sA hS
        obtain ⟨g2, hg2⟩ : ∃ g2, g2 = z_sI g1 16 1 (nI (L + 1)) := ⟨_, rfl⟩
        have S2 : z_Sh g2 := by rw [hg2]; exact z_Sh_sI S1
        have f2 : z_fr [16, 17] g g2 := by rw [hg2, hg1]; exact (z_fr.refl.sA (by simp)).sI (by simp)
        have t1 : z_I g1 16 1 = nI L := by rw [hg1, z_I_sA]; exact P1
        rw [if_neg (nI_ne0 (by omega) (by omega)), z_i16_1 hS, Option.bind_some, P1, z_r16_0 hS, Option.bind_some, z_l17 hS, Option.bind_some, if_neg (nI_ge (a := L) (b := 240) (by omega) (by decide)), Option.bind_some, Option.bind_some, z_rput (z_ckT hS rfl) (show L < 240 by omega) (by decide), Option.bind_some, ← hg1, z_i16_1 S1, Option.bind_some, t1, nI_1, z_w16_1 S1, Option.bind_some, ← hg2]
        obtain ⟨g4, d1, d2, d3, d4⟩ := ih (j + 1) nn g2 (by omega) (by omega) S2 (by
          unfold k_P
          rw [hc, ht, if_neg h0, if_neg h0, ← Nat.add_assoc, ← hL]
          refine ⟨by rw [hg2, z_II S1 6 rfl], fun i hi => ?_⟩
          rw [hg2, z_A_sI, hg1, z_A_sA (z_ckT hS rfl)]
          by_cases e : i = L
          · rw [if_pos e, if_pos e]
          · rw [if_neg e, if_neg e]; exact P2 i (by omega))
        exact ⟨g4, d1, d2, f2.trans d3, d4⟩
  unfold s_Tape_add
  rw [z_c16 hS, Option.bind_some]
  exact main 4 0 F h (by omega) (by omega) hS hP
/-- the reference's byte -/
theorem z_byteOf (hk : k < 20) : s_Mod_byteOf v1 v2 v3 v4 v5 (nI k) = some (nI (k_Y (k_V v1 v2 v3 v4 v5) k)) := by
  have h1 := (k_Y_eq (V := k_V v1 v2 v3 v4 v5) (k := k)).1
  have e1 : f_irem (nI k) (4 : Int32) = some (nI (k % 4)) := z_irem (d := 4) (by omega) (by decide) (by decide)
  have e2 : (24 : Int32) - ((8 : Int32) * nI (k % 4)) = nI (24 - 8 * (k % 4)) := by
    rw [show (8 : Int32) = nI 8 from rfl, pk_mul]
    exact pk_sub (a := 24) (by omega)
  have e3 : ∀ v : Int32, (v >>> (((24 : Int32) - ((8 : Int32) * nI (k % 4))) &&& 31)) &&& (255 : Int32) = (fw_iushr v (nI (24 - 8 * (k % 4)))) &&& (255 : Int32) := fun v => by rw [e2]; exact k_byte v (by omega)
  unfold s_Mod_byteOf
  rw [e1]
  simp only [Option.bind_some]
  rw [e3, e3, e3, e3, e3]
  by_cases c4 : k < 4
  · rw [if_neg (show ¬ (4 : Int32) ≤ nI k from nI_ge (b := 4) c4 (by decide))]
    rw [show k_V v1 v2 v3 v4 v5 (k / 4) = v1 from if_pos (by omega)] at h1
    rw [h1]
  · rw [if_pos (show (4 : Int32) ≤ nI k from nI_le (a := 4) (by omega) (by omega))]
    by_cases c8 : k < 8
    · rw [if_neg (show ¬ (8 : Int32) ≤ nI k from nI_ge (b := 8) c8 (by decide))]
      rw [show k_V v1 v2 v3 v4 v5 (k / 4) = v2 by unfold k_V; rw [if_neg (by omega), if_pos (by omega)]] at h1
      rw [h1]
    · rw [if_pos (show (8 : Int32) ≤ nI k from nI_le (a := 8) (by omega) (by omega))]
      by_cases c12 : k < 12
      · rw [if_neg (show ¬ (12 : Int32) ≤ nI k from nI_ge (b := 12) c12 (by decide))]
        rw [show k_V v1 v2 v3 v4 v5 (k / 4) = v3 by unfold k_V; rw [if_neg (by omega), if_neg (by omega), if_pos (by omega)]] at h1
        rw [h1]
      · rw [if_pos (show (12 : Int32) ≤ nI k from nI_le (a := 12) (by omega) (by omega))]
        by_cases c16 : k < 16
        · rw [if_neg (show ¬ (16 : Int32) ≤ nI k from nI_ge (b := 16) c16 (by decide))]
          rw [show k_V v1 v2 v3 v4 v5 (k / 4) = v4 by unfold k_V; rw [if_neg (by omega), if_neg (by omega), if_neg (by omega), if_pos (by omega)]] at h1
          rw [h1]
        · rw [if_pos (show (16 : Int32) ≤ nI k from nI_le (a := 16) (by omega) (by omega))]
          rw [show k_V v1 v2 v3 v4 v5 (k / 4) = v5 by unfold k_V; rw [if_neg (by omega), if_neg (by omega), if_neg (by omega), if_neg (by omega)]] at h1
          rw [h1]
theorem z_mfeed6 {K : Int32 → Option (Int32 × fw_H)} : ∀ (k i nn : Nat), i + k = 20 → k < nn → l_Mod_feed_6 v1 v2 v3 v4 v5 K nn (nI (k_c (k_Y (k_V v1 v2 v3 v4 v5)) i)) (nI i) = K (nI (k_c (k_Y (k_V v1 v2 v3 v4 v5)) 20)) := by
  intro k
  induction k with
  | zero =>
    intro i nn hi hnn
    obtain ⟨nn, rfl⟩ : ∃ k, nn = k + 1 := ⟨nn - 1, by omega⟩
    obtain rfl : i = 20 := by omega
    rw [l_Mod_feed_6, if_pos (by decide)]
  | succ k ih =>
    intro i nn hi hnn
    obtain ⟨nn, rfl⟩ : ∃ k, nn = k + 1 := ⟨nn - 1, by omega⟩
    have hlt := (k_Y_eq (V := k_V v1 v2 v3 v4 v5) (k := i)).2
    have ih' := ih (i + 1) nn (by omega) (by omega)
    have hc : k_c (k_Y (k_V v1 v2 v3 v4 v5)) (i + 1) = k_c (k_Y (k_V v1 v2 v3 v4 v5)) i + (if k_Y (k_V v1 v2 v3 v4 v5) i = 0 then 0 else 1) := rfl
    rw [hc] at ih'
    rw [l_Mod_feed_6, if_neg (show ¬ (20 : Int32) ≤ nI i from nI_ge (b := 20) (by omega) (by decide)), z_byteOf (by omega), Option.bind_some, show nI i + (1 : Int32) = nI (i + 1) from nI_1 i]
    by_cases h0 : k_Y (k_V v1 v2 v3 v4 v5) i = 0
    · rw [if_pos h0, Nat.add_zero] at ih'
      rw [if_pos (show nI (k_Y (k_V v1 v2 v3 v4 v5) i) = 0 by rw [h0]; rfl), Int32.add_zero]
      exact ih'
    · rw [if_neg h0] at ih'
      rw [if_neg (nI_ne0 (by omega) (by omega)), nI_1]
      exact ih'
/-- the reference's tape behind k bytes -/
def k_Q (g : fw_H) (Y C : Nat → Nat) (l k : Nat) : Prop := z_I g 68 2 = nI (l + k_c Y k) ∧ ∀ i, i < l + k_c Y k → z_A g 69 i = nI (k_t Y C l k i)
theorem z_mfeed62 (hV : V = k_V v1 v2 v3 v4 v5) (hl : l + k_c (k_Y V) 20 ≤ 240) : ∀ (k i nn : Nat) (g : fw_H), i + k = 20 → k < nn → z_Sh g → k_Q g (k_Y V) C l i →
    ∃ g', l_Mod_feed_62 (some 68) v1 v2 v3 v4 v5 nn (nI i) g = some (nI (l + k_c (k_Y V) 20), g') ∧ (z_Sh g' ∧ z_fr [68, 69] g g' ∧ (∀ k, k ≠ 2 → z_I g' 68 k = z_I g 68 k) ∧ k_Q g' (k_Y V) C l 20) := by
  intro k
  induction k with
  | zero =>
    intro i nn g hi hnn hS hP
    obtain ⟨nn, rfl⟩ : ∃ k, nn = k + 1 := ⟨nn - 1, by omega⟩
    obtain rfl : i = 20 := by omega
    refine ⟨g, ?_, hS, z_fr.refl, fun _ _ => rfl, hP⟩
    rw [l_Mod_feed_62, if_pos (by decide), z_i68_2 hS, Option.bind_some, hP.1]
  | succ k ih =>
    intro i nn g hi hnn hS hP
    obtain ⟨nn, rfl⟩ : ∃ k, nn = k + 1 := ⟨nn - 1, by omega⟩
    have hlt := (k_Y_eq (V := V) (k := i)).2
    have hc : k_c (k_Y V) (i + 1) = k_c (k_Y V) i + (if k_Y V i = 0 then 0 else 1) := rfl
    have ht : k_t (k_Y V) C l (i + 1) = if k_Y V i = 0 then k_t (k_Y V) C l i else fun j => if j = l + k_c (k_Y V) i then k_Y V i else k_t (k_Y V) C l i j := rfl
    have hby : s_Mod_byteOf v1 v2 v3 v4 v5 (nI i) = some (nI (k_Y V i)) := by rw [hV]; exact z_byteOf (by omega)
    rw [l_Mod_feed_62, if_neg (show ¬ (20 : Int32) ≤ nI i from nI_ge (b := 20) (by omega) (by decide)), hby, Option.bind_some, show nI i + (1 : Int32) = nI (i + 1) from nI_1 i]
    by_cases h0 : k_Y V i = 0
    · rw [if_pos (show nI (k_Y V i) = 0 by rw [h0]; rfl)]
      refine ih (i + 1) nn g (by omega) (by omega) hS ?_
      unfold k_Q
      rw [hc, ht, if_pos h0, if_pos h0, Nat.add_zero]
      exact hP
    · obtain ⟨P1, P2⟩ := hP
      have hm := k_c_mono (Y := k_Y V) (20 - (i + 1)) (i + 1)
      rw [show i + 1 + (20 - (i + 1)) = 20 by omega, hc, if_neg h0] at hm
      obtain ⟨L, hL⟩ : ∃ L, L = l + k_c (k_Y V) i := ⟨_, rfl⟩
      rw [← hL] at P1 P2
      obtain ⟨g1, hg1⟩ : ∃ g1, g1 = z_sA g 69 L (nI (k_Y V i)) := ⟨_, rfl⟩
      have S1 : z_Sh g1 := by rw [hg1]; exact z_Sh_sA hS
      obtain ⟨g2, hg2⟩ : ∃ g2, g2 = z_sI g1 68 2 (nI (L + 1)) := ⟨_, rfl⟩
      have S2 : z_Sh g2 := by rw [hg2]; exact z_Sh_sI S1
      have f2 : z_fr [68, 69] g g2 := by rw [hg2, hg1]; exact (z_fr.refl.sA (by simp)).sI (by simp)
      have t1 : z_I g1 68 2 = nI L := by rw [hg1, z_I_sA]; exact P1
      rw [if_neg (nI_ne0 (by omega) (by omega)), z_r68_1 hS, Option.bind_some, z_i68_2 hS, Option.bind_some, P1, z_s69 hS (show L < 240 by omega), Option.bind_some, ← hg1, z_i68_2 S1, Option.bind_some, t1, nI_1, z_w68_2 S1, Option.bind_some, ← hg2]
      obtain ⟨g4, d1, d2, d3, d5, d4⟩ := ih (i + 1) nn g2 (by omega) (by omega) S2 (by
        unfold k_Q
        rw [hc, ht, if_neg h0, if_neg h0, ← Nat.add_assoc, ← hL]
        refine ⟨by rw [hg2, z_II S1 12 rfl], fun i' hi' => ?_⟩
        rw [hg2, z_A_sI, hg1, z_A_sA (z_ckT hS rfl)]
        by_cases e : i' = L
        · rw [if_pos e, if_pos e]
        · rw [if_neg e, if_neg e]; exact P2 i' (by omega))
      exact ⟨g4, d1, d2, f2.trans d3, fun k hk => by rw [d5 k hk, hg2, z_I_sI_nk hk, hg1, z_I_sA], d4⟩
theorem k_t_ok (hY : ∀ k, Y k < 256) (hC : ∀ i, i < l → 1 ≤ C i ∧ C i < 256) : ∀ k i, i < l + k_c Y k → 1 ≤ k_t Y C l k i ∧ k_t Y C l k i < 256
  | 0, i, h => hC i h
  | k + 1, i, h => by
    have ht : k_t Y C l (k + 1) = if Y k = 0 then k_t Y C l k else fun j => if j = l + k_c Y k then Y k else k_t Y C l k j := rfl
    have hc : k_c Y (k + 1) = k_c Y k + (if Y k = 0 then 0 else 1) := rfl
    rw [ht]
    rw [hc] at h
    have hy := hY k
    by_cases h0 : Y k = 0
    · rw [if_pos h0]
      rw [if_pos h0] at h
      exact k_t_ok hY hC k i h
    · rw [if_neg h0]
      rw [if_neg h0] at h
      by_cases e : i = l + k_c Y k
      · show 1 ≤ (if i = l + k_c Y k then Y k else _) ∧ (if i = l + k_c Y k then Y k else _) < 256
        rw [if_pos e]
        omega
      · show 1 ≤ (if i = l + k_c Y k then Y k else _) ∧ (if i = l + k_c Y k then Y k else _) < 256
        rw [if_neg e]
        exact k_t_ok hY hC k i (by omega)
/-- feed -/
theorem call_feed (hF : 70000 ≤ F) (hR : w_R h) : ∃ v h1 h2, s_Joy_feed F h (some 15) v1 v2 v3 v4 v5 = some (v, h1) ∧ s_Mod_feed F h1 (some 68) v1 v2 v3 v4 v5 = some (v, h2) ∧ w_call h h1 h2 := by
  obtain ⟨n, w, T, Wd, f, lw, p, hR⟩ := hR
  have hS := hR.1
  have hR0 := hR
  obtain ⟨r1, r2, r3, ⟨l, l1, l2, l3, l4⟩, r5, r6, r7, r8, r9⟩ := hR0
  obtain ⟨C, hC⟩ : ∃ C : Nat → Nat, C = fun i => (z_A h 17 i).toNatClampNeg := ⟨_, rfl⟩
  have hC1 : ∀ i, i < l → (1 ≤ C i ∧ C i < 256) ∧ z_A h 17 i = nI (C i) ∧ z_A h 69 i = nI (C i) := by
    intro i hi
    obtain ⟨c, c1, c2, c3, c4⟩ := l4 i hi
    have e : C i = c := by rw [hC]; show (z_A h 17 i).toNatClampNeg = c; rw [c3, nI_clamp (by omega)]
    rw [e]
    exact ⟨⟨c1, c2⟩, c3, c4⟩
  obtain ⟨V, hV⟩ : ∃ V, V = k_V v1 v2 v3 v4 v5 := ⟨_, rfl⟩
  have e0 : v1 = V 0 := by rw [hV]; rfl
  have e1 : v2 = V 1 := by rw [hV]; rfl
  have e2 : v3 = V 2 := by rw [hV]; rfl
  have e3 : v4 = V 3 := by rw [hV]; rfl
  have e4 : v5 = V 4 := by rw [hV]; rfl
  have m0 := k_c_mono (Y := k_Y V) 4 0
  have m1 := k_c_mono (Y := k_Y V) 4 4
  have m2 := k_c_mono (Y := k_Y V) 4 8
  have m3 := k_c_mono (Y := k_Y V) 4 12
  have m4 := k_c_mono (Y := k_Y V) 4 16
  have m5 := k_c_le (Y := k_Y V) 20
  have hz : k_c (k_Y V) 0 = 0 := rfl
  have em : ∀ g, z_Sh g → z_I g 68 2 = nI l → s_Mod_feed F g (some 68) v1 v2 v3 v4 v5 = if nI (l + k_c (k_Y V) 20) ≤ (240 : Int32) then l_Mod_feed_62 (some 68) v1 v2 v3 v4 v5 F (nI 0) g else some (-1, g) := by
    intro g hg e
    unfold s_Mod_feed
    rw [z_c68 hg, Option.bind_some]
    have := z_mfeed6 (v1 := v1) (v2 := v2) (v3 := v3) (v4 := v4) (v5 := v5) (K := fun e44_6 => (f_gI g (some 68) 12 2).bind fun x45 => if (x45 + e44_6) ≤ (240 : Int32) then (l_Mod_feed_62 (some 68) v1 v2 v3 v4 v5 F (0 : Int32) g) else some ((-1 : Int32), g)) 20 0 F (by omega) (by omega)
    refine Eq.trans this ?_
    rw [z_i68_2 hg, Option.bind_some, e, ← hV, nI_add]
    rfl
  unfold s_Joy_feed s_Tape_size
  rw [z_c15 hS, Option.bind_some]
  have sg := fun q (hq : q < 5) => z_signs (V := V) (q := q) hF hq
  rw [e0, sg 0 (by decide), Option.bind_some, e1, sg 1 (by decide), Option.bind_some, e2, sg 2 (by decide), Option.bind_some, e3, sg 3 (by decide), Option.bind_some, e4, sg 4 (by decide), Option.bind_some, z_r15_0 hS, Option.bind_some, z_c16 hS, Option.bind_some, z_i16_1 hS, Option.bind_some, l2, Option.bind_some, nI_add, nI_add, nI_add, nI_add, nI_add]
  rw [← e0, ← e1, ← e2, ← e3, ← e4]
  rw [show l + (k_c (k_Y V) (4 * 0 + 4) - k_c (k_Y V) (4 * 0) + (k_c (k_Y V) (4 * 1 + 4) - k_c (k_Y V) (4 * 1)) + (k_c (k_Y V) (4 * 2 + 4) - k_c (k_Y V) (4 * 2)) + (k_c (k_Y V) (4 * 3 + 4) - k_c (k_Y V) (4 * 3)) + (k_c (k_Y V) (4 * 4 + 4) - k_c (k_Y V) (4 * 4))) = l + k_c (k_Y V) 20 by
    have a0 : k_c (k_Y V) (0 + 4) = k_c (k_Y V) 4 := rfl
    have a1 : k_c (k_Y V) (4 + 4) = k_c (k_Y V) 8 := rfl
    have a2 : k_c (k_Y V) (8 + 4) = k_c (k_Y V) 12 := rfl
    have a3 : k_c (k_Y V) (12 + 4) = k_c (k_Y V) 16 := rfl
    have a4 : k_c (k_Y V) (16 + 4) = k_c (k_Y V) 20 := rfl
    show l + (k_c (k_Y V) 4 - k_c (k_Y V) 0 + (k_c (k_Y V) 8 - k_c (k_Y V) 4) + (k_c (k_Y V) 12 - k_c (k_Y V) 8) + (k_c (k_Y V) 16 - k_c (k_Y V) 12) + (k_c (k_Y V) 20 - k_c (k_Y V) 16)) = _
    omega]
  by_cases hfit : l + k_c (k_Y V) 20 ≤ 240
  · rw [if_pos (show nI (l + k_c (k_Y V) 20) ≤ (240 : Int32) from nI_le (b := 240) hfit (by decide)), Option.bind_some]
    obtain ⟨g1, a1, a2, a3, a4⟩ := z_tadd (q := 0) (C := C) hF (by decide) hfit hS ⟨l2, fun i hi => (hC1 i hi).2.1⟩
    obtain ⟨g2, b1, b2, b3, b4⟩ := z_tadd (q := 1) (C := C) hF (by decide) hfit a2 a4
    obtain ⟨g3, c1, c2, c3, c4⟩ := z_tadd (q := 2) (C := C) hF (by decide) hfit b2 b4
    obtain ⟨g4, d1, d2, d3, d4⟩ := z_tadd (q := 3) (C := C) hF (by decide) hfit c2 c4
    obtain ⟨g5, f1, f2, f3, f4⟩ := z_tadd (q := 4) (C := C) hF (by decide) hfit d2 d4
    have F5 : z_fr [16, 17] h g5 := (((a3.trans b3).trans c3).trans d3).trans f3
    rw [← e0] at a1
    rw [← e1] at b1
    rw [← e2] at c1
    rw [← e3] at d1
    rw [← e4] at f1
    rw [a1, Option.bind_some, z_r15_0 a2, Option.bind_some, b1, Option.bind_some, z_r15_0 b2, Option.bind_some, c1, Option.bind_some, z_r15_0 c2, Option.bind_some, d1, Option.bind_some, z_r15_0 d2, Option.bind_some, f1, Option.bind_some, z_r15_0 f2, Option.bind_some, z_c16 f2, Option.bind_some, z_i16_1 f2, Option.bind_some, f4.1, Option.bind_some]
    obtain ⟨g6, k1, k2, k3, k4, k5⟩ := z_mfeed62 (V := V) (C := C) hV hfit 20 0 F g5 (by omega) (by omega) f2 ⟨by rw [F5.I (by decide)]; exact l3, fun i hi => by rw [F5.A (by decide)]; exact (hC1 i hi).2.2⟩
    have q5 : w_q [16, 17, 69] [] [2] h g5 := w_q.fr F5 (fun j hj => .inl (by revert j; decide)) (by decide) (by decide)
    have q6 : w_q [16, 17, 69] [] [2] h g6 := q5.trans (w_q.m68 k3 (by decide) (by decide) (fun k hk => k4 k (by simpa using hk)))
    refine ⟨nI (l + k_c (k_Y V) 20), g5, g6, rfl, ?_, q5.c0 (by decide), ⟨n, w, T, Wd, f, lw, p, q6.sh (by decide) r1, q6.vil (by decide) (by decide) r2, q6.laws (by decide) (by decide) (by decide) r3, ⟨l + k_c (k_Y V) 20, hfit, ?_, k5.1, fun i hi => ?_⟩, q6.acts (by decide) (by decide) r5, q6.img r2.1.1 r2.1.2.1 (by decide) (by decide) (by decide) r6, q6.seen (by decide) (by decide) r7, q6.mist (by decide) (by decide) r8, q6.trail (by decide) r9⟩, q6.c0 (by decide)⟩
    · rw [em g5 f2 (by rw [F5.I (by decide)]; exact l3), if_pos (show nI (l + k_c (k_Y V) 20) ≤ (240 : Int32) from nI_le (b := 240) hfit (by decide))]
      exact k1
    · rw [k3.I (by decide)]; exact f4.1
    · obtain ⟨x1, x2⟩ := k_t_ok (Y := k_Y V) (C := C) (l := l) (fun k => (k_Y_eq (V := V) (k := k)).2) (fun i hi => (hC1 i hi).1) 20 i hi
      exact ⟨_, x1, x2, by rw [k3.A (by decide)]; exact f4.2 i hi, k5.2 i hi⟩
  · rw [if_neg (show ¬ nI (l + k_c (k_Y V) 20) ≤ (240 : Int32) from nI_ge (a := 240) (by omega) (by omega))]
    exact ⟨-1, h, h, rfl, by rw [em h hS l3, if_neg (show ¬ nI (l + k_c (k_Y V) 20) ≤ (240 : Int32) from nI_ge (a := 240) (by omega) (by omega))], w_call.rr hR⟩
end FE
