-- ROUND AND ROUND: the first state that comes again; the class's trail
def c_s (p : e_P) : Nat := (p.1 * 13 + p.2.1) * 24 + p.2.2
def c_x (E : z_E) (p : e_P) (i : Nat) : e_P := e_it E i p
/-- where it was ahead of i hours, as bits -/
def c_m (x : Nat → e_P) : Nat → Nat
  | 0 => 0
  | i + 1 => c_m x i ||| 2 ^ (x i).1
/-- the state behind u hours is that behind j, and no other ahead of it came twice -/
def c_R (x : Nat → e_P) (j u : Nat) : Prop := j < u ∧ u ≤ 3744 ∧ x j = x u ∧ ∀ a b, a < b → b < u → x a ≠ x b
section CR
variable {E : z_E} {p q : e_P} {x : Nat → e_P} {i j u B F n : Nat} {h h' g : fw_H}
theorem c_s_lt (h : e_ok E p) (hE : E.1 ≤ 12) : c_s p < 3744 := by
  obtain ⟨a, b, c⟩ := h
  unfold c_s
  omega
theorem c_s_inj (hE : E.1 ≤ 12) (hp : e_ok E p) (hq : e_ok E q) (h : c_s p = c_s q) : p = q := by
  obtain ⟨a, b, t⟩ := p
  obtain ⟨a', b', t'⟩ := q
  obtain ⟨p1, p2, p3⟩ := hp
  obtain ⟨q1, q2, q3⟩ := hq
  unfold c_s at h
  simp only at h p1 p2 p3 q1 q2 q3
  have h1 : a * 13 + b = a' * 13 + b' := by omega
  have h2 : t = t' := by omega
  have h3 : a = a' := by omega
  have h4 : b = b' := by omega
  rw [h2, h3, h4]
theorem c_x_ok (hp : e_ok E p) : e_ok E (c_x E p i) := e_it_ok i p hp
theorem c_x_succ : c_x E p (i + 1) = e_go E (c_x E p i) := e_it_succ i p
theorem c_x_add : c_x E p (i + j) = c_x E (c_x E p i) j := e_it_add i j p
/-- some state comes again -/
theorem c_ex (hE : E.1 ≤ 12) (hp : e_ok E p) : ∃ j u, c_R (c_x E p) j u := by
  obtain ⟨a, b, h1, h2, h3⟩ := fb_twice (m := 3744) (n := 3745) (f := fun i => c_s (c_x E p i)) (fun i _ => c_s_lt (c_x_ok hp) hE) (by decide)
  have e : c_x E p a = c_x E p b := c_s_inj hE (c_x_ok hp) (c_x_ok hp) h3
  obtain ⟨u, ⟨j, u1, u2⟩, u3⟩ := pk_least (fun u => ∃ j, j < u ∧ c_x E p j = c_x E p u) ⟨b, a, h1, e⟩
  refine ⟨j, u, u1, ?_, u2, fun a b h1 h2 z => u3 b h2 ⟨a, h1, z⟩⟩
  rcases Nat.lt_or_ge b u with z | z
  · exact absurd ⟨a, h1, e⟩ (u3 b z)
  · omega
theorem c_m_bit {y : Nat} : ∀ {i : Nat}, (c_m x i).testBit y = true ↔ ∃ j, j < i ∧ (x j).1 = y
  | 0 => ⟨fun z => (by rw [show c_m x 0 = 0 from rfl, Nat.zero_testBit] at z; cases z), fun ⟨j, a, _⟩ => absurd a (Nat.not_lt_zero _)⟩
  | i + 1 => by
    rw [show c_m x (i + 1) = c_m x i ||| 2 ^ (x i).1 from rfl, v_or_bit, Bool.or_eq_true, c_m_bit, decide_eq_true_eq]
    constructor
    · rintro (⟨j, a, b⟩ | z)
      · exact ⟨j, by omega, b⟩
      · exact ⟨i, by omega, z⟩
    · rintro ⟨j, a, b⟩
      by_cases z : j = i
      · subst z; exact .inr b
      · exact .inl ⟨j, by omega, b⟩
theorem c_m_lt (h : ∀ i, (x i).1 < 12) : ∀ i, c_m x i < 2 ^ 12
  | 0 => (by decide : 0 < 2 ^ 12)
  | i + 1 => z_orlt (c_m_lt h i) (z_pow (h i))
theorem z_subI {a b : Nat} (ha : a < 2 ^ 31) (hb : b < 2 ^ 31) : (nI a - nI b).toInt = (a : Int) - b := by
  rw [Int32.toInt_sub, nI_toInt ha, nI_toInt hb]
  exact Int.bmod_eq_of_le (by omega) (by omega)
/-- the trail behind i marks -/
def c_T (h : fw_H) (B : Nat) (x : Nat → e_P) (i : Nat) : Prop := 1 ≤ B ∧ B ≤ 2000003745 ∧ z_I h 48 12 = nI B ∧ (∀ j, j < i → z_A h 58 (c_s (x j)) = nI (B + j)) ∧ ∀ s, s < 3744 → (∀ j, j < i → c_s (x j) ≠ s) → ∃ v, v < B ∧ z_A h 58 s = nI v
theorem c_T.trail (hT : c_T h B x i) (hi : i ≤ 3745) : w_tr0 h := by
  obtain ⟨b1, b2, b3, b4, b5⟩ := hT
  refine ⟨B, b1, b2, b3, fun s hs => ?_⟩
  by_cases hex : ∃ j, j < i ∧ c_s (x j) = s
  · obtain ⟨j, j1, rfl⟩ := hex
    exact ⟨B + j, by omega, b4 j j1⟩
  · obtain ⟨v, v1, v2⟩ := b5 s hs (fun j hj z => hex ⟨j, hj, z⟩)
    exact ⟨v, by omega, v2⟩
theorem w_k.tr (hf : z_fr [48, 58] h h') (hT : w_tr0 h') : w_k h h' :=
  ⟨hf.1, fun j _ _ h1 h2 _ _ _ => hf.2 j (by simp; exact ⟨h1, h2⟩), fun k _ => hf.I (by decide), hf.I (by decide), hf.I (by decide), fun x => ⟨hT, x.2.of (fun k => hf.R (by decide))⟩⟩
theorem z_CW.of {As : List Nat} (hf : z_fr As h h') (hA : 49 ∉ As ∧ 50 ∉ As ∧ 54 ∉ As ∧ 55 ∉ As ∧ 56 ∉ As) (h5 : z_I h' 48 5 = z_I h 48 5) (h6 : z_I h' 48 6 = z_I h 48 6) (hC : z_CW h E) : z_CW h' E := by
  obtain ⟨c1, c2, c3, ⟨m, c4, c5, c6⟩, c7, k, c8, c9, c10⟩ := hC
  refine ⟨c1, ?_, fun a ha => ?_, ⟨m, c4, h6.trans c5, fun x hx => ?_⟩, fun x hx => ?_, k, c8, h5.trans c9, fun x hx t ht => ?_⟩
  · rw [hf.I hA.1]; exact c2
  · rw [hf.A hA.2.2.2.1]
    exact ⟨(c3 a ha).1, fun j x e => by rw [hf.A hA.2.2.1]; exact (c3 a ha).2 j x e⟩
  · rw [hf.A hA.2.1]; exact c6 x hx
  · rw [hf.A hA.2.1]; exact c7 x hx
  · rw [hf.A hA.2.2.2.2]; exact c10 x hx t ht
theorem z_ps.of (h2 : z_I h' 48 2 = z_I h 48 2) (h3 : z_I h' 48 3 = z_I h 48 3) (h4 : z_I h' 48 4 = z_I h 48 4) (hp : z_ps h p) : z_ps h' p := ⟨h2.trans hp.1, h3.trans hp.2.1, h4.trans hp.2.2⟩
/-- Walk.beginTrail -/
theorem z_beginTrail (hF : 70000 ≤ F) (hS : z_Sh h) (hT : w_tr0 h) : ∃ h' B, s_Walk_beginTrail F h (some 48) = some h' ∧ (z_fr [48, 58] h h' ∧ (∀ k, k ≠ 12 → z_I h' 48 k = z_I h 48 k) ∧ c_T h' B x 0) := by
  obtain ⟨B, b1, b2, b3, b4⟩ := hT
  unfold s_Walk_beginTrail
  rw [z_c48 hS, Option.bind_some, z_i48_12 hS, Option.bind_some, b3]
  by_cases hB : B ≤ 2000000000
  · rw [if_pos (show nI B ≤ (2000000000 : Int32) from nI_le (b := 2000000000) hB (by decide)), Option.bind_some, show nI B + (3745 : Int32) = nI (B + 3745) from nI_add B 3745, z_w48_12 hS, Option.bind_some]
    refine ⟨_, B + 3745, rfl, z_fr.refl.sI (by simp), fun k hk => z_I_sI_nk hk, by omega, by omega, z_II hS 9 rfl, fun j hj => absurd hj (Nat.not_lt_zero _), fun s hs _ => ?_⟩
    obtain ⟨v, v1, v2⟩ := b4 s hs
    exact ⟨v, by omega, by rw [z_A_sI]; exact v2⟩
  · obtain ⟨g, a1, a2, a3⟩ := z_fillI (v := 0) (h := h) (b := 58) (n := 3744) hF (by decide) (z_ckT hS rfl)
    have Sg := hS.fr a2 (by decide)
    rw [if_neg (show ¬ nI B ≤ (2000000000 : Int32) from nI_ge (a := 2000000000) (by omega) (by omega)), z_r48_11 hS, Option.bind_some, a1, Option.bind_some, z_w48_12 Sg, Option.bind_some]
    refine ⟨_, 1, rfl, (a2.mono (by simp)).sI (by simp), fun k hk => by rw [z_I_sI_nk hk, a2.I (by decide)], by decide, by decide, ?_, fun j hj => absurd hj (Nat.not_lt_zero _), fun s hs _ => ⟨0, by decide, ?_⟩⟩
    · rw [z_II Sg 9 rfl]; rfl
    · rw [z_A_sI]; exact a3 s hs
theorem z_placeNow (hS : z_Sh h) (hp : z_ps h p) (hE : E.1 ≤ 12) (hk : e_ok E p) : s_Walk_placeNow h (some 48) = some (nI (p.1 * 13 + p.2.1)) := by
  obtain ⟨p1, p2, p3⟩ := hp
  obtain ⟨k1, k2, k3⟩ := hk
  unfold s_Walk_placeNow
  rw [z_c48 hS, Option.bind_some, z_i48_2 hS, Option.bind_some, p1, z_i48_3 hS, Option.bind_some, p2]
  have e1 : nI p.1 * (13 : Int32) = nI (p.1 * 13) := pk_mul _ 13
  by_cases h12 : p.2.1 = 12
  · rw [if_neg (by rw [h12]; decide), e1, h12]
    exact congrArg some (nI_add _ 12)
  · rw [z_bn h12, if_pos (z_neg1 (by omega)), Option.bind_some, e1, nI_add]
/-- Walk.markTrail: it was so behind j hours -/
theorem z_markY (hS : z_Sh h) (hE : E.1 ≤ 12) (hk : ∀ i, e_ok E (x i)) (hp : z_ps h (x i)) (hT : c_T h B x i) (hj : j < i) (hi : i ≤ 3744) (e : x j = x i) : s_Walk_markTrail h (some 48) (nI i) = some (nI j, h) := by
  obtain ⟨b1, b2, b3, b4, b5⟩ := hT
  have hlt := c_s_lt (hk i) hE
  unfold s_Walk_markTrail
  rw [z_c48 hS, Option.bind_some, z_placeNow hS hp hE (hk i), Option.bind_some, z_i48_4 hS, Option.bind_some, hp.2.2, z_r48_11 hS, Option.bind_some]
  rw [show nI ((x i).1 * 13 + (x i).2.1) * (24 : Int32) + nI (x i).2.2 = nI (c_s (x i)) by rw [show (24 : Int32) = nI 24 from rfl, pk_mul, nI_add]; rfl]
  rw [z_rget (z_ckT hS rfl) hlt (by decide), Option.bind_some, z_i48_12 hS, Option.bind_some, b3, ← e, b4 j hj, pk_sub (by omega), show B + j - B = j by omega, if_neg (nI_pos (by omega))]
/-- Walk.markTrail: it was never so -/
theorem z_markN (hS : z_Sh h) (hE : E.1 ≤ 12) (hk : ∀ i, e_ok E (x i)) (hp : z_ps h (x i)) (hT : c_T h B x i) (hi : i ≤ 3744) (hn : ∀ j, j < i → x j ≠ x i) :
    s_Walk_markTrail h (some 48) (nI i) = some (-1, z_sA h 58 (c_s (x i)) (nI (B + i))) ∧ c_T (z_sA h 58 (c_s (x i)) (nI (B + i))) B x (i + 1) := by
  have hT0 := hT
  obtain ⟨b1, b2, b3, b4, b5⟩ := hT0
  have hlt := c_s_lt (hk i) hE
  have hns : ∀ j, j < i → c_s (x j) ≠ c_s (x i) := fun j hj z => hn j hj (c_s_inj hE (hk j) (hk i) z)
  obtain ⟨v, v1, v2⟩ := b5 _ hlt hns
  constructor
  · unfold s_Walk_markTrail
    rw [z_c48 hS, Option.bind_some, z_placeNow hS hp hE (hk i), Option.bind_some, z_i48_4 hS, Option.bind_some, hp.2.2, z_r48_11 hS, Option.bind_some]
    rw [show nI ((x i).1 * 13 + (x i).2.1) * (24 : Int32) + nI (x i).2.2 = nI (c_s (x i)) by rw [show (24 : Int32) = nI 24 from rfl, pk_mul, nI_add]; rfl]
    rw [z_rget (z_ckT hS rfl) hlt (by decide), Option.bind_some, z_i48_12 hS, Option.bind_some, b3, v2]
    rw [if_pos (show nI v - nI B < 0 by rw [fa_lt, z_subI (by omega) (by omega)]; have : (0 : Int32).toInt = 0 := (by decide); omega)]
    rw [Option.bind_some, Option.bind_some, nI_add, z_rput (z_ckT hS rfl) hlt (by decide)]
    rfl
  · refine ⟨b1, b2, by rw [z_I_sA]; exact b3, fun j hj => ?_, fun s hs hns' => ?_⟩
    · rw [z_A_sA (z_ckT hS rfl)]
      by_cases e : j = i
      · subst e; rw [if_pos rfl]
      · rw [if_neg (hns j (by omega))]; exact b4 j (by omega)
    · rw [z_A_sA (z_ckT hS rfl), if_neg (fun z => hns' i (by omega) z.symm)]
      exact b5 s hs (fun j hj => hns' j (by omega))
/-- Walk.circle -/
theorem z_circleL (hF : 70000 ≤ F) (hp0 : e_ok E p) (hR : c_R (c_x E p) j u) : ∀ (k i nn : Nat) (g : fw_H), i + k = u → k < nn → z_Sh g → z_CW g E → z_ps g (c_x E p i) → c_T g B (c_x E p) i → z_I g 48 15 = nI (c_m (c_x E p) i) →
    ∃ g', l_Walk_circle_11 F (some 48) nn (nI i) g = some g' ∧ (z_fr [48, 58] g g' ∧ w_tr0 g' ∧ z_CW g' E ∧ z_ps g' (c_x E p u) ∧ z_I g' 48 13 = nI j ∧ z_I g' 48 14 = nI (u - j) ∧ z_I g' 48 15 = nI (c_m (c_x E p) u)) := by
  obtain ⟨r1, r2, r3, r4⟩ := hR
  have hk : ∀ i, e_ok E (c_x E p i) := fun i => c_x_ok hp0
  intro k
  induction k with
  | zero =>
    intro i nn g hi hnn hS hC hp hT hm
    obtain ⟨nn, rfl⟩ : ∃ k, nn = k + 1 := ⟨nn - 1, by omega⟩
    obtain rfl : i = u := by omega
    have hE := hC.1.1
    rw [l_Walk_circle_11, if_neg (show ¬ (3744 : Int32) < nI i from nI_nlt (a := 3744) (by omega) (by decide)), z_markY hS hE hk hp hT r1 r2 r3, Option.bind_some, if_neg (z_neg1 (by omega)), z_w48_13 hS, Option.bind_some, z_w48_14 (z_Sh_sI hS), Option.bind_some, pk_sub (by omega)]
    refine ⟨_, rfl, (z_fr.refl.sI (by simp)).sI (by simp), ?_, ?_, ?_, ?_, ?_, ?_⟩
    · exact (hT.trail (by omega)).of (by rw [z_I_sI_nk (by decide), z_I_sI_nk (by decide)]) (fun j => by rw [z_A_sI, z_A_sI])
    · exact hC.of ((z_fr.refl.sI (As := [48]) (by simp)).sI (by simp)) (by decide) (by rw [z_I_sI_nk (by decide), z_I_sI_nk (by decide)]) (by rw [z_I_sI_nk (by decide), z_I_sI_nk (by decide)])
    · exact hp.of (by rw [z_I_sI_nk (by decide), z_I_sI_nk (by decide)]) (by rw [z_I_sI_nk (by decide), z_I_sI_nk (by decide)]) (by rw [z_I_sI_nk (by decide), z_I_sI_nk (by decide)])
    · rw [z_I_sI_nk (by decide), z_II hS 9 rfl]
    · rw [z_II (z_Sh_sI hS) 9 rfl]
    · rw [z_I_sI_nk (by decide), z_I_sI_nk (by decide)]; exact hm
  | succ k ih =>
    intro i nn g hi hnn hS hC hp hT hm
    obtain ⟨nn, rfl⟩ : ∃ k, nn = k + 1 := ⟨nn - 1, by omega⟩
    have hE := hC.1.1
    obtain ⟨m1, m2⟩ := z_markN hS hE hk hp hT (by omega) (fun j hj => r4 j i hj (by omega))
    obtain ⟨g1, hg1⟩ : ∃ g1, g1 = z_sA g 58 (c_s (c_x E p i)) (nI (B + i)) := ⟨_, rfl⟩
    rw [← hg1] at m1 m2
    have f1 : z_fr [48, 58] g g1 := by rw [hg1]; exact z_fr.refl.sA (by simp)
    have S1 : z_Sh g1 := by rw [hg1]; exact z_Sh_sA hS
    have i1 : ∀ k, z_I g1 48 k = z_I g 48 k := fun k => by rw [hg1, z_I_sA]
    obtain ⟨g2, hg2⟩ : ∃ g2, g2 = z_sI g1 48 15 (nI (c_m (c_x E p) (i + 1))) := ⟨_, rfl⟩
    have f2 : z_fr [48, 58] g g2 := by rw [hg2]; exact f1.sI (by simp)
    have S2 : z_Sh g2 := by rw [hg2]; exact z_Sh_sI S1
    have i2 : ∀ k, k ≠ 15 → z_I g2 48 k = z_I g 48 k := fun k hk => by rw [hg2, z_I_sI_nk hk, i1]
    have C2 : z_CW g2 E := hC.of f2 (by decide) (i2 5 (by decide)) (i2 6 (by decide))
    have P2 : z_ps g2 (c_x E p i) := hp.of (i2 2 (by decide)) (i2 3 (by decide)) (i2 4 (by decide))
    have hat : (c_x E p i).1 < 12 := Nat.lt_of_lt_of_le (hk i).1 hE
    obtain ⟨g3, a1, a2, a3⟩ := z_hour hF S2 C2 P2 (hk i)
    rw [l_Walk_circle_11, if_neg (show ¬ (3744 : Int32) < nI i from nI_nlt (a := 3744) (by omega) (by decide)), m1, Option.bind_some, if_pos rfl, z_i48_15 S1, Option.bind_some, i1, hm, z_i48_2 S1, Option.bind_some, i1, hp.1, z_sh1 (by omega), fa_or, z_w48_15 S1, Option.bind_some, show c_m (c_x E p) i ||| 2 ^ (c_x E p i).1 = c_m (c_x E p) (i + 1) from rfl, ← hg2, a1, Option.bind_some, show nI i + 1 = nI (i + 1) from nI_1 i]
    have f3 : z_fr [48, 58] g g3 := f2.trans (a2.1.mono (by simp))
    have T3 : c_T g3 B (c_x E p) (i + 1) := by
      obtain ⟨t1, t2, t3, t4, t5⟩ := m2
      have e58 : ∀ s, z_A g3 58 s = z_A g1 58 s := fun s => by rw [a2.1.A (by decide), hg2, z_A_sI]
      refine ⟨t1, t2, ?_, fun j hj => (e58 _).trans (t4 j hj), fun s hs hn => ?_⟩
      · rw [a2.2.1 12 (by decide) (by decide) (by decide), hg2, z_I_sI_nk (by decide)]; exact t3
      · rw [e58]; exact t5 s hs hn
    obtain ⟨g4, b1, b2, b3⟩ := ih (i + 1) nn g3 (by omega) (by omega) (a2.sh S2) (a2.cw C2) (by rw [c_x_succ]; exact a3) T3 (by rw [a2.2.1 15 (by decide) (by decide) (by decide), hg2, z_II S1 9 rfl])
    exact ⟨g4, b1, f3.trans b2, b3⟩
theorem z_circle (hF : 70000 ≤ F) (hS : z_Sh h) (hC : z_CW h E) (hp : z_ps h p) (hk : e_ok E p) (hT : w_tr0 h) (hR : c_R (c_x E p) j u) :
    ∃ h', s_Walk_circle F h (some 48) = some h' ∧ (z_fr [48, 58] h h' ∧ w_tr0 h' ∧ z_CW h' E ∧ z_ps h' (c_x E p u) ∧ z_I h' 48 13 = nI j ∧ z_I h' 48 14 = nI (u - j) ∧ z_I h' 48 15 = nI (c_m (c_x E p) u)) := by
  have hr := hR
  obtain ⟨r1, r2, r3, r4⟩ := hr
  obtain ⟨g, B, a1, a2, a3, a4⟩ := z_beginTrail (x := c_x E p) hF hS hT
  have Sg := hS.fr a2 (by decide)
  have S1 : z_Sh (z_sI g 48 15 (nI 0)) := z_Sh_sI Sg
  have i1 : ∀ k, k ≠ 12 → k ≠ 15 → z_I (z_sI g 48 15 (nI 0)) 48 k = z_I h 48 k := fun k x y => by rw [z_I_sI_nk y, a3 k x]
  have f1 : z_fr [48, 58] h (z_sI g 48 15 (nI 0)) := a2.sI (by simp)
  unfold s_Walk_circle
  rw [z_c48 hS, Option.bind_some, a1, Option.bind_some, show (0 : Int32) = nI 0 from rfl, z_w48_15 Sg, Option.bind_some]
  obtain ⟨g2, b1, b2, b3⟩ := z_circleL (B := B) (p := p) hF hk hR u 0 F (z_sI g 48 15 (nI 0)) (by omega) (by omega) S1 (hC.of f1 (by decide) (i1 5 (by decide) (by decide)) (i1 6 (by decide) (by decide))) (hp.of (i1 2 (by decide) (by decide)) (i1 3 (by decide) (by decide)) (i1 4 (by decide) (by decide))) (by
    obtain ⟨t1, t2, t3, t4, t5⟩ := a4
    exact ⟨t1, t2, by rw [z_I_sI_nk (by decide)]; exact t3, fun j hj => absurd hj (Nat.not_lt_zero _), fun s hs hn => by rw [z_A_sI]; exact t5 s hs (fun j hj => absurd hj (Nat.not_lt_zero _))⟩) (by rw [z_II Sg 9 rfl]; rfl)
  exact ⟨g2, b1, f1.trans b2, b3⟩
/-- Walk.metInLoop -/
theorem z_metL (hF : 70000 ≤ F) (hN : n ≤ 3744) (hp0 : e_ok E p) : ∀ (k i nn : Nat) (g : fw_H), i + k = n → k < nn → z_Sh g → z_CW g E → z_ps g (c_x E p i) → z_I g 48 14 = nI n →
    ∃ g', l_Walk_metInLoop_4 F (some 48) nn (nI (c_m (c_x E p) i)) (nI i) g = some (nI (c_m (c_x E p) n), g') ∧ z_w g g' := by
  have hk : ∀ i, e_ok E (c_x E p i) := fun i => c_x_ok hp0
  intro k
  induction k with
  | zero =>
    intro i nn g hi hnn hS hC hp hl
    obtain ⟨nn, rfl⟩ : ∃ k, nn = k + 1 := ⟨nn - 1, by omega⟩
    obtain rfl : i = n := by omega
    refine ⟨g, ?_, z_w.refl⟩
    rw [l_Walk_metInLoop_4, z_i48_14 hS, Option.bind_some, hl, if_pos (nI_le (by omega) (by omega))]
  | succ k ih =>
    intro i nn g hi hnn hS hC hp hl
    obtain ⟨nn, rfl⟩ : ∃ k, nn = k + 1 := ⟨nn - 1, by omega⟩
    have hat : (c_x E p i).1 < 12 := Nat.lt_of_lt_of_le (hk i).1 hC.1.1
    obtain ⟨g3, a1, a2, a3⟩ := z_hour hF hS hC hp (hk i)
    rw [l_Walk_metInLoop_4, z_i48_14 hS, Option.bind_some, hl, if_neg (nI_ge (by omega) (by omega)), z_i48_2 hS, Option.bind_some, hp.1, a1, Option.bind_some, z_sh1 (by omega), fa_or, show c_m (c_x E p) i ||| 2 ^ (c_x E p i).1 = c_m (c_x E p) (i + 1) from rfl, show nI i + 1 = nI (i + 1) from nI_1 i]
    obtain ⟨g4, b1, b2⟩ := ih (i + 1) nn g3 (by omega) (by omega) (a2.sh hS) (a2.cw hC) (by rw [c_x_succ]; exact a3) (by rw [a2.2.1 14 (by decide) (by decide) (by decide)]; exact hl)
    exact ⟨g4, b1, a2.trans b2⟩
/-- Walk.hoursTo: behind t hours it is there first -/
theorem z_toL (hF : 70000 ≤ F) (hp0 : e_ok E p) (hR : c_R (c_x E p) j u) {a : Nat} (ha : a < 12) {r : Option Nat} (hr : match r with
    | some t => t < u ∧ (c_x E p t).1 = a ∧ ∀ i, i < t → (c_x E p i).1 ≠ a
    | none => ∀ i, i < u → (c_x E p i).1 ≠ a) : ∀ (k i nn : Nat) (g : fw_H), i + k = (r.getD u) → k < nn → z_Sh g → z_CW g E → z_ps g (c_x E p i) → c_T g B (c_x E p) i →
    ∃ g', l_Walk_hoursTo_6 F (some 48) (nI a) nn (nI i) g = some (match r with
      | some t => nI t
      | none => -1, g') ∧ (z_fr [48, 58] g g' ∧ w_tr0 g' ∧ (∀ k, k ≠ 2 → k ≠ 3 → k ≠ 4 → z_I g' 48 k = z_I g 48 k)) := by
  obtain ⟨r1, r2, r3, r4⟩ := hR
  have hk : ∀ i, e_ok E (c_x E p i) := fun i => c_x_ok hp0
  intro k
  induction k with
  | zero =>
    intro i nn g hi hnn hS hC hp hT
    obtain ⟨nn, rfl⟩ : ∃ k, nn = k + 1 := ⟨nn - 1, by omega⟩
    have hE := hC.1.1
    have hat : (c_x E p i).1 < 12 := Nat.lt_of_lt_of_le (hk i).1 hE
    match r, hr with
    | some t, hr =>
      obtain rfl : i = t := by simpa using hi
      refine ⟨g, ?_, z_fr.refl, hT.trail (by omega), fun _ _ _ _ => rfl⟩
      rw [l_Walk_hoursTo_6, if_neg (show ¬ (3744 : Int32) < nI i from nI_nlt (a := 3744) (by omega) (by decide)), z_i48_2 hS, Option.bind_some, hp.1, hr.2.1, if_neg (fun z => z rfl)]
    | none, hr =>
      obtain rfl : i = u := by simpa using hi
      refine ⟨g, ?_, z_fr.refl, hT.trail (by omega), fun _ _ _ _ => rfl⟩
      have hne : (c_x E p i).1 ≠ a := by rw [← r3]; exact hr j r1
      rw [l_Walk_hoursTo_6, if_neg (show ¬ (3744 : Int32) < nI i from nI_nlt (a := 3744) (by omega) (by decide)), z_i48_2 hS, Option.bind_some, hp.1, if_pos (fun z => hne ((nI_eq (by omega) (by omega)).mp z)), z_markY hS hE hk hp hT r1 r2 r3, Option.bind_some, if_neg (z_neg1 (by omega))]
  | succ k ih =>
    intro i nn g hi hnn hS hC hp hT
    obtain ⟨nn, rfl⟩ : ∃ k, nn = k + 1 := ⟨nn - 1, by omega⟩
    have hE := hC.1.1
    have hat : (c_x E p i).1 < 12 := Nat.lt_of_lt_of_le (hk i).1 hE
    have hiu : i < u ∧ (c_x E p i).1 ≠ a := by
      match r, hr with
      | some t, hr =>
        simp only [Option.getD_some] at hi
        exact ⟨by omega, hr.2.2 i (by omega)⟩
      | none, hr =>
        simp only [Option.getD_none] at hi
        exact ⟨by omega, hr i (by omega)⟩
    obtain ⟨m1, m2⟩ := z_markN hS hE hk hp hT (by omega) (fun j hj => r4 j i hj (by omega))
    obtain ⟨g1, hg1⟩ : ∃ g1, g1 = z_sA g 58 (c_s (c_x E p i)) (nI (B + i)) := ⟨_, rfl⟩
    rw [← hg1] at m1 m2
    have f1 : z_fr [48, 58] g g1 := by rw [hg1]; exact z_fr.refl.sA (by simp)
    have S1 : z_Sh g1 := by rw [hg1]; exact z_Sh_sA hS
    have i1 : ∀ k, z_I g1 48 k = z_I g 48 k := fun k => by rw [hg1, z_I_sA]
    have C1 : z_CW g1 E := hC.of f1 (by decide) (i1 5) (i1 6)
    have P1 : z_ps g1 (c_x E p i) := hp.of (i1 2) (i1 3) (i1 4)
    obtain ⟨g3, a1, a2, a3⟩ := z_hour hF S1 C1 P1 (hk i)
    rw [l_Walk_hoursTo_6, if_neg (show ¬ (3744 : Int32) < nI i from nI_nlt (a := 3744) (by omega) (by decide)), z_i48_2 hS, Option.bind_some, hp.1, if_pos (fun z => hiu.2 ((nI_eq (by omega) (by omega)).mp z)), m1, Option.bind_some, if_pos rfl, a1, Option.bind_some, show nI i + 1 = nI (i + 1) from nI_1 i]
    have f3 : z_fr [48, 58] g g3 := f1.trans (a2.1.mono (by simp))
    have T3 : c_T g3 B (c_x E p) (i + 1) := by
      obtain ⟨t1, t2, t3, t4, t5⟩ := m2
      have e58 : ∀ s, z_A g3 58 s = z_A g1 58 s := fun s => by rw [a2.1.A (by decide)]
      refine ⟨t1, t2, ?_, fun j hj => (e58 _).trans (t4 j hj), fun s hs hn => ?_⟩
      · rw [a2.2.1 12 (by decide) (by decide) (by decide)]; exact t3
      · rw [e58]; exact t5 s hs hn
    obtain ⟨g4, b1, b2, b3, b4⟩ := ih (i + 1) nn g3 (by omega) (by omega) (a2.sh S1) (a2.cw C1) (by rw [c_x_succ]; exact a3) T3
    exact ⟨g4, b1, f3.trans b2, b3, fun k x y z => by rw [b4 k x y z, a2.2.1 k x y z, i1]⟩
theorem z_hoursTo (hF : 70000 ≤ F) (hS : z_Sh h) (hC : z_CW h E) (hp : z_ps h p) (hk : e_ok E p) (hT : w_tr0 h) (hR : c_R (c_x E p) j u) {a : Nat} (ha : a < 12) {r : Option Nat} (hr : match r with
    | some t => t < u ∧ (c_x E p t).1 = a ∧ ∀ i, i < t → (c_x E p i).1 ≠ a
    | none => ∀ i, i < u → (c_x E p i).1 ≠ a) :
    ∃ h', s_Walk_hoursTo F h (some 48) (nI a) = some (match r with
      | some t => nI t
      | none => -1, h') ∧ (z_fr [48, 58] h h' ∧ w_tr0 h' ∧ (∀ k, k ≠ 2 → k ≠ 3 → k ≠ 4 → k ≠ 12 → z_I h' 48 k = z_I h 48 k)) := by
  have hr2 := hR
  obtain ⟨r1, r2, r3, r4⟩ := hr2
  obtain ⟨g, B, a1, a2, a3, a4⟩ := z_beginTrail (x := c_x E p) hF hS hT
  have Sg := hS.fr a2 (by decide)
  unfold s_Walk_hoursTo
  rw [z_c48 hS, Option.bind_some, a1, Option.bind_some]
  have hle : r.getD u < F := by
    match r, hr with
    | some t, hr => simp only [Option.getD_some]; omega
    | none, hr => simp only [Option.getD_none]; omega
  obtain ⟨g2, b1, b2, b3, b4⟩ := z_toL (B := B) (p := p) hF hk hR ha hr (r.getD u) 0 F g (by omega) hle Sg (hC.of a2 (by decide) (a3 5 (by decide)) (a3 6 (by decide))) (hp.of (a3 2 (by decide)) (a3 3 (by decide)) (a3 4 (by decide))) a4
  exact ⟨g2, b1, a2.trans b2, b3, fun k x y z t => by rw [b4 k x y z, a3 k t]⟩
end CR
