-- SHUTTERS, the class
/-- it never comes to a -/
def o_nv (E : z_E) (p : e_P) (a : Nat) : Prop := ∀ j u, c_R (c_x E p) j u → ∀ i, i < u → (c_x E p i).1 ≠ a
/-- the walk's numbers by which windows are shut -/
def o_F (P : o_W) (m s : Nat) : z_E := v_E P.1 P.2.1 P.2.2.1 P.2.2.2.1 P.2.2.2.2.1 P.2.2.2.2.2 (fun j => !s.testBit j) (2 ^ P.1 - 1) m
/-- sets of k windows below b, open ones, with which (and the windows x) it never comes to a -/
def o_Q (P : o_W) (m sh a k b x : Nat) (Y : Nat) : Prop := Y < 2 ^ b ∧ Y &&& sh = 0 ∧ c_pc 16 Y = k ∧ o_nv (o_F P m (sh ||| (x ||| Y))) (v_pos P.2.2.2.2.1) a
def o_ml (Q : Nat → Prop) (r : Option Nat) : Prop := match r with
  | none => ∀ Y, ¬ Q Y
  | some y => Q y ∧ ∀ Y, Q Y → y ≤ Y
def o_ox (x : Nat) (r : Option Nat) : Int32 := match r with
  | none => -1
  | some y => nI (x ||| y)
/-- what the class's shutters stand on -/
def o_sV (P : o_W) (m sh : Nat) (g : fw_H) : Prop := z_Sh g ∧ v_R g 49 P.1 P.2.1 P.2.2.1 P.2.2.2.1 P.2.2.2.2.1 ∧ z_PT g P.1 P.2.2.1 P.2.2.2.2.1 ∧ z_TB g P.1 P.2.2.1 P.2.2.2.2.1 P.2.2.2.2.2 ∧ z_I g 48 5 = nI m ∧ z_I g 48 6 = nI (2 ^ P.1 - 1) ∧ z_I g 49 6 = nI sh ∧ w_tr0 g
def o_sf (g g' : fw_H) : Prop := z_fr [48, 54, 55, 58] g g' ∧ (∀ k, k ≠ 2 → k ≠ 3 → k ≠ 4 → k ≠ 12 → z_I g' 48 k = z_I g 48 k) ∧ (w_tr0 g → w_tr0 g')
section SH2
variable {P : o_W} {m sh a k b x y Y i j u d D F nn : Nat} {p : e_P} {r : Option Nat} {Q Q' : Nat → Prop} {g g' g'' h : fw_H} {E : z_E}
theorem o_sf.refl : o_sf g g := ⟨z_fr.refl, fun _ _ _ _ _ => rfl, id⟩
theorem o_sf.trans (h1 : o_sf g g') (h2 : o_sf g' g'') : o_sf g g'' := ⟨h1.1.trans h2.1, fun k a b c e => (h2.2.1 k a b c e).trans (h1.2.1 k a b c e), fun z => h2.2.2 (h1.2.2 z)⟩
theorem o_sV.of (hn : P.1 ≤ 12) (hw : P.2.1 ≤ 16) (h1 : o_sf g g') (hV : o_sV P m sh g) : o_sV P m sh g' := by
  obtain ⟨s1, s2, ⟨s3, s4, s5⟩, s6, s7, s8, s9, s10⟩ := hV
  exact ⟨s1.fr h1.1 (by decide), s2.fr hn hw h1.1 (fun d hd => by simp; omega), ⟨by rw [h1.1.I (by decide)]; exact s3, fun i hi => by rw [h1.1.A (by decide)]; exact ⟨(s4 i hi).1, fun k k1 k5 => by rw [h1.1.A (by decide)]; exact (s4 i hi).2 k k1 k5⟩, by rw [h1.1.I (by decide)]; exact s5⟩, s6.of (fun j => h1.1.A (by decide)), (h1.2.1 5 (by decide) (by decide) (by decide) (by decide)).trans s7, (h1.2.1 6 (by decide) (by decide) (by decide) (by decide)).trans s8, by rw [h1.1.I (by decide)]; exact s9, h1.2.2 s10⟩
theorem c_R_uniq {x : Nat → e_P} {j' u' : Nat} (h : c_R x j u) (h' : c_R x j' u') : u = u' := by
  obtain ⟨a1, a2, a3, a4⟩ := h
  obtain ⟨b1, b2, b3, b4⟩ := h'
  rcases Nat.lt_trichotomy u u' with z | z | z
  · exact absurd a3 (b4 j u a1 z)
  · exact z
  · exact absurd b3 (a4 j' u' b1 z)
theorem o_nv_iff (hR : c_R (c_x E p) j u) : o_nv E p a ↔ ∀ i, i < u → (c_x E p i).1 ≠ a := by
  constructor
  · intro h; exact h j u hR
  · intro h j' u' hR'
    rw [c_R_uniq hR' hR]
    exact h
/-- with these windows shut besides: does it never come there? -/
theorem o_leaf (hF : 70000 ≤ F) (hok : v_ok P.1 P.2.1 P.2.2.2.1) (h0 : 0 < P.1) (hm : m < 2 ^ 12) (ha : a < 12) (hsh : sh < 2 ^ 16) (hx : x < 2 ^ 16) (hV : o_sV P m sh g) :
    ∃ g', (((f_gR g (some 59) 10 0).bind fun x5 => (f_gR g (some 59) 10 0).bind fun x9 => (f_gR g x9 9 0).bind fun x12 => (f_gI g x12 7 6).bind fun x15 => (s_Walk_openDoors F g x5 (x15 ||| nI x)).bind fun h21 => (f_gR h21 (some 59) 10 0).bind fun x25 => (s_Walk_restart h21 x25).bind fun h28 => (f_gR h28 (some 59) 10 0).bind fun x32 => (s_Walk_hoursTo F h28 x32 (nI a)).bind fun x36 => if ¬ x36.1 = (-1 : Int32) then (some ((-1 : Int32), x36.2)) else some (nI x, x36.2)) = some (-1, g') ∧ ¬ o_nv (o_F P m (sh ||| x)) (v_pos P.2.2.2.2.1) a ∨
      ((f_gR g (some 59) 10 0).bind fun x5 => (f_gR g (some 59) 10 0).bind fun x9 => (f_gR g x9 9 0).bind fun x12 => (f_gI g x12 7 6).bind fun x15 => (s_Walk_openDoors F g x5 (x15 ||| nI x)).bind fun h21 => (f_gR h21 (some 59) 10 0).bind fun x25 => (s_Walk_restart h21 x25).bind fun h28 => (f_gR h28 (some 59) 10 0).bind fun x32 => (s_Walk_hoursTo F h28 x32 (nI a)).bind fun x36 => if ¬ x36.1 = (-1 : Int32) then (some ((-1 : Int32), x36.2)) else some (nI x, x36.2)) = some (nI x, g') ∧ o_nv (o_F P m (sh ||| x)) (v_pos P.2.2.2.2.1) a) ∧ o_sf g g' := by
  have hn12 := hok.1
  obtain ⟨s1, s2, s3, s4, s5, s6, s7, s8⟩ := hV
  have hsx : sh ||| x < 2 ^ 16 := z_orlt hsh hx
  rw [z_r59_0 s1, Option.bind_some, Option.bind_some, z_r48_0 s1, Option.bind_some, z_i49_6 s1, Option.bind_some, s7, fa_or]
  obtain ⟨g1, a1, a2, a3⟩ := z_openDoors hF s1 hok s2.W s2.1 hsx
  have S1 := s1.fr a2 (by decide)
  have R1 : v_R g1 49 P.1 P.2.1 P.2.2.1 P.2.2.2.1 P.2.2.2.2.1 := s2.fr hn12 hok.2.1 a2 (fun d hd => by simp; omega)
  obtain ⟨-, -, -, -, -, q6, q7, q8, q9⟩ := R1.pos h0 hn12
  obtain ⟨g2, b1, b2, b3⟩ := z_restart S1 q7 q8 q9 q6
  have S2 := b2.sh S1
  have C1 : z_CV g1 P.1 P.2.1 P.2.2.1 P.2.2.2.1 P.2.2.2.2.1 P.2.2.2.2.2 (fun j => !(sh ||| x).testBit j) := by
    obtain ⟨t1, t2, t3⟩ := s3
    exact ⟨⟨by rw [a2.I (by decide)]; exact t1, fun i hi => by rw [a2.A (by decide)]; exact ⟨(t2 i hi).1, fun k k1 k5 => by rw [a2.A (by decide)]; exact (t2 i hi).2 k k1 k5⟩, by rw [a2.I (by decide)]; exact t3⟩, s4.of (fun j => a2.A (by decide)), a3⟩
  have CW1 : z_CW g1 (o_F P m (sh ||| x)) := C1.cw hok (v_full hn12) hm (by rw [a2.I (by decide)]; exact s6) (by rw [a2.I (by decide)]; exact s5)
  have CW2 := b2.cw CW1
  have hk : e_ok (o_F P m (sh ||| x)) (v_pos P.2.2.2.2.1) := R1.ok h0 hn12 rfl
  have hps : z_ps g2 (v_pos P.2.2.2.2.1) := b3
  have T1 : w_tr0 g1 := s8.of (a2.I (by decide)) (fun j => a2.A (by decide))
  have T2 : w_tr0 g2 := T1.of (b2.2.1 12 (by decide) (by decide) (by decide)) (fun j => b2.1.A (by decide))
  obtain ⟨j, u, hR⟩ := c_ex (E := o_F P m (sh ||| x)) hn12 hk
  rw [a1, Option.bind_some, z_r59_0 S1, Option.bind_some, b1, Option.bind_some, z_r59_0 S2, Option.bind_some]
  have fin : ∀ g3, z_fr [48, 58] g2 g3 → w_tr0 g3 → (∀ k, k ≠ 2 → k ≠ 3 → k ≠ 4 → k ≠ 12 → z_I g3 48 k = z_I g2 48 k) → o_sf g g3 := fun g3 c2 c3 c4 => ⟨((a2.mono (by simp)).trans (b2.1.mono (by simp))).trans (c2.mono (by simp)), fun k k2 k3 k4 k12 => by rw [c4 k k2 k3 k4 k12, b2.2.1 k k2 k3 k4, a2.I (by decide)], fun _ => c3⟩
  by_cases hex : ∃ t, t < u ∧ (c_x (o_F P m (sh ||| x)) (v_pos P.2.2.2.2.1) t).1 = a
  · obtain ⟨t, ⟨t1, t2⟩, t3⟩ := pk_least (fun t => t < u ∧ (c_x (o_F P m (sh ||| x)) (v_pos P.2.2.2.2.1) t).1 = a) hex
    have t4 : ∀ i, i < t → (c_x (o_F P m (sh ||| x)) (v_pos P.2.2.2.2.1) i).1 ≠ a := fun i hi z => t3 i hi ⟨by omega, z⟩
    obtain ⟨g3, c1, c2, c3, c4⟩ := z_hoursTo (r := some t) hF S2 CW2 hps hk T2 hR ha ⟨t1, t2, t4⟩
    have hu := hR.2.1
    refine ⟨g3, .inl ⟨?_, fun z => (o_nv_iff hR).mp z t t1 t2⟩, fin g3 c2 c3 c4⟩
    rw [c1, Option.bind_some]
    show (if ¬ nI t = (-1 : Int32) then _ else _) = _
    rw [if_pos (nI_ne_m1 (by omega))]
  · have hnone : ∀ i, i < u → (c_x (o_F P m (sh ||| x)) (v_pos P.2.2.2.2.1) i).1 ≠ a := fun i hi z => hex ⟨i, hi, z⟩
    obtain ⟨g3, c1, c2, c3, c4⟩ := z_hoursTo (r := none) hF S2 CW2 hps hk T2 hR ha hnone
    refine ⟨g3, .inr ⟨?_, (o_nv_iff hR).mpr hnone⟩, fin g3 c2 c3 c4⟩
    rw [c1, Option.bind_some]
    show (if ¬ (-1 : Int32) = (-1 : Int32) then _ else _) = _
    rw [if_neg (fun z => z rfl)]
end SH2
