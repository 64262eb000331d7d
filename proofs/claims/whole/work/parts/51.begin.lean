-- THE CLASS'S WALK BEGINS (3): openDoors, restart, start, startWalk
def v_at (f : Nat → Int32) : Nat := (f 54).toNatClampNeg
def v_be (f : Nat → Int32) : Nat := if f 55 = -1 then 12 else (f 55).toNatClampNeg
def v_hr (f : Nat → Int32) : Nat := (f 56).toNatClampNeg
def v_pos (f : Nat → Int32) : e_P := (v_at f, (v_be f, v_hr f % 24))
/-- the law that holds, in the class -/
def z_LH (h : fw_H) (p : Nat) (lw : Option (List q_C)) : Prop := z_LF h p lw ∧
  ((z_I h 15 9 = -1 ∧ p = 39) ∨ ∃ k, k < 4 ∧ z_I h 15 9 = nI k ∧ z_Q h 42 k = some p)
section BG
variable {h g g' : fw_H} {a b i j k m e n w p q t F s : Nat} {T Wd f : Nat → Int32} {lw : Option (List q_C)} {op op' : Nat → Bool} {x : Int32}
theorem v_R.pos (hR : v_R h a n w T Wd f) (h0 : 0 < n) (h12 : n ≤ 12) : f 54 = nI (v_at f) ∧ v_at f < n ∧ f 55 = z_b (v_be f) ∧ (v_be f = 12 ∨ v_be f < n) ∧ f 56 = nI (v_hr f) ∧ v_hr f ≤ 9999 ∧ z_I h a 10 = nI (v_at f) ∧ z_I h a 11 = z_b (v_be f) ∧ z_I h a 12 = nI (v_hr f) := by
  obtain ⟨-, -, -, -, -, -, -, -, -, -, -, r1, t, l, r2, -, r3, r4, -⟩ := hR
  obtain ⟨p, q, p1, p2, p3, p4, p5, p6⟩ := r1 h0
  have e1 : v_at f = p := by unfold v_at; rw [p4, nI_clamp (by omega)]
  have e2 : v_be f = q := by
    unfold v_be
    rw [p6]
    by_cases hq : q = 12
    · rw [hq, z_b12, if_pos rfl]
    · rw [z_bn hq, if_neg (z_neg1 (by omega)), nI_clamp (by omega)]
  have e3 : v_hr f = t := by unfold v_hr; rw [r4, nI_clamp (by omega)]
  rw [e1, e2, e3]
  exact ⟨p4, p1, p6, p2, r4, r2, p3, p5, r3⟩
theorem v_R.ok (hR : v_R h a n w T Wd f) (h0 : 0 < n) (h12 : n ≤ 12) {E : z_E} (hE : E.1 = n) : e_ok E (v_pos f) := by
  obtain ⟨-, p1, -, p2, -⟩ := hR.pos h0 h12
  exact ⟨hE ▸ p1, hE ▸ p2, Nat.mod_lt _ (by decide)⟩
theorem v_R.opn (hR : v_R h a n w T Wd f) : ∃ s, s < 2 ^ 16 ∧ z_I h a 6 = nI s ∧ ∀ j, j < w → v_op f j = !s.testBit j := by
  obtain ⟨-, -, -, -, -, -, ⟨s, s1, s2, s3⟩, -⟩ := hR
  refine ⟨s, s1, s2, fun j hj => ?_⟩
  unfold v_op
  rw [s3 j hj]
  cases s.testBit j <;> rfl
theorem z_DR.cong (hd : z_DR h n w Wd op) (hop : ∀ j, j < w → op j = op' j) : z_DR h n w Wd op' := by
  have e : ∀ a, v_door w Wd op a = v_door w Wd op' a := fun a => funext fun x => v_door_cong hop
  intro a ha
  rw [← e a]
  exact hd a ha
/-- Walk.openDoors -/
theorem z_openDoors (hF : 70000 ≤ F) (hS : z_Sh h) (hok : v_ok n w Wd) (hW : v_W h 49 w Wd) (h49 : z_I h 49 0 = nI n) (hs : s < 2 ^ 16) :
    ∃ h', s_Walk_openDoors F h (some 48) (nI s) = some h' ∧ (z_fr [54, 55] h h' ∧ z_DR h' n w Wd (fun j => !s.testBit j)) := by
  unfold s_Walk_openDoors
  rw [z_c48 hS, Option.bind_some]
  have := hok.1
  exact z_openO hF hS hok hW h49 hs n 0 F h (by omega) (by omega) z_fr.refl (fun a' z => absurd z (Nat.not_lt_zero _)) (fun a' z => absurd z (Nat.not_lt_zero _))
theorem z_standAt (hS : z_Sh h) {p : e_P} : ∃ h', s_Walk_standAt h (some 48) (nI p.1) (z_b p.2.1) (nI p.2.2) = some h' ∧ (z_w h h' ∧ z_ps h' p) := by
  unfold s_Walk_standAt
  rw [z_c48 hS, Option.bind_some, z_w48_2 hS, Option.bind_some, z_w48_3 (z_Sh_sI hS), Option.bind_some, z_w48_4 (z_Sh_sI (z_Sh_sI hS)), Option.bind_some]
  refine ⟨_, rfl, ((z_w.s2 (by omega)).trans (z_w.s2 (by omega))).trans (z_w.s2 (by omega)), ?_, ?_, ?_⟩
  · rw [z_I_sI_nk (by decide), z_I_sI_nk (by decide), z_II hS 9 rfl]
  · rw [z_I_sI_nk (by decide), z_II (z_Sh_sI hS) 9 rfl]
  · rw [z_II (z_Sh_sI (z_Sh_sI hS)) 9 rfl]
/-- Walk.restart -/
theorem z_restart (hS : z_Sh h) (h1 : z_I h 49 10 = nI p) (h2 : z_I h 49 11 = z_b q) (h3 : z_I h 49 12 = nI t) (ht : t ≤ 9999) : ∃ h', s_Walk_restart h (some 48) = some h' ∧ (z_w h h' ∧ z_ps h' (p, (q, t % 24))) := by
  unfold s_Walk_restart
  obtain ⟨g, a1, a2⟩ := z_standAt (p := (p, (q, t % 24))) hS
  simp only [z_c48 hS, Option.bind_some, z_r48_0 hS, z_i49_10 hS, z_i49_11 hS, z_i49_12 hS, h1, h2, h3]
  rw [show (24 : Int32) = nI 24 from rfl, z_irem (by omega) (by decide) (by decide), Option.bind_some, a1]
  exact ⟨g, rfl, a2⟩
theorem z_TB.of (h1 : ∀ j, z_A g' 56 j = z_A g 56 j) (h : z_TB g n T f lw) : z_TB g' n T f lw := fun x hx bk t ht => (h1 _).trans (h x hx bk t ht)
theorem z_DR.of (h1 : ∀ j, z_A g' 55 j = z_A g 55 j) (h2 : ∀ j, z_A g' 54 j = z_A g 54 j) (h : z_DR g n w Wd op) : z_DR g' n w Wd op := fun a ha => ⟨(h1 a).trans (h a ha).1, fun j x e => (h2 _).trans ((h a ha).2 j x e)⟩
theorem z_CV.fr {As : List Nat} (hf : z_fr As g g') (h49 : 49 ∉ As) (h50 : 50 ∉ As) (h54 : 54 ∉ As) (h55 : 55 ∉ As) (h56 : 56 ∉ As) (hc : z_CV g n w T Wd f lw op) : z_CV g' n w T Wd f lw op :=
  ⟨hc.1.fr hf h49 h50, hc.2.1.of (fun j => hf.A h56), hc.2.2.of (fun j => hf.A h55) (fun j => hf.A h54)⟩
theorem v_R.of (hn : n ≤ 12) (hw : w ≤ 16) (h0 : g'[a]? = g[a]?) (h1 : g'[a + 1]? = g[a + 1]?) (h2 : g'[a + 2]? = g[a + 2]?) (h3 : g'[a + 3]? = g[a + 3]?) (h4 : g'[a + 4]? = g[a + 4]?) (hR : v_R g a n w T Wd f) : v_R g' a n w T Wd f :=
  hR.cp hn hw ⟨fun k _ => z_I_of h0, fun i _ => z_A_of h1, fun i _ => z_A_of h2, fun i _ => z_A_of h3, fun i _ => z_A_of h4⟩
theorem v_R.fr {As : List Nat} (hn : n ≤ 12) (hw : w ≤ 16) (hf : z_fr As g g') (hd : ∀ d, d ≤ 4 → a + d ∉ As) (hR : v_R g a n w T Wd f) : v_R g' a n w T Wd f :=
  hR.of hn hw (hf.2 _ (hd 0 (by omega))) (hf.2 _ (hd 1 (by omega))) (hf.2 _ (hd 2 (by omega))) (hf.2 _ (hd 3 (by omega))) (hf.2 _ (hd 4 (by omega)))
/-- the cells that a walk's beginning writes -/
def z_SA (p : Nat) : List Nat := [48, 49, 50, 51, 52, 53, 54, 55, 56, 57, p + 2]
theorem z_Wstart (hF : 70000 ≤ F) (hS : z_Sh h) (hok : v_ok n w Wd) (h0 : 0 < n) (hR : v_R h 29 n w T Wd f) (hL : z_LF h p lw) :
    ∃ h', s_Walk_start F h (some 48) (some 29) (some p) = some h' ∧ (z_fr (z_SA p) h h' ∧ z_CV h' n w T Wd f lw (v_op f) ∧ v_R h' 49 n w T Wd f ∧ z_R h' 48 1 = some p ∧ z_LF h' p lw ∧ z_I h' 48 5 = z_I h 29 7 ∧ z_I h' 48 6 = nI (2 ^ n - 1) ∧ z_ps h' (v_pos f) ∧ ∀ k, 12 ≤ k → z_I h' 48 k = z_I h 48 k) := by
  have hn12 := hok.1
  have hw16 := hok.2.1
  have h97 := hL.2.1
  have hR0 := hR
  obtain ⟨-, -, -, -, -, -, -, -, ⟨m8, r8, r52⟩, ⟨m9, r9, -⟩, -⟩ := hR0
  unfold s_Walk_start
  obtain ⟨g1, a1, S1, a2, a3⟩ := z_take (h := h) (a := 29) (b := 49) hF hS (.inr (.inl rfl)) (.inr (.inr (.inr rfl))) (by decide) ⟨m8, r8⟩ ⟨m9, r9⟩
  have R1 : v_R g1 49 n w T Wd f := hR.cp hn12 hw16 a3
  have S2 : z_Sh (z_sR g1 48 1 (some p)) := z_Sh_sR S1
  rw [z_c48 hS, Option.bind_some, z_r48_0 hS, Option.bind_some, a1, Option.bind_some, z_pRS S1 (x := 2) rfl (by decide) rfl, Option.bind_some, z_r48_0 S2, Option.bind_some, z_i49_7 S2, Option.bind_some, z_w48_5 S2, Option.bind_some]
  have S3 : z_Sh (z_sI (z_sR g1 48 1 (some p)) 48 5 (z_I (z_sR g1 48 1 (some p)) 49 7)) := z_Sh_sI S2
  rw [z_r48_0 S3, Option.bind_some, z_all S3 (.inr (.inr (.inr rfl))) (by rw [z_I_sI_ne (by decide), z_I_sR]; exact R1.1) hn12, Option.bind_some, z_w48_6 S3, Option.bind_some]
  obtain ⟨g4, e4⟩ : ∃ g4, g4 = z_sI (z_sI (z_sR g1 48 1 (some p)) 48 5 (z_I (z_sR g1 48 1 (some p)) 49 7)) 48 6 (nI (2 ^ n - 1)) := ⟨_, rfl⟩
  rw [← e4]
  have S4 : z_Sh g4 := by rw [e4]; exact z_Sh_sI S3
  have f4 : z_fr [48] g1 g4 := by rw [e4]; exact ((z_fr.refl.sR (by simp)).sI (by simp)).sI (by simp)
  have F4 : z_fr (z_SA p) h g4 := (a2.mono (by simp [v_fr, z_SA])).trans (f4.mono (by simp [z_SA]))
  have R4 : v_R g4 49 n w T Wd f := R1.fr hn12 hw16 f4 (fun d hd => by simp; omega)
  have r4 : z_R g4 48 1 = some p := by
    obtain ⟨ks, k1, k2⟩ := z_fkT (a := 48) (c := 9) (k := 1) (x := 2) rfl
    rw [e4, z_R_sI, z_R_sI, z_R_sR (z_ckT S1 k1) k2 (by decide) rfl]
  have b4 : z_I g4 48 5 = z_I h 29 7 := by rw [e4, z_I_sI_nk (by decide), z_II S2 9 rfl, z_I_sR]; exact a3.1 7 (by omega)
  have e4' : z_I g4 48 6 = nI (2 ^ n - 1) := by rw [e4, z_II S3 9 rfl]
  have t4 : ∀ k, 12 ≤ k → z_I g4 48 k = z_I h 48 k := by
    intro k hk
    rw [e4, z_I_sI_nk (by omega), z_I_sI_nk (by omega), z_I_sR, a2.I (by simp [v_fr])]
  have L4 : z_LF g4 p lw := hL.fr F4 (by simp [z_SA]; omega) (by simp [z_SA]; omega)
  have P4 : z_PT g4 n T f := ⟨R4.1, R4.2.2.1, by obtain ⟨m, m1, m2⟩ := R4.2.2.2.2.2.2.2.2.1; exact ⟨m, m1, m2⟩⟩
  have W4 : z_WI g4 n p T f lw := ⟨S4, P4, r4, L4⟩
  refine z_k (z_startL hF hn12 W4 n 0 F g4 (by omega) (by omega) z_fr.refl (fun x hx => absurd hx (Nat.not_lt_zero _))) fun g5 ⟨c1, c2⟩ => ?_
  have W5 := W4.fr c1
  have S5 := W5.1
  have R5 : v_R g5 49 n w T Wd f := R4.fr hn12 hw16 c1 (fun d hd => by simp; omega)
  obtain ⟨s, s1, s2, s3⟩ := R5.opn
  obtain ⟨g6, d1, d2, d3⟩ := z_openDoors hF S5 hok R5.W R5.1 s1
  rw [z_r48_0 S5, Option.bind_some, z_i49_6 S5, Option.bind_some, s2, d1, Option.bind_some]
  have S6 := S5.fr d2 (by decide)
  have R6 : v_R g6 49 n w T Wd f := R5.fr hn12 hw16 d2 (fun d hd => by simp; omega)
  obtain ⟨-, -, -, -, -, q6, q7, q8, q9⟩ := R6.pos h0 hn12
  obtain ⟨g7, e1, e2, e3⟩ := z_restart S6 q7 q8 q9 q6
  rw [e1, Option.bind_some]
  have F7 : z_fr [48] g6 g7 := e2.1
  have R7 : v_R g7 49 n w T Wd f := R6.fr hn12 hw16 F7 (fun d hd => by simp; omega)
  have i7 : ∀ k, k ≠ 2 → k ≠ 3 → k ≠ 4 → z_I g7 48 k = z_I g4 48 k := fun k x1 x2 x3 => by rw [e2.2.1 k x1 x2 x3, d2.I (by decide), c1.I (by simp; omega)]
  refine ⟨g7, rfl, ((F4.trans (c1.mono (by simp [z_SA]))).trans (d2.mono (by simp [z_SA]))).trans (F7.mono (by simp [z_SA])), ⟨⟨R7.1, R7.2.2.1, by obtain ⟨m, m1, m2⟩ := R7.2.2.2.2.2.2.2.2.1; exact ⟨m, m1, m2⟩⟩, ?_, ?_⟩, R7, ?_, ?_, ?_, ?_, e3, fun k hk => ?_⟩
  · exact c2.of (fun j => by rw [F7.A (by decide), d2.A (by decide)])
  · exact (d3.cong (fun j hj => (s3 j hj).symm)).of (fun j => F7.A (by decide)) (fun j => F7.A (by decide))
  · rw [e2.2.2, d2.R (by decide), c1.R (by simp; omega)]; exact r4
  · exact ((L4.fr c1 (by simp; omega) (by simp; omega)).fr d2 (by simp; omega) (by simp; omega)).fr F7 (by simp; omega) (by simp; omega)
  · rw [i7 5 (by decide) (by decide) (by decide)]; exact b4
  · rw [i7 6 (by decide) (by decide) (by decide)]; exact e4'
  · rw [i7 k (by omega) (by omega) (by omega)]; exact t4 k hk
theorem z_lawIn (hS : z_Sh h) (hL : z_LH h p lw) : s_Joy_lawInForce h (some 15) = some (some p) := by
  unfold s_Joy_lawInForce
  rw [z_c15 hS, Option.bind_some, z_i15_9 hS, Option.bind_some]
  rcases hL.2 with ⟨h1, rfl⟩ | ⟨k, h1, h2, h3⟩
  · rw [h1, if_pos (by decide), z_r15_6 hS]; rfl
  · rw [h2, if_neg (nI_pos (by omega)), Option.bind_some, z_r15_7 hS, Option.bind_some, z_lnQ (z_ckT hS rfl), Option.bind_some, if_pos (nI_lt h1 (by decide)), Option.bind_some, Option.bind_some, z_aQ (z_ckT hS rfl) h1 (by decide), Option.bind_some, h3, if_neg (by simp)]
/-- OneJoy.startWalk -/
theorem z_startWalk (hF : 70000 ≤ F) (hS : z_Sh h) (hok : v_ok n w Wd) (h0 : 0 < n) (hR : v_R h 29 n w T Wd f) (hL : z_LH h p lw) :
    ∃ h', s_Joy_startWalk F h (some 15) = some h' ∧ (z_fr (z_SA p) h h' ∧ z_CV h' n w T Wd f lw (v_op f) ∧ v_R h' 49 n w T Wd f ∧ z_R h' 48 1 = some p ∧ z_LF h' p lw ∧ z_I h' 48 5 = z_I h 29 7 ∧ z_I h' 48 6 = nI (2 ^ n - 1) ∧ z_ps h' (v_pos f) ∧ ∀ k, 12 ≤ k → z_I h' 48 k = z_I h 48 k) := by
  obtain ⟨g, a1, a2⟩ := z_Wstart hF hS hok h0 hR hL.1
  unfold s_Joy_startWalk
  rw [z_c15 hS, Option.bind_some, z_r15_12 hS, Option.bind_some, z_r15_3 hS, Option.bind_some, z_lawIn hS hL, Option.bind_some, a1]
  exact ⟨g, rfl, a2⟩
end BG
