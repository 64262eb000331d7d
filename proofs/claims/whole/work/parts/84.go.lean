-- HOURS GO BY: the draws; the class's hour; both loops
section WB
theorem wb_tb (n : Nat) : (lN n).toBitVec = BitVec.ofNat 64 n := rfl
theorem wb_inj {a b : Int64} (h : a.toBitVec = b.toBitVec) : a = b := Int64.toBitVec_inj.mp h
theorem wb_tn {n : Nat} (h : n < 2 ^ 64) : (lN n).toBitVec.toNat = n := by rw [wb_tb, BitVec.toNat_ofNat, Nat.mod_eq_of_lt h]
theorem wb_of (x : Int64) : ∃ n, n < 2 ^ 64 ∧ x = lN n := ⟨x.toBitVec.toNat, x.toBitVec.isLt, wb_inj (by rw [wb_tb]; simp)⟩
theorem wb_of32 (x : Int32) : ∃ n, n < 2 ^ 32 ∧ x = nI n := ⟨x.toBitVec.toNat, x.toBitVec.isLt, Int32.toBitVec_inj.mp (by show _ = BitVec.ofNat 32 _; simp)⟩
theorem wb_c : ∀ k, k < 64 → ((nI k).toInt64 &&& 63) = lN k := by decide +kernel
theorem wb_cu : ∀ k, k < 64 → ((nI k).toInt64.toUInt64 &&& Int64.toUInt64 63) = UInt64.ofNat k := by decide +kernel
theorem wb_sm : ∀ k, k < 64 → (BitVec.ofNat 64 k).smod 64 = BitVec.ofNat 64 k := by decide +kernel
theorem wb_pw {a b : Nat} (h : a ≤ b) : 2 ^ b = 2 ^ a * 2 ^ (b - a) := by rw [← Nat.pow_add]; congr 1; omega
theorem wb_lt2 {a b : Nat} (h : a < b) : 2 ^ a < 2 ^ b := Nat.pow_lt_pow_right (by decide) h
theorem wb_mod (n : Nat) : lN n = lN (n % 2 ^ 64) := wb_inj (by rw [wb_tb, wb_tb]; apply BitVec.eq_of_toNat_eq; rw [BitVec.toNat_ofNat, BitVec.toNat_ofNat, Nat.mod_mod])
theorem wb_shr {n k : Nat} (hn : n < 2 ^ 64) (hk : k < 64) : ((lN n).toUInt64 >>> ((nI k).toInt64.toUInt64 &&& Int64.toUInt64 63)).toInt64 = lN (n / 2 ^ k) := by
  rw [wb_cu k hk]
  apply wb_inj
  apply BitVec.eq_of_toNat_eq
  show ((lN n).toUInt64 >>> UInt64.ofNat k).toNat = (BitVec.ofNat 64 _).toNat
  have h1 : (UInt64.ofNat k).toNat = k := by
    show (BitVec.ofNat 64 k).toNat = k
    rw [BitVec.toNat_ofNat, Nat.mod_eq_of_lt (by omega)]
  have h2 : (lN n).toUInt64.toNat = n := wb_tn hn
  rw [UInt64.toNat_shiftRight, h1, h2, Nat.mod_eq_of_lt hk, Nat.shiftRight_eq_div_pow, BitVec.toNat_ofNat, Nat.mod_eq_of_lt (Nat.lt_of_le_of_lt (Nat.div_le_self _ _) hn)]
/-- the mist's next number, its draw -/
def j_x (x : Int64) : Int64 := x * (6364136223846793005 : Int64) + (1442695040888963407 : Int64)
def j_dr (x : Int64) : Int64 := fw_lrem (fw_lushr x (33 : Int32)) (100 : Int64)
theorem j_dr_eq (x : Int64) : f_lrem (fw_lushr x (33 : Int32)) (100 : Int64) = some (j_dr x) := by
  unfold f_lrem
  rw [if_neg (by decide)]
  rfl
theorem j_dr_lt (x : Int64) : ∃ d, d < 100 ∧ j_dr x = lN d := by
  obtain ⟨n, hn, rfl⟩ := wb_of x
  refine ⟨n / 2 ^ 33 % 100, Nat.mod_lt _ (by decide), ?_⟩
  have h1 : fw_lushr (lN n) (33 : Int32) = lN (n / 2 ^ 33) := wb_shr (k := 33) hn (by decide)
  unfold j_dr fw_lrem
  rw [h1]
  exact pk_lRem (b := 100) (by omega) (by decide) (by decide)
theorem j_dr_0 (x : Int64) : (0 : Int32) ≤ lg_cmp (j_dr x) (Int32.toInt64 (0 : Int32)) := by
  obtain ⟨d, hd, e⟩ := j_dr_lt x
  rw [lg_cmp_ge, e]
  show lN 0 ≤ lN d
  exact (pk_lLE (by decide) (by omega)).mpr (Nat.zero_le _)
end WB
/-- what both sides' hours make of a state: the village's numbers; how many acts; their states; hours logged -/
abbrev j_X : Type := (Nat → Int32) × (Nat × ((Nat → Nat → Int32) × Nat))
def j_f (n : Nat) (T : Nat → Int32) (E : z_E) (b : Bool) (X : j_X) : Nat → Int32 := j_h n T X.1 (j_q E b (v_pos X.1)).1 (j_q E b (v_pos X.1)).2.1 X.2.2.2
def j_nx (n : Nat) (T : Nat → Int32) (E : z_E) (b : Bool) (X : j_X) : j_X := (j_f n T E b X, (j_c X.2.1, (j_S X.2.1 X.2.2.1 (j_f n T E b X), X.2.2.2 + 1)))
def j_run (n : Nat) (T : Nat → Int32) (E : z_E) (B : Int64 → Bool) : Nat → Int64 → j_X → j_X
  | 0, _, X => X
  | k + 1, x, X => j_run n T E B k (j_x x) (j_nx n T E (B (j_x x)) X)
/-- the class holds X -/
def j_CI (g : fw_H) (E : z_E) (n w : Nat) (T Wd : Nat → Int32) (X : j_X) : Prop := z_Sh g ∧ v_R g 29 n w T Wd X.1 ∧ (∃ nx H l, j_ac g n T X.2.1 nx H X.2.2.1 l ∧ l X.2.1 = X.2.2.2) ∧ X.2.2.1 X.2.1 = X.1 ∧ z_CW g E ∧ z_ps g (v_pos X.1)
/-- what the class's hours change -/
def j_cf (g g' : fw_H) : Prop := z_fr [29, 31, 33, 43, 44, 45, 46, 47, 48] g g' ∧ ∀ k, k ≠ 2 → k ≠ 3 → k ≠ 4 → z_I g' 48 k = z_I g 48 k
section JG
variable {h g g' g'' : fw_H} {n w i k t x a b l p m e F nn c nx : Nat} {T Wd f f' A H : Nat → Int32} {S : Nat → Nat → Int32} {v y : Int32} {As : List Nat} {E : z_E} {lw : Option (List q_C)} {fog : Bool} {q : e_P} {X : j_X} {B : Int64 → Bool}
theorem j_cf.refl : j_cf g g := ⟨z_fr.refl, fun _ _ _ _ => rfl⟩
theorem j_cf.trans (h1 : j_cf g g') (h2 : j_cf g' g'') : j_cf g g'' := ⟨h1.1.trans h2.1, fun k a b c => (h2.2 k a b c).trans (h1.2 k a b c)⟩
theorem v_R.hour (hn : n ≤ 12) (hw : w ≤ 16) (h0 : 0 < n) (hR : v_R h 29 n w T Wd f) (ha : a < n) (hb : b = 12 ∨ b < n) (ht : v_hr f < 9999) (hl9 : l ≤ 9999) (hl : z_I h 29 14 = nI l) (h57 : f 57 = nI (min l 60))
    (hI : ∀ k, k ≠ 10 → k ≠ 11 → k ≠ 12 → k ≠ 14 → z_I g 29 k = z_I h 29 k) (i10 : z_I g 29 10 = nI a) (i11 : z_I g 29 11 = z_b b) (i12 : z_I g 29 12 = nI (v_hr f + 1)) (i14 : z_I g 29 14 = nI (l + 1))
    (hA1 : ∀ i, z_A g 30 i = z_A h 30 i) (hA2 : ∀ x, x < n → z_A g 31 x = z_A h 31 x + (if x = a then (1 : Int32) else 0) + if v_hr f % 24 = 6 then T (6 * x + 3) else 0) (hA3 : ∀ i, z_A g 32 i = z_A h 32 i) (hA4 : ∀ j, z_A g 33 j = if j = l % 100 then nI a else z_A h 33 j) :
    v_R g 29 n w T Wd (j_h n T f a b l) := by
  obtain ⟨-, -, -, -, q5, -⟩ := hR.pos h0 hn
  obtain ⟨r1, r2, r3, r4, r5, r6, ⟨o2, r9, r10, r11⟩, ⟨o3, r12, r13, r14⟩, ⟨m1, r15, r16⟩, ⟨m2, r17, r18⟩, r19, r20, t', l', r21, r22, r23, r24, r25, r26, r27⟩ := hR
  obtain rfl : l' = l := (nI_eq (by omega) (by omega)).mp (r25.symm.trans hl)
  have et : t' = v_hr f := (nI_eq (by omega) (by omega)).mp (r24.symm.trans q5)
  subst et
  have hlow : ∀ k, k < 24 ∨ (36 ≤ k ∧ k < 54) → j_h n T f a b l' k = f k := fun k hk => j_h_low hk hn
  refine ⟨(hI 0 (by decide) (by decide) (by decide) (by decide)).trans r1, (hI 1 (by decide) (by decide) (by decide) (by decide)).trans r2, fun i hi => ⟨?_, fun k k1 k5 => ?_⟩, fun i hi => ?_, fun j hj => ?_, ?_, ⟨o2, r9, (hI 6 (by decide) (by decide) (by decide) (by decide)).trans r10, fun j hj => ?_⟩, ⟨o3, r12, (hI 7 (by decide) (by decide) (by decide) (by decide)).trans r13, fun i hi => ?_⟩, ⟨m1, (hI 8 (by decide) (by decide) (by decide) (by decide)).trans r15, ?_⟩, ⟨m2, (hI 9 (by decide) (by decide) (by decide) (by decide)).trans r17, ?_⟩, fun z => absurd z (by omega), fun _ => ⟨a, b, ha, hb, i10, j_h54, i11, j_h55⟩, v_hr f + 1, l' + 1, by omega, by omega, i12, j_h56, i14, j_h57, fun i hi => ?_⟩
  · show z_A g 30 (5 * i) = _
    rw [hA1, hlow i (by omega)]; exact (r3 i hi).1
  · show z_A g 30 (5 * i + k) = _
    rw [hA1]; exact (r3 i hi).2 k k1 k5
  · show z_A g 31 i = _
    rw [hA2 i hi, j_h24 hi hn]
    have := r4 i hi
    rw [show z_A h 31 i = f (24 + i) from this]
  · show z_A g 32 (2 * j) = _ ∧ z_A g 32 (2 * j + 1) = _
    rw [hA3, hA3]; exact r5 j hj
  · rw [hI 5 (by decide) (by decide) (by decide) (by decide)]; exact r6
  · rw [hlow (36 + j) (by omega)]; exact r11 j hj
  · rw [j_h_low (k := 12 + i) (by omega) hn]; exact r14 i hi
  · rw [hlow 52 (by omega)]; exact r16
  · rw [hlow 53 (by omega)]; exact r18
  · show z_A g 33 ((l' + 1 - 1 - i) % 100) = _
    rw [hA4, j_h58 (by omega) hn]
    by_cases c1 : l' < 60
    · rw [if_pos c1]
      by_cases c2 : i = 0
      · rw [if_pos (by omega), if_pos (by omega)]
      · rw [if_neg (by omega), if_neg (by omega)]
        have h3 := r27 (i - 1) (by omega)
        rw [show l' - 1 - (i - 1) = l' + 1 - 1 - i by omega] at h3
        rw [show z_A h 33 ((l' + 1 - 1 - i) % 100) = _ from h3]
        congr 1
        omega
    · rw [if_neg c1]
      by_cases c2 : i = 0
      · rw [if_pos (by omega), if_neg (by omega)]
      · rw [if_neg (by omega), if_pos (by omega)]
        have h3 := r27 (i - 1) (by omega)
        rw [show l' - 1 - (i - 1) = l' + 1 - 1 - i by omega] at h3
        rw [show z_A h 33 ((l' + 1 - 1 - i) % 100) = _ from h3]
        congr 1
        omega
/-- the walk's hour, or a hour of fog -/
theorem j_walk (hF : 70000 ≤ F) (hS : z_Sh g) (hC : z_CW g E) (hp : z_ps g q) (hk : e_ok E q) : ∃ g', (if fog = true then s_Walk_stay g (some 48) else s_Walk_hour F g (some 48)) = some g' ∧ (z_w g g' ∧ z_ps g' (j_q E fog q)) := by
  cases fog
  · rw [if_neg (by decide)]
    obtain ⟨g1, a1, a2, a3⟩ := z_hour hF hS hC hp hk
    exact ⟨g1, a1, a2, a3⟩
  · rw [if_pos rfl]
    obtain ⟨k1, k2, k3⟩ := hk
    unfold s_Walk_stay
    rw [z_c48 hS, Option.bind_some, z_i48_4 hS, Option.bind_some, hp.2.2, nI_1, show (24 : Int32) = nI 24 from rfl, z_irem (by omega) (by decide) (by decide), Option.bind_some, z_w48_4 hS]
    refine ⟨_, rfl, z_w.s2 (by omega), ?_, ?_, ?_⟩
    · rw [z_I_sI_nk (by decide)]; exact hp.1
    · rw [z_I_sI_nk (by decide)]; exact hp.2.1
    · rw [z_II hS 9 rfl]; rfl
/-- an hour, the class -/
theorem j_stepC (hF : 70000 ≤ F) (hok : v_ok n w Wd) (h0 : 0 < n) (hE : E.1 = n) (hI : j_CI g E n w T Wd X) (ht : v_hr X.1 < 9999) :
    ∃ g1 g2 g3, s_Acts_keep g (some 43) (6 : Int32) (0 : Int32) (some 29) = some g1 ∧ z_Sh g1 ∧ z_I g1 29 9 = z_I g 29 9 ∧ (if fog = true then s_Walk_stay g1 (some 48) else s_Walk_hour F g1 (some 48)) = some g2 ∧ z_Sh g2 ∧
      s_Vil_passHour F g2 (some 29) (z_I g2 48 2) (z_I g2 48 3) = some g3 ∧ j_cf g g3 ∧ j_CI g3 E n w T Wd (j_nx n T E fog X) := by
  obtain ⟨hS, hR, ⟨nx, H, l, hA, hl⟩, hX, hC, hp⟩ := hI
  have hn12 := hok.1
  have hk : e_ok E (v_pos X.1) := hR.ok h0 hn12 hE
  have hk2 := j_q_ok (fog := fog) hk
  have hq : ∃ q', q' = j_q E fog (v_pos X.1) := ⟨_, rfl⟩
  obtain ⟨q', hq'⟩ := hq
  obtain ⟨p1, p2, p3, p4, p5, p6, -, -, p9⟩ := hR.pos h0 hn12
  obtain ⟨g1, a1, a2, a3⟩ := j_keep (x := 6) (y := 0) hS hA hR h0 hn12
  have S1 := hS.fr a2 (by decide)
  have C1 : z_CW g1 E := hC.of a2 (by decide) (a2.I (by decide)) (a2.I (by decide))
  have P1 : z_ps g1 (v_pos X.1) := hp.of (a2.I (by decide)) (a2.I (by decide)) (a2.I (by decide))
  obtain ⟨g2, b1, b2, b3⟩ := j_walk (fog := fog) hF S1 C1 P1 hk
  have S2 := b2.sh S1
  rw [← hq'] at b3 hk2
  obtain ⟨k1, k2, k3⟩ := hk2
  rw [hE] at k1 k2
  -- what stands in the village is as it was
  have f2 : z_fr [43, 44, 45, 46, 47, 48] g g2 := (a2.mono (by simp)).trans (b2.1.mono (by simp))
  have hlog := hA.2.2.2.2.1 X.2.1 (Nat.le_refl _)
  rw [hl, hX] at hlog
  have h14 : z_I g 29 14 = nI X.2.2.2 := by rw [← hl]; exact hA.2.2.2.2.2.2.2.1
  have hR0 := hR
  obtain ⟨-, -, r3, -, -, -, -, -, -, -, -, -, t', l', r21, r22, -, r24, r25, -⟩ := hR0
  have el : l' = X.2.2.2 := (nI_eq (by omega) (by have := hlog.2.1; omega)).mp (r25.symm.trans h14)
  have et : t' = v_hr X.1 := (nI_eq (by omega) (by omega)).mp (r24.symm.trans p5)
  obtain ⟨g3, c1, c2, c3, c4, c5, c6, c7, c8, c9⟩ := z_passHour (T := T) (a := q'.1) (t := v_hr X.1) (l := X.2.2.2) (y := z_b q'.2.1) hF S2 hn12 ht k1 (by rw [f2.I (by decide)]; exact hR.1) (by rw [f2.I (by decide)]; exact p9) (by rw [f2.I (by decide)]; exact h14) (by omega) (fun x hx => by rw [f2.A (by decide)]; exact (r3 x hx).2 3 (by decide) (by decide))
  have S3 := S2.fr c2 (by decide)
  have F3 : z_fr [29, 31, 33, 43, 44, 45, 46, 47, 48] g g3 := (f2.mono (by simp)).trans (c2.mono (by simp))
  refine ⟨g1, g2, g3, a1, S1, a2.I (by decide), b1, S2, by rw [b3.1, b3.2.1]; exact c1, ⟨F3, fun k x1 x2 x3 => by rw [c2.I (by decide), b2.2.1 k x1 x2 x3, a2.I (by decide)]⟩, S3, ?_, ?_, ?_, ?_, ?_⟩
  · show v_R g3 29 n w T Wd (j_f n T E fog X)
    unfold j_f
    rw [← hq']
    refine v_R.hour (h := g2) hn12 hok.2.1 h0 (hR.fr hn12 hok.2.1 f2 (fun d hd => by simp; omega)) k1 k2 ht hlog.2.1 (by rw [f2.I (by decide)]; exact h14) hlog.1.1 c3 c4 c5 c6 c7 (fun i => c2.A (by decide)) c8 (fun i => c2.A (by decide)) c9
  · have hfx : j_f n T E fog X = j_h n T X.1 q'.1 q'.2.1 X.2.2.2 := by unfold j_f; rw [hq']
    refine ⟨(nx + 1) % 40, fun i => if i = X.2.2.2 then nI q'.1 else H i, j_l X.2.1 l (X.2.2.2 + 1), ?_, j_l_end⟩
    show j_ac g3 n T (j_c X.2.1) ((nx + 1) % 40) _ (j_S X.2.1 X.2.2.1 (j_f n T E fog X)) _
    rw [hfx]
    have hm := j_mono (c := X.2.1) (l := l) (fun j hj => (hA.2.2.2.2.2.1 j hj).le)
    have hcd := j_cd hA.1
    have hm0 := hm (j_d X.2.1) 0 (by omega)
    have hmc := hm (X.2.1 - j_d X.2.1) (j_d X.2.1) (by omega)
    rw [show j_d X.2.1 + (X.2.1 - j_d X.2.1) = X.2.1 by omega, hl] at hmc
    rw [Nat.zero_add] at hm0
    refine j_push (x := 6) (y := 0) (f := X.1) hA hX ((a3.fr b2.1 (by decide)).fr c2 (by decide)) (by rw [hl]; exact j_h_step hn12 p5 ht (by omega)) (j_h_log hlog hn12 (by omega)) (fun i hi => if_neg (by rw [hl] at hi; omega)) ⟨fun z => by omega, v_at X.1, v_be X.1, p2, p4, p1, p3⟩ c7 (fun i h1 h2 => ?_)
    rw [c9]
    show _ = if i = X.2.2.2 then nI q'.1 else H i
    by_cases e : i = X.2.2.2
    · rw [if_pos (by rw [e]), if_pos e]
    · rw [if_neg (by omega), if_neg e, f2.A (by decide)]
      exact hA.2.2.2.2.2.2.2.2 i (by omega) (by omega)
  · show j_S X.2.1 X.2.2.1 (j_f n T E fog X) (j_c X.2.1) = _
    exact j_S_end
  · exact (C1.of b2.1 (by decide) (b2.2.1 5 (by decide) (by decide) (by decide)) (b2.2.1 6 (by decide) (by decide) (by decide))).of c2 (by decide) (c2.I (by decide)) (c2.I (by decide))
  · show z_ps g3 (v_pos (j_f n T E fog X))
    unfold j_f
    rw [j_h_posq hk (by omega) p6, ← hq']
    exact b3.of (c2.I (by decide)) (c2.I (by decide)) (c2.I (by decide))
end JG
