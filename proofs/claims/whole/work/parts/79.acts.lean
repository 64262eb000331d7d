-- ACTS: turn, shut, music, fog, prescribe, lie
def j_C : List Nat := [29, 30, 31, 33, 43, 44, 45, 46, 47, 48, 77, 78, 84, 86]
section JA
variable {h h1 h2 h3 g g1 g' : fw_H} {c nx n w p i k m F : Nat} {T Wd f f' H : Nat → Int32} {S : Nat → Nat → Int32} {l : Nat → Nat} {lw : Option (List q_C)} {x y v : Int32} {As C D D' : List Nat} {is : Bool}
theorem w_q.m68 (hf : z_fr As h g) (hA : ∀ j, j ∈ As → j = 68 ∨ j ∈ C) (h15 : 15 ∉ As) (hk : ∀ k, k ∉ D' → z_I g 68 k = z_I h 68 k) : w_q C D D' h g :=
  ⟨fun j q x => (hf.1 j).trans x, fun j h1 _ h68 _ => hf.2 j (fun z => (hA j z).elim h68 h1), fun k _ => hf.I h15, hk⟩
theorem j_done (hR : w_S h n w T Wd f lw p) (hq : w_q j_C [] [31] h g) (hv : v_R g 29 n w T Wd f') (h84 : ∀ j, j < 118 → z_A g 84 j = f' j) (hA : w_acts g n T f') (ht : w_trail g) : w_S g n w T Wd f' lw p := by
  obtain ⟨r1, ⟨v1, v2, v3, ⟨v4, v5, v6⟩, v7, v8⟩, r3, r4, r5, r6, r7, r8, r9⟩ := hR
  refine ⟨hq.sh (by decide) r1, ⟨v1, hv, (hq.2.2.2 24 (by decide)).trans v3, ⟨(hq.2.2.2 25 (by decide)).trans v4, fun j hj => ?_, h84⟩, fun j hj => ?_, fun x hx => ?_⟩, hq.laws (by decide) (by decide) (by decide) r3, hq.tape (by decide) (by decide) r4, hA, hq.img v1.1 v1.2.1 (by decide) (by decide) (by decide) r6, hq.seen (by decide) (by decide) r7, hq.mist (by decide) (by decide) r8, ht⟩
  · rw [z_A_of (hq.at (by decide) (by decide))]; exact v5 j hj
  · rw [z_A_of (hq.at (by decide) (by decide))]; exact v7 j hj
  · rw [z_A_of (hq.at (by decide) (by decide))]; exact v8 x hx
theorem j_M.of (h86 : ∀ t, z_A h2 86 t = z_A h 86 t) (hM : j_M h2 g c f) : j_M h g c f := ⟨hM.1, hM.2.1, fun t ht => by rw [hM.2.2 t ht, h86]⟩
/-- an act without an hour has been put on the list -/
theorem j_quiet (hA : j_ac h n T c nx H S l) (hM : j_am h c S) (hf : S c = f) (hR : v_R h 29 n w T Wd f) (h0 : 0 < n) (h12 : n ≤ 12) (hK : j_K h g c nx x y f) (hg : j_M h g c f) (hs : w_step n T x y (f 54) (f 55) f f' (l c) (l c)) (hl : ∀ j, 57 ≤ j → j < 118 → f' j = f j) (hw : w_wt f') (b14 : z_I g 29 14 = z_I h 29 14) (b33 : ∀ i, z_A g 33 i = z_A h 33 i) : w_acts g n T f' := by
  obtain ⟨p1, p2, p3, p4, -⟩ := hR.pos h0 h12
  have hA0 := hA
  obtain ⟨a1, a2, a3, a4, a5, a6, a7, a8, a9⟩ := hA0
  have hm := j_mono (c := c) (l := l) (fun j hj => (a6 j hj).le) (j_d c) 0 (by have := j_cd a1; omega)
  rw [Nat.zero_add] at hm
  have hb9 := (a5 c (Nat.le_refl _)).2.1
  have hlog := (a5 c (Nat.le_refl _)).1
  rw [hf] at hlog
  have hlog' : w_log H (l c) f' := ⟨⟨(hl 57 (by decide) (by decide)).trans hlog.1, fun i hi => by rw [hl _ (by omega) (by omega)]; exact hlog.2 i hi⟩, hb9, hw⟩
  exact (j_push hA hf hK hs hlog' (fun i _ => rfl) ⟨fun z => by omega, v_at f, v_be f, p2, p4, p1, p3⟩ (b14.trans a8) (fun i h1 h2 => by rw [b33]; exact a9 i h1 (by omega))).shut (j_pushM a1 hM hf hg) j_S_end
/-- both sides have done an act without an hour -/
theorem j_act (hR : w_S h n w T Wd f lw p) (h0 : 0 < n) (hA : j_ac h n T c nx H S l) (hM : j_am h c S) (hf : S c = f) (a2 : z_fr [43, 44, 45, 46, 47] h g1) (hK : j_K h g1 c nx x y f) (b2 : z_fr [29, 30] g1 h2) (b14 : z_I h2 29 14 = z_I g1 29 14) (hv : v_R h2 29 n w T Wd f')
    (d2 : z_fr [68, 84, 86] h2 h3) (d3 : ∀ k, k ≠ 31 → z_I h3 68 k = z_I h2 68 k) (d4 : j_M h2 h3 c f) (d5 : ∀ t, t < 118 → z_A h3 84 t = f' t) (hs : w_step n T x y (f 54) (f 55) f f' (l c) (l c)) (hl : ∀ j, 57 ≤ j → j < 118 → f' j = f j) (hw : w_wt f') : w_call h h2 h3 := by
  have hok := hR.ok
  have f2 : z_fr [29, 30, 43, 44, 45, 46, 47] h h2 := (a2.mono (by simp)).trans (b2.mono (by simp))
  have q2 : w_q j_C [] [31] h h2 := w_q.fr f2 (fun j hj => .inl (by revert j; decide)) (by decide) (by decide)
  have q3 : w_q j_C [] [31] h h3 := q2.trans (w_q.m68 d2 (by decide) (by decide) (fun k hk => d3 k (by simpa using hk)))
  have hv3 : v_R h3 29 n w T Wd f' := hv.fr hok.1 hok.2.1 d2 (fun d hd => by simp; omega)
  have ha : w_acts h3 n T f' := j_quiet hA hM hf hR.2.1.2.1 h0 hok.1 ((hK.fr b2 (by decide)).fr d2 (by decide)) (d4.of fun t => f2.A (by decide)) hs hl hw (by rw [d2.I (by decide), b14, a2.I (by decide)]) (fun i => by rw [d2.A (by decide), f2.A (by decide)])
  have ht : w_trail h3 := hR.2.2.2.2.2.2.2.2.of (by rw [d2.I (by decide), f2.I (by decide)]) (fun j => by rw [d2.A (by decide), f2.A (by decide)]) (fun k => by rw [d2.R (by decide), f2.R (by decide)])
  exact ⟨q2.c0 (by decide), ⟨n, w, T, Wd, f', lw, p, j_done hR q3 hv3 d5 ha ht⟩, q3.c0 (by decide)⟩
theorem j_ne {b : Bool} (h : b ≠ is) : is = !b := by cases b <;> cases is <;> first | rfl | exact absurd rfl h
theorem w_wt.of (hw : w_wt f) (h : ∀ x, x < 12 → f' x = f x) : w_wt f' := fun x hx => by rw [h x hx]; exact hw x hx
theorem w_S.wt (hA : j_ac h n T c nx H S l) (hf : S c = f) : w_wt f := hf ▸ (hA.2.2.2.2.1 c (Nat.le_refl _)).2.2
/-- turn -/
theorem call_turn (hF : 70000 ≤ F) (hR : w_R h) : ∃ v h1 h2, s_Joy_turn h (some 15) x is = some (v, h1) ∧ s_Mod_turn F h1 (some 68) x is = some (v, h2) ∧ w_call h h1 h2 := by
  obtain ⟨n, w, T, Wd, f, lw, p, hR⟩ := hR
  have hS := hR.1
  have hok := hR.ok
  have hn := hR.2.1.2.1.1
  have hnm := hR.2.1.2.2.1
  have hn12 := hok.1
  have h84 := hR.2.1.2.2.2.1.2.2
  obtain ⟨c, nx, H, S, l, hA, hM, hf⟩ := hR.2.2.2.2.1.unf
  have em : ∀ g, z_Sh g → z_I g 68 24 = nI n → s_Mod_turn F g (some 68) x is = if v_in x n = true then (s_Mod_tells F g (some 68) ((12 : Int32) + x) is).bind fun x14 => if x14.1 = true then (some (true, x14.2)) else some (false, x14.2) else some (false, g) := by
    intro g hg e
    unfold s_Mod_turn
    rw [z_c68 hg, Option.bind_some, z_isHouse hg e hn12, Option.bind_some]
  unfold s_Joy_turn
  rw [z_c15 hS, Option.bind_some, z_r15_3 hS, Option.bind_some, z_hasHouse hS (.inr (.inl rfl)) hn, Option.bind_some]
  by_cases hx : v_in x n = true
  · obtain ⟨i, hi, rfl⟩ := v_in_t hx (by omega)
    have hv0 := hR.2.1.2.1
    obtain ⟨-, -, -, -, -, -, -, ⟨o, o1, o2, o3⟩, -⟩ := hv0
    have e12 : (12 : Int32) + nI i = nI (12 + i) := nI_add 12 i
    rw [if_pos hx, Option.bind_some, z_i29_7 hS, Option.bind_some, o2, z_has (by omega) (by omega), Option.bind_some]
    by_cases hb : o.testBit i = is
    · rw [if_neg (fun z => z (by rw [hb]))]
      refine ⟨false, h, h, rfl, ?_, w_call.rr hR⟩
      rw [em h hS hnm, if_pos hx, e12, ← hb, j_tellsN hS h84 (by omega) (o3 i hi)]
      rfl
    · obtain ⟨g1, a1, a2, a3⟩ := j_keep (x := 0) (y := nI i) hS hA hR.2.1.2.1 (by omega) hn12
      have S1 := hS.fr a2 (by decide)
      rw [if_pos (fun z => hb (fw_b_inj z)), z_r15_10 hS, Option.bind_some, Option.bind_some, a1, Option.bind_some, z_r15_3 S1, Option.bind_some, z_i29_7 S1, Option.bind_some, z_w29_7 S1, Option.bind_some]
      obtain ⟨h2, hh2⟩ : ∃ h2, h2 = z_sI g1 29 7 (z_I g1 29 7 ^^^ ((1 : Int32) <<< (nI i &&& 31))) := ⟨_, rfl⟩
      have S2 : z_Sh h2 := by rw [hh2]; exact z_Sh_sI S1
      have b2 : z_fr [29] g1 h2 := by rw [hh2]; exact z_fr.refl.sI (by simp)
      have R1 : v_R g1 29 n w T Wd f := hR.2.1.2.1.fr hn12 hok.2.1 a2 (fun d hd => by simp; omega)
      have e84 : ∀ t, t < 118 → z_A h2 84 t = f t := fun t ht => by rw [b2.A (by decide), a2.A (by decide)]; exact h84 t ht
      have e31 : z_I h2 68 31 = nI c := by rw [b2.I (by decide), a2.I (by decide)]; exact hM.1
      obtain ⟨h3, d1, d2, d3, d4, d5⟩ := j_tells hF S2 hA.1 e31 e84 (show 12 + i < 118 by omega) (o3 i hi) hb
      have his := j_ne hb
      rw [← hh2]
      refine ⟨true, h2, h3, rfl, ?_, ?_⟩
      · rw [em h2 S2 (by rw [b2.I (by decide), a2.I (by decide)]; exact hnm), if_pos hx, e12, d1]
        rfl
      · have hv : v_R h2 29 n w T Wd (fun j => if j = 12 + i then fw_b is else f j) := R1.turn (x := i) (b := o.testBit i) hn12 hok.2.1 hi (by rw [hh2, z_II S1 7 rfl]) (o3 i hi) (by show (if 12 + i = 12 + i then fw_b is else f (12 + i)) = _; rw [if_pos rfl, his]) (fun k hk => by rw [hh2]; exact z_I_sI_nk (by simpa using hk)) (fun j => b2.A (by decide)) (fun j => b2.A (by decide)) (fun j => b2.A (by decide)) (fun j => b2.A (by decide)) (fun j _ hj => if_neg (by simpa using hj))
        refine j_act hR (by omega) hA hM hf a2 a3 (b2.mono (by simp)) (by rw [hh2]; exact z_I_sI_nk (by decide)) hv d2 d3 d4 d5 ⟨rfl, rfl, .inl ⟨i, hi, rfl, rfl, rfl, ⟨o.testBit i, o3 i hi, by show (if 12 + i = 12 + i then fw_b is else f (12 + i)) = _; rw [if_pos rfl, his]⟩, fun j _ hj => (if_neg hj).symm⟩⟩ (fun j hj _ => if_neg (by omega)) ((w_S.wt hA hf).of fun x hx => if_neg (by omega))
  · rw [if_neg hx]
    exact ⟨false, h, h, rfl, by rw [em h hS hnm, if_neg hx], w_call.rr hR⟩
/-- shut -/
theorem call_shut (hF : 70000 ≤ F) (hR : w_R h) : ∃ v h1 h2, s_Joy_shut h (some 15) x is = some (v, h1) ∧ s_Mod_shut F h1 (some 68) x is = some (v, h2) ∧ w_call h h1 h2 := by
  obtain ⟨n, w, T, Wd, f, lw, p, hR⟩ := hR
  have hS := hR.1
  have hok := hR.ok
  have hn := hR.2.1.2.1.2.1
  have hnm := hR.2.1.2.2.2.1.1
  have hn12 := hok.1
  have hw16 := hok.2.1
  have h84 := hR.2.1.2.2.2.1.2.2
  obtain ⟨c, nx, H, S, l, hA, hM, hf⟩ := hR.2.2.2.2.1.unf
  have em : ∀ g, z_Sh g → z_I g 68 25 = nI w → s_Mod_shut F g (some 68) x is = if v_in x w = true then (s_Mod_tells F g (some 68) ((36 : Int32) + x) is).bind fun x14 => if x14.1 = true then (some (true, x14.2)) else some (false, x14.2) else some (false, g) := by
    intro g hg e
    unfold s_Mod_shut
    rw [z_c68 hg, Option.bind_some, z_isWindow hg e hw16, Option.bind_some]
  unfold s_Joy_shut
  rw [z_c15 hS, Option.bind_some, z_r15_3 hS, Option.bind_some, z_hasWindow hS (.inr (.inl rfl)) hn, Option.bind_some]
  by_cases hx : v_in x w = true
  · obtain ⟨i, hi, rfl⟩ := v_in_t hx (by omega)
    have h0 : 0 < n := by
      obtain ⟨x, y, h1, -⟩ := (hok.2.2 i hi).1
      omega
    have hv0 := hR.2.1.2.1
    obtain ⟨-, -, -, -, -, -, ⟨o, o1, o2, o3⟩, -⟩ := hv0
    have e12 : (36 : Int32) + nI i = nI (36 + i) := nI_add 36 i
    rw [if_pos hx, Option.bind_some, z_i29_6 hS, Option.bind_some, o2, z_has (by omega) (by omega), Option.bind_some]
    by_cases hb : o.testBit i = is
    · rw [if_neg (fun z => z (by rw [hb]))]
      refine ⟨false, h, h, rfl, ?_, w_call.rr hR⟩
      rw [em h hS hnm, if_pos hx, e12, ← hb, j_tellsN hS h84 (by omega) (o3 i hi)]
      rfl
    · obtain ⟨g1, a1, a2, a3⟩ := j_keep (x := 1) (y := nI i) hS hA hR.2.1.2.1 h0 hn12
      have S1 := hS.fr a2 (by decide)
      rw [if_pos (fun z => hb (fw_b_inj z)), z_r15_10 hS, Option.bind_some, Option.bind_some, a1, Option.bind_some, z_r15_3 S1, Option.bind_some, z_i29_6 S1, Option.bind_some, z_w29_6 S1, Option.bind_some]
      obtain ⟨h2, hh2⟩ : ∃ h2, h2 = z_sI g1 29 6 (z_I g1 29 6 ^^^ ((1 : Int32) <<< (nI i &&& 31))) := ⟨_, rfl⟩
      have S2 : z_Sh h2 := by rw [hh2]; exact z_Sh_sI S1
      have b2 : z_fr [29] g1 h2 := by rw [hh2]; exact z_fr.refl.sI (by simp)
      have R1 : v_R g1 29 n w T Wd f := hR.2.1.2.1.fr hn12 hok.2.1 a2 (fun d hd => by simp; omega)
      have e84 : ∀ t, t < 118 → z_A h2 84 t = f t := fun t ht => by rw [b2.A (by decide), a2.A (by decide)]; exact h84 t ht
      have e31 : z_I h2 68 31 = nI c := by rw [b2.I (by decide), a2.I (by decide)]; exact hM.1
      obtain ⟨h3, d1, d2, d3, d4, d5⟩ := j_tells hF S2 hA.1 e31 e84 (show 36 + i < 118 by omega) (o3 i hi) hb
      have his := j_ne hb
      rw [← hh2]
      refine ⟨true, h2, h3, rfl, ?_, ?_⟩
      · rw [em h2 S2 (by rw [b2.I (by decide), a2.I (by decide)]; exact hnm), if_pos hx, e12, d1]
        rfl
      · have hv : v_R h2 29 n w T Wd (fun j => if j = 36 + i then fw_b is else f j) := R1.shut (x := i) (b := o.testBit i) hn12 hok.2.1 (by omega) (by rw [hh2, z_II S1 7 rfl]) (o3 i hi) (by show (if 36 + i = 36 + i then fw_b is else f (36 + i)) = _; rw [if_pos rfl, his]) (fun k hk => by rw [hh2]; exact z_I_sI_nk (by simpa using hk)) (fun j => b2.A (by decide)) (fun j => b2.A (by decide)) (fun j => b2.A (by decide)) (fun j => b2.A (by decide)) (fun j _ hj => if_neg (by simpa using hj))
        refine j_act hR h0 hA hM hf a2 a3 (b2.mono (by simp)) (by rw [hh2]; exact z_I_sI_nk (by decide)) hv d2 d3 d4 d5 ⟨rfl, rfl, .inr (.inl ⟨i, by omega, rfl, rfl, rfl, ⟨o.testBit i, o3 i hi, by show (if 36 + i = 36 + i then fw_b is else f (36 + i)) = _; rw [if_pos rfl, his]⟩, fun j _ hj => (if_neg hj).symm⟩)⟩ (fun j hj _ => if_neg (by omega)) ((w_S.wt hA hf).of fun x hx => if_neg (by omega))
  · rw [if_neg hx]
    exact ⟨false, h, h, rfl, by rw [em h hS hnm, if_neg hx], w_call.rr hR⟩
theorem z_pBS {a c k : Nat} {b : Bool} (hS : z_Sh h) (e : z_fk a c k = some 0) : f_pB h (some a) c k b = some (z_sI h a k (fw_b b)) := z_pIS hS e
/-- music -/
theorem call_music (hF : 70000 ≤ F) (hR : w_R h) : ∃ v h1 h2, s_Joy_music h (some 15) is = some (v, h1) ∧ s_Mod_music F h1 (some 68) is = some (v, h2) ∧ w_call h h1 h2 := by
  obtain ⟨n, w, T, Wd, f, lw, p, hR⟩ := hR
  have hS := hR.1
  have hok := hR.ok
  have hn := hR.2.1.2.1.1
  have hnm := hR.2.1.2.2.1
  have hn12 := hok.1
  have h84 := hR.2.1.2.2.2.1.2.2
  obtain ⟨c, nx, H, S, l, hA, hM, hf⟩ := hR.2.2.2.2.1.unf
  have em : ∀ g, z_Sh g → z_I g 68 24 = nI n → s_Mod_music F g (some 68) is = if n = 0 then some (false, g) else (s_Mod_tells F g (some 68) (52 : Int32) is).bind fun x14 => if x14.1 = true then (some (true, x14.2)) else some (false, x14.2) := by
    intro g hg e
    unfold s_Mod_music
    rw [z_c68 hg, Option.bind_some, z_i68_24 hg, Option.bind_some, e]
    by_cases h0 : n = 0
    · rw [if_pos h0, if_pos (by rw [h0]; decide)]
    · rw [if_neg h0, if_neg (nI_nle (by omega) (by omega))]
  unfold s_Joy_music
  rw [z_c15 hS, Option.bind_some, z_r15_3 hS, Option.bind_some, z_isNone hS (.inr (.inl rfl)) hn hn12, Option.bind_some]
  by_cases h0 : n = 0
  · rw [if_pos (decide_eq_true h0)]
    exact ⟨false, h, h, rfl, by rw [em h hS hnm, if_pos h0], w_call.rr hR⟩
  · have hv0 := hR.2.1.2.1
    obtain ⟨-, -, -, -, -, -, -, -, ⟨b, o2, o3⟩, -⟩ := hv0
    rw [if_neg (by simpa using h0), Option.bind_some, z_gB ((z_i29_8 hS).trans (by rw [o2])) rfl, Option.bind_some]
    by_cases hb : b = is
    · rw [if_neg (fun z => z (by rw [hb]))]
      refine ⟨false, h, h, rfl, ?_, w_call.rr hR⟩
      rw [em h hS hnm, if_neg h0, ← hb, show (52 : Int32) = nI 52 from rfl, j_tellsN hS h84 (by omega) o3]
      rfl
    · obtain ⟨g1, a1, a2, a3⟩ := j_keep (x := 2) (y := 0) hS hA hR.2.1.2.1 (by omega) hn12
      have S1 := hS.fr a2 (by decide)
      rw [if_pos (fun z => hb (fw_b_inj z)), z_r15_10 hS, Option.bind_some, Option.bind_some, a1, Option.bind_some, z_r15_3 S1, Option.bind_some, z_pBS S1 rfl, Option.bind_some]
      obtain ⟨h2, hh2⟩ : ∃ h2, h2 = z_sI g1 29 8 (fw_b is) := ⟨_, rfl⟩
      have S2 : z_Sh h2 := by rw [hh2]; exact z_Sh_sI S1
      have b2 : z_fr [29] g1 h2 := by rw [hh2]; exact z_fr.refl.sI (by simp)
      have R1 : v_R g1 29 n w T Wd f := hR.2.1.2.1.fr hn12 hok.2.1 a2 (fun d hd => by simp; omega)
      have e84 : ∀ t, t < 118 → z_A h2 84 t = f t := fun t ht => by rw [b2.A (by decide), a2.A (by decide)]; exact h84 t ht
      have e31 : z_I h2 68 31 = nI c := by rw [b2.I (by decide), a2.I (by decide)]; exact hM.1
      obtain ⟨h3, d1, d2, d3, d4, d5⟩ := j_tells hF S2 hA.1 e31 e84 (show 52 < 118 by omega) o3 hb
      have his := j_ne hb
      rw [← hh2]
      refine ⟨true, h2, h3, rfl, ?_, ?_⟩
      · rw [em h2 S2 (by rw [b2.I (by decide), a2.I (by decide)]; exact hnm), if_neg h0, show (52 : Int32) = nI 52 from rfl, d1]
        rfl
      · have hv : v_R h2 29 n w T Wd (fun j => if j = 52 then fw_b is else f j) := R1.music (b := is) hn12 hok.2.1 (by rw [hh2, z_II S1 7 rfl]) rfl (fun k hk => by rw [hh2]; exact z_I_sI_nk (by simpa using hk)) (fun j => b2.A (by decide)) (fun j => b2.A (by decide)) (fun j => b2.A (by decide)) (fun j => b2.A (by decide)) (fun j _ hj => if_neg (by simpa using hj))
        refine j_act hR (by omega) hA hM hf a2 a3 (b2.mono (by simp)) (by rw [hh2]; exact z_I_sI_nk (by decide)) hv d2 d3 d4 d5 ⟨rfl, rfl, .inr (.inr (.inl ⟨rfl, rfl, ⟨b, o3, by rw [← his]; rfl⟩, fun j _ hj => (if_neg hj).symm⟩))⟩ (fun j hj _ => if_neg (by omega)) ((w_S.wt hA hf).of fun x hx => if_neg (by omega))
/-- fog -/
theorem call_fog (hF : 70000 ≤ F) (hR : w_R h) : ∃ v h1 h2, s_Joy_fog h (some 15) is = some (v, h1) ∧ s_Mod_fog F h1 (some 68) is = some (v, h2) ∧ w_call h h1 h2 := by
  obtain ⟨n, w, T, Wd, f, lw, p, hR⟩ := hR
  have hS := hR.1
  have hok := hR.ok
  have hn := hR.2.1.2.1.1
  have hnm := hR.2.1.2.2.1
  have hn12 := hok.1
  have h84 := hR.2.1.2.2.2.1.2.2
  obtain ⟨c, nx, H, S, l, hA, hM, hf⟩ := hR.2.2.2.2.1.unf
  have em : ∀ g, z_Sh g → z_I g 68 24 = nI n → s_Mod_fog F g (some 68) is = if n = 0 then some (false, g) else (s_Mod_tells F g (some 68) (53 : Int32) is).bind fun x14 => if x14.1 = true then (some (true, x14.2)) else some (false, x14.2) := by
    intro g hg e
    unfold s_Mod_fog
    rw [z_c68 hg, Option.bind_some, z_i68_24 hg, Option.bind_some, e]
    by_cases h0 : n = 0
    · rw [if_pos h0, if_pos (by rw [h0]; decide)]
    · rw [if_neg h0, if_neg (nI_nle (by omega) (by omega))]
  unfold s_Joy_fog
  rw [z_c15 hS, Option.bind_some, z_r15_3 hS, Option.bind_some, z_isNone hS (.inr (.inl rfl)) hn hn12, Option.bind_some]
  by_cases h0 : n = 0
  · rw [if_pos (decide_eq_true h0)]
    exact ⟨false, h, h, rfl, by rw [em h hS hnm, if_pos h0], w_call.rr hR⟩
  · have hv0 := hR.2.1.2.1
    obtain ⟨-, -, -, -, -, -, -, -, -, ⟨b, o2, o3⟩, -⟩ := hv0
    rw [if_neg (by simpa using h0), Option.bind_some, z_gB ((z_i29_9 hS).trans (by rw [o2])) rfl, Option.bind_some]
    by_cases hb : b = is
    · rw [if_neg (fun z => z (by rw [hb]))]
      refine ⟨false, h, h, rfl, ?_, w_call.rr hR⟩
      rw [em h hS hnm, if_neg h0, ← hb, show (53 : Int32) = nI 53 from rfl, j_tellsN hS h84 (by omega) o3]
      rfl
    · obtain ⟨g1, a1, a2, a3⟩ := j_keep (x := 3) (y := 0) hS hA hR.2.1.2.1 (by omega) hn12
      have S1 := hS.fr a2 (by decide)
      rw [if_pos (fun z => hb (fw_b_inj z)), z_r15_10 hS, Option.bind_some, Option.bind_some, a1, Option.bind_some, z_r15_3 S1, Option.bind_some, z_pBS S1 rfl, Option.bind_some]
      obtain ⟨h2, hh2⟩ : ∃ h2, h2 = z_sI g1 29 9 (fw_b is) := ⟨_, rfl⟩
      have S2 : z_Sh h2 := by rw [hh2]; exact z_Sh_sI S1
      have b2 : z_fr [29] g1 h2 := by rw [hh2]; exact z_fr.refl.sI (by simp)
      have R1 : v_R g1 29 n w T Wd f := hR.2.1.2.1.fr hn12 hok.2.1 a2 (fun d hd => by simp; omega)
      have e84 : ∀ t, t < 118 → z_A h2 84 t = f t := fun t ht => by rw [b2.A (by decide), a2.A (by decide)]; exact h84 t ht
      have e31 : z_I h2 68 31 = nI c := by rw [b2.I (by decide), a2.I (by decide)]; exact hM.1
      obtain ⟨h3, d1, d2, d3, d4, d5⟩ := j_tells hF S2 hA.1 e31 e84 (show 53 < 118 by omega) o3 hb
      have his := j_ne hb
      rw [← hh2]
      refine ⟨true, h2, h3, rfl, ?_, ?_⟩
      · rw [em h2 S2 (by rw [b2.I (by decide), a2.I (by decide)]; exact hnm), if_neg h0, show (53 : Int32) = nI 53 from rfl, d1]
        rfl
      · have hv : v_R h2 29 n w T Wd (fun j => if j = 53 then fw_b is else f j) := R1.fog (b := is) hn12 hok.2.1 (by rw [hh2, z_II S1 7 rfl]) rfl (fun k hk => by rw [hh2]; exact z_I_sI_nk (by simpa using hk)) (fun j => b2.A (by decide)) (fun j => b2.A (by decide)) (fun j => b2.A (by decide)) (fun j => b2.A (by decide)) (fun j _ hj => if_neg (by simpa using hj))
        refine j_act hR (by omega) hA hM hf a2 a3 (b2.mono (by simp)) (by rw [hh2]; exact z_I_sI_nk (by decide)) hv d2 d3 d4 d5 ⟨rfl, rfl, .inr (.inr (.inr (.inl ⟨rfl, rfl, ⟨b, o3, by rw [← his]; rfl⟩, fun j _ hj => (if_neg hj).symm⟩)))⟩ (fun j hj _ => if_neg (by omega)) ((w_S.wt hA hf).of fun x hx => if_neg (by omega))
end JA
