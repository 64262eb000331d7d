-- ACTS: prescribe, lie
section JB
variable {h h1 h2 h3 g g1 g' : fw_H} {a c nx n w p i k m F : Nat} {T Wd f f' H : Nat → Int32} {S : Nat → Nat → Int32} {l : Nat → Nat} {lw : Option (List q_C)} {x y v : Int32} {is : Bool}
theorem z_vwant (hS : z_Sh h) (hv : z_V a) (hi : i < 12) : s_Vil_want h (some a) (nI i) x = some (z_sA h (a + 1) (5 * i) (z_A h (a + 1) (5 * i) + x)) := by
  unfold s_Vil_want
  rw [zv_c hS hv, Option.bind_some, zv_r2 hS hv, Option.bind_some, show (0 : Int32) = nI 0 from rfl, z_trait hS hv hi (by decide), Option.bind_some, show nI i * (5 : Int32) + nI 0 = nI (5 * i) by rw [show (5 : Int32) = nI 5 from rfl, pk_mul, nI_add, Nat.mul_comm, Nat.add_zero], z_rput (zv_k1 hS hv) (by omega) (by decide)]
  rfl
/-- prescribe -/
theorem call_prescribe (hF : 70000 ≤ F) (hR : w_R h) : ∃ v h1 h2, s_Joy_prescribe h (some 15) x = some (v, h1) ∧ s_Mod_prescribe F h1 (some 68) x = some (v, h2) ∧ w_call h h1 h2 := by
  obtain ⟨n, w, T, Wd, f, lw, p, hR⟩ := hR
  have hS := hR.1
  have hok := hR.ok
  have hn := hR.2.1.2.1.1
  have hnm := hR.2.1.2.2.1
  have hn12 := hok.1
  have h84 := hR.2.1.2.2.2.1.2.2
  obtain ⟨c, nx, H, S, l, hA, hM, hf⟩ := hR.2.2.2.2.1.unf
  unfold s_Joy_prescribe
  rw [z_c15 hS, Option.bind_some, z_r15_3 hS, Option.bind_some, z_hasHouse hS (.inr (.inl rfl)) hn, Option.bind_some]
  by_cases hx : v_in x n = true
  · obtain ⟨i, hi, rfl⟩ := v_in_t hx (by omega)
    have e0 : (0 : Int32) + nI i = nI i := Int32.zero_add _
    have em : ∀ g, z_Sh g → z_I g 68 24 = nI n → (∀ t, t < 118 → z_A g 84 t = f t) → s_Mod_prescribe F g (some 68) (nI i) = if ¬ f i = (9 : Int32) then ((s_Mod_keep F g (some 68)).bind fun h24 => (f_gR h24 (some 68) 12 26).bind fun x28 => (f_aI h24 x28 (nI i)).bind fun x35 => (f_sI h24 x28 (nI i) (x35 + (1 : Int32))).bind fun h38 => (f_gR h38 (some 68) 12 26).bind fun x40 => (f_aI h38 x40 (nI i)).bind fun x46 => some (x46, h38)) else some ((-1 : Int32), g) := by
      intro g hg e1 e2
      unfold s_Mod_prescribe
      rw [z_c68 hg, Option.bind_some, z_isHouse hg e1 hn12, Option.bind_some, if_pos hx, z_r68_26 hg, Option.bind_some]
      simp only [e0]
      rw [z_a84 hg (by omega), Option.bind_some, e2 i (by omega)]
    have ht : z_A h (29 + 1) (5 * i + 0) = f i := (hR.2.1.2.1.2.2.1 i hi).1
    obtain ⟨vv, v9, hvv⟩ := w_S.wt hA hf i (by omega)
    rw [if_pos hx, Option.bind_some, show (0 : Int32) = nI 0 from rfl, z_trait hS (.inr (.inl rfl)) (by omega) (by decide), Option.bind_some, ht, hvv]
    by_cases hb : vv < 9
    · obtain ⟨g1, a1, a2, a3⟩ := j_keep (x := 4) (y := nI i) hS hA hR.2.1.2.1 (by omega) hn12
      have S1 := hS.fr a2 (by decide)
      have R1 : v_R g1 29 n w T Wd f := hR.2.1.2.1.fr hn12 hok.2.1 a2 (fun d hd => by simp; omega)
      have t1 : z_A g1 (29 + 1) (5 * i) = nI vv := ((R1.2.2.1 i hi).1).trans hvv
      obtain ⟨h2, hh2⟩ : ∃ h2, h2 = z_sA g1 (29 + 1) (5 * i) (nI (vv + 1)) := ⟨_, rfl⟩
      have S2 : z_Sh h2 := by rw [hh2]; exact z_Sh_sA S1
      have b2 : z_fr [30] g1 h2 := by rw [hh2]; exact z_fr.refl.sA (by simp)
      have A1 : ∀ j, z_A h2 (29 + 1) j = if j = 5 * i then nI (vv + 1) else z_A g1 (29 + 1) j := fun j => by rw [hh2]; exact z_A_sA (z_ckT S1 rfl)
      rw [if_pos (show nI vv < (9 : Int32) from nI_lt (b := 9) hb (by decide)), z_r15_10 hS, Option.bind_some, Option.bind_some, a1, Option.bind_some, z_r15_3 S1, Option.bind_some, z_vwant S1 (.inr (.inl rfl)) (by omega), Option.bind_some, t1, show nI vv + (1 : Int32) = nI (vv + 1) from nI_1 vv, ← hh2, z_r15_3 S2, Option.bind_some, z_trait S2 (.inr (.inl rfl)) (by omega) (by decide), Option.bind_some, A1, if_pos (by omega)]
      have e84 : ∀ t, t < 118 → z_A h2 84 t = f t := fun t ht => by rw [b2.A (by decide), a2.A (by decide)]; exact h84 t ht
      have e31 : z_I h2 68 31 = nI c := by rw [b2.I (by decide), a2.I (by decide)]; exact hM.1
      obtain ⟨g3, d1, d2, d3, d4⟩ := j_mkeep hF S2 hA.1 e31 e84
      have S3 := S2.fr d2 (by decide)
      obtain ⟨h3, hh3⟩ : ∃ h3, h3 = z_sA g3 84 i (nI (vv + 1)) := ⟨_, rfl⟩
      have S4 : z_Sh h3 := by rw [hh3]; exact z_Sh_sA S3
      have c3 : z_fr [84] g3 h3 := by rw [hh3]; exact z_fr.refl.sA (by simp)
      have A3 : ∀ j, z_A h3 84 j = if j = i then nI (vv + 1) else z_A g3 84 j := fun j => by rw [hh3]; exact z_A_sA (z_ckT S3 rfl)
      have t3 : z_A g3 84 i = nI vv := by rw [d2.A (by decide), e84 i (by omega)]; exact hvv
      refine ⟨nI (vv + 1), h2, h3, rfl, ?_, ?_⟩
      · rw [em h2 S2 (by rw [b2.I (by decide), a2.I (by decide)]; exact hnm) e84, hvv, if_pos (fun z => by have := (nI_eq (b := 9) (by omega) (by decide)).mp z; omega), d1, Option.bind_some, z_r68_26 S3, Option.bind_some, z_a84 S3 (by omega), Option.bind_some, t3, show nI vv + (1 : Int32) = nI (vv + 1) from nI_1 vv, z_s84 S3 (by omega), Option.bind_some, ← hh3, z_r68_26 S4, Option.bind_some, z_a84 S4 (by omega), Option.bind_some, A3, if_pos rfl]
      · have hv : v_R h2 29 n w T Wd (fun j => if j = i then nI (vv + 1) else f j) := R1.want (x := i) hn12 hok.2.1 hi (fun j => by rw [A1]; show _ = if j = 5 * i then (if i = i then nI (vv + 1) else f i) else _; rw [if_pos (rfl : i = i)]) (fun k hk => b2.I (by decide)) (fun j => b2.A (by decide)) (fun j => b2.A (by decide)) (fun j => b2.A (by decide)) (fun j _ hj => if_neg (by simpa using hj))
        refine j_act hR (by omega) hA hM hf a2 a3 (b2.mono (by simp)) (b2.I (by decide)) hv ((d2.mono (by simp)).trans (c3.mono (by simp))) (fun k hk => by rw [c3.I (by decide)]; exact d3 k hk) ⟨by rw [c3.I (by decide)]; exact d4.1, fun t ht => by rw [c3.A (by decide)]; exact d4.2.1 t ht, fun t ht => by rw [c3.A (by decide)]; exact d4.2.2 t ht⟩ (fun t ht => ?_) ⟨rfl, rfl, .inr (.inr (.inr (.inr (.inl ⟨i, hi, rfl, rfl, rfl, ⟨vv, hb, hvv, if_pos rfl⟩, fun j _ hj => (if_neg hj).symm⟩))))⟩ (fun j hj _ => if_neg (by omega)) (fun z hz => ?_)
        · rw [A3, d2.A (by decide)]
          by_cases e : t = i
          · rw [if_pos e, if_pos e]
          · rw [if_neg e, if_neg e]; exact e84 t ht
        · by_cases e : z = i
          · exact ⟨vv + 1, by omega, if_pos e⟩
          · obtain ⟨q, q9, hq⟩ := w_S.wt hA hf z hz
            exact ⟨q, q9, (if_neg e).trans hq⟩
    · obtain rfl : vv = 9 := by omega
      rw [if_neg (by decide)]
      refine ⟨-1, h, h, rfl, ?_, w_call.rr hR⟩
      rw [em h hS hnm h84, hvv, if_neg (fun z => z rfl)]
  · rw [if_neg hx]
    refine ⟨-1, h, h, rfl, ?_, w_call.rr hR⟩
    unfold s_Mod_prescribe
    rw [z_c68 hS, Option.bind_some, z_isHouse hS hnm hn12, Option.bind_some, if_neg hx]
theorem z_threeOn2 (hS : z_Sh h) (hv : z_V a) (h29 : z_I h a 0 = nI n) (h0 : 0 < n) (h12 : n ≤ 12) (hi : i < 12) : s_Vil_threeOn h (some a) (nI i) = some (nI ((i + 3) % n)) := by
  unfold s_Vil_threeOn
  rw [zv_c hS hv, Option.bind_some, zv_i0 hS hv, Option.bind_some, h29, if_neg (nI_nle h0 (by omega)), Option.bind_some, show nI i + (3 : Int32) = nI (i + 3) from nI_add i 3, z_irem (by omega) h0 (by omega)]
  rfl
/-- lie -/
theorem call_lie (hF : 70000 ≤ F) (hR : w_R h) : ∃ v h1 h2, s_Joy_lie h (some 15) = some (v, h1) ∧ s_Mod_lie F h1 (some 68) = some (v, h2) ∧ w_call h h1 h2 := by
  obtain ⟨n, w, T, Wd, f, lw, p, hR⟩ := hR
  have hS := hR.1
  have hok := hR.ok
  have hn := hR.2.1.2.1.1
  have hnm := hR.2.1.2.2.1
  have hn12 := hok.1
  have h84 := hR.2.1.2.2.2.1.2.2
  obtain ⟨c, nx, H, S, l, hA, hM, hf⟩ := hR.2.2.2.2.1.unf
  unfold s_Joy_lie
  rw [z_c15 hS, Option.bind_some, z_r15_3 hS, Option.bind_some, z_isNone hS (.inr (.inl rfl)) hn hn12, Option.bind_some]
  by_cases h0 : n = 0
  · rw [if_pos (decide_eq_true h0)]
    refine ⟨-1, h, h, rfl, ?_, w_call.rr hR⟩
    unfold s_Mod_lie
    rw [z_c68 hS, Option.bind_some, z_i68_24 hS, Option.bind_some, hnm, h0, if_pos (by decide)]
  · have hpos : 0 < n := by omega
    obtain ⟨p1, p2, p3, p4, -, -, p7, p8, -⟩ := hR.2.1.2.1.pos hpos hn12
    obtain ⟨a0, ha0⟩ : ∃ a0, a0 = v_at f := ⟨_, rfl⟩
    rw [← ha0] at p1 p2 p7
    have hto : (a0 + 3) % n < n := Nat.mod_lt _ hpos
    have em : ∀ g, z_Sh g → z_I g 68 24 = nI n → (∀ t, t < 118 → z_A g 84 t = f t) → s_Mod_lie F g (some 68) = if ¬ nI ((a0 + 3) % n) = nI a0 then ((s_Mod_keep F g (some 68)).bind fun h31 => (f_gR h31 (some 68) 12 26).bind fun x35 => (f_gR h31 (some 68) 12 26).bind fun x41 => (f_aI h31 x41 (54 : Int32)).bind fun x46 => (f_sI h31 x35 (55 : Int32) x46).bind fun h47 => (f_gR h47 (some 68) 12 26).bind fun x49 => (f_gR h47 (some 68) 12 26).bind fun x56 => (f_aI h47 x56 (54 : Int32)).bind fun x61 => (s_Mod_doorsOn h47 (some 68) x61).bind fun x62 => (f_sI h47 x49 (54 : Int32) x62).bind fun h65 => (f_gR h65 (some 68) 12 26).bind fun x67 => (f_aI h65 x67 (54 : Int32)).bind fun x72 => some (x72, h65)) else some ((-1 : Int32), g) := by
      intro g hg e1 e2
      unfold s_Mod_lie
      rw [z_c68 hg, Option.bind_some, z_i68_24 hg, Option.bind_some, e1, if_neg (nI_ne0 hpos (by omega)), z_r68_26 hg, Option.bind_some, show (54 : Int32) = nI 54 from rfl, z_a84 hg (by decide), Option.bind_some, e2 54 (by decide), p1, z_doorsOn hg e1 hpos hn12 (by omega), Option.bind_some, Option.bind_some, z_a84 hg (by decide), Option.bind_some, e2 54 (by decide), p1]
    rw [if_neg (by simpa using h0), Option.bind_some, Option.bind_some, z_i29_10 hS, Option.bind_some, p7, z_threeOn2 hS (.inr (.inl rfl)) hn hpos hn12 (by omega), Option.bind_some, Option.bind_some, z_i29_10 hS, Option.bind_some, p7]
    by_cases hb : (a0 + 3) % n = a0
    · rw [if_neg (fun z => z (by rw [hb]))]
      exact ⟨-1, h, h, rfl, by rw [em h hS hnm h84, if_neg (fun z => z (by rw [hb]))], w_call.rr hR⟩
    · have hb' : ¬ nI ((a0 + 3) % n) = nI a0 := fun z => hb ((nI_eq (by omega) (by omega)).mp z)
      obtain ⟨g1, a1, a2, a3⟩ := j_keep (x := 5) (y := 0) hS hA hR.2.1.2.1 hpos hn12
      have S1 := hS.fr a2 (by decide)
      have R1 : v_R g1 29 n w T Wd f := hR.2.1.2.1.fr hn12 hok.2.1 a2 (fun d hd => by simp; omega)
      have t1 : z_I g1 29 10 = nI a0 := by rw [a2.I (by decide)]; exact p7
      obtain ⟨g2, hg2⟩ : ∃ g2, g2 = z_sI g1 29 11 (nI a0) := ⟨_, rfl⟩
      have S2 : z_Sh g2 := by rw [hg2]; exact z_Sh_sI S1
      obtain ⟨h2, hh2⟩ : ∃ h2, h2 = z_sI g2 29 10 (nI ((a0 + 3) % n)) := ⟨_, rfl⟩
      have S3 : z_Sh h2 := by rw [hh2]; exact z_Sh_sI S2
      have b2 : z_fr [29] g1 h2 := by rw [hh2, hg2]; exact (z_fr.refl.sI (by simp)).sI (by simp)
      rw [if_pos hb', z_r15_10 hS, Option.bind_some, Option.bind_some, a1, Option.bind_some, z_r15_3 S1, Option.bind_some, Option.bind_some, z_i29_10 S1, Option.bind_some, t1, z_w29_11 S1, Option.bind_some, ← hg2, z_r15_3 S2, Option.bind_some, z_w29_10 S2, Option.bind_some, ← hh2]
      have e84 : ∀ t, t < 118 → z_A h2 84 t = f t := fun t ht => by rw [b2.A (by decide), a2.A (by decide)]; exact h84 t ht
      have e31 : z_I h2 68 31 = nI c := by rw [b2.I (by decide), a2.I (by decide)]; exact hM.1
      have e24 : z_I h2 68 24 = nI n := by rw [b2.I (by decide), a2.I (by decide)]; exact hnm
      obtain ⟨g3, d1, d2, d3, d4⟩ := j_mkeep hF S3 hA.1 e31 e84
      have S4 := S3.fr d2 (by decide)
      obtain ⟨g4, hg4⟩ : ∃ g4, g4 = z_sA g3 84 55 (nI a0) := ⟨_, rfl⟩
      have S5 : z_Sh g4 := by rw [hg4]; exact z_Sh_sA S4
      obtain ⟨h3, hh3⟩ : ∃ h3, h3 = z_sA g4 84 54 (nI ((a0 + 3) % n)) := ⟨_, rfl⟩
      have S6 : z_Sh h3 := by rw [hh3]; exact z_Sh_sA S5
      have c3 : z_fr [84] g3 h3 := by rw [hh3, hg4]; exact (z_fr.refl.sA (by simp)).sA (by simp)
      have A4 : ∀ j, z_A g4 84 j = if j = 55 then nI a0 else z_A g3 84 j := fun j => by rw [hg4]; exact z_A_sA (z_ckT S4 rfl)
      have A3 : ∀ j, z_A h3 84 j = if j = 54 then nI ((a0 + 3) % n) else if j = 55 then nI a0 else z_A g3 84 j := fun j => by rw [hh3, z_A_sA (z_ckT S5 rfl), A4]
      have t3 : z_A g3 84 54 = nI a0 := by rw [d2.A (by decide), e84 54 (by decide)]; exact p1
      have i4 : z_I g4 68 24 = nI n := by rw [hg4, z_I_sA, d3 24 (by decide)]; exact e24
      refine ⟨nI ((a0 + 3) % n), h2, h3, rfl, ?_, ?_⟩
      · rw [em h2 S3 e24 e84, if_pos hb', d1, Option.bind_some, z_r68_26 S4, Option.bind_some, Option.bind_some, show (54 : Int32) = nI 54 from rfl, z_a84 S4 (by decide), Option.bind_some, t3, show (55 : Int32) = nI 55 from rfl, z_s84 S4 (by decide), Option.bind_some, ← hg4, z_r68_26 S5, Option.bind_some, Option.bind_some, z_a84 S5 (by decide), Option.bind_some, A4, if_neg (by decide), t3, z_doorsOn S5 i4 hpos hn12 (by omega), Option.bind_some, z_s84 S5 (by decide), Option.bind_some, ← hh3, z_r68_26 S6, Option.bind_some, z_a84 S6 (by decide), Option.bind_some, A3, if_pos rfl]
      · have hv : v_R h2 29 n w T Wd (fun j => if j = 54 then nI ((a0 + 3) % n) else if j = 55 then nI a0 else f j) := R1.at (p := (a0 + 3) % n) (q := a0) hn12 hok.2.1 hpos hto (.inr p2) (by rw [hh2, z_II S2 7 rfl]; rfl) (by rw [hh2, z_I_sI_nk (by decide), hg2, z_II S1 7 rfl]; rfl) rfl (z_bn (by omega)).symm (fun k hk => by simp only [List.mem_cons, List.not_mem_nil, or_false, not_or] at hk; rw [hh2, z_I_sI_nk hk.1, hg2, z_I_sI_nk hk.2]) (fun j => b2.A (by decide)) (fun j => b2.A (by decide)) (fun j => b2.A (by decide)) (fun j => b2.A (by decide)) (fun j _ hj => by simp only [List.mem_cons, List.not_mem_nil, or_false, not_or] at hj; show (if j = 54 then _ else _) = _; rw [if_neg hj.1, if_neg hj.2])
        refine j_act hR hpos hA hM hf a2 a3 (b2.mono (by simp)) (by rw [hh2, z_I_sI_nk (by decide), hg2, z_I_sI_nk (by decide)]) hv ((d2.mono (by simp)).trans (c3.mono (by simp))) (fun k hk => by rw [c3.I (by decide)]; exact d3 k hk) ⟨by rw [c3.I (by decide)]; exact d4.1, fun t ht => by rw [c3.A (by decide)]; exact d4.2.1 t ht, fun t ht => by rw [c3.A (by decide)]; exact d4.2.2 t ht⟩ (fun t ht => by rw [A3, d2.A (by decide), e84 t ht]) ⟨rfl, rfl, .inr (.inr (.inr (.inr (.inr (.inl ⟨rfl, rfl, fun j _ h4 h5 => by show _ = if j = 54 then _ else _; rw [if_neg h4, if_neg h5]⟩)))))⟩ (fun j hj _ => by show (if j = 54 then _ else _) = _; rw [if_neg (by omega), if_neg (by omega)]) ((w_S.wt hA hf).of fun z hz => by show (if z = 54 then _ else _) = _; rw [if_neg (by omega), if_neg (by omega)])
end JB
