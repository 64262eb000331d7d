-- TEXT
section TX
variable {h g g' m m' M : fw_H} {B : Nat → Nat} {l n w p q F k a i mm : Nat} {T Wd f : Nat → Int32} {lw : Option (List q_C)} {x y v : Int32} {As : List Nat} {cls : List q_C}
theorem call_textL (hF : 70000 ≤ F) (hR : w_R h) : ∃ r h1 h2, s_Joy_text F h (some 15) 1 = some (r, h1) ∧ s_Mod_text F h1 (some 68) 1 = some (r, h2) ∧ w_call h h1 h2 := by
  obtain ⟨n, w, T, Wd, f, lw, p, hR⟩ := hR
  have hS := hR.1
  have n10 : ¬ (1 : Int32) = 0 := by decide
  have n11 : ¬ ¬ (1 : Int32) = 1 := fun z => z rfl
  obtain ⟨mm, hm4, h8, h13⟩ : ∃ mm, mm ≤ 4 ∧ z_I h 15 8 = nI mm ∧ z_I h 68 13 = nI mm := by
    obtain ⟨mm, cs, ps, m1, m2, m3, -⟩ := hR.2.2.1
    exact ⟨mm, m1, m2, m3⟩
  unfold s_Joy_text
  rw [z_c15 hS, Option.bind_some, if_pos n10, if_neg n11, z_i15_8 hS, Option.bind_some, h8]
  by_cases e4 : mm = 4
  · have le4 : (4 : Int32) ≤ nI mm := by rw [e4]; decide
    refine ⟨-1, h, h, by rw [if_pos le4], ?_, w_call.rr hR⟩
    unfold s_Mod_text
    rw [z_c68 hS, Option.bind_some, if_pos n10, if_neg n11, z_i68_13 hS, Option.bind_some, h13, if_pos le4]
  have hlt4 : mm < 4 := by omega
  have le4 : ¬ (4 : Int32) ≤ nI mm := nI_ge (b := 4) hlt4 (by decide)
  obtain ⟨B, l, hA, hM⟩ := k_tape hS hR.2.2.2.1
  have hl := hA.2.1
  obtain ⟨g, v, a1, a2, a3, m0, a4, a5, a6⟩ := z_lread (k := mm) hF (by omega) hA hM
  have S1 := hS.fr a2 (by decide)
  have k1 := k_lfr a2 a3
  have hR1 := hR.kp k1
  have g8 : z_I g 15 8 = nI mm := (a2.I (by decide)).trans h8
  have g13 : z_I g 68 13 = nI mm := (a2.I (by decide)).trans h13
  rw [if_neg le4, z_r15_2 hS, Option.bind_some, a1, Option.bind_some]
  rcases a6 with ⟨q, q1, rfl⟩ | ⟨rfl, cls0, a6, -⟩
  · have nv : ¬ nI q = (-1 : Int32) := nI_ne_m1 (by omega)
    obtain ⟨g', v', b1, b2, b3, m, b4, b5, b6⟩ := z_lread (k := mm) (M := g) hF (by omega) hA (hM.to a2 (by decide) (by decide) (by decide))
    have e : (nI q, g) = (v', g') := Option.some.inj (a1.symm.trans b1)
    obtain ⟨rfl, rfl⟩ := Prod.mk.inj e
    refine ⟨-1, g, m, by rw [if_pos nv], ?_, k1.c0, ⟨n, w, T, Wd, f, lw, p, hR1.pr b5 (fun c c4 hc => ?_)⟩, (b5.qq.c0 (by decide)).trans k1.c0⟩
    · unfold s_Mod_text
      rw [z_c68 S1, Option.bind_some, if_pos n10, if_neg n11, z_i68_13 S1, Option.bind_some, Option.bind_some, g13, if_neg le4, b4, Option.bind_some, if_pos nv]
    · have := (nI_eq (by omega) (by omega)).mp (g8.symm.trans hc)
      omega
  · have nv : ¬ ¬ (-1 : Int32) = (-1 : Int32) := fun z => z rfl
    obtain ⟨_, _, bt, hbt, _⟩ := a6.1
    obtain ⟨g2, s1, s2, s3, s4, s5, s6, s7, s8, s9⟩ := z_enact (F := F) hF S1 hlt4 g8 hl (a3.trans hA.2.2.1) hbt
    have S2 := s2.sh (by decide) S1
    have M1 : k_M g B l := hM.to a2 (by decide) (by decide) (by decide)
    have M2 : k_M g2 B l := ⟨S2, M1.2.1, (s2.2.2.2 2 (List.not_mem_nil)).trans M1.2.2.1, M1.2.2.2.1, fun i hi => (z_A_of (s2.at (by decide) (by decide))).trans (M1.2.2.2.2 i hi)⟩
    obtain ⟨g', v', b1, b2, b3, m, b4, b5, b6⟩ := z_lread (k := mm) (M := g2) hF (by omega) hA M2
    have e : ((-1 : Int32), g) = (v', g') := Option.some.inj (a1.symm.trans b1)
    obtain ⟨rfl, rfl⟩ := Prod.mk.inj e
    obtain ⟨cls, ⟨⟨c1, c2, bt2, c3, c4⟩, -, dM, dP, d73, dW⟩, hne, l1, l2, l3⟩ : ∃ cls, k_LD g m mm cls ∧ cls ≠ [] ∧ (q_enc 0 cls).length ≤ 240 ∧ (k_R cls).length ≤ 240 ∧ cls.length ≤ 60 := by
      rcases b6 with ⟨q, q1, q2⟩ | ⟨-, z⟩
      · exact absurd q2.symm (nI_ne_m1 (by omega))
      · exact z
    have hbb : bt = bt2 := fw_b_inj (hbt.symm.trans c3)
    subst hbb
    have h97 := k_len S1
    obtain ⟨a, ha⟩ : ∃ a, a = g.length := ⟨_, rfl⟩
    rw [← ha] at s5 s6 s7 s8 s9 h97
    have Sm := S2.fr b5.1 (by decide)
    obtain ⟨m1, hm1⟩ : ∃ m1, m1 = z_sI m 68 2 (0 : Int32) := ⟨_, rfl⟩
    obtain ⟨m2, hm2⟩ : ∃ m2, m2 = z_sI m1 68 13 (nI (mm + 1)) := ⟨_, rfl⟩
    have S3 : z_Sh m1 := by rw [hm1]; exact z_Sh_sI Sm
    have S4 : z_Sh m2 := by rw [hm2]; exact z_Sh_sI S3
    have f2 : z_fr [68] m m2 := by rw [hm2, hm1]; exact (z_fr.refl.sI (by simp)).sI (by simp)
    have m13 : z_I m1 68 13 = nI mm := by rw [hm1, z_I_sI_nk (by decide), b5.2.1 13 (by decide) (by decide) (by decide) (by decide), s2.2.2.2 13 (List.not_mem_nil), g13]
    have m213 : z_I m2 68 13 = nI (mm + 1) := by rw [hm2, z_II S3 12 rfl]
    have q4 : w_q [] [] [2, 13] m m2 := by
      refine w_q.m68 f2 (by decide) (by decide) (fun k hk => ?_)
      simp only [List.mem_cons, List.not_mem_nil, or_false] at hk
      rw [hm2, z_I_sI_nk (by omega), hm1, z_I_sI_nk (by omega)]
    have Q : w_q [16, 42, 70, 71, 72, 73, 74, 75, 76] [8] [2, 3, 4, 5, 13, 14] g m2 :=
      ((s2.mono (by decide) (by decide) (by decide)).trans (b5.qq.mono (by decide) (by decide) (by decide))).trans (q4.mono (by decide) (by decide) (by decide))
    have F3 : z_fr [68, 70, 71, 72, 73, 74, 75, 76] g2 m2 := b5.1.trans (f2.mono (by simp))
    have hna : ∀ d, a + d ∉ [68, 70, 71, 72, 73, 74, 75, 76] := fun d z => by
      simp only [List.mem_cons, List.not_mem_nil, or_false] at z
      omega
    have mSk : ∀ (i : Nat) (c : List q_C), q_mS m i c → q_mS m2 i c := fun i c hq => hq.of (fun b j hb => f2.A (by simp; omega))
    obtain ⟨r1, r2, r3, r4, r5, r6, r7, r8, r9⟩ := hR1
    refine ⟨nI mm, g2, m2, ?_, ?_, (s2.c0 (by decide)).trans k1.c0, ⟨n, w, T, Wd, f, lw, p, Q.sh (by decide) r1, Q.vil (by decide) (by decide) r2, ?_, ⟨0, Nat.zero_le _, ?_, ?_, fun i hi => absurd hi (Nat.not_lt_zero _)⟩, Q.acts (by decide) (by decide) r5, Q.img r2.1.1 r2.1.2.1 (by decide) (by decide) (by decide) r6, Q.seen (by decide) (by decide) r7, Q.mist (by decide) (by decide) r8, Q.trail (by decide) r9⟩, (Q.c0 (by decide)).trans k1.c0⟩
    · rw [if_neg nv]
      show ((s_Joy_enact F g (some 15)).bind fun x45 => some (x45.1, x45.2)) = _
      rw [s1]
      rfl
    · have e13 : z_I g2 68 13 = nI mm := (s2.2.2.2 13 (List.not_mem_nil)).trans g13
      unfold s_Mod_text
      rw [z_c68 S2, Option.bind_some, if_pos n10, if_neg n11, z_i68_13 S2, Option.bind_some, Option.bind_some, e13, if_neg le4, b4, Option.bind_some, if_neg nv]
      show ((f_pI m (some 68) 12 2 (0 : Int32)).bind fun h49 => _) = _
      rw [z_w68_2 Sm, Option.bind_some, ← hm1, z_i68_13 S3, Option.bind_some, m13, nI_1, z_w68_13 S3, Option.bind_some, ← hm2, z_i68_13 S4, Option.bind_some, m213, nI_pred]
    · obtain ⟨mm', cs, ps, t1, t2, t3, t4, t5, t6⟩ := r3
      obtain rfl : mm' = mm := (nI_eq (by omega) (by omega)).mp (t2.symm.trans g8)
      refine ⟨mm' + 1, fun i => if i = mm' then cls else cs i, fun i => if i = mm' then a else ps i, by omega, ?_, m213, fun i hi => ?_, Q.LF (by decide) t5, ?_⟩
      · rw [F3.I (by decide), s3]
      · have eQ : z_Q m2 42 i = if i = mm' then some a else z_Q g 42 i := (z_Q_of (F3.2 42 (by decide))).trans (s5 i)
        by_cases ei : i = mm'
        · simp only [if_pos ei] at eQ ⊢
          refine ⟨eQ, h97, ?_, ?_⟩
          · refine ⟨s6.fr F3, .inl h97, bt, (F3.I (hna 0)).trans s8, ⟨s6.fr F3, ?_, l1, fun j o hj => ?_⟩, dW, hne, fun hf c hc o ho => ?_⟩
            · exact (F3.I (hna 0)).trans (s7.trans c1)
            · have hlen := (List.getElem?_eq_some_iff.mp hj).1
              have hmem := List.mem_of_getElem? hj
              refine ⟨(F3.A (hna 1)).trans ((s9 j (by omega)).trans (c2 j o hj)), k_enc_bd 0 dW (by omega) o hmem⟩
            · exact c4 hf o (k_enc_mem 0 c hc o ho)
          · rw [ei]
            exact mSk _ _ ⟨by omega, d73, by omega, k_mcl (A := []) (j := 0) dP dM (by show 0 + _ ≤ 400; omega)⟩
        · simp only [if_neg ei] at eQ ⊢
          have hlt : i < mm' := by omega
          exact ⟨eQ.trans (t4 i hlt).1, (t4 i hlt).2.1, Q.LF (by decide) (t4 i hlt).2.2.1, mSk _ _ (b5.mS hlt (s2.mS (by decide) (t4 i hlt).2.2.2))⟩
      · rw [Q.2.2.1 9 (by decide), Q.2.2.2 28 (by decide)]
        rcases t6 with t6 | ⟨k, y1, y2, y3, y4, y5⟩
        · exact .inl t6
        · have ek : ¬ k = mm' := by omega
          exact .inr ⟨k, by omega, y2, y3, by simp only [if_neg ek]; exact y4, by simp only [if_neg ek]; exact y5⟩
    · rw [F3.I (by decide), s4]; rfl
    · rw [hm2, z_I_sI_nk (by decide), hm1, z_II Sm 12 rfl]; rfl
/-- text -/
theorem call_text (hF : 70000 ≤ F) (hR : w_R h) : ∃ r h1 h2, s_Joy_text F h (some 15) x = some (r, h1) ∧ s_Mod_text F h1 (some 68) x = some (r, h2) ∧ w_call h h1 h2 := by
  by_cases e0 : x = 0
  · subst e0; exact call_textV hF hR
  · by_cases e1 : x = 1
    · subst e1; exact call_textL hF hR
    · obtain ⟨n, w, T, Wd, f, lw, p, hR⟩ := hR
      have hS := hR.1
      refine ⟨-1, h, h, ?_, ?_, w_call.rr hR⟩
      · unfold s_Joy_text
        rw [z_c15 hS, Option.bind_some, if_pos e0, if_pos e1]
      · unfold s_Mod_text
        rw [z_c68 hS, Option.bind_some, if_pos e0, if_pos e1]
end TX
