-- THE DRAFT (3): all clauses, both sides
section D3
variable {g g' g'' h m : fw_H} {B : Nat → Nat} {l p q d D v mo i j k nn mm F c n f th o ar off w nh nw r : Nat} {x y : Int32} {As : List Nat} {V : Nat → Nat} {td : Bool}
theorem k_jn2 {α β : Type} {K : α} {E : α → β} : fw_jn K E = E K := rfl
theorem z_clauseN (hk : k_no g B l q) : s_VText_clause F g (some 18) = some g := by
  have hS := hk.1.1
  unfold s_VText_clause
  rw [z_c18 hS, Option.bind_some, z_r18_0 hS, Option.bind_some, z_peekN hk, Option.bind_some, if_pos (show ¬ (-1 : Int32) = (118 : Int32) from by decide), if_pos (show ¬ (-1 : Int32) = (100 : Int32) from by decide), if_pos (show ¬ (-1 : Int32) = (119 : Int32) from by decide)]
  show ((f_gR g (some 18) 8 0).bind fun x141 => (s_Tape_fail g x141).bind fun h144 => some h144) = some g
  rw [z_r18_0 hS, Option.bind_some, z_failN hk, Option.bind_some]
theorem k_D.lf {m' : fw_H} (hf : k_lf m m') (hD : k_D g m nh nw td) : k_D g m' nh nw td := by
  obtain ⟨⟨d1, d2, d3, d4, d5, d6, d7⟩, dV, dH, dW⟩ := hD
  exact ⟨⟨d1, d2, d3, d4, (hf.2 20 (by decide)).trans d5, (hf.2 21 (by decide)).trans d6, d7⟩, dV.of (fun _ _ => rfl) (fun i => hf.1.A (by decide)), dH.of rfl (fun _ => rfl) (fun i => hf.1.A (by decide)), dW.of rfl (fun _ => rfl) (fun i => hf.1.A (by decide))⟩
theorem k_D.g16 (hf : z_fr [16] g g') (hD : k_D g m nh nw td) : k_D g' m nh nw td := by
  obtain ⟨⟨d1, d2, d3, d4, d5, d6, d7⟩, dV, dH, dW⟩ := hD
  exact ⟨⟨d1, d2, (hf.I (by decide)).trans d3, (hf.I (by decide)).trans d4, d5, d6, (hf.I (by decide)).trans d7⟩, dV.of (fun _ _ => hf.I (by decide)) (fun _ => rfl), dH.of (hf.I (by decide)) (fun _ => hf.A (by decide)) (fun _ => rfl), dW.of (hf.I (by decide)) (fun _ => hf.A (by decide)) (fun _ => rfl)⟩
theorem k_le.fr (hf : z_fr [16] g g') (hl : k_le g) : k_le g' := by
  obtain ⟨a, b, h1, h2, h3, h4⟩ := hl
  exact ⟨a, b, h1, h2, (hf.I (by decide)).trans h3, (hf.I (by decide)).trans h4⟩
/-- how the two stand when all is read -/
def k_RR (g m : fw_H) (B : Nat → Nat) (l : Nat) : Prop := k_le g ∧ ((∃ q, k_no g B l q ∧ (k_mn m B l q ∨ (k_mo m B l q ∧ q < l ∧ B q ≠ 32))) ∨ ∃ nh nw td, k_ok g B l l ∧ k_mo m B l l ∧ k_D g m nh nw td)
theorem z_readL (hF : 70000 ≤ F) {Kc Km : fw_H → Option (Int32 × fw_H)} : ∀ (nn mm i p : Nat) (g m : fw_H) (nh nw : Nat) (td : Bool), l - p < nn → l - p + 1 < mm → 2 * i ≤ p → k_ok g B l p → k_mo m B l p → k_D g m nh nw td →
    ∃ g', l_VText_read_21 F (some 18) Kc Kc nn (nI i) g = Kc g' ∧ (k_cf g g' ∧ ∃ m', l_Mod_readAll_44 F (some 68) Km mm (fw_b td) 1 m = Km m' ∧ (k_mf m m' ∧ k_RR g' m' B l)) := by
  intro nn
  induction nn with
  | zero => intro mm i p g m nh nw td h; omega
  | succ nn ih =>
    intro mm i p g m nh nw td hnn hmm hi hk hm hD
    obtain ⟨mm, rfl⟩ : ∃ k, mm = k + 1 := ⟨mm - 1, by omega⟩
    have hl := hk.1.2.1
    have hpl := hk.2.1
    have hBB := hk.1.2.2.2.1
    obtain ⟨r, hr⟩ : ∃ r, r = k_n B l p := ⟨_, rfl⟩
    have hle := k_n_le (B := B) hpl
    rw [← hr] at hle
    obtain ⟨m1, a1, a2, a3⟩ := z_look hF hm
    rw [← hr] at a1 a3
    obtain ⟨g1, c1, c2, c3, m2, td', e, M2, alt⟩ := z_clause2 hF hr hk a3 (hD.lf a2) (J := fun (j211_1 : Int32) (hj211 : fw_H) => (f_gI hj211 (some 68) 12 4).bind fun x212 => if ¬ x212 = (-1 : Int32) then ((f_gI hj211 (some 68) 12 3).bind fun x236 => if (0 : Int32) = (0 : Int32) then ((f_pI hj211 (some 68) 12 3 (x236 + (0 : Int32))).bind fun h249 => l_Mod_readAll_44 F (some 68) Km mm j211_1 (0 : Int32) h249) else (f_pI hj211 (some 68) 12 3 (x236 + (1 : Int32))).bind fun h249 => l_Mod_readAll_44 F (some 68) Km mm j211_1 (0 : Int32) h249) else (s_Mod_look F hj211 (some 68)).bind fun x220 => if ¬ x220.1 = (59 : Int32) then ((f_gI x220.2 (some 68) 12 3).bind fun x236 => if (0 : Int32) = (0 : Int32) then ((f_pI x220.2 (some 68) 12 3 (x236 + (0 : Int32))).bind fun h249 => l_Mod_readAll_44 F (some 68) Km mm j211_1 (0 : Int32) h249) else (f_pI x220.2 (some 68) 12 3 (x236 + (1 : Int32))).bind fun h249 => l_Mod_readAll_44 F (some 68) Km mm j211_1 (0 : Int32) h249) else (f_gI x220.2 (some 68) 12 3).bind fun x236 => if (1 : Int32) = (0 : Int32) then ((f_pI x220.2 (some 68) 12 3 (x236 + (0 : Int32))).bind fun h249 => l_Mod_readAll_44 F (some 68) Km mm j211_1 (1 : Int32) h249) else (f_pI x220.2 (some 68) 12 3 (x236 + (1 : Int32))).bind fun h249 => l_Mod_readAll_44 F (some 68) Km mm j211_1 (1 : Int32) h249)
    have M02 : k_mf m m2 := a2.bf.mf.trans M2
    have i240 : ¬ (240 : Int32) ≤ nI i := nI_ge (b := 240) (by omega) (by decide)
    have go1 : ¬ (1 : Int32) = (0 : Int32) := by decide
    have go0 : ∀ (nn : Nat) (x : Int32) (g : fw_H), l_Mod_readAll_44 F (some 68) Km (nn + 1) x 0 g = Km g := fun nn x g => by rw [l_Mod_readAll_44, if_pos rfl]
    obtain ⟨mm, rfl⟩ : ∃ k, mm = k + 1 := ⟨mm - 1, by omega⟩
    rw [l_VText_read_21, if_neg i240, c1, Option.bind_some, l_Mod_readAll_44, if_neg go1, z_i68_4 hm.1.1, Option.bind_some, hm.2.2.2, if_neg (fun z => z rfl), a1, Option.bind_some, k_jn2]
    have Sg1 : z_Sh g1 := hk.1.1.fr c2.1 (by decide)
    have Sm2 : z_Sh m2 := hm.1.1.fr M02.1 (by decide)
    have ad0 : ∀ n, nI n + (0 : Int32) = nI n := fun n => by rw [show (0 : Int32) = nI 0 from rfl, nI_add]; rfl
    rw [z_r18_0 Sg1, Option.bind_some]
    rcases alt with ⟨q, ko, alt⟩ | ⟨nh', nw', p', hp', ko, mo, hD'⟩
    · rw [z_peekN ko, Option.bind_some, if_neg (fun z => z rfl)]
      refine ⟨g1, rfl, c2, ?_⟩
      rcases alt with kn | ⟨km, q1, q2, q3⟩
      · refine ⟨z_sI m2 68 3 (z_I m2 68 3 + (0 : Int32)), e.trans ?_, M02.trans ⟨z_fr.refl.sI (by simp), fun k h3 _ _ _ => z_I_sI_nk h3⟩, c3, .inl ⟨q, ko, .inl (kn.fr (As := [68]) (z_fr.refl.sI (by simp)) (by decide) (by decide) (fun k hk => z_I_sI_nk (by omega)))⟩⟩
        rw [z_i68_4 Sm2, Option.bind_some, if_pos kn.ne, z_i68_3 Sm2, Option.bind_some, if_pos rfl, z_w68_3 Sm2, Option.bind_some, go0]
      · obtain ⟨m3, b1, b2, b3⟩ := z_look hF km
        have hn : k_n B l q = q := by rw [k_n_step q1, if_neg q2]
        rw [hn] at b1 b3
        have hg : ¬ k_g B l q = (59 : Int32) := fun z => q3 (((k_g_b hBB (c := 59) (by decide) (by decide)).mp z).symm ▸ (show B q = k_b B l q from (if_pos q1).symm))
        refine ⟨z_sI m3 68 3 (nI q), e.trans ?_, (M02.trans b2.bf.mf).trans ⟨z_fr.refl.sI (by simp), fun k h3 _ _ _ => z_I_sI_nk h3⟩, c3, .inl ⟨q, ko, .inr ⟨b3.to (by omega), q1, q2⟩⟩⟩
        rw [z_i68_4 Sm2, Option.bind_some, km.2.2.2, if_neg (fun z => z rfl), b1, Option.bind_some, if_pos hg]
        show ((f_gI m3 (some 68) 12 3).bind fun x236 => _) = _
        rw [z_i68_3 b3.1.1, Option.bind_some, b3.2.2.1, if_pos rfl, ad0, z_w68_3 b3.1.1, Option.bind_some, go0]
    · obtain ⟨g2, b1, b2, b3⟩ := z_peek hF ko
      obtain ⟨m3, t1, t2, t3⟩ := z_look hF mo
      obtain ⟨s, hs⟩ : ∃ s, s = k_n B l p' := ⟨_, rfl⟩
      have hle2 := k_n_le (B := B) ko.2.1
      rw [← hs] at b1 b3 t1 t3 hle2
      have D2 := (hD'.lf t2).g16 b2
      have C2 := c2.trans (k_cf.fr b2 (by decide) (by decide))
      have M3 := M02.trans t2.bf.mf
      have L2 := c3.fr b2
      have hsn : k_n B l s = s := by rw [hs]; exact k_n_id ko.2.1
      have ew : z_I m2 68 4 = -1 := mo.2.2.2
      rw [b1, Option.bind_some]
      by_cases e0 : k_b B l s = 0
      · have hsl : s = l := by
          by_cases z : s < l
          · have := hBB s z
            have z2 : k_b B l s = B s := if_pos z
            omega
          · omega
        have eg : k_g B l s = -1 := (k_g_end hBB).mpr e0
        have hg : ¬ k_g B l s = (59 : Int32) := by rw [eg]; decide
        refine ⟨g2, if_neg (fun z => z eg), C2, z_sI m3 68 3 (nI s), e.trans ?_, M3.trans ⟨z_fr.refl.sI (by simp), fun k h3 _ _ _ => z_I_sI_nk h3⟩, L2, .inr ⟨nh', nw', td', hsl ▸ b3, ?_, D2.lf k_lf.s3⟩⟩
        · rw [z_i68_4 Sm2, Option.bind_some, ew, if_neg (fun z => z rfl), t1, Option.bind_some, if_pos hg]
          show ((f_gI m3 (some 68) 12 3).bind fun x236 => _) = _
          rw [z_i68_3 t3.1.1, Option.bind_some, t3.2.2.1, if_pos rfl, ad0, z_w68_3 t3.1.1, Option.bind_some, go0]
        · have := t3.to (q := s) (by omega)
          rw [hsl] at this ⊢
          exact this
      · have hsl := k_b_lt e0
        have eg : ¬ k_g B l s = (-1 : Int32) := fun z => e0 ((k_g_end hBB).mp z)
        obtain ⟨g3, u1, u2, u3⟩ := z_expect (c := 59) hF b3 (by decide) (by decide)
        have u1' : s_Tape_expect F g2 (some 16) (59 : Int32) = some g3 := u1
        rw [hsn] at u3
        have C3 := C2.trans (k_cf.fr u2 (by decide) (by decide))
        rw [if_pos eg]
        show ∃ g', ((f_gR g2 (some 18) 8 0).bind fun x47 => _) = Kc g' ∧ _
        rw [z_r18_0 b3.1.1, Option.bind_some, u1', Option.bind_some, nI_1]
        rcases u3 with ⟨e59, u3⟩ | ⟨e59, u3⟩
        · have hg : ¬ ¬ k_g B l s = (59 : Int32) := fun z => z ((k_g_b hBB (c := 59) (by decide) (by decide)).mpr e59)
          obtain ⟨g4, w1, w2, m5, w3, w4, w5⟩ := ih (mm + 1) (i + 1) (s + 1) g3 (z_sI m3 68 3 (nI (s + 1))) nh' nw' td' (by omega) (by omega) (by omega) u3 (t3.to (by omega)) ((D2.lf k_lf.s3).g16 u2)
          refine ⟨g4, w1, C3.trans w2, m5, e.trans ?_, (M3.trans k_lf.s3.bf.mf).trans w4, w5⟩
          rw [z_i68_4 Sm2, Option.bind_some, ew, if_neg (fun z => z rfl), t1, Option.bind_some, if_neg hg]
          show ((f_gI m3 (some 68) 12 3).bind fun x236 => _) = _
          rw [z_i68_3 t3.1.1, Option.bind_some, t3.2.2.1, if_neg (by decide), nI_1, z_w68_3 t3.1.1, Option.bind_some]
          exact w3
        · have hg : ¬ k_g B l s = (59 : Int32) := fun z => e59 ((k_g_b hBB (c := 59) (by decide) (by decide)).mp z)
          obtain ⟨nn, rfl⟩ : ∃ k, nn = k + 1 := ⟨nn - 1, by omega⟩
          have hs32 : B s ≠ 32 := by
            rw [hs] at hsl ⊢
            exact k_n_stop ko.2.1 hsl
          refine ⟨g3, ?_, C3, z_sI m3 68 3 (nI s), e.trans ?_, M3.trans k_lf.s3.bf.mf, L2.fr u2, .inl ⟨s, u3, .inr ⟨t3.to (by omega), hsl, hs32⟩⟩⟩
          · have i241 : ¬ (240 : Int32) ≤ nI (i + 1) := nI_ge (b := 240) (by omega) (by decide)
            rw [l_VText_read_21, if_neg i241, z_clauseN u3, Option.bind_some, z_r18_0 u3.1.1, Option.bind_some, z_peekN u3, Option.bind_some, if_neg (fun z => z rfl)]
          · rw [z_i68_4 Sm2, Option.bind_some, ew, if_neg (fun z => z rfl), t1, Option.bind_some, if_pos hg]
            show ((f_gI m3 (some 68) 12 3).bind fun x236 => _) = _
            rw [z_i68_3 t3.1.1, Option.bind_some, t3.2.2.1, if_pos rfl, ad0, z_w68_3 t3.1.1, Option.bind_some, go0]
end D3
