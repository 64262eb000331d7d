-- TEXT: of a law; a new law in the class's heap
section EN
variable {g g' g'' h m m' m'' M : fw_H} {B : Nat → Nat} {l p p' q d D v mo i j k nn mm F c C n r s P w a : Nat} {x y : Int32} {T Wd f : Nat → Int32} {lw : Option (List q_C)} {As : List Nat} {L R N A : List q_O} {o : q_O} {b : Bool} {cls r' : List q_C} {fs : List fw_V} {rest : List fw_E} {e : fw_E}
theorem k_len (hS : z_Sh h) : 97 ≤ h.length := by
  have h1 : z_ck h 96 = some (2, (1, [])) := hS.2 96 (by decide) (by decide)
  unfold z_ck at h1
  match h3 : h[96]? with
  | none => rw [h3] at h1; cases h1
  | some y => have := (List.getElem?_eq_some_iff.mp h3).1; omega
theorem k_hat : (h ++ e :: rest)[h.length]? = some e := by
  rw [List.getElem?_append_right (Nat.le_refl _), Nat.sub_self]
  rfl
theorem k_pRn {v : Option Nat} : f_pR (h ++ fw_O c fs :: rest) (some h.length) c k v = some (h ++ fw_O c (fs.set k (fw_r v)) :: rest) := by
  unfold f_pR f_put f_obj
  simp only [k_hat, if_true, Option.bind_some, Option.getD_some]
  rw [List.set_append_right _ _ (Nat.le_refl _), Nat.sub_self]
  rfl
theorem k_pIn {v : Int32} : f_pI (h ++ fw_O c fs :: rest) (some h.length) c k v = some (h ++ fw_O c (fs.set k (fw_i v)) :: rest) := by
  unfold f_pI f_put f_obj
  simp only [k_hat, if_true, Option.bind_some, Option.getD_some]
  rw [List.set_append_right _ _ (Nat.le_refl _), Nat.sub_self]
  rfl
def k_new (h : fw_H) : fw_H := h ++ [fw_O 1 [fw_r (some (h.length + 1)), fw_r (some (h.length + 2)), fw_i 0, fw_i (-1), fw_i 0], fw_I 240 (fun _ => 0), fw_I 40 (fun _ => 0)]
theorem z_lawinit : s_Law_init (h ++ [fw_O 1 [fw_r none, fw_r none, fw_i 0, fw_i 0, fw_i 0]]) (some h.length) = some (k_new h) := by
  unfold s_Law_init fw_new
  have l1 : (h ++ [fw_O 1 [fw_r none, fw_r none, fw_i 0, fw_i 0, fw_i 0]]).length = h.length + 1 := by rw [List.length_append]; rfl
  rw [l1, List.append_assoc]
  show ((f_pR (h ++ fw_O 1 [fw_r none, fw_r none, fw_i 0, fw_i 0, fw_i 0] :: [fw_I 240 (fun _ => 0)]) (some h.length) 1 0 (some (h.length + 1))).bind fun h10 => _) = _
  rw [k_pRn, Option.bind_some]
  have l2 : (h ++ fw_O 1 ([fw_r none, fw_r none, fw_i 0, fw_i 0, fw_i 0].set 0 (fw_r (some (h.length + 1)))) :: [fw_I 240 (fun _ => 0)]).length = h.length + 2 := by rw [List.length_append]; rfl
  rw [l2, List.append_assoc]
  show ((f_pR (h ++ fw_O 1 ([fw_r none, fw_r none, fw_i 0, fw_i 0, fw_i 0].set 0 (fw_r (some (h.length + 1)))) :: [fw_I 240 (fun _ => 0), fw_I 40 (fun _ => 0)]) (some h.length) 1 1 (some (h.length + 2))).bind fun h18 => _) = _
  rw [k_pRn, Option.bind_some, k_pIn, Option.bind_some]
  rfl
theorem k_new_q (hS : z_Sh h) {C D D' : List Nat} : w_q C D D' h (k_new h) := by
  have e : k_new h = ((h ++ [fw_O 1 [fw_r (some (h.length + 1)), fw_r (some (h.length + 2)), fw_i 0, fw_i (-1), fw_i 0]]) ++ [fw_I 240 (fun _ => 0)]) ++ [fw_I 40 (fun _ => 0)] := by
    unfold k_new
    rw [List.append_assoc, List.append_assoc]
    rfl
  rw [e]
  have q1 : w_q [] D D' h (h ++ [fw_O 1 [fw_r (some (h.length + 1)), fw_r (some (h.length + 2)), fw_i 0, fw_i (-1), fw_i 0]]) := w_q.app hS
  have S1 := q1.sh (by decide) hS
  have q2 : w_q [] D D' _ ((h ++ [fw_O 1 [fw_r (some (h.length + 1)), fw_r (some (h.length + 2)), fw_i 0, fw_i (-1), fw_i 0]]) ++ [fw_I 240 (fun _ => 0)]) := w_q.app S1
  have S2 := q2.sh (by decide) S1
  exact (((q1.trans q2).trans (w_q.app S2)).mono (fun j hj => absurd hj (List.not_mem_nil)) (fun j hj => hj) (fun j hj => hj))
theorem k_new_W : z_LW (k_new h) h.length := by
  have e0 : (k_new h)[h.length]? = some (fw_O 1 [fw_r (some (h.length + 1)), fw_r (some (h.length + 2)), fw_i 0, fw_i (-1), fw_i 0]) := k_hat
  have e1 : (k_new h)[h.length + 1]? = some (fw_I 240 (fun _ => 0)) := by
    unfold k_new
    rw [List.getElem?_append_right (by omega), Nat.add_sub_cancel_left]
    rfl
  have e2 : (k_new h)[h.length + 2]? = some (fw_I 40 (fun _ => 0)) := by
    unfold k_new
    rw [List.getElem?_append_right (by omega), Nat.add_sub_cancel_left]
    rfl
  refine ⟨?_, ?_, ?_⟩
  · unfold z_ck; rw [e0]; rfl
  · unfold z_ck; rw [e1]; rfl
  · unfold z_ck; rw [e2]; rfl
/-- the class's laws: one more -/
theorem z_setQ {v : Option Nat} (hS : z_Sh g) (hm : mm < 4) (ha : f_obj g v 1 ≠ none) : ∃ g', f_sQ g (some 42) (nI mm) v = some g' ∧ (z_fr [42] g g' ∧ ∀ i, z_Q g' 42 i = if i = mm then v else z_Q g 42 i) := by
  have ck := z_ckT (a := 42) (q := (3, (4, []))) hS rfl
  unfold z_ck at ck
  match e : (g[42]? : Option fw_E) with
  | none => rw [e] at ck; cases ck
  | some (.inl (n, .inl _)) => rw [e] at ck; cases ck
  | some (.inl (n, .inr (.inl _))) => rw [e] at ck; cases ck
  | some (.inl (n, .inr (.inr (.inl _)))) => rw [e] at ck; cases ck
  | some (.inl (n, .inr (.inr (.inr (.inl _))))) => rw [e] at ck; cases ck
  | some (.inr (.inl (c', fs))) => rw [e] at ck; cases ck
  | some (.inr (.inr (.inl (n, _)))) => rw [e] at ck; cases ck
  | some (.inr (.inr (.inr k))) => rw [e] at ck; cases ck
  | some (.inl (n, .inr (.inr (.inr (.inr ff))))) =>
    rw [e] at ck
    have hn : n = 4 := by
      have := Option.some.inj ck
      exact (Prod.mk.inj (Prod.mk.inj this).2).1
    subst hn
    have hlt := (List.getElem?_eq_some_iff.mp e).1
    match eo : f_obj g v 1 with
    | none => exact absurd eo ha
    | some fs =>
      have ev : f_arQ g (some 42) = some (4, ff) := by unfold f_arQ; simp only [e]
      refine ⟨g.set 42 (fw_Q 4 (va_up ff mm v)), ?_, ⟨fun j => ?_, fun j hj => ?_⟩, fun i => ?_⟩
      · unfold f_sQ
        rw [ev, Option.bind_some, eo, Option.bind_some, nI_clamp (by omega), if_pos ⟨nI_pos (by omega), hm⟩]
        rfl
      · unfold z_ck
        by_cases ej : 42 = j
        · rw [← ej, List.getElem?_set_self hlt, e]; rfl
        · rw [List.getElem?_set_ne ej]
      · rw [List.getElem?_set_ne (fun z => hj (by simp [← z]))]
      · unfold z_Q
        rw [List.getElem?_set_self hlt, e]
        rfl
theorem z_lnQ42 (hS : z_Sh g) : f_lnQ g (some 42) = some (nI 4) := by
  have ck := z_ckT (a := 42) (q := (3, (4, []))) hS rfl
  unfold z_ck at ck
  match e : (g[42]? : Option fw_E) with
  | none => rw [e] at ck; cases ck
  | some (.inl (n, .inl _)) => rw [e] at ck; cases ck
  | some (.inl (n, .inr (.inl _))) => rw [e] at ck; cases ck
  | some (.inl (n, .inr (.inr (.inl _)))) => rw [e] at ck; cases ck
  | some (.inl (n, .inr (.inr (.inr (.inl _))))) => rw [e] at ck; cases ck
  | some (.inr (.inl (c', fs))) => rw [e] at ck; cases ck
  | some (.inr (.inr (.inl (n, _)))) => rw [e] at ck; cases ck
  | some (.inr (.inr (.inr k))) => rw [e] at ck; cases ck
  | some (.inl (n, .inr (.inr (.inr (.inr ff))))) =>
    rw [e] at ck
    have hn : n = 4 := by
      have := Option.some.inj ck
      exact (Prod.mk.inj (Prod.mk.inj this).2).1
    subst hn
    have ev : f_arQ g (some 42) = some (4, ff) := by unfold f_arQ; simp only [e]
    unfold f_lnQ
    rw [ev]
    rfl
/-- the class takes the draft in force -/
theorem z_enact (hF : 70000 ≤ F) (hS : z_Sh g) (hm : mm < 4) (h8 : z_I g 15 8 = nI mm) (hl : l ≤ 240) (h16 : z_I g 16 1 = nI l) {bt : Bool} (h4 : z_I g 26 4 = fw_b bt) : ∃ g', s_Joy_enact F g (some 15) = some (nI mm, g') ∧ (w_q [16, 42] [8] [] g g' ∧ z_I g' 15 8 = nI (mm + 1) ∧ z_I g' 16 1 = 0 ∧ (∀ i, z_Q g' 42 i = if i = mm then some g.length else z_Q g 42 i) ∧ z_LW g' g.length ∧ z_I g' g.length 2 = z_I g 26 2 ∧ z_I g' g.length 4 = fw_b bt ∧ ∀ i, i < 240 → z_A g' (g.length + 1) i = z_A g 27 i) := by
  have h97 := k_len hS
  obtain ⟨a, ha⟩ : ∃ a, a = g.length := ⟨_, rfl⟩
  obtain ⟨H, hH⟩ : ∃ H, H = k_new g := ⟨_, rfl⟩
  have qH : w_q [] [] [] g H := by rw [hH]; exact k_new_q hS
  have SH := qH.sh (by decide) hS
  have W := k_new_W (h := g)
  rw [← hH, ← ha] at W
  have e1 : ¬ nI mm < (0 : Int32) := nI_pos (by omega)
  have e2 : nI mm < nI 4 := nI_lt hm (by decide)
  -- the steps
  obtain ⟨H1, a1, a2, a3⟩ := z_copy (a := 27) (b := a + 1) (n := 240) (F := F) (by omega) hF (by decide) (z_ckT SH rfl) W.2.1
  have S1 := SH.fr a2 (by simp; omega)
  obtain ⟨H2, hH2⟩ : ∃ H2, H2 = z_sI H1 a 2 (z_I g 26 2) := ⟨_, rfl⟩
  obtain ⟨H3, hH3⟩ : ∃ H3, H3 = z_sI H2 a 4 (fw_b bt) := ⟨_, rfl⟩
  have W1 := W.fr a2
  have f2 : z_fr [a] H1 H2 := by rw [hH2]; exact z_fr.refl.sI (by simp)
  have S2 := S1.fr f2 (by simp; omega)
  have W2 := W1.fr f2
  have f3 : z_fr [a] H2 H3 := by rw [hH3]; exact z_fr.refl.sI (by simp)
  have S3 := S2.fr f3 (by simp; omega)
  have W3 := W2.fr f3
  have F3 : z_fr [a, a + 1] H H3 := ((a2.mono (by simp)).trans (f2.mono (by simp))).trans (f3.mono (by simp))
  have ho : f_obj H3 (some a) 1 ≠ none := by
    obtain ⟨fs, h1, -⟩ := z_objO W3.1
    rw [h1]
    intro z
    cases z
  obtain ⟨H4, b1, b2, b3⟩ := z_setQ S3 hm ho
  have S4 := S3.fr b2 (by decide)
  obtain ⟨H5, hH5⟩ : ∃ H5, H5 = z_sI H4 15 8 (nI (mm + 1)) := ⟨_, rfl⟩
  have f5 : z_fr [15] H4 H5 := by rw [hH5]; exact z_fr.refl.sI (by simp)
  have S5 := S4.fr f5 (by decide)
  obtain ⟨H6, hH6⟩ : ∃ H6, H6 = z_sI H5 16 1 (0 : Int32) := ⟨_, rfl⟩
  have f6 : z_fr [16] H5 H6 := by rw [hH6]; exact z_fr.refl.sI (by simp)
  have gI : ∀ b k, b < 97 → b ≠ 15 → b ≠ 68 → z_I H b k = z_I g b k := fun b k x y z => z_I_of (qH.at (List.not_mem_nil) ⟨y, z, x⟩)
  have i4 : z_I H1 26 4 = fw_b bt := by rw [a2.I (by simp; omega), gI 26 4 (by decide) (by decide) (by decide), h4]
  have i4' : z_I H2 26 4 = fw_b bt := by rw [f2.I (by simp; omega), i4]
  have take : s_Law_take F H (some a) (some 26) = some H3 := by
    unfold s_Law_take
    rw [z_ckO W.1, Option.bind_some, z_r26_0 SH, Option.bind_some, z_gR (m := a + 1) W.1 rfl, Option.bind_some, a1, Option.bind_some, z_i26_2 S1, Option.bind_some, z_pI W1.1 rfl, Option.bind_some, a2.I (by simp; omega), gI 26 2 (by decide) (by decide) (by decide), ← hH2, z_gB (z_i26_4 S2) i4', Option.bind_some]
    show ((f_pI H2 (some a) 1 4 (fw_b bt)).bind fun h24 => some h24) = some H3
    rw [z_pI W2.1 rfl, ← hH3]
    rfl
  have j8 : z_I H4 15 8 = nI mm := by rw [b2.I (by decide), F3.I (by simp; omega), qH.2.2.1 8 (List.not_mem_nil), h8]
  have j16 : z_I H5 16 1 = nI l := by rw [f5.I (by decide), b2.I (by decide), F3.I (by simp; omega), gI 16 1 (by decide) (by decide) (by decide), h16]
  have cut : s_Tape_cut H5 (some 16) (0 : Int32) = some (true, H6) := by
    unfold s_Tape_cut
    rw [z_c16 S5, Option.bind_some, if_neg (by decide), z_i16_1 S5, Option.bind_some, j16, if_pos (show (0 : Int32) ≤ nI l from nI_le (a := 0) (Nat.zero_le _) (by omega)), z_w16_1 S5, Option.bind_some, ← hH6]
  have li : s_Law_init (g ++ [fw_O 1 [fw_r none, fw_r none, fw_i 0, fw_i 0, fw_i 0]]) (some g.length) = some H := by rw [hH]; exact z_lawinit
  have hlt : ∀ j, (j < 97 ∨ ∃ q, z_ck g j = some q) → j < a := by
    intro j hj
    rcases hj with z | ⟨q, z⟩
    · omega
    · unfold z_ck at z
      match h3 : (g[j]? : Option fw_E) with
      | none => rw [h3] at z; cases z
      | some y => have := (List.getElem?_eq_some_iff.mp h3).1; omega
  have q3 : w_q [16, 42] [8] [] g H3 :=
    ⟨fun j q x => (F3.1 j).trans (qH.1 j q x), fun j _ h15 h68 hx => (F3.2 j (by
      have := hlt j (hx.imp id fun ⟨q, z, _⟩ => ⟨q, z⟩)
      simp
      omega)).trans (qH.2.1 j (List.not_mem_nil) h15 h68 hx), fun k _ => (F3.I (by simp; omega)).trans (qH.2.2.1 k (List.not_mem_nil)), fun k _ => (F3.I (by simp; omega)).trans (qH.2.2.2 k (List.not_mem_nil))⟩
  have q4 : w_q [16, 42] [8] [] H3 H4 := w_q.fr b2 (fun j hj => .inl (by revert j; decide)) (by decide) (by decide)
  have q5 : w_q [16, 42] [8] [] H4 H5 := by rw [hH5]; exact w_q.s15 (by simp)
  have q6 : w_q [16, 42] [8] [] H5 H6 := w_q.fr f6 (fun j hj => .inl (by revert j; decide)) (by decide) (by decide)
  have F6 : z_fr [15, 16, 42] H3 H6 := ((b2.mono (by simp)).trans (f5.mono (by simp))).trans (f6.mono (by simp))
  unfold s_Joy_enact
  rw [z_c15 hS, Option.bind_some, z_i15_8 hS, Option.bind_some, h8, if_neg e1, z_r15_7 hS, Option.bind_some, z_lnQ42 hS, Option.bind_some, if_pos e2]
  show ∃ g', ((s_Law_init (g ++ [fw_O 1 [fw_r none, fw_r none, fw_i 0, fw_i 0, fw_i 0]]) (some g.length)).bind fun h24 => _) = some (nI mm, g') ∧ _
  rw [li, Option.bind_some, z_r15_2 SH, Option.bind_some, z_r25_1 SH, Option.bind_some, ← ha, take, Option.bind_some, z_r15_7 S3, Option.bind_some, b1, Option.bind_some, z_i15_8 S4, Option.bind_some, j8, nI_1, z_w15_8 S4, Option.bind_some, ← hH5, z_r15_0 S5, Option.bind_some, cut, Option.bind_some]
  refine ⟨H6, rfl, ((q3.trans q4).trans q5).trans q6, ?_, ?_, fun i => ?_, W3.fr F6, ?_, ?_, fun i hi => ?_⟩
  · rw [f6.I (by decide), hH5, z_II S4 11 rfl]
  · rw [hH6, z_II S5 6 rfl]
  · have e42 : z_Q H3 42 i = z_Q g 42 i := z_Q_of ((F3.2 42 (by simp; omega)).trans (qH.at (List.not_mem_nil) (by decide)))
    rw [z_Q_of (f6.2 42 (by decide)), z_Q_of (f5.2 42 (by decide)), b3, e42]
  · rw [F6.I (by simp; omega), hH3, z_I_sI_nk (by decide), hH2, z_I_sI W1.1 rfl]
  · rw [F6.I (by simp; omega), hH3, z_I_sI W2.1 rfl]
  · rw [F6.A (by simp; omega), f3.A (by simp), f2.A (by simp), a3 i hi]
    exact z_A_of (qH.at (List.not_mem_nil) (by decide))
end EN
