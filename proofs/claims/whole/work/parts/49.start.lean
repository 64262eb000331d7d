-- THE CLASS'S WALK BEGINS: doors and wishes laid
def v_let (T f : Nat → Int32) (i : Nat) (b : Int32) (t : Nat) : Nat → Int32 := fun j => if j = 0 then f i else if j < 5 then T (6 * i + j) else if j = 5 then b else if j = 6 then f 52 else nI t
def v_wish (lw : Option (List q_C)) (T f : Nat → Int32) (i : Nat) (b : Int32) (t : Nat) : Int32 := match lw with
  | none => if f 52 = 1 then (if b = 1 then 0 else f i) - T (6 * i + 4) else (if b = 1 then 0 else f i)
  | some cls => q_worth (v_let T f i b t) cls
/-- the walk's numbers: e who envies, m who turns the back, op which windows are open -/
def v_E (n w : Nat) (T Wd f : Nat → Int32) (lw : Option (List q_C)) (op : Nat → Bool) (e m : Nat) : z_E :=
  (n, (v_door w Wd op, (fun x => if e.testBit x = true then T (6 * x + 1) else 0, (fun x => T (6 * x + 2), fun x t => v_wish lw T f x (fw_b (m.testBit x)) t))))
theorem v_E_wf {n w e m : Nat} {T Wd f : Nat → Int32} {lw : Option (List q_C)} {op : Nat → Bool} (hok : v_ok n w Wd) : e_wf (v_E n w T Wd f lw op e m) := ⟨hok.1, fun a => v_door_self hok⟩
/-- a law without the letter of the time -/
def q_nt (cls : List q_C) : Prop := ∀ c ∈ cls, ∀ o, o ∈ c.1 ∨ o ∈ c.2 → o ≠ (1, 7)
/-- the class's law at p is lw (none: the plain one) -/
def z_LF (h : fw_H) (p : Nat) (lw : Option (List q_C)) : Prop :=
  z_LW h p ∧ (97 ≤ p ∨ p = 39) ∧ ∃ bt, z_I h p 4 = fw_b bt ∧ match lw with
    | none => z_I h p 2 = 0
    | some cls => q_cS h p (q_enc 0 cls) ∧ q_wf cls ∧ cls ≠ [] ∧ (bt = false → q_nt cls)
/-- the wishes' table -/
def z_TB (h : fw_H) (n : Nat) (T f : Nat → Int32) (lw : Option (List q_C)) : Prop := ∀ x, x < n → ∀ (bk : Bool) t, t < 24 → z_A h 56 ((2 * x + (if bk = true then 1 else 0)) * 24 + t) = v_wish lw T f x (fw_b bk) t
/-- the doors -/
def z_DR (h : fw_H) (n w : Nat) (Wd : Nat → Int32) (op : Nat → Bool) : Prop := ∀ a, a < n → z_A h 55 a = nI ((List.range n).filter (v_door w Wd op a)).length ∧ ∀ j x, ((List.range n).filter (v_door w Wd op a))[j]? = some x → z_A h 54 (12 * a + j) = nI x
/-- the walk's own village: houses' numbers, music -/
def z_PT (h : fw_H) (n : Nat) (T f : Nat → Int32) : Prop := z_I h 49 0 = nI n ∧ (∀ i, i < n → z_A h 50 (5 * i) = f i ∧ ∀ k, 1 ≤ k → k < 5 → z_A h 50 (5 * i + k) = T (6 * i + k)) ∧ ∃ m, z_I h 49 8 = fw_b m ∧ f 52 = fw_b m
def z_CV (h : fw_H) (n w : Nat) (T Wd f : Nat → Int32) (lw : Option (List q_C)) (op : Nat → Bool) : Prop := z_PT h n T f ∧ z_TB h n T f lw ∧ z_DR h n w Wd op
theorem z_k {α β γ : Type} {x : γ} {K : α → γ} {E : β → γ} {P : α → Prop} {Q : β → Prop} (h : ∃ g, x = K g ∧ P g) (H : ∀ g, P g → ∃ r, K g = E r ∧ Q r) : ∃ r, x = E r ∧ Q r := by
  obtain ⟨g, h1, h2⟩ := h
  obtain ⟨r, h3, h4⟩ := H g h2
  exact ⟨r, h1.trans h3, h4⟩
section ST
variable {h g g' : fw_H} {a i j k m e n w p t b F nn : Nat} {T Wd f : Nat → Int32} {lw : Option (List q_C)} {op : Nat → Bool} {x : Int32}
theorem z_CV.cw (hok : v_ok n w Wd) (hc : z_CV h n w T Wd f lw op) (he : e < 2 ^ 12) (hm : m < 2 ^ 12) (h6 : z_I h 48 6 = nI e) (h5 : z_I h 48 5 = nI m) : z_CW h (v_E n w T Wd f lw op e m) := by
  obtain ⟨⟨p1, p2, p3⟩, tb, dr⟩ := hc
  refine ⟨v_E_wf hok, p1, fun a ha => dr a ha, ⟨e, he, h6, fun x hx => ?_⟩, fun x hx => ?_, m, hm, h5, fun x hx t ht => ?_⟩
  · show (if e.testBit x = true then T (6 * x + 1) else 0) = _
    rw [(p2 x hx).2 1 (by decide) (by decide)]
  · exact ((p2 x hx).2 2 (by decide) (by decide)).symm
  · exact (tb x hx _ t ht).symm
theorem q_step_nt {L L' : Nat → Int32} {o : q_O} {s : List Int32} (hL : ∀ j, j < 7 → L j = L' j) (ho : o ≠ (1, 7)) (h8 : o.1 = 1 → o.2 < 8) : q_step L o s = q_step L' o s := by
  unfold q_step
  split
  · rfl
  · split
    · next h1 =>
      have : o.2 ≠ 7 := fun z => ho (Prod.ext h1 z)
      rw [hL _ (by have := h8 h1; omega)]
    · rfl
theorem q_ev_nt {L L' : Nat → Int32} (hL : ∀ j, j < 7 → L j = L' j) : ∀ {l : List q_O} {τ τ' : List Bool} {s : List Int32}, q_ty l τ = some τ' → (∀ o, o ∈ l → o ≠ (1, 7)) → q_ev L l s = q_ev L' l s
  | [], _, _, _, _, _ => rfl
  | o :: l, τ, τ', s, ht, ho => by
    match h1 : q_tstep o τ with
    | none =>
      have h2 : (q_tstep o τ).bind (fun τ' => q_ty l τ') = some τ' := ht
      rw [h1] at h2; cases h2
    | some u =>
      have h2 : (q_tstep o τ).bind (fun τ' => q_ty l τ') = some τ' := ht
      rw [h1] at h2
      show q_ev L l (q_step L o s) = q_ev L' l (q_step L' o s)
      rw [q_step_nt hL (ho o List.mem_cons_self) (fun h0 => by
        rcases q_tcase h1 with ⟨z, -⟩ | ⟨-, z, -⟩ | ⟨z, -⟩ | ⟨z1, -⟩
        · omega
        · exact z
        · omega
        · omega)]
      exact q_ev_nt (l := l) (τ := u) hL h2 (fun o ho' => ho o (List.mem_cons_of_mem _ ho'))
theorem q_worth_nt {L L' : Nat → Int32} (hL : ∀ j, j < 7 → L j = L' j) : ∀ {cls : List q_C}, q_wf cls → q_nt cls → q_worth L cls = q_worth L' cls
  | [], _, _ => rfl
  | c :: r, hw, hn => by
    have hwc := hw c List.mem_cons_self
    have hnc := hn c List.mem_cons_self
    have e2 := q_ev_nt (s := []) hL hwc.2 (fun o ho => hnc o (.inr ho))
    have er := q_worth_nt hL (cls := r) (fun c hc => hw c (List.mem_cons_of_mem _ hc)) (fun c hc => hn c (List.mem_cons_of_mem _ hc))
    unfold q_worth
    by_cases hc : c.1 = []
    · rw [if_pos (.inl hc), if_pos (.inl hc), e2]
    · have e1 := q_ev_nt (s := []) hL (hwc.1.resolve_left hc) (fun o ho => hnc o (.inl ho))
      rw [e1, e2, er]
/-- without the time's letter a wish is the same at all times -/
theorem v_wish_nt {cls : List q_C} (hw : q_wf cls) (hn : q_nt cls) {i : Nat} {b : Int32} {t t' : Nat} : v_wish (some cls) T f i b t = v_wish (some cls) T f i b t' := by
  show q_worth _ cls = q_worth _ cls
  refine q_worth_nt (fun j hj => ?_) hw hn
  unfold v_let
  split
  · rfl
  · split
    · rfl
    · split
      · rfl
      · rw [if_pos (by omega), if_pos (by omega)]
theorem z_letL (hS : z_Sh h) (hP : z_PT h n T f) (hn : n ≤ 12) (hi : i < n) {K : fw_H → Option (Int32 × fw_H)} :
    ∀ (k j nn : Nat) (g : fw_H), j + k = 5 → k < nn → z_fr [57] h g → (∀ j', j' < j → z_A g 57 j' = v_let T f i 0 0 j') →
    ∃ g', l_Walk_reckonWish_68 (some 48) (nI i) K nn (nI j) g = K g' ∧ z_fr [57] h g' ∧ ∀ j', j' < 5 → z_A g' 57 j' = v_let T f i 0 0 j' := by
  intro k
  induction k with
  | zero =>
    intro j nn g hj hnn hf hl
    obtain ⟨nn, rfl⟩ : ∃ k, nn = k + 1 := ⟨nn - 1, by omega⟩
    refine ⟨g, ?_, hf, fun j' h' => hl j' (by omega)⟩
    rw [l_Walk_reckonWish_68, if_pos (show (5 : Int32) ≤ nI j from nI_le (a := 5) (by omega) (by omega))]
  | succ k ih =>
    intro j nn g hj hnn hf hl
    obtain ⟨nn, rfl⟩ : ∃ k, nn = k + 1 := ⟨nn - 1, by omega⟩
    have hSg := hS.fr hf (by decide)
    rw [l_Walk_reckonWish_68, if_neg (show ¬ (5 : Int32) ≤ nI j from nI_ge (b := 5) (by omega) (by decide)), z_r48_10 hSg, Option.bind_some, z_r48_0 hSg, Option.bind_some, z_trait hSg (.inr (.inr (.inr rfl))) (by omega) (by omega), Option.bind_some, z_rput (z_ckT hSg rfl) (show j < 8 by omega) (by decide), Option.bind_some, show nI j + 1 = nI (j + 1) from nI_1 j]
    refine ih (j + 1) nn _ (by omega) (by omega) (hf.sA (by simp)) (fun j' hj' => ?_)
    rw [z_A_sA (z_ckT hSg rfl)]
    by_cases e : j' = j
    · subst e
      rw [if_pos rfl, hf.A (by decide)]
      unfold v_let
      by_cases h0 : j' = 0
      · subst h0; rw [if_pos rfl]; exact (hP.2.1 i hi).1
      · rw [if_neg h0, if_pos (by omega)]; exact (hP.2.1 i hi).2 j' (by omega) (by omega)
    · rw [if_neg e]; exact hl j' (by omega)
theorem q_enc_pos {cls : List q_C} (h : cls ≠ []) : 0 < (q_enc 0 cls).length := by
  match cls with
  | [] => exact absurd rfl h
  | c :: r => unfold q_enc; split <;> simp <;> omega
theorem z_reckonWish (hF : 70000 ≤ F) (hS : z_Sh h) (hP : z_PT h n T f) (hn : n ≤ 12) (hi : i < n) (hp : z_R h 48 1 = some p) (hL : z_LF h p lw) (hb : b < 2) (ht : t < 24) :
    ∃ h', s_Walk_reckonWish F h (some 48) (nI i) (nI b) (nI t) = some (v_wish lw T f i (nI b) t, h') ∧ z_fr [57, p + 2] h h' := by
  obtain ⟨hLW, hp97, bt, hbt, hlw⟩ := hL
  obtain ⟨P1, P2, mm, P3, P4⟩ := hP
  unfold s_Walk_reckonWish
  rw [z_c48 hS, Option.bind_some, z_r48_1 hS, Option.bind_some, hp, if_neg (by simp), Option.bind_some]
  match lw, hlw with
  | none, hlw =>
    have e1 : s_Law_isPlain h (some p) = some true := by
      unfold s_Law_isPlain
      rw [z_ckO hLW.1, Option.bind_some, z_gI hLW.1 rfl, Option.bind_some, hlw, if_neg (by decide)]
    rw [e1, Option.bind_some, if_pos rfl]
    have tr : ∀ k, k < 5 → s_Vil_trait h (some 49) (nI i) (nI k) = some (z_A h 50 (5 * i + k)) := fun k hk => z_trait hS (.inr (.inr (.inr rfl))) (by omega) hk
    have m8 : f_gB h (some 49) 7 8 = some mm := z_gB (by rw [z_i49_8 hS, P3]) rfl
    have f52 : f 52 = 1 ↔ mm = true := by rw [P4]; cases mm <;> decide
    have b1 : nI b = 1 ↔ b = 1 := nI_eq (b := 1) (by omega) (by decide)
    have hJ : ∀ v : Int32, ((f_gR h (some 48) 9 0).bind fun x38 => (f_gB h x38 7 8).bind fun x41 => if x41 = true then ((f_gR h (some 48) 9 0).bind fun x50 => (s_Vil_trait h x50 (nI i) (4 : Int32)).bind fun x55 => some ((v - x55), h)) else some (v, h)) = some (if f 52 = 1 then v - T (6 * i + 4) else v, h) := by
      intro v
      rw [z_r48_0 hS, Option.bind_some, m8, Option.bind_some]
      by_cases hm : mm = true
      · rw [if_pos hm, Option.bind_some, show (4 : Int32) = nI 4 from rfl, tr 4 (by decide), Option.bind_some, if_pos (f52.mpr hm), (P2 i hi).2 4 (by decide) (by decide)]
      · rw [if_neg hm, if_neg (fun z => hm (f52.mp z))]
    refine ⟨h, ?_, z_fr.refl⟩
    simp only [fw_jn]
    by_cases hb1 : b = 1
    · rw [if_neg (fun z => z (b1.mpr hb1)), hJ]
      unfold v_wish
      simp only [if_pos (b1.mpr hb1)]
    · rw [if_pos (fun z => hb1 (b1.mp z)), z_r48_0 hS, Option.bind_some, show (0 : Int32) = nI 0 from rfl, tr 0 (by decide), Option.bind_some]
      have hJ' := hJ (z_A h 50 (5 * i + 0))
      rw [z_r48_0 hS] at hJ'
      rw [hJ']
      unfold v_wish
      simp only [if_neg (fun z => hb1 (b1.mp z))]
      rw [show z_A h 50 (5 * i + 0) = f i from (P2 i hi).1]
  | some cls, ⟨hcS, hwf, hne, hbt2⟩ =>
    have e1 : s_Law_isPlain h (some p) = some false := by
      unfold s_Law_isPlain
      rw [z_ckO hLW.1, Option.bind_some, z_gI hLW.1 rfl, Option.bind_some, hcS.2.1, if_pos (nI_ne0 (q_enc_pos hne) (by have := hcS.2.2.1; omega))]
    rw [e1, Option.bind_some, if_neg (by decide)]
    refine z_k (z_letL hS ⟨P1, P2, mm, P3, P4⟩ hn hi 5 0 F h (by omega) (by omega) z_fr.refl (fun j hj => absurd hj (Nat.not_lt_zero _))) fun g1 ⟨a2, a3⟩ => ?_
    have S1 := hS.fr a2 (by decide)
    have S2 : z_Sh (z_sA g1 57 5 (nI b)) := z_Sh_sA S1
    simp only [fw_jn]
    rw [z_r48_10 S1, Option.bind_some, show (5 : Int32) = nI 5 from rfl, z_rput (z_ckT S1 rfl) (show 5 < 8 by decide) (by decide), Option.bind_some, z_r48_10 S2, Option.bind_some, z_r48_0 S2, Option.bind_some]
    have m8 : f_gB (z_sA g1 57 5 (nI b)) (some 49) 7 8 = some mm := z_gB (by rw [z_i49_8 S2, z_I_sA, a2.I (by decide), P3]) rfl
    have main : ∃ r, ((s_Rows_put (z_sA g1 57 5 (nI b)) (some 57) (6 : Int32) (f 52)).bind fun h129 => (f_gR h129 (some 48) 9 10).bind fun x133 => (s_Rows_put h129 x133 (7 : Int32) (nI t)).bind fun h139 => (f_gR h139 (some 48) 9 1).bind fun x143 => (f_gR h139 (some 48) 9 10).bind fun x147 => (s_Law_worth F h139 x143 x147).bind fun x150 => some (x150.1, x150.2)) = some (v_wish (some cls) T f i (nI b) t, r) ∧ z_fr [57, p + 2] h r := by
      rw [show (6 : Int32) = nI 6 from rfl, z_rput (z_ckT S2 rfl) (show 6 < 8 by decide) (by decide), Option.bind_some]
      have S3 : z_Sh (z_sA (z_sA g1 57 5 (nI b)) 57 6 (f 52)) := z_Sh_sA S2
      rw [z_r48_10 S3, Option.bind_some, show (7 : Int32) = nI 7 from rfl, z_rput (z_ckT S3 rfl) (show 7 < 8 by decide) (by decide), Option.bind_some]
      have S4 : z_Sh (z_sA (z_sA (z_sA g1 57 5 (nI b)) 57 6 (f 52)) 57 7 (nI t)) := z_Sh_sA S3
      have hf4 : z_fr [57] h (z_sA (z_sA (z_sA g1 57 5 (nI b)) 57 6 (f 52)) 57 7 (nI t)) := ((a2.sA (by simp)).sA (by simp)).sA (by simp)
      rw [z_r48_1 S4, Option.bind_some, z_r48_10 S4, Option.bind_some, z_R_sA, z_R_sA, z_R_sA, a2.R (by decide), hp]
      have hcS4 : q_cS (z_sA (z_sA (z_sA g1 57 5 (nI b)) 57 6 (f 52)) 57 7 (nI t)) p (q_enc 0 cls) :=
        ⟨hcS.1.fr hf4, by rw [hf4.I (by simp; omega)]; exact hcS.2.1, hcS.2.2.1, fun i o e => by rw [hf4.A (by simp; omega)]; exact hcS.2.2.2 i o e⟩
      obtain ⟨g5, b1, b2⟩ := q_cworth (q := 57) (L := v_let T f i (nI b) t) hF hcS4 hwf (z_ckT S4 rfl) (by omega) (fun j hj => by
        rw [z_A_sA (z_ckT S3 rfl), z_A_sA (z_ckT S2 rfl), z_A_sA (z_ckT S1 rfl)]
        unfold v_let
        by_cases h7 : j = 7
        · subst h7; rfl
        · rw [if_neg h7]
          by_cases h6 : j = 6
          · subst h6; rfl
          · rw [if_neg h6]
            by_cases h5 : j = 5
            · subst h5; rfl
            · rw [if_neg h5, a3 j (by omega)]
              unfold v_let
              by_cases h0 : j = 0
              · rw [if_pos h0, if_pos h0]
              · rw [if_neg h0, if_neg h0, if_pos (by omega), if_pos (by omega)])
      rw [b1, Option.bind_some]
      exact ⟨g5, rfl, (hf4.mono (by simp)).trans (b2.mono (by simp))⟩
    rw [m8, Option.bind_some]
    by_cases hm : mm = true
    · rw [if_pos hm, show (1 : Int32) = f 52 by rw [P4, hm]; rfl]; exact main
    · rw [if_neg hm, show (0 : Int32) = f 52 by rw [P4, Bool.eq_false_iff.mpr hm]; rfl]; exact main
/-- what a wish's making needs -/
def z_WI (g : fw_H) (n p : Nat) (T f : Nat → Int32) (lw : Option (List q_C)) : Prop := z_Sh g ∧ z_PT g n T f ∧ z_R g 48 1 = some p ∧ z_LF g p lw
theorem z_LF.fr {As : List Nat} (hf : z_fr As g g') (h0 : p ∉ As) (h1 : p + 1 ∉ As) (hL : z_LF g p lw) : z_LF g' p lw := by
  obtain ⟨hLW, hp97, bt, hbt, hlw⟩ := hL
  refine ⟨hLW.fr hf, hp97, bt, by rw [hf.I h0]; exact hbt, ?_⟩
  match lw, hlw with
  | none, hlw => exact (hf.I h0).trans hlw
  | some cls, ⟨c1, c2⟩ => exact ⟨⟨c1.1.fr hf, by rw [hf.I h0]; exact c1.2.1, c1.2.2.1, fun i o e => by rw [hf.A h1]; exact c1.2.2.2 i o e⟩, c2⟩
theorem z_PT.fr {As : List Nat} (hf : z_fr As g g') (h0 : 49 ∉ As) (h1 : 50 ∉ As) (hP : z_PT g n T f) : z_PT g' n T f := by
  obtain ⟨P1, P2, mm, P3, P4⟩ := hP
  refine ⟨by rw [hf.I h0]; exact P1, fun i hi => ⟨by rw [hf.A h1]; exact (P2 i hi).1, fun k a b => by rw [hf.A h1]; exact (P2 i hi).2 k a b⟩, mm, by rw [hf.I h0]; exact P3, P4⟩
theorem z_WI.fr (hf : z_fr [56, 57, p + 2] g g') (hW : z_WI g n p T f lw) : z_WI g' n p T f lw := by
  obtain ⟨w1, w2, w3, w4⟩ := hW
  have h97 := w4.2.1
  exact ⟨w1.fr hf (by simp; omega), w2.fr hf (by simp; omega) (by simp; omega), by rw [hf.R (by simp; omega)]; exact w3, w4.fr hf (by simp; omega) (by simp; omega)⟩
theorem z_wishL (hF : 70000 ≤ F) (hn : n ≤ 12) (hi : i < n) (hb : b < 2) {tt : Nat} (htt : tt < 2) (hnt : tt = 0 → ∀ t, v_wish lw T f i (nI b) t = v_wish lw T f i (nI b) 0) (hW0 : z_WI h n p T f lw) {K : fw_H → Option fw_H} :
    ∀ (k t nn : Nat) (wi : Int32) (g : fw_H), t + k = 24 → k < nn → z_fr [56, 57, p + 2] h g → (t ≠ 0 → wi = v_wish lw T f i (nI b) (t - 1)) → (∀ t', t' < t → z_A g 56 ((2 * i + b) * 24 + t') = v_wish lw T f i (nI b) t') → (∀ x, x < (2 * i + b) * 24 ∨ (2 * i + b) * 24 + 24 ≤ x → z_A g 56 x = z_A h 56 x) →
    ∃ g', l_Walk_reckonWishes_36 F (some 48) (nI i) (nI tt) (nI b) K nn wi (nI t) g = K g' ∧ z_fr [56, 57, p + 2] h g' ∧ (∀ t', t' < 24 → z_A g' 56 ((2 * i + b) * 24 + t') = v_wish lw T f i (nI b) t') ∧ ∀ x, x < (2 * i + b) * 24 ∨ (2 * i + b) * 24 + 24 ≤ x → z_A g' 56 x = z_A h 56 x := by
  have h97 := hW0.2.2.2.2.1
  intro k
  induction k with
  | zero =>
    intro t nn wi g ht hnn hf hwi hl ho
    obtain ⟨nn, rfl⟩ : ∃ k, nn = k + 1 := ⟨nn - 1, by omega⟩
    refine ⟨g, ?_, hf, fun j' h' => hl j' (by omega), ho⟩
    rw [l_Walk_reckonWishes_36, if_pos (show (24 : Int32) ≤ nI t from nI_le (a := 24) (by omega) (by omega))]
  | succ k ih =>
    intro t nn wi g ht hnn hf hwi hl ho
    obtain ⟨nn, rfl⟩ : ∃ k, nn = k + 1 := ⟨nn - 1, by omega⟩
    have hWg := hW0.fr hf
    have place : s_Walk_wishPlace (nI i) (nI b) (nI t) = some (nI ((2 * i + b) * 24 + t)) := by
      unfold s_Walk_wishPlace
      rw [show (2 : Int32) = nI 2 from rfl, show (24 : Int32) = nI 24 from rfl, pk_mul, nI_add, pk_mul, nI_add, Nat.mul_comm i]
    -- a wish put down
    have hput : ∀ (g1 : fw_H), z_fr [57, p + 2] g g1 → ∃ g', ((f_gR g1 (some 48) 9 9).bind fun x68 => (s_Walk_wishPlace (nI i) (nI b) (nI t)).bind fun x75 => (s_Rows_put g1 x68 x75 (v_wish lw T f i (nI b) t)).bind fun h80 => l_Walk_reckonWishes_36 F (some 48) (nI i) (nI tt) (nI b) K nn (v_wish lw T f i (nI b) t) (nI t + (1 : Int32)) h80) = K g' ∧ z_fr [56, 57, p + 2] h g' ∧ (∀ t', t' < 24 → z_A g' 56 ((2 * i + b) * 24 + t') = v_wish lw T f i (nI b) t') ∧ ∀ x, x < (2 * i + b) * 24 ∨ (2 * i + b) * 24 + 24 ≤ x → z_A g' 56 x = z_A h 56 x := by
      intro g1 hf1
      have hf2 : z_fr [56, 57, p + 2] g g1 := hf1.mono (by simp)
      have S1 := hWg.1.fr hf2 (by simp; omega)
      rw [z_r48_9 S1, Option.bind_some, place, Option.bind_some, z_rput (z_ckT S1 rfl) (show (2 * i + b) * 24 + t < 576 by omega) (by decide), Option.bind_some, show nI t + 1 = nI (t + 1) from nI_1 t]
      refine ih (t + 1) nn _ _ (by omega) (by omega) ((hf.trans hf2).sA (by simp)) (fun _ => rfl) (fun t' ht' => ?_) (fun x hx => ?_)
      · rw [z_A_sA (z_ckT S1 rfl)]
        by_cases e : t' = t
        · subst e; rw [if_pos rfl]
        · rw [if_neg (by omega), hf1.A (by simp; omega)]; exact hl t' (by omega)
      · rw [z_A_sA (z_ckT S1 rfl), if_neg (by omega), hf1.A (by simp; omega)]; exact ho x hx
    have hreck : ∃ g', ((s_Walk_reckonWish F g (some 48) (nI i) (nI b) (nI t)).bind fun x57 => (f_gR x57.2 (some 48) 9 9).bind fun x68 => (s_Walk_wishPlace (nI i) (nI b) (nI t)).bind fun x75 => (s_Rows_put x57.2 x68 x75 x57.1).bind fun h80 => l_Walk_reckonWishes_36 F (some 48) (nI i) (nI tt) (nI b) K nn x57.1 (nI t + (1 : Int32)) h80) = K g' ∧ z_fr [56, 57, p + 2] h g' ∧ (∀ t', t' < 24 → z_A g' 56 ((2 * i + b) * 24 + t') = v_wish lw T f i (nI b) t') ∧ ∀ x, x < (2 * i + b) * 24 ∨ (2 * i + b) * 24 + 24 ≤ x → z_A g' 56 x = z_A h 56 x := by
      obtain ⟨g1, a1, a2⟩ := z_reckonWish hF hWg.1 hWg.2.1 hn hi hWg.2.2.1 hWg.2.2.2 hb (show t < 24 by omega)
      rw [a1, Option.bind_some]
      exact hput g1 a2
    rw [l_Walk_reckonWishes_36, if_neg (show ¬ (24 : Int32) ≤ nI t from nI_ge (b := 24) (by omega) (by decide))]
    by_cases htt0 : tt = 0
    · rw [if_neg (by rw [htt0]; decide)]
      by_cases ht0 : t = 0
      · rw [if_neg (by rw [ht0]; decide)]; exact hreck
      · rw [if_pos (nI_ne0 (by omega) (by omega))]
        have e : wi = v_wish lw T f i (nI b) t := by rw [hwi ht0, hnt htt0 (t - 1), hnt htt0 t]
        rw [e]
        exact hput g z_fr.refl
    · rw [if_pos (nI_ne0 (by omega) (by omega))]; exact hreck
end ST
