-- THE RELATION (2): what keeps each part of it when a call changes something
/-- changed are at most the cells C, of the class's own numbers those of D, of the reference's those of D' (and laws' stacks) -/
def w_q (C D D' : List Nat) (h h' : fw_H) : Prop := (∀ j q, z_ck h j = some q → z_ck h' j = some q) ∧ (∀ j, j ∉ C → j ≠ 15 → j ≠ 68 → (j < 97 ∨ ∃ q, z_ck h j = some q ∧ q ≠ (1, (40, []))) → h'[j]? = h[j]?) ∧
  (∀ k, k ∉ D → z_I h' 15 k = z_I h 15 k) ∧ ∀ k, k ∉ D' → z_I h' 68 k = z_I h 68 k
section Q2
variable {h h' h'' : fw_H} {C D D' : List Nat} {n w p a k : Nat} {T Wd f : Nat → Int32} {lw : Option (List q_C)} {v : Int32}
theorem w_q.refl : w_q C D D' h h := ⟨fun _ _ x => x, fun _ _ _ _ _ => rfl, fun _ _ => rfl, fun _ _ => rfl⟩
theorem w_q.trans (h1 : w_q C D D' h h') (h2 : w_q C D D' h' h'') : w_q C D D' h h'' :=
  ⟨fun j q x => h2.1 j q (h1.1 j q x), fun j a b c x => (h2.2.1 j a b c (x.imp id fun ⟨q, x1, x2⟩ => ⟨q, h1.1 j q x1, x2⟩)).trans (h1.2.1 j a b c x), fun k hk => (h2.2.2.1 k hk).trans (h1.2.2.1 k hk), fun k hk => (h2.2.2.2 k hk).trans (h1.2.2.2 k hk)⟩
theorem w_q.fr {As : List Nat} (hf : z_fr As h h') (hA : ∀ j, j ∈ As → j ∈ C ∨ (97 ≤ j ∧ z_ck h j = some (1, (40, [])))) (h15 : 15 ∉ As) (h68 : 68 ∉ As) : w_q C D D' h h' := by
  refine ⟨fun j q x => (hf.1 j).trans x, fun j h1 _ _ h2 => hf.2 j (fun z => ?_), fun k _ => hf.I h15, fun k _ => hf.I h68⟩
  rcases hA j z with z | ⟨z1, z2⟩
  · exact h1 z
  · rcases h2 with h2 | ⟨q, h2, h3⟩
    · omega
    · exact h3 (Option.some.inj (h2.symm.trans z2))
theorem w_q.s15 (hk : k ∈ D) : w_q C D D' h (z_sI h 15 k v) :=
  ⟨fun j q x => (z_ck_sI j).trans x, fun j _ h1 _ _ => z_at_sI h1, fun j hj => z_I_sI_nk (fun z => hj (z ▸ hk)), fun j _ => z_I_sI_ne (by decide)⟩
theorem w_q.s68 (hk : k ∈ D') : w_q C D D' h (z_sI h 68 k v) :=
  ⟨fun j q x => (z_ck_sI j).trans x, fun j _ _ h1 _ => z_at_sI h1, fun j _ => z_I_sI_ne (by decide), fun j hj => z_I_sI_nk (fun z => hj (z ▸ hk))⟩
theorem w_q.sI (ha : a ∈ C) (h15 : a ≠ 15) (h68 : a ≠ 68) : w_q C D D' h (z_sI h a k v) := w_q.fr (z_fr.refl.sI (As := [a]) (by simp)) (fun j hj => .inl (by rw [List.mem_singleton] at hj; rw [hj]; exact ha)) (by simpa using Ne.symm h15) (by simpa using Ne.symm h68)
theorem w_q.sA (ha : a ∈ C) (h15 : a ≠ 15) (h68 : a ≠ 68) : w_q C D D' h (z_sA h a k v) := w_q.fr (z_fr.refl.sA (As := [a]) (by simp)) (fun j hj => .inl (by rw [List.mem_singleton] at hj; rw [hj]; exact ha)) (by simpa using Ne.symm h15) (by simpa using Ne.symm h68)
theorem w_q.mono {C' E E' : List Nat} (hq : w_q C D D' h h') (h1 : ∀ j, j ∈ C → j ∈ C') (h2 : ∀ j, j ∈ D → j ∈ E) (h3 : ∀ j, j ∈ D' → j ∈ E') : w_q C' E E' h h' :=
  ⟨hq.1, fun j a => hq.2.1 j (fun z => a (h1 j z)), fun k a => hq.2.2.1 k (fun z => a (h2 k z)), fun k a => hq.2.2.2 k (fun z => a (h3 k z))⟩
theorem w_q.at (hq : w_q C D D' h h') (h1 : a ∉ C) (h2 : a ≠ 15 ∧ a ≠ 68 ∧ a < 97) : h'[a]? = h[a]? := hq.2.1 a h1 h2.1 h2.2.1 (.inl h2.2.2)
theorem w_q.sh (hq : w_q C D D' h h') (hC : ∀ j, j ∈ C → 15 ≤ j) (hS : z_Sh h) : z_Sh h' := by
  obtain ⟨⟨L, xs, l1, l2⟩, hc⟩ := hS
  refine ⟨⟨L, xs, l1, fun j hj => (hq.2.1 j (fun z => absurd (hC j z) (by omega)) (by omega) (by omega) (.inl (by omega))).trans (l2 j hj)⟩, fun j h1 h2 => ?_⟩
  have h3 : j < z_S.length := h2
  have h4 := hc j h1 h2
  rw [List.getElem?_eq_getElem h3] at h4 ⊢
  exact hq.1 j _ h4
theorem w_q.c0 (hq : w_q C D D' h h') (hC : ∀ j, j ∈ C → 15 ≤ j) : h'[0]? = h[0]? := hq.at (fun z => absurd (hC 0 z) (by decide)) (by decide)
theorem w_q.LF (hq : w_q C D D' h h') (hC : ∀ j, j ∈ C → j < 97 ∧ j ≠ 39 ∧ j ≠ 40) (hL : z_LF h p lw) : z_LF h' p lw := by
  obtain ⟨⟨w1, w2, w3⟩, hp97, bt, hbt, hlw⟩ := hL
  have e0 : h'[p]? = h[p]? := by
    rcases hp97 with h97 | rfl
    · exact hq.2.1 p (fun z => by have := hC p z; omega) (by omega) (by omega) (.inr ⟨_, w1, fun z => by cases z⟩)
    · exact hq.at (fun z => (hC 39 z).2.1 rfl) (by decide)
  have e1 : h'[p + 1]? = h[p + 1]? := by
    rcases hp97 with h97 | rfl
    · exact hq.2.1 (p + 1) (fun z => by have := hC (p + 1) z; omega) (by omega) (by omega) (.inr ⟨_, w2, fun z => by cases z⟩)
    · exact hq.at (fun z => (hC 40 z).2.2 rfl) (by decide)
  refine ⟨⟨hq.1 _ _ w1, hq.1 _ _ w2, hq.1 _ _ w3⟩, hp97, bt, (z_I_of e0).trans hbt, ?_⟩
  match lw, hlw with
  | none, hlw => exact (z_I_of e0).trans hlw
  | some cls, ⟨c1, c2⟩ => exact ⟨⟨⟨hq.1 _ _ w1, hq.1 _ _ w2, hq.1 _ _ w3⟩, (z_I_of e0).trans c1.2.1, c1.2.2.1, fun i o e => by rw [z_A_of e1]; exact c1.2.2.2 i o e⟩, c2⟩
theorem w_q.mS (hq : w_q C D D' h h') (hC : ∀ j, j ∈ [70, 71, 73, 74, 75, 76] → j ∉ C) {cls : List q_C} (hM : q_mS h a cls) : q_mS h' a cls :=
  hM.of (fun b j hb => z_A_of (hq.at (hC b (by simp; omega)) (by omega)))
/-- the parts of the relation that a change spares -/
theorem w_q.laws (hq : w_q C D D' h h') (hC : ∀ j, j ∈ C → j < 97 ∧ j ≠ 39 ∧ j ≠ 40 ∧ j ≠ 42 ∧ j ≠ 70 ∧ j ≠ 71 ∧ j ≠ 73 ∧ j ≠ 74 ∧ j ≠ 75 ∧ j ≠ 76) (hD : 8 ∉ D ∧ 9 ∉ D) (hD' : 13 ∉ D' ∧ 28 ∉ D') (hL : w_laws h lw p) : w_laws h' lw p := by
  obtain ⟨m, cs, ps, m1, m2, m3, m4, m5, m6⟩ := hL
  have c3 : ∀ j, j ∈ C → j < 97 ∧ j ≠ 39 ∧ j ≠ 40 := fun j hj => ⟨(hC j hj).1, (hC j hj).2.1, (hC j hj).2.2.1⟩
  have c6 : ∀ j, j ∈ [70, 71, 73, 74, 75, 76] → j ∉ C := fun j hj z => by
    have := hC j z
    simp only [List.mem_cons, List.not_mem_nil, or_false] at hj
    omega
  refine ⟨m, cs, ps, m1, (hq.2.2.1 8 hD.1).trans m2, (hq.2.2.2 13 hD'.1).trans m3, fun i hi => ⟨(z_Q_of (hq.at (fun z => by have := hC 42 z; omega) (by decide))).trans (m4 i hi).1, (m4 i hi).2.1, hq.LF c3 (m4 i hi).2.2.1, hq.mS c6 (m4 i hi).2.2.2⟩, hq.LF c3 m5, ?_⟩
  rw [hq.2.2.1 9 hD.2, hq.2.2.2 28 hD'.2]
  exact m6
theorem w_q.vil (hq : w_q C D D' h h') (hC : ∀ j, j ∈ [29, 30, 31, 32, 33, 82, 83, 84, 85] → j ∉ C) (hD' : 24 ∉ D' ∧ 25 ∉ D') (hV : w_vil h n w T Wd f) : w_vil h' n w T Wd f := by
  obtain ⟨v1, v2, v3, ⟨v4, v5, v6⟩, v7, v8⟩ := hV
  have e : ∀ j, j ∈ [29, 30, 31, 32, 33, 82, 83, 84, 85] → h'[j]? = h[j]? := fun j hj => hq.at (hC j hj) (by simp only [List.mem_cons, List.not_mem_nil, or_false] at hj; omega)
  refine ⟨v1, v2.of v1.1 v1.2.1 (e _ (by decide)) (e _ (by decide)) (e _ (by decide)) (e _ (by decide)) (e _ (by decide)), (hq.2.2.2 24 hD'.1).trans v3, ⟨(hq.2.2.2 25 hD'.2).trans v4, fun j hj => ?_, fun j hj => ?_⟩, fun j hj => ?_, fun x hx => ?_⟩
  · rw [z_A_of (e _ (by decide))]; exact v5 j hj
  · rw [z_A_of (e _ (by decide))]; exact v6 j hj
  · rw [z_A_of (e _ (by decide))]; exact v7 j hj
  · rw [z_A_of (e _ (by decide))]; exact v8 x hx
theorem w_q.tape (hq : w_q C D D' h h') (hC : 16 ∉ C ∧ 17 ∉ C ∧ 69 ∉ C) (hD' : 2 ∉ D') (hT : w_tape h) : w_tape h' := by
  obtain ⟨l, l1, l2, l3, l4⟩ := hT
  refine ⟨l, l1, (z_I_of (hq.at hC.1 (by decide))).trans l2, (hq.2.2.2 2 hD').trans l3, fun i hi => ?_⟩
  rw [z_A_of (hq.at hC.2.1 (by decide)), z_A_of (hq.at hC.2.2 (by decide))]
  exact l4 i hi
theorem w_q.acts (hq : w_q C D D' h h') (hC : ∀ j, j ∈ [29, 33, 43, 44, 45, 46, 47, 86] → j ∉ C) (hD' : 31 ∉ D') (hA : w_acts h n T f) : w_acts h' n T f := by
  obtain ⟨c, nx, H, S, l, a1, a2, a3, a4, a5, a6, a7, a8, a9, a10, a11, a12⟩ := hA
  have e : ∀ a, a ∈ [29, 33, 43, 44, 45, 46, 47, 86] → h'[a]? = h[a]? := fun j hj => hq.at (hC j hj) (by simp only [List.mem_cons, List.not_mem_nil, or_false] at hj; omega)
  refine ⟨c, nx, H, S, l, a1, a2, (z_I_of (e 43 (by decide))).trans a3, (hq.2.2.2 31 hD').trans a4, (z_I_of (e 43 (by decide))).trans a5, fun j hj k hk' => ?_, a7, a8, fun j hj => ?_, a10, (z_I_of (e 29 (by decide))).trans a11, fun i h1 h2 => ?_⟩
  · rw [z_A_of (e 86 (by decide))]; exact a6 j hj k hk'
  · rw [z_A_of (e 44 (by decide)), z_A_of (e 45 (by decide)), z_A_of (e 46 (by decide)), z_A_of (e 47 (by decide))]; exact a9 j hj
  · rw [z_A_of (e 33 (by decide))]; exact a12 i h1 h2
theorem w_q.img (hn : n ≤ 12) (hw : w ≤ 16) (hq : w_q C D D' h h') (hC : ∀ j, j ∈ [34, 35, 36, 37, 38, 95] → j ∉ C) (hD : 5 ∉ D) (hD' : 49 ∉ D') (hI : w_img h n w T Wd) : w_img h' n w T Wd := by
  obtain ⟨im, i1, i2, i3⟩ := hI
  have e : ∀ a, a ∈ [34, 35, 36, 37, 38, 95] → h'[a]? = h[a]? := fun j hj => hq.at (hC j hj) (by simp only [List.mem_cons, List.not_mem_nil, or_false] at hj; omega)
  refine ⟨im, (hq.2.2.1 5 hD).trans i1, (hq.2.2.2 49 hD').trans i2, fun z => ?_⟩
  obtain ⟨h0, s, s1, s2, s3⟩ := i3 z
  exact ⟨h0, s, fun j hj => by rw [z_A_of (e _ (by decide))]; exact s1 j hj, s2.of hn hw (e _ (by decide)) (e _ (by decide)) (e _ (by decide)) (e _ (by decide)) (e _ (by decide)), s3⟩
theorem w_q.seen (hq : w_q C D D' h h') (hC : ∀ j, j ∈ [64, 65, 66, 93, 94] → j ∉ C) (hD' : 47 ∉ D') (hN : w_seen h) : w_seen h' := by
  obtain ⟨s, s1, s2, s3, s4⟩ := hN
  have e : ∀ a, a ∈ [64, 65, 66, 93, 94] → h'[a]? = h[a]? := fun j hj => hq.at (hC j hj) (by simp only [List.mem_cons, List.not_mem_nil, or_false] at hj; omega)
  refine ⟨s, s1, (z_I_of (e _ (by decide))).trans s2, (hq.2.2.2 47 hD').trans s3, fun i hi => ?_⟩
  rw [z_A_of (e 65 (by decide)), z_A_of (e 93 (by decide)), z_A_of (e 66 (by decide)), z_A_of (e 94 (by decide))]
  exact s4 i hi
theorem w_q.mist (hq : w_q C D D' h h') (hD : 11 ∉ D) (hD' : 29 ∉ D') (hN : w_mist h) : w_mist h' := by
  obtain ⟨v, v1, v2, v3⟩ := hN
  exact ⟨v, v1, (hq.2.2.1 11 hD).trans v2, (hq.2.2.2 29 hD').trans v3⟩
theorem w_q.trail (hq : w_q C D D' h h') (hC : 48 ∉ C ∧ 58 ∉ C ∧ 61 ∉ C) (hT : w_trail h) : w_trail h' := hT.of (z_I_of (hq.at hC.1 (by decide))) (fun j => z_A_of (hq.at hC.2.1 (by decide))) (fun k => z_R_of (hq.at hC.2.2 (by decide)))
/-- all of the relation, where nothing of account is in C, D, D' -/
theorem w_q.S (hq : w_q C D D' h h') (hC : ∀ j, j ∈ C → j ∈ w_sc ∧ j < 97 ∧ 15 ≤ j ∧ j ≠ 61) (hD : 5 ∉ D ∧ 8 ∉ D ∧ 9 ∉ D ∧ 11 ∉ D) (hD' : ∀ k, k ∈ [2, 13, 24, 25, 28, 29, 31, 47, 49] → k ∉ D') (hR : w_S h n w T Wd f lw p) : w_S h' n w T Wd f lw p := by
  obtain ⟨r1, r2, r3, r4, r5, r6, r7, r8, r9⟩ := hR
  have hn : ∀ j, j ∉ w_sc → j ∉ C := fun j h1 h2 => h1 (hC j h2).1
  refine ⟨hq.sh (fun j hj => (hC j hj).2.2.1) r1, hq.vil (fun j hj => hn j ?_) ⟨hD' 24 (by decide), hD' 25 (by decide)⟩ r2, hq.laws (fun j hj => ?_) ⟨hD.2.1, hD.2.2.1⟩ ⟨hD' 13 (by decide), hD' 28 (by decide)⟩ r3, hq.tape ⟨hn _ (by decide), hn _ (by decide), hn _ (by decide)⟩ (hD' 2 (by decide)) r4, hq.acts (fun j hj => hn j ?_) (hD' 31 (by decide)) r5, hq.img r2.1.1 r2.1.2.1 (fun j hj => hn j ?_) hD.1 (hD' 49 (by decide)) r6, hq.seen (fun j hj => hn j ?_) (hD' 47 (by decide)) r7, hq.mist hD.2.2.2 (hD' 29 (by decide)) r8, hq.trail ⟨hn _ (by decide), hn _ (by decide), fun z => (hC 61 z).2.2.2 rfl⟩ r9⟩
  · simp only [List.mem_cons, List.not_mem_nil, or_false] at hj
    rcases hj with rfl | rfl | rfl | rfl | rfl | rfl | rfl | rfl | rfl <;> decide
  · obtain ⟨z1, z2, z3⟩ := hC j hj
    refine ⟨z2, ?_, ?_, ?_, ?_, ?_, ?_, ?_, ?_, ?_⟩
    all_goals (intro z; subst z; revert z1; decide)
  · simp only [List.mem_cons, List.not_mem_nil, or_false] at hj
    rcases hj with rfl | rfl | rfl | rfl | rfl | rfl | rfl | rfl <;> decide
  · simp only [List.mem_cons, List.not_mem_nil, or_false] at hj
    rcases hj with rfl | rfl | rfl | rfl | rfl | rfl <;> decide
  · simp only [List.mem_cons, List.not_mem_nil, or_false] at hj
    rcases hj with rfl | rfl | rfl | rfl | rfl <;> decide
/-- one more cell -/
theorem w_q.app {e : fw_E} (hS : z_Sh h) : w_q C D D' h (h ++ [e]) := by
  have hl : 97 ≤ h.length := by
    have h1 := hS.2 96 (by decide) (by decide)
    have h2 : z_ck h 96 = some (2, (1, [])) := h1
    unfold z_ck at h2
    match h3 : h[96]? with
    | none => rw [h3] at h2; cases h2
    | some y => have := (List.getElem?_eq_some_iff.mp h3).1; omega
  have hlt : ∀ j, j < h.length → (h ++ [e])[j]? = h[j]? := fun j hj => List.getElem?_append_left hj
  have hck : ∀ j q, z_ck h j = some q → j < h.length := by
    intro j q x
    unfold z_ck at x
    match h3 : h[j]? with
    | none => rw [h3] at x; cases x
    | some y => exact (List.getElem?_eq_some_iff.mp h3).1
  refine ⟨fun j q x => ?_, fun j _ _ _ h2 => hlt j (h2.elim (fun z => by omega) fun ⟨q, x, _⟩ => hck j q x), fun k _ => z_I_of (hlt 15 (by omega)), fun k _ => z_I_of (hlt 68 (by omega))⟩
  unfold z_ck at x ⊢
  rw [hlt j (hck j q x)]
  exact x
end Q2
