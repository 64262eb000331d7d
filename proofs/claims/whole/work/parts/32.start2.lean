-- the law's start: array classes, the abstract heap at the entry
theorem gl_arrP {args : Array Value} {s : State} {ty : FieldType} (h : (Cond.arrayClass ty).before args s = true) : ∃ cA : ClassId, ArrOfT s cA ty ∧ s.vm.findClass ("[" ++ ty.toString) = some cA := by
  obtain ⟨cA, k, comp, h1, h2, h3⟩ := Cond.arrayClass_spec h
  exact ⟨cA, fun n z => ⟨fun k h => (by cases h), k, h2, comp, h3⟩, h1⟩
theorem gl_arrQ {args : Array Value} {s : State} (h : (Cond.arrayOver (.object RX1)).before args s = true) : ∃ cA : ClassId, ArrOfT s cA (.object RX1) ∧ va_RA s cA (.object RX1) := by
  obtain ⟨comp, cA, k, h1, h2, h3, h4, h5⟩ := Cond.arrayOver_spec h
  exact ⟨cA, fun n z => ⟨fun k h => (by cases h), k, h3, comp, h4⟩, k, comp, h3, h4, h1, h5⟩
def gl_xa (L : Nat) (xs : Nat → Int32) (i : Nat) : vp_A := if i = 0 then (L, .inl xs) else ((gl_sv.getD (i - 1) []).length, .inl fun j => (gl_sv.getD (i - 1) []).getD j 0)
/-- the heap at the law's entry: the script, the six arrays of VillageText, the four texts and their bytes -/
def gl_h0 (L : Nat) (xs : Nat → Int32) : fw_H := (List.range 7).map (fun i => (.inr (.inr (.inl (gl_xa L xs i))) : fw_E)) ++ (List.range 8).map fw_XS
theorem gl_tys {args : Array Value} {s : State} (hts : ∀ w ∈ lw_tbl, w.before args s = true) : ∃ cI cJ cQ : ClassId, ∀ (k : Nat) (q : ClassId × FieldType), [(cI, FieldType.int), (cJ, FieldType.long), (cQ, FieldType.object RX1)][k]? = some q → ArrOfT s q.1 q.2 ∧ va_RA s q.1 q.2 := by
  obtain ⟨cI, a1, a2⟩ := gl_arrP (hts (.arrayClass .int) (by decide +kernel))
  obtain ⟨cJ, b1, b2⟩ := gl_arrP (hts (.arrayClass .long) (by decide +kernel))
  obtain ⟨cQ, c1, c2⟩ := gl_arrQ (hts (.arrayOver (.object RX1)) (by decide +kernel))
  refine ⟨cI, cJ, cQ, fun k q hq => ?_⟩
  match k with
  | 0 => cases hq; exact ⟨a1, a2⟩
  | 1 => cases hq; exact ⟨b1, b2⟩
  | 2 => cases hq; exact ⟨c1, c2⟩
  | n + 3 => cases hq
theorem gl_P {G : fw_G} {s : State} {L : Nat} {xs : Nat → Int32} (hx : fw_X G = s.heap) (ha : ∀ i, i < 7 → fw_xa G i = gl_xa L xs i) : fw_P G s.heap (gl_h0 L xs) := by
  refine ⟨by simp [gl_h0], by unfold fw_base; rw [hx]; simp [gl_h0], fun q hq => by rw [hx], fun i e he => ?_⟩
  by_cases h7 : i < 7
  · rw [gl_h0, List.getElem?_append_left (by simpa using h7)] at he
    simp [h7] at he
    subst he
    exact ⟨h7, (ha i h7).symm⟩
  · rw [gl_h0, List.getElem?_append_right (by simpa using Nat.le_of_not_lt h7)] at he
    simp at he
    obtain ⟨a, h1, rfl⟩ := he
    obtain ⟨h2, h3⟩ := List.getElem?_eq_some_iff.mp h1
    rw [List.getElem_range] at h3
    rw [List.length_range] at h2
    exact ⟨by omega, by omega, by omega⟩
theorem gl_vkS {s : State} {A : Nat → Prop} {H : Heap} {k v k' v' : Nat → Nat} (h : vk_S 4 fw_len fw_byt k v A s H) (hk : ∀ i, i < 4 → k' i = k i) (hv : ∀ i, i < 4 → v' i = v i) : vk_S 4 fw_len fw_byt k' v' A s H :=
  ⟨fun i hi => by rw [hk i hi, hv i hi]; exact h.1 i hi, fun i j hi hj e => h.2 i j hi hj (by rw [← hk i hi, ← hk j hj]; exact e)⟩
/-- at the law's entry the frame stands -/
theorem gl_start {p : Program} {s : State} {m : MethodId} {meth : Method} {c : Code} {b L : Nat} {xs : Nat → Int32} (hL : L ≤ 3072) (C0 : lw_At p s m meth c b L xs) :
    ∃ G : fw_G, fw_K G s ∧ fw_base G = s.heap.size ∧ fw_ad G 0 = b ∧ fw_P G s.heap (gl_h0 L xs) := by
  obtain ⟨c1, c2, c3, c4, c5, hts, ⟨scr, x1, x2, x4, x5, x6⟩, hb, c9, hgv⟩ := C0
  have hs : ∀ w ∈ gl_fl, w.before #[Value.ref b] s = true := flat_of_before _ hgv
  obtain ⟨D, hD⟩ := gl_cls hts
  obtain ⟨cI, cJ, cQ, hT⟩ := gl_tys hts
  obtain ⟨adK, adV, hS, hR⟩ := gl_strs hts hs
  have hA : ∀ k : Nat, ∃ t : Nat, k < 6 → va_Z RX8 (fw_stn k) "[I" (.ref t) (fun q : Nat => s.heap.size ≤ q) s s.heap ∧ va_T .int t (gl_sv.getD k []).length (fun j => .int ((gl_sv.getD k []).getD j 0)) (fun q : Nat => s.heap.size ≤ q) s s.heap := by
    intro k
    by_cases hk : k < 6
    · obtain ⟨t, ht⟩ := gl_sta hts hs hk
      exact ⟨t, fun _ => ht⟩
    · exact ⟨0, fun z => absurd z hk⟩
  obtain ⟨st, hst⟩ : ∃ st : Nat → Nat, ∀ k, k < 6 → va_Z RX8 (fw_stn k) "[I" (.ref (st k)) (fun q : Nat => s.heap.size ≤ q) s s.heap ∧ va_T .int (st k) (gl_sv.getD k []).length (fun j => .int ((gl_sv.getD k []).getD j 0)) (fun q : Nat => s.heap.size ≤ q) s s.heap := ⟨fun k => Classical.choose (hA k), fun k => Classical.choose_spec (hA k)⟩
  obtain ⟨ext, hext⟩ : ∃ ext : Nat → Nat, ext = fun i => if i = 0 then b else if i < 7 then st (i - 1) else if i < 11 then adK (i - 7) else adV (i - 11) := ⟨_, rfl⟩
  refine ⟨(D, ((cI, (cJ, cQ)), (ext, (adV, (s.heap, gl_xa L xs))))), ⟨⟨hD, hT⟩, fun i hi => ?_, fun k hk => ?_, gl_CS hts hgv, gl_vkS hS (fun i hi => ?_) (fun i hi => ?_), fun k hk => ?_, gl_AO hts, gl_KX hts hgv⟩, rfl, ?_, gl_P rfl (fun i _ => rfl)⟩
  · by_cases h0 : i = 0
    · subst h0
      refine ⟨L, xs, rfl, by omega, scr, ?_, x2, x4, Nat.le_of_eq x5.symm, by rw [x5], fun j hj => x6 j hj, ?_⟩
      · show s.heap[ext 0]? = some scr
        rw [hext]
        exact x1
      · show ¬ s.heap.size ≤ ext 0
        rw [hext]
        exact Nat.not_le_of_lt hb
    · refine ⟨(gl_sv.getD (i - 1) []).length, fun j => (gl_sv.getD (i - 1) []).getD j 0, ?_, gl_d6 (i - 1) (by omega), ?_⟩
      · show gl_xa L xs i = _
        unfold gl_xa
        rw [if_neg h0]
      · show va_T .int (ext i) _ _ _ s s.heap
        rw [hext]
        simp only [if_neg h0, if_pos hi]
        exact (hst (i - 1) (by omega)).2
  · show va_Z RX8 (fw_stn k) "[I" (.ref (ext (k + 1))) _ s s.heap
    rw [hext]
    simp only [if_neg (Nat.succ_ne_zero k), if_pos (show k + 1 < 7 by omega)]
    exact (hst k hk).1
  · show ext (i + 7) = adK i
    rw [hext]
    simp only [if_neg (show ¬ i + 7 = 0 by omega), if_neg (show ¬ i + 7 < 7 by omega), if_pos (show i + 7 < 11 by omega)]
    rfl
  · show ext (i + 11) = adV i
    rw [hext]
    simp only [if_neg (show ¬ i + 11 = 0 by omega), if_neg (show ¬ i + 11 < 7 by omega), if_neg (show ¬ i + 11 < 11 by omega)]
    rfl
  · show vk_R (fw_own k) (fw_idx k) (fw_txt k) (ext (k + 7)) s
    rw [hext]
    simp only [if_neg (show ¬ k + 7 = 0 by omega), if_neg (show ¬ k + 7 < 7 by omega), if_pos (show k + 7 < 11 by omega)]
    exact hR k hk
  · show fw_ad _ 0 = b
    rw [fw_ad_ext (by omega)]
    show ext 0 = b
    rw [hext]
    rfl
