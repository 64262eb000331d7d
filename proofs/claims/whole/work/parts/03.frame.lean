-- the tables' words that keep
def fw_tb : List Cond := lw_tbl.filter goodWord
-- THE FRAME: an abstract heap (a list of cells), a method's run as a value in Option, and one rule an instruction
/-- a value: an int, a long, a place in the abstract heap (or null) -/
abbrev fw_V : Type := Int32 ⊕ (Int64 ⊕ Option Nat)
abbrev fw_i (x : Int32) : fw_V := .inl x
abbrev fw_j (x : Int64) : fw_V := .inr (.inl x)
abbrev fw_r (r : Option Nat) : fw_V := .inr (.inr r)
/-- a cell: an own array, an object (class, fields), an array outside, a text outside -/
abbrev fw_E : Type := vp_A ⊕ ((Nat × List fw_V) ⊕ (vp_A ⊕ Nat))
abbrev fw_H : Type := List fw_E
/-- classes' layouts; the three array classes; where what is outside lies; where the texts' bytes lie; the heap at the law's entry; the arrays outside -/
abbrev fw_G : Type := va_G × ((ClassId × (ClassId × ClassId)) × ((Nat → Nat) × ((Nat → Nat) × (Heap × (Nat → vp_A)))))
def fw_D (G : fw_G) : va_G := G.1
def fw_cI (G : fw_G) : ClassId := G.2.1.1
def fw_cJ (G : fw_G) : ClassId := G.2.1.2.1
def fw_cQ (G : fw_G) : ClassId := G.2.1.2.2
def fw_ext (G : fw_G) : Nat → Nat := G.2.2.1
def fw_adV (G : fw_G) : Nat → Nat := G.2.2.2.1
def fw_X (G : fw_G) : Heap := G.2.2.2.2.1
def fw_xa (G : fw_G) : Nat → vp_A := G.2.2.2.2.2
def fw_base (G : fw_G) : Nat := (fw_X G).size
def fw_ad (G : fw_G) (i : Nat) : Nat := if i < 15 then fw_ext G i else fw_base G + (i - 15)
def fw_tr (G : fw_G) : fw_V → Value
  | .inl x => .int x
  | .inr (.inl x) => .long x
  | .inr (.inr r) => va_rf (r.map (fw_ad G))
def fw_A (G : fw_G) : Nat → Prop := fun q => fw_base G ≤ q
abbrev fw_cls : List vw_C := [(RX0, TX0, 6), (RX1, TX1, 5), (RX2, TX2, 2), (RX0, TX0, 6), (RX4, TX4, 9), (RX5, TX5, 3), (RX6, TX6, 4), (RX7, TX7, 15), (RX8, TX8, 4), (RX9, TX9, 16), (RX10, TX10, 5), (RX11, TX11, 16), (RX12, TX12, 50)]
abbrev fw_tys (G : fw_G) : List (ClassId × FieldType) := [(fw_cI G, .int), (fw_cJ G, .long), (fw_cQ G, .object RX1)]
abbrev fw_I (n : Nat) (f : Nat → Int32) : fw_E := .inl (n, .inl f)
abbrev fw_J (n : Nat) (f : Nat → Int64) : fw_E := .inl (n, .inr (.inl f))
abbrev fw_Q (n : Nat) (f : Nat → Option Nat) : fw_E := .inl (n, .inr (.inr (.inr (.inr f))))
abbrev fw_O (c : Nat) (fs : List fw_V) : fw_E := .inr (.inl (c, fs))
abbrev fw_XI (n : Nat) (f : Nat → Int32) : fw_E := .inr (.inr (.inl (n, .inl f)))
abbrev fw_XS (k : Nat) : fw_E := .inr (.inr (.inr k))
/-- the cell that stands for an own array -/
def fw_cell (G : fw_G) : vp_A → Option Cell
  | (n, .inl f) => some (vp_cell (fw_cI G) (n, .inl f))
  | (n, .inr (.inl f)) => some (vp_cell (fw_cJ G) (n, .inr (.inl f)))
  | (n, .inr (.inr (.inr (.inr f)))) => some (vp_cell (fw_cQ G) (n, .inr (.inr (.inr (.inr fun k => (f k).map (fw_ad G))))))
  | _ => none
def fw_at (G : fw_G) (H : Heap) (i : Nat) : fw_E → Prop
  | .inl x => 15 ≤ i ∧ ∀ c, fw_cell G x = some c → H[fw_ad G i]? = some c
  | .inr (.inl (c, fs)) => 15 ≤ i ∧ ∃ r : vw_C, fw_cls[c]? = some r ∧ fs.length = r.2.2 ∧ t_OB (fw_ad G i) ((fw_D G).1 c) r.2.2 ((fw_D G).2 c) H (vp_V (fs.map (fw_tr G)))
  | .inr (.inr (.inl x)) => i < 7 ∧ x = fw_xa G i
  | .inr (.inr (.inr k)) => i < 15 ∧ k < 8 ∧ i = k + 7
/-- the heap H is h -/
def fw_P (G : fw_G) (H : Heap) (h : fw_H) : Prop :=
  15 ≤ h.length ∧ H.size + 15 = fw_base G + h.length ∧ (∀ q : Nat, q < fw_base G → H[q]? = (fw_X G)[q]?) ∧ ∀ (i : Nat) (e : fw_E), h[i]? = some e → fw_at G H i e
def fw_len : List Nat := [3, 6, 3, 8]
def fw_byt : List (List Int32) := [[97, 104, 109], [119, 101, 112, 107, 116, 98], [97, 98, 111], [119, 101, 112, 107, 116, 98, 117, 104]]
def fw_own (k : Nat) : String := if k < 3 then "OneJoy$VillageText" else "OneJoy$LawText"
def fw_idx (k : Nat) : Nat := [59, 79, 93, 85].getD k 0
def fw_txt (k : Nat) : String := ["ahm", "wepktb", "abo", "wepktbuh"].getD k ""
def fw_stn : Nat → String := fun k => match k with
  | 0 => "VILLAGE_MOST"
  | 1 => "HOUSE_MOST"
  | 2 => "WINDOW_MOST"
  | 3 => "VILLAGE_FIRST"
  | 4 => "HOUSE_FIRST"
  | _ => "WINDOW_FIRST"
/-- what a throw wants of the tables: the words that are no good ones, and Throwable's statics -/
def fw_NS : String := "java/util/NoSuchElementException"
def fw_nw : List Cond := [.castable "java/util/NoSuchElementException" "java/util/NoSuchElementException", .declares (Bundle.init0 "java/lang/RuntimeException"), .declares (Bundle.init0 "java/lang/Exception"), .declares (Bundle.init0 Bundle.tN)]
theorem fw_nw_moved {u U : State} (hvm : u.vm.Alike U.vm) {w : Cond} (hw : w ∈ fw_nw) (h : w.before #[] u = true) : w.before #[] U = true := by
  simp only [fw_nw, List.mem_cons, List.not_mem_nil, or_false] at hw
  have h2 : w.onTables = true ∧ w.before #[] (u.setVm U.vm) = true := by
    rcases hw with rfl | rfl | rfl | rfl
    · exact ⟨rfl, by rw [Cond.castable_setVm hvm]; exact h⟩
    · exact ⟨rfl, by rw [Cond.declares_setVm hvm]; exact h⟩
    · exact ⟨rfl, by rw [Cond.declares_setVm hvm]; exact h⟩
    · exact ⟨rfl, by rw [Cond.declares_setVm hvm]; exact h⟩
  exact va_tabs (u := u.setVm U.vm) h2.1 rfl h2.2
def fw_KX (G : fw_G) (U : State) : Prop := vx_Zq Bundle.tN "UNASSIGNED_STACK" Bundle.steD (fw_A G) U (fw_X G) ∧ vx_Zq Bundle.tN "SUPPRESSED_SENTINEL" Bundle.listD (fw_A G) U (fw_X G) ∧ ∀ w ∈ fw_nw, w.before #[] U = true
theorem fw_KX.moved {G : fw_G} {u U : State} (hvm : u.vm.Alike U.vm) (h : fw_KX G u) : fw_KX G U := ⟨h.1.moved hvm, h.2.1.moved hvm, fun w hw => fw_nw_moved hvm hw (h.2.2 w hw)⟩
/-- what the machine's tables, and the heap outside, say -/
def fw_K (G : fw_G) (U : State) : Prop :=
  va_K (fw_D G) fw_cls (fw_tys G) U ∧ (∀ i, i < 7 → ∃ (n : Nat) (f : Nat → Int32), fw_xa G i = (n, .inl f) ∧ n < 2 ^ 31 ∧ va_T .int (fw_ext G i) n (fun j => .int (f j)) (fw_A G) U (fw_X G)) ∧
  (∀ k, k < 6 → va_Z RX8 (fw_stn k) "[I" (.ref (fw_ext G (k + 1))) (fw_A G) U (fw_X G)) ∧ va_Z RJ0 "COMPACT_STRINGS" "Z" (.int 1) (fw_A G) U (fw_X G) ∧
  vk_S 4 fw_len fw_byt (fun k => fw_ext G (k + 7)) (fun k => fw_ext G (k + 11)) (fw_A G) U (fw_X G) ∧ (∀ k, k < 4 → vk_R (fw_own k) (fw_idx k) (fw_txt k) (fw_ext G (k + 7)) U) ∧ va_AO RX1 U ∧ fw_KX G U

theorem fw_K.moved {G : fw_G} {u U : State} (hvm : u.vm.Alike U.vm) (hst : ∀ k, k < 4 → vk_R (fw_own k) (fw_idx k) (fw_txt k) (fw_ext G (k + 7)) U) (h : fw_K G u) : fw_K G U := by
  obtain ⟨h1, h2, h3, h4, h5, -, h6, h7⟩ := h
  refine ⟨h1.moved hvm, fun i hi => ?_, fun k hk => (h3 k hk).moved hvm, h4.moved hvm, h5.moved hvm, hst, h6.moved hvm, h7.moved hvm⟩
  obtain ⟨n, f, e, hn, ht⟩ := h2 i hi
  exact ⟨n, f, e, hn, ht.moved hvm⟩
theorem fw_K.warm {G : fw_G} {s U : State} (hW : s.WarmedH U.vm) (h : fw_K G s) : fw_K G U :=
  h.moved hW.alike (fun k hk => (h.2.2.2.2.2.1 k hk).warm hW)
theorem fw_K.ext {G : fw_G} {s : State} (h : fw_K G s) {i : Nat} (hi : i < 15) : fw_ext G i < fw_base G := by
  by_cases h7 : i < 7
  · obtain ⟨n, f, -, -, cell, h1, -⟩ := h.2.1 i h7
    exact (Array.getElem?_eq_some_iff.mp h1).1
  · by_cases h8 : i < 11
    · obtain ⟨⟨cell, h1, -⟩, -⟩ := h.2.2.2.2.1.1 (i - 7) (by omega)
      have e : i - 7 + 7 = i := by omega
      have h1 : (fw_X G)[fw_ext G (i - 7 + 7)]? = some cell := h1
      rw [e] at h1
      exact (Array.getElem?_eq_some_iff.mp h1).1
    · obtain ⟨-, -, -, cell, h1, -⟩ := h.2.2.2.2.1.1 (i - 11) (by omega)
      have e : i - 11 + 11 = i := by omega
      have h1 : (fw_X G)[fw_ext G (i - 11 + 11)]? = some cell := h1
      rw [e] at h1
      exact (Array.getElem?_eq_some_iff.mp h1).1
theorem fw_ad_own {G : fw_G} {i : Nat} (h : 15 ≤ i) : fw_ad G i = fw_base G + (i - 15) := by unfold fw_ad; rw [if_neg (by omega)]
theorem fw_ad_ext {G : fw_G} {i : Nat} (h : i < 15) : fw_ad G i = fw_ext G i := by unfold fw_ad; rw [if_pos h]
theorem fw_ad_inj {G : fw_G} {i j : Nat} (hi : 15 ≤ i) (hj : 15 ≤ j) (h : i ≠ j) : fw_ad G j ≠ fw_ad G i := by
  rw [fw_ad_own hi, fw_ad_own hj]; omega
/-- a cell of which nothing is known: a thrown exception -/
abbrev fw_opq : fw_E := .inl (0, .inr (.inr (.inl fun _ => 0)))
theorem fw_at_arr {G : fw_G} {H : Heap} {i : Nat} {x : vp_A} {c : Cell} (h11 : 15 ≤ i) (hc : fw_cell G x = some c) (hH : H[fw_ad G i]? = some c) : fw_at G H i (.inl x) := ⟨h11, fun c' h' => by rw [hc] at h'; cases h'; exact hH⟩
theorem fw_at_opq {G : fw_G} {H : Heap} {i : Nat} (h11 : 15 ≤ i) : fw_at G H i fw_opq := ⟨h11, fun c' h' => by cases h'⟩
theorem fw_at.kept {G : fw_G} {H H' : Heap} {i : Nat} {e : fw_E} (h : fw_at G H i e) (hk : 15 ≤ i → H'[fw_ad G i]? = H[fw_ad G i]?) : fw_at G H' i e := by
  match e with
  | .inl x => exact ⟨h.1, fun c hc => by rw [hk h.1]; exact h.2 c hc⟩
  | .inr (.inl (c, fs)) => exact ⟨h.1, by obtain ⟨r, h1, h2, h3⟩ := h.2; exact ⟨r, h1, h2, h3.kept (hk h.1)⟩⟩
  | .inr (.inr (.inl x)) => exact h
  | .inr (.inr (.inr k)) => exact h
theorem fw_P.lt {G : fw_G} {H : Heap} {h : fw_H} (hP : fw_P G H h) {i : Nat} (hi : i < h.length) (h11 : 15 ≤ i) : fw_ad G i < H.size := by
  rw [fw_ad_own h11]; have := hP.2.1; omega
theorem fw_P.set {G : fw_G} {H H' : Heap} {h : fw_H} (hP : fw_P G H h) {i : Nat} {e' : fw_E} (h11 : 15 ≤ i) (hz : H'.size = H.size) (oq : ∀ q : Nat, q ≠ fw_ad G i → H'[q]? = H[q]?) (he : fw_at G H' i e') : fw_P G H' (h.set i e') := by
  obtain ⟨h1, h2, h3, h4⟩ := hP
  refine ⟨by simpa using h1, by simpa [hz] using h2, fun q hq => ?_, fun j e hj => ?_⟩
  · rw [oq q (by rw [fw_ad_own h11]; omega)]
    exact h3 q hq
  · rw [List.getElem?_set] at hj
    by_cases hij : i = j
    · subst hij
      rw [if_pos rfl] at hj
      split at hj
      · cases hj; exact he
      · cases hj
    · rw [if_neg hij] at hj
      exact (h4 j e hj).kept (fun hj11 => oq _ (fw_ad_inj h11 hj11 hij))
theorem fw_P.push {G : fw_G} {H H' : Heap} {h : fw_H} (hP : fw_P G H h) {e' : fw_E} (hz : H'.size = H.size + 1) (oq : ∀ q : Nat, q < H.size → H'[q]? = H[q]?) (he : fw_at G H' h.length e') : fw_P G H' (h ++ [e']) := by
  obtain ⟨h1, h2, h3, h4⟩ := hP
  refine ⟨by simp; omega, by simp; omega, fun q hq => ?_, fun j e hj => ?_⟩
  · rw [oq q (by omega)]
    exact h3 q hq
  · by_cases hl : j < h.length
    · rw [List.getElem?_append_left hl] at hj
      exact (h4 j e hj).kept (fun hj11 => oq _ (by rw [fw_ad_own hj11]; omega))
    · rw [List.getElem?_append_right (by omega)] at hj
      have hz : j - h.length < 1 := (List.getElem?_eq_some_iff.mp hj).1
      have hj2 : j = h.length := by omega
      subst hj2
      simp at hj
      subst hj
      exact he
theorem fw_ad_new {G : fw_G} {H : Heap} {h : fw_H} (hP : fw_P G H h) : fw_ad G h.length = H.size := by
  have h1 := hP.1; rw [fw_ad_own hP.1]; have := hP.2.1; omega

-- METHODS, RUNS
/-- name, bytes, locals, answer, instructions (place, instruction, next place) -/
abbrev fw_M : Type := MethodName × (ByteArray × (Nat × (Option FieldType × List (Nat × (Instr × Nat)))))
def fw_ri : Option fw_V → Instr
  | none => .return_
  | some (.inl _) => .ireturn
  | some (.inr (.inl _)) => .lreturn
  | some (.inr (.inr _)) => .areturn
/-- the answer is one that the method's type allows -/
def fw_rn (ret : Option FieldType) : Option fw_V → Prop
  | none => ret = none
  | some (.inl x) => ∃ ty, ret = some ty ∧ narrow ty (.int x) = .int x
  | some (.inr (.inl _)) => ret = some .long
  | some (.inr (.inr _)) => ∃ n, ret = some (.object n)
/-- how a method ends at pc: it answers v; or (of a method without a name: the one that throws) at 21 it throws -/
def fw_end (M : fw_M) (v : Option fw_V) (ls : Array Slot) (pc : Nat) : Prop := (decode M.2.1 pc = .ok (fw_ri v, 1) ∧ fw_rn M.2.2.2.1 v) ∨ (v = none ∧ pc = 21 ∧ M.1.name = "" ∧ ls.size = M.2.2.1)
/-- locals: what is known of them; the first row of a place counts -/
abbrev fw_L : Type := List (Nat × Option fw_V)
def fw_get : fw_L → Nat → Option fw_V
  | [], _ => none
  | q :: l, i => bif q.1 == i then q.2 else fw_get l i
def fw_lh (G : fw_G) (ls : Array Slot) (nL : Nat) (lv : fw_L) : Prop := ls.size = nL ∧ lv_wf ls ∧ ∀ (i : Nat) (v : fw_V), fw_get lv i = some v → ls[i]? = some (.val (fw_tr G v))
/-- what holds all along a method's run -/
def fw_C (G : fw_G) (M : fw_M) (l : Launch) (p : Program) (s : State) (m : MethodId) (args : Array Value) (meth : Method) (c : Code) : Prop :=
  p.tables.exec = Jvm.exec ∧ c.code = M.2.1 ∧ c.maxLocals = M.2.2.1 ∧ meth.sig.returnType = M.2.2.2.1 ∧ meth.locks = false ∧ s.vm.findClass M.1.cls = some m.cls ∧ (M.1.name = "<init>" → meth.name = "<init>") ∧ (∀ w ∈ fw_tb, w.before args s = true) ∧ fw_K G s ∧ fw_base G ≤ s.heap.size ∧
  (∀ e ∈ M.2.2.2.2, e.1 < e.2.2 ∧ decode M.2.1 e.1 = .ok (e.2.1, e.2.2 - e.1)) ∧ l.stackTraces = false
/-- where the run stands: room, heap, locals, and what becomes of its answer -/
def fw_Y (G : fw_G) (M : fw_M) (d k n : Nat) (lv : fw_L) (h : fw_H) (r : Option fw_V × fw_H) (l : Launch) (p : Program) (e : Env) (R : Room) (s : State) (m : MethodId) (args : Array Value) (below : List Frame) (meth : Method) (c : Code) (H : Heap) (ls : Array Slot) (locs : List Loc) (cells slots : Nat) (Q : State → Prop) : Prop :=
  d ≤ R.frames ∧ 60 * d ≤ R.locals ∧ cells + k ≤ R.cells ∧ slots + n ≤ R.slots ∧ fw_P G H h ∧ s.heap.size ≤ H.size ∧ fw_lh G ls M.2.2.1 lv ∧ (∀ q ∈ locs, fw_base G ≤ q.base) ∧
  ∀ (H' : Heap) (ls' : Array Slot) (locs' : List Loc) (cells' slots' pc' : Nat), fw_P G H' r.2 → s.heap.size ≤ H'.size → (∀ q ∈ locs', fw_base G ≤ q.base) → cells' ≤ cells + k → slots' ≤ slots + n → fw_end M r.1 ls' pc' →
    W p l e R s m args below meth c H' locs' cells' slots' Q (F0 m pc' ls' (r.1.toList.map (fw_tr G)))
/-- from here on the method comes to its end, and its answer and heap are those of t, if t is some -/
def fw_R (G : fw_G) (M : fw_M) {α : Type} (E : α → Option fw_V × fw_H) (d k n pc : Nat) (lv : fw_L) (st : List fw_V) (h : fw_H) (t : Option α) : Prop :=
  ∀ r : α, t = some r → ∀ (l : Launch) (p : Program) (e : Env) (R : Room) (s : State) (m : MethodId) (args : Array Value) (below : List Frame) (meth : Method) (c : Code) (H : Heap) (ls : Array Slot) (locs : List Loc) (cells slots : Nat) (Q : State → Prop),
    fw_C G M l p s m args meth c → fw_Y G M d k n lv h (E r) l p e R s m args below meth c H ls locs cells slots Q → W p l e R s m args below meth c H locs cells slots Q (F0 m pc ls (st.map (fw_tr G)))
theorem fw_C.dec {G : fw_G} {M : fw_M} {l : Launch} {p : Program} {s : State} {m : MethodId} {args : Array Value} {meth : Method} {c : Code} (C : fw_C G M l p s m args meth c) {i pc q : Nat} {ins : Instr} (h : M.2.2.2.2[i]? = some (pc, ins, q)) {len : Nat} (hl : len = q - pc) : decode M.2.1 pc = .ok (ins, len) := by
  subst hl
  exact (C.2.2.2.2.2.2.2.2.2.2.1 _ (List.mem_of_getElem? h)).2
theorem fw_C.nx {G : fw_G} {M : fw_M} {l : Launch} {p : Program} {s : State} {m : MethodId} {args : Array Value} {meth : Method} {c : Code} (C : fw_C G M l p s m args meth c) {i pc q : Nat} {ins : Instr} (h : M.2.2.2.2[i]? = some (pc, ins, q)) {len : Nat} (hd : decode M.2.1 pc = .ok (ins, len)) : pc + len = q := by
  obtain ⟨h1, h2⟩ := C.2.2.2.2.2.2.2.2.2.2.1 _ (List.mem_of_getElem? h)
  have h3 := h2.symm.trans hd
  simp at h3
  have h1 : pc < q := h1
  omega
