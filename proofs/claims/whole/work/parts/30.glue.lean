/-! THE CLAIM OUT OF ONE WALK OF THE LAW'S BODY. Your part is whole_start (and what it stands on); all else here is the same for every law, but numbers. -/
def R_law : String := "OneJoyLaw"
def lw_P (b : Addr) (xs : List Int32) (args : Array Value) (s : State) : Prop := args = #[.ref b] ∧ s.IntsAt b xs ∧ xs.length ≤ 3072 ∧ (Jvm.Cond.and given_1 narrow_1).before args s = true
def lw_Q (_ : Array Value) (s : State) (o : Outcome) (t : State) : Prop := o = .returned (some (.int 1)) ∧ Framed s o t [] 601024 7293034
def lw_Z (below : List Frame) (a : Array Value) (s : State) : State → Prop := fun t => ∃ o, t.status = .running ∧ Ended t below o ∧ lw_Q a s o t
/-- the law's own end, with 1 on the stack, nothing written that was there before, its room as the claim has it -/
theorem lw_ret {p : Program} {l : Launch} {e : Env} {s : State} {m : MethodId} {below : List Frame} {meth : Method} {c : Code} {b : Nat} (hx : p.tables.exec = Jvm.exec) (hb : c.code = code) (hr : meth.sig.returnType = ret) (hlocks : meth.locks = false) {pc : Nat} {H : Heap} {ls : Array Slot} (hdg : decode code pc = .ok (.ireturn, 1)) : W p l e room_1 s m #[Value.ref b] below meth c H [] 601024 7293034 (lw_Z below #[Value.ref b] s) (F0 m pc ls [.int 1]) := by
  intro T hT X
  obtain ⟨fs, hret, hrun, hended, hW, hframe⟩ := X.leave (v := some (.int 1)) (hlocks := hlocks) (fun h => by rw [hr] at h; cases h)
  have hmeth' : T.vm.method? m = some meth := X.method'
  refine ⟨T.setFrames fs, ?_, .returned (some (.int 1)), hrun, hended, rfl, ⟨_, rfl⟩, hW, hframe⟩
  jvm_step X.here [X.here.top, hx, hb, hdg, hmeth', hr, ret, narrow_b1]
  (try refine ⟨rfl, ?_⟩); (try refine ⟨rfl, ?_⟩)
  first | (intro acts; rw [hret _ acts rfl rfl rfl]) | rw [hret _ _ rfl rfl rfl]
  exact Steps.refl _
/-- what holds at the law's entry: the machine, the code, the tables' words (any of lw_tbl by 'hts w (by decide +kernel)'), the script of L ints xs at the cell b, what the Statement gives of the start (any of its parts by flat_of_before) -/
def lw_At (p : Program) (s : State) (m : MethodId) (meth : Method) (c : Code) (b L : Nat) (xs : Nat → Int32) : Prop :=
  p.tables.exec = Jvm.exec ∧ c.code = code ∧ meth.sig.returnType = ret ∧ c.maxLocals = 7 ∧ s.vm.findClass R_law = some m.cls ∧ (∀ w ∈ lw_tbl, w.before #[Value.ref b] s = true) ∧ va_X b L xs s s.heap ∧ b < s.heap.size ∧ meth.locks = false ∧ (Jvm.Cond.and given_1 narrow_1).before #[Value.ref b] s = true
theorem gl_st {l : Launch} (hflags : l.flags = flags0) : l.stackTraces = false := by
  unfold Launch.stackTraces
  rw [hflags]
  decide +kernel
/-- the law's run, if its shallow function answers true -/
theorem gl_run {p : Program} {e : Env} {s : State} {m : MethodId} {below : List Frame} {meth : Method} {c : Code} (l : Launch) (hst : l.stackTraces = false) {b L : Nat} {xs : Nat → Int32} (C0 : lw_At p s m meth c b L xs) {G : fw_G} {h0 h' : fw_H} (F : Nat) (hK : fw_K G s) (hP : fw_P G s.heap h0) (hb : fw_base G = s.heap.size) (ha : fw_ad G 0 = b) (hok : s_Law0_law F h0 (some 0) = some (true, h')) :
    W p l e room_1 s m #[Value.ref b] below meth c s.heap [] 0 0 (lw_Z below #[Value.ref b] s) (entryFrame m ([Value.ref b] : List Value).toArray 7) := by
  subst ha
  obtain ⟨c1, c2, c3, c4, c5, c6, c7, c8, c9, c10⟩ := C0
  rw [lg_entry_eq]
  have hl := lv_entry ([fw_r (some 0)].map (fw_tr G)) (n := 7) (by rw [fw_sl_len]; exact Nat.le_of_ble_eq_true rfl)
  have e9 : fw_ent 0 [fw_r (some 0)] = [(0, some (fw_r (some 0)))] := rfl
  refine cr_Law0_law (G := G) F (v0 := some 0) (true, h') hok l p e room_1 s m _ below meth c s.heap _ [] 0 0 _ ⟨c1, c2, c4, c3, c9, c5, fun z => absurd z (by decide), fun w hw => c6 w (List.mem_filter.mp hw).1, hK, Nat.le_of_eq hb, dec_Law0_law, hst⟩
    ⟨Nat.le_of_ble_eq_true rfl, Nat.le_of_ble_eq_true rfl, Nat.le_of_ble_eq_true rfl, Nat.le_of_ble_eq_true rfl, hP, Nat.le_refl _, ⟨hl.1, hl.2.1, fun j v hv => hl.2.2 _ (fw_ent_mem G [fw_r (some 0)] 0 j v (by rw [e9]; exact hv))⟩, (fun q hq => by cases hq), ?_⟩
  intro H' ls' locs' cells' slots' pc' hP' hz hl' hc' hs' hend
  have hdg : decode code pc' = .ok (.ireturn, 1) := hend.elim (fun z => z.1) (fun z => (Option.some_ne_none _ z.1).elim)
  refine va_forget (fun q hq => by rw [← hb]; exact hl' q hq) (W.widen (k := 601024) (n := 7293034) (by omega) (by omega) ?_)
  exact lw_ret c1 c2 c3 c9 hdg
