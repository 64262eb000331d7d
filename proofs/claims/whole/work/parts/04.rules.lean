def fw_b (b : Bool) : Int32 := bif b then 1 else 0
def fw_irem (x y : Int32) : Int32 := x - x / y * y
def fw_lrem (x y : Int64) : Int64 := x - x / y * y
def f_idiv (x y : Int32) : Option Int32 := if y = 0 then none else some (x / y)
def f_irem (x y : Int32) : Option Int32 := if y = 0 then none else some (fw_irem x y)
def f_ldiv (x y : Int64) : Option Int64 := if y = 0 then none else some (x / y)
def f_lrem (x y : Int64) : Option Int64 := if y = 0 then none else some (fw_lrem x y)
def fw_iushr (x y : Int32) : Int32 := (x.toUInt32 >>> (y.toUInt32 &&& Int32.toUInt32 31)).toInt32
def fw_lushr (x : Int64) (y : Int32) : Int64 := (x.toUInt64 >>> (y.toInt64.toUInt64 &&& Int64.toUInt64 63)).toInt64
def fw_lshl (x : Int64) (y : Int32) : Int64 := x <<< (y.toInt64 &&& 63)
def fw_i2c (x : Int32) : Int32 := (x.toUInt32 % 65536).toInt32
-- RULES: an instruction each. The goal first; t is the shallow term
section RU
variable {G : fw_G} {M : fw_M} {α : Type} {E : α → Option fw_V × fw_H} {d k n i pc q : Nat} {lv : fw_L} {st : List fw_V} {h : fw_H} {t : Option α}
theorem fw_lat {G : fw_G} {ls : Array Slot} {nL : Nat} {lv : fw_L} (hL : fw_lh G ls nL lv) {j : Nat} {v : fw_V} (hv : fw_get lv j = some v) : ls[j]? = some (.val (fw_tr G v)) := hL.2.2 j v hv
/-- known locals as a list of the kit's -/
def fw_kl (G : fw_G) (lv : fw_L) : List (Nat × Value) := lv.filterMap fun q => (fw_get lv q.1).map fun v => (q.1, fw_tr G v)
theorem fw_get_mem {lv : fw_L} {j : Nat} {v : fw_V} (h : fw_get lv j = some v) : ∃ o, (j, o) ∈ lv := by
  induction lv with
  | nil => cases h
  | cons q l ih =>
    simp only [fw_get] at h
    by_cases e : q.1 = j
    · exact ⟨q.2, by rw [← e]; exact List.mem_cons_self⟩
    · rw [show (q.1 == j) = false by simpa using e] at h
      obtain ⟨o, ho⟩ := ih h
      exact ⟨o, List.mem_cons_of_mem _ ho⟩
theorem fw_kl_mem {G : fw_G} {lv : fw_L} {j : Nat} {v : fw_V} (h : fw_get lv j = some v) : (j, fw_tr G v) ∈ fw_kl G lv := by
  obtain ⟨o, ho⟩ := fw_get_mem h
  exact List.mem_filterMap.mpr ⟨(j, o), ho, by simp [h]⟩
theorem fw_kl_has {G : fw_G} {ls : Array Slot} {nL : Nat} {lv : fw_L} (hL : fw_lh G ls nL lv) : lv_has ls nL (fw_kl G lv) := by
  refine ⟨hL.1, hL.2.1, fun q hq => ?_⟩
  obtain ⟨⟨j, o⟩, -, h2⟩ := List.mem_filterMap.mp hq
  cases hg : fw_get lv j with
  | none => simp [hg] at h2
  | some v =>
    simp [hg] at h2
    rw [← h2]
    exact hL.2.2 j v hg
def fw_cat : fw_V → Nat
  | .inl _ => 1
  | .inr (.inl _) => 2
  | .inr (.inr _) => 1
theorem fw_cat_tr (G : fw_G) (v : fw_V) : (fw_tr G v).category = fw_cat v := by
  match v with
  | .inl _ => rfl
  | .inr (.inl _) => rfl
  | .inr (.inr r) => cases r <;> rfl
/-- no long stands just below j (it would be cut) -/
def fw_nol (lv : fw_L) : Nat → Bool
  | 0 => true
  | j + 1 => match fw_get lv j with
    | some (.inr (.inl _)) => false
    | _ => true
theorem fw_nol_of {lv : fw_L} {j : Nat} (h : ∀ y, fw_get lv j ≠ some (fw_j y)) : fw_nol lv (j + 1) = true := by
  simp only [fw_nol]
theorem fw_sto1 {G : fw_G} {ls : Array Slot} {nL : Nat} {lv : fw_L} (hL : fw_lh G ls nL lv) {j : Nat} {v : fw_V} (hj : j < nL) (hc : fw_cat v = 1) (hn : fw_nol lv j = true) :
    ∃ ls', storeLocals ls j (fw_tr G v) = some ls' ∧ fw_lh G ls' nL ((j, some v) :: lv) := by
  obtain ⟨ls', e, h1, h2, h3⟩ := lv_store1 (v := fw_tr G v) (fw_kl_has hL) hj (by rw [fw_cat_tr]; exact hc)
  refine ⟨ls', e, h1, h2, fun i w hw => ?_⟩
  simp only [fw_get] at hw
  by_cases e2 : j = i
  · subst e2
    simp at hw
    subst hw
    exact h3 (j, fw_tr G v) List.mem_cons_self
  · rw [show (j == i) = false by simpa using e2] at hw
    refine h3 (i, fw_tr G w) (List.mem_cons_of_mem _ (List.mem_filter.mpr ⟨fw_kl_mem hw, ?_⟩))
    simp only [Bool.and_eq_true, Bool.not_eq_true', beq_eq_false_iff_ne, Bool.and_eq_false_iff, ne_eq]
    refine ⟨fun x => e2 x.symm, ?_⟩
    by_cases e3 : i + 1 = j
    · right
      subst e3
      have hw : fw_get lv i = some w := hw
      rw [fw_cat_tr]
      match w, hw with
      | .inl _, _ => exact fun x => by cases x
      | .inr (.inl _), hw => simp [fw_nol, hw] at hn
      | .inr (.inr _), _ => exact fun x => by cases x
    · exact Or.inl e3
theorem fw_sto2 {G : fw_G} {ls : Array Slot} {nL : Nat} {lv : fw_L} (hL : fw_lh G ls nL lv) {j : Nat} {v : fw_V} (hj : j + 1 < nL) (hc : fw_cat v = 2) (hn : fw_nol lv j = true) :
    ∃ ls', storeLocals ls j (fw_tr G v) = some ls' ∧ fw_lh G ls' nL ((j, some v) :: (j + 1, none) :: lv) := by
  obtain ⟨ls', e, h1, h2, h3⟩ := lv_store2 (v := fw_tr G v) (fw_kl_has hL) hj (by rw [fw_cat_tr]; exact hc)
  refine ⟨ls', e, h1, h2, fun i w hw => ?_⟩
  simp only [fw_get] at hw
  by_cases e2 : j = i
  · subst e2
    simp at hw
    subst hw
    exact h3 (j, fw_tr G v) List.mem_cons_self
  · rw [show (j == i) = false by simpa using e2] at hw
    by_cases e4 : j + 1 = i
    · subst e4
      simp at hw
    rw [show (j + 1 == i) = false by simpa using e4] at hw
    refine h3 (i, fw_tr G w) (List.mem_cons_of_mem _ (List.mem_filter.mpr ⟨fw_kl_mem hw, ?_⟩))
    simp only [Bool.and_eq_true, Bool.not_eq_true', beq_eq_false_iff_ne, Bool.and_eq_false_iff, ne_eq]
    refine ⟨fun x => e2 x.symm, fun x => e4 x.symm, ?_⟩
    by_cases e3 : i + 1 = j
    · right
      subst e3
      have hw : fw_get lv i = some w := hw
      rw [fw_cat_tr]
      match w, hw with
      | .inl _, _ => exact fun x => by cases x
      | .inr (.inl _), hw => simp [fw_nol, hw] at hn
      | .inr (.inr _), _ => exact fun x => by cases x
    · exact Or.inl e3
theorem fw_kill {G : fw_G} {ls : Array Slot} {nL : Nat} {lv : fw_L} (hL : fw_lh G ls nL lv) (j : Nat) : fw_lh G ls nL ((j, none) :: lv) := by
  refine ⟨hL.1, hL.2.1, fun i v hv => ?_⟩
  simp only [fw_get] at hv
  by_cases e : j = i
  · subst e; simp at hv
  · rw [show (j == i) = false by simpa using e] at hv
    exact hL.2.2 i v hv
/-- fewer known locals -/
def fw_sub (lv : fw_L) : fw_L → Prop
  | [] => True
  | q :: l => (∀ v, q.2 = some v → fw_get lv q.1 = some v) ∧ fw_sub lv l
theorem fw_sub_get {lv lv' : fw_L} (h : fw_sub lv lv') {i : Nat} {v : fw_V} (hg : fw_get lv' i = some v) : fw_get lv i = some v := by
  induction lv' with
  | nil => cases hg
  | cons q l ih =>
    obtain ⟨h1, h2⟩ := h
    simp only [fw_get] at hg
    by_cases e : q.1 = i
    · rw [show (q.1 == i) = true by simpa using e] at hg
      rw [← e]
      exact h1 v hg
    · rw [show (q.1 == i) = false by simpa using e] at hg
      exact ih h2 hg
theorem fw_sub1 {lv l : fw_L} {i : Nat} {v : fw_V} (h : fw_get lv i = some v) (hl : fw_sub lv l) : fw_sub lv ((i, some v) :: l) := ⟨fun w hw => by cases hw; exact h, hl⟩
theorem fw_sub0 {lv : fw_L} : fw_sub lv [] := trivial
theorem r_lv {lv' : fw_L} (hs : fw_sub lv lv') (kk : fw_R G M E d k n pc lv' st h t) : fw_R G M E d k n pc lv st h t := by
  intro r hr l p e R s m args below meth c H ls locs cells slots Q C X
  obtain ⟨x1, x2, x3, x4, x5, x6, ⟨y1, y2, y3⟩, x8⟩ := X
  exact kk r hr l p e R s m args below meth c H ls locs cells slots Q C ⟨x1, x2, x3, x4, x5, x6, ⟨y1, y2, fun i v hv => y3 i v (fw_sub_get hs hv)⟩, x8⟩
theorem r_none : fw_R G M E d k n pc lv st h (none : Option α) := fun r hr => by cases hr
theorem r_eq {t' : Option α} (he : t = t') (kk : fw_R G M E d k n pc lv st h t') : fw_R G M E d k n pc lv st h t := he ▸ kk
theorem r_split {c : Prop} [Decidable c] {t1 t2 : Option α} (k1 : c → fw_R G M E d k n pc lv st h t1) (k2 : ¬ c → fw_R G M E d k n pc lv st h t2) : fw_R G M E d k n pc lv st h (if c then t1 else t2) := by
  by_cases hc : c
  · rw [if_pos hc]; exact k1 hc
  · rw [if_neg hc]; exact k2 hc
theorem r_iconst {z : Int} (v : Int32) (hv : Int32.ofInt z = v) (hd : M.2.2.2.2[i]? = some (pc, .iconst z, q)) (hq : pc + 1 = q) (kk : fw_R G M E d k n q lv (fw_i v :: st) h t) : fw_R G M E d k n pc lv (st) h t := by
  subst hq
  intro r hr l p e R s m args below meth c H ls locs cells slots Q C X
  exact lv_iconst C.1 C.2.1 (C.dec hd (by omega)) hv (kk r hr l p e R s m args below meth c H ls locs cells slots Q C X)
theorem r_bipush {z : Int} (v : Int32) (hv : (Int8.ofInt z).toInt32 = v) (hd : M.2.2.2.2[i]? = some (pc, .bipush z, q)) (hq : pc + 2 = q) (kk : fw_R G M E d k n q lv (fw_i v :: st) h t) : fw_R G M E d k n pc lv (st) h t := by
  subst hq
  intro r hr l p e R s m args below meth c H ls locs cells slots Q C X
  exact lv_bipush C.1 C.2.1 (C.dec hd (by omega)) hv (kk r hr l p e R s m args below meth c H ls locs cells slots Q C X)
theorem r_sipush {z : Int} (v : Int32) (hv : (Int16.ofInt z).toInt32 = v) (hd : M.2.2.2.2[i]? = some (pc, .sipush z, q)) (hq : pc + 3 = q) (kk : fw_R G M E d k n q lv (fw_i v :: st) h t) : fw_R G M E d k n pc lv (st) h t := by
  subst hq
  intro r hr l p e R s m args below meth c H ls locs cells slots Q C X
  exact lv_sipush C.1 C.2.1 (C.dec hd (by omega)) hv (kk r hr l p e R s m args below meth c H ls locs cells slots Q C X)
theorem r_lconst {z : Fin 2} (v : Int64) (hv : Int64.ofNat (z : Nat) = v) (hd : M.2.2.2.2[i]? = some (pc, .lconst z, q)) (hq : pc + 1 = q) (kk : fw_R G M E d k n q lv (fw_j v :: st) h t) : fw_R G M E d k n pc lv (st) h t := by
  subst hq
  intro r hr l p e R s m args below meth c H ls locs cells slots Q C X
  exact lv_lconst C.1 C.2.1 (C.dec hd (by omega)) hv (kk r hr l p e R s m args below meth c H ls locs cells slots Q C X)
theorem r_ldc {x : Nat} {v : Int32} (hw : Cond.constant M.1.cls x v ∈ fw_tb) (hd : M.2.2.2.2[i]? = some (pc, .ldc x, q)) (hq : pc + 2 = q) (kk : fw_R G M E d k n q lv (fw_i v :: st) h t) : fw_R G M E d k n pc lv st h t := by
  subst hq
  intro r hr l p e R s m args below meth c H ls locs cells slots Q C X
  exact lv_ldc C.1 C.2.1 C.2.2.2.2.2.1 (C.2.2.2.2.2.2.2.1 _ hw) (C.dec hd (by omega)) (kk r hr l p e R s m args below meth c H ls locs cells slots Q C X)
theorem r_ldcw {x : Nat} {v : Int32} (hw : Cond.constant M.1.cls x v ∈ fw_tb) (hd : M.2.2.2.2[i]? = some (pc, .ldc_w x, q)) (hq : pc + 3 = q) (kk : fw_R G M E d k n q lv (fw_i v :: st) h t) : fw_R G M E d k n pc lv st h t := by
  subst hq
  intro r hr l p e R s m args below meth c H ls locs cells slots Q C X
  exact lv_ldcw C.1 C.2.1 C.2.2.2.2.2.1 (C.2.2.2.2.2.2.2.1 _ hw) (C.dec hd (by omega)) (kk r hr l p e R s m args below meth c H ls locs cells slots Q C X)
theorem r_ldc2 {x : Nat} {v : Int64} (hw : Cond.constantLong M.1.cls x v ∈ fw_tb) (hd : M.2.2.2.2[i]? = some (pc, .ldc2_w x, q)) (hq : pc + 3 = q) (kk : fw_R G M E d k n q lv (fw_j v :: st) h t) : fw_R G M E d k n pc lv st h t := by
  subst hq
  intro r hr l p e R s m args below meth c H ls locs cells slots Q C X
  exact lv_ldc2 C.1 C.2.1 C.2.2.2.2.2.1 (C.2.2.2.2.2.2.2.1 _ hw) (C.dec hd (by omega)) (kk r hr l p e R s m args below meth c H ls locs cells slots Q C X)
theorem r_null (hd : M.2.2.2.2[i]? = some (pc, .aconst_null, q)) (hq : pc + 1 = q) (kk : fw_R G M E d k n q lv (fw_r none :: st) h t) : fw_R G M E d k n pc lv st h t := by
  subst hq
  intro r hr l p e R s m args below meth c H ls locs cells slots Q C X
  exact lv_null C.1 C.2.1 (C.dec hd (by omega)) (kk r hr l p e R s m args below meth c H ls locs cells slots Q C X)
theorem r_iload_n {z : Fin 4} {x : Int32} (hd : M.2.2.2.2[i]? = some (pc, .iload_n z, q)) (hq : pc + 1 = q) (hg : fw_get lv z.val = some (fw_i x)) (kk : fw_R G M E d k n q lv (fw_i x :: st) h t) : fw_R G M E d k n pc lv st h t := by
  subst hq
  intro r hr l p e R s m args below meth c H ls locs cells slots Q C X
  exact lv_iload_n C.1 C.2.1 (C.dec hd (by omega)) rfl (fw_lat X.2.2.2.2.2.2.1 hg) (kk r hr l p e R s m args below meth c H ls locs cells slots Q C X)
theorem r_iload {z : Nat} {x : Int32} (hd : M.2.2.2.2[i]? = some (pc, .iload z, q)) (hq : pc + 2 = q) (hg : fw_get lv z = some (fw_i x)) (kk : fw_R G M E d k n q lv (fw_i x :: st) h t) : fw_R G M E d k n pc lv st h t := by
  subst hq
  intro r hr l p e R s m args below meth c H ls locs cells slots Q C X
  exact lv_iload C.1 C.2.1 (C.dec hd (by omega)) (fw_lat X.2.2.2.2.2.2.1 hg) (kk r hr l p e R s m args below meth c H ls locs cells slots Q C X)
theorem r_lload_n {z : Fin 4} {x : Int64} (hd : M.2.2.2.2[i]? = some (pc, .lload_n z, q)) (hq : pc + 1 = q) (hg : fw_get lv z.val = some (fw_j x)) (kk : fw_R G M E d k n q lv (fw_j x :: st) h t) : fw_R G M E d k n pc lv st h t := by
  subst hq
  intro r hr l p e R s m args below meth c H ls locs cells slots Q C X
  exact lv_lload_n C.1 C.2.1 (C.dec hd (by omega)) rfl (fw_lat X.2.2.2.2.2.2.1 hg) (kk r hr l p e R s m args below meth c H ls locs cells slots Q C X)
theorem r_lload {z : Nat} {x : Int64} (hd : M.2.2.2.2[i]? = some (pc, .lload z, q)) (hq : pc + 2 = q) (hg : fw_get lv z = some (fw_j x)) (kk : fw_R G M E d k n q lv (fw_j x :: st) h t) : fw_R G M E d k n pc lv st h t := by
  subst hq
  intro r hr l p e R s m args below meth c H ls locs cells slots Q C X
  exact lv_lload C.1 C.2.1 (C.dec hd (by omega)) (fw_lat X.2.2.2.2.2.2.1 hg) (kk r hr l p e R s m args below meth c H ls locs cells slots Q C X)
theorem r_aload_n {z : Fin 4} {x : Option Nat} (hd : M.2.2.2.2[i]? = some (pc, .aload_n z, q)) (hq : pc + 1 = q) (hg : fw_get lv z.val = some (fw_r x)) (kk : fw_R G M E d k n q lv (fw_r x :: st) h t) : fw_R G M E d k n pc lv st h t := by
  subst hq
  intro r hr l p e R s m args below meth c H ls locs cells slots Q C X
  cases x with
  | none => exact lv_aload_nN C.1 C.2.1 (C.dec hd (by omega)) rfl (fw_lat X.2.2.2.2.2.2.1 hg) (kk r hr l p e R s m args below meth c H ls locs cells slots Q C X)
  | some a => exact lv_aload_n C.1 C.2.1 (C.dec hd (by omega)) rfl (fw_lat X.2.2.2.2.2.2.1 hg) (kk r hr l p e R s m args below meth c H ls locs cells slots Q C X)
theorem r_aload {z : Nat} {x : Option Nat} (hd : M.2.2.2.2[i]? = some (pc, .aload z, q)) (hq : pc + 2 = q) (hg : fw_get lv z = some (fw_r x)) (kk : fw_R G M E d k n q lv (fw_r x :: st) h t) : fw_R G M E d k n pc lv st h t := by
  subst hq
  intro r hr l p e R s m args below meth c H ls locs cells slots Q C X
  cases x with
  | none => exact lv_aloadN C.1 C.2.1 (C.dec hd (by omega)) (fw_lat X.2.2.2.2.2.2.1 hg) (kk r hr l p e R s m args below meth c H ls locs cells slots Q C X)
  | some a => exact lv_aload C.1 C.2.1 (C.dec hd (by omega)) (fw_lat X.2.2.2.2.2.2.1 hg) (kk r hr l p e R s m args below meth c H ls locs cells slots Q C X)
theorem r_istore_n {z : Fin 4} {x : Int32} (hd : M.2.2.2.2[i]? = some (pc, .istore_n z, q)) (hq : pc + 1 = q) (hlt : z.val < M.2.2.1) (hn : fw_nol lv z.val = true) (kk : fw_R G M E d k n q ((z.val, some (fw_i x)) :: lv) st h t) : fw_R G M E d k n pc lv (fw_i x :: st) h t := by
  subst hq
  intro r hr l p e R s m args below meth c H ls locs cells slots Q C X
  have hdg : decode M.2.1 pc = .ok (.istore_n z, 1) := C.dec hd (by omega)
  obtain ⟨x1, x2, x3, x4, x5, x6, x7, x8⟩ := X
  obtain ⟨ls', e', hL⟩ := fw_sto1 (v := fw_i x) x7 hlt rfl hn
  intro T hT X'
  obtain ⟨t', a, b⟩ := kk r hr l p e R s m args below meth c H ls' locs cells slots Q C ⟨x1, x2, x3, x4, x5, x6, hL, x8⟩ T hT X'
  refine ⟨t', ?_, b⟩
  have e' : storeLocals ls z.val (.int x) = some ls' := e'
  jvm_step X'.here [X'.here.top, ↓top_set X'.here.top, C.1, C.2.1, hdg, e', fw_tr]
  exact a
theorem r_lstore_n {z : Fin 4} {x : Int64} (hd : M.2.2.2.2[i]? = some (pc, .lstore_n z, q)) (hq : pc + 1 = q) (hlt : z.val + 1 < M.2.2.1) (hn : fw_nol lv z.val = true) (kk : fw_R G M E d k n q ((z.val, some (fw_j x)) :: (z.val + 1, none) :: lv) st h t) : fw_R G M E d k n pc lv (fw_j x :: st) h t := by
  subst hq
  intro r hr l p e R s m args below meth c H ls locs cells slots Q C X
  have hdg : decode M.2.1 pc = .ok (.lstore_n z, 1) := C.dec hd (by omega)
  obtain ⟨x1, x2, x3, x4, x5, x6, x7, x8⟩ := X
  obtain ⟨ls', e', hL⟩ := fw_sto2 (v := fw_j x) x7 hlt rfl hn
  intro T hT X'
  obtain ⟨t', a, b⟩ := kk r hr l p e R s m args below meth c H ls' locs cells slots Q C ⟨x1, x2, x3, x4, x5, x6, hL, x8⟩ T hT X'
  refine ⟨t', ?_, b⟩
  have e' : storeLocals ls z.val (.long x) = some ls' := e'
  jvm_step X'.here [X'.here.top, ↓top_set X'.here.top, C.1, C.2.1, hdg, e', fw_tr]
  exact a
theorem r_astore_n {z : Fin 4} {x : Option Nat} (hd : M.2.2.2.2[i]? = some (pc, .astore_n z, q)) (hq : pc + 1 = q) (hlt : z.val < M.2.2.1) (hn : fw_nol lv z.val = true) (kk : fw_R G M E d k n q ((z.val, some (fw_r x)) :: lv) st h t) : fw_R G M E d k n pc lv (fw_r x :: st) h t := by
  subst hq
  intro r hr l p e R s m args below meth c H ls locs cells slots Q C X
  have hdg : decode M.2.1 pc = .ok (.astore_n z, 1) := C.dec hd (by omega)
  obtain ⟨x1, x2, x3, x4, x5, x6, x7, x8⟩ := X
  obtain ⟨ls', e', hL⟩ := fw_sto1 (v := fw_r x) x7 hlt rfl hn
  intro T hT X'
  obtain ⟨t', a, b⟩ := kk r hr l p e R s m args below meth c H ls' locs cells slots Q C ⟨x1, x2, x3, x4, x5, x6, hL, x8⟩ T hT X'
  refine ⟨t', ?_, b⟩
  cases x with
  | none =>
    have e' : storeLocals ls z.val .null = some ls' := e'
    jvm_step X'.here [X'.here.top, ↓top_set X'.here.top, C.1, C.2.1, hdg, e', Value.isRef, fw_tr, va_rf]
    exact a
  | some y =>
    have e' : storeLocals ls z.val (.ref (fw_ad G y)) = some ls' := e'
    jvm_step X'.here [X'.here.top, ↓top_set X'.here.top, C.1, C.2.1, hdg, e', Value.isRef, fw_tr, va_rf]
    exact a
theorem r_istore {z : Nat} {x : Int32} (hd : M.2.2.2.2[i]? = some (pc, .istore z, q)) (hq : pc + 2 = q) (hlt : z < M.2.2.1) (hn : fw_nol lv z = true) (kk : fw_R G M E d k n q ((z, some (fw_i x)) :: lv) st h t) : fw_R G M E d k n pc lv (fw_i x :: st) h t := by
  subst hq
  intro r hr l p e R s m args below meth c H ls locs cells slots Q C X
  have hdg : decode M.2.1 pc = .ok (.istore z, 2) := C.dec hd (by omega)
  obtain ⟨x1, x2, x3, x4, x5, x6, x7, x8⟩ := X
  obtain ⟨ls', e', hL⟩ := fw_sto1 (v := fw_i x) x7 hlt rfl hn
  intro T hT X'
  obtain ⟨t', a, b⟩ := kk r hr l p e R s m args below meth c H ls' locs cells slots Q C ⟨x1, x2, x3, x4, x5, x6, hL, x8⟩ T hT X'
  refine ⟨t', ?_, b⟩
  have e' : storeLocals ls z (.int x) = some ls' := e'
  jvm_step X'.here [X'.here.top, ↓top_set X'.here.top, C.1, C.2.1, hdg, e', fw_tr]
  exact a
theorem r_lstore {z : Nat} {x : Int64} (hd : M.2.2.2.2[i]? = some (pc, .lstore z, q)) (hq : pc + 2 = q) (hlt : z + 1 < M.2.2.1) (hn : fw_nol lv z = true) (kk : fw_R G M E d k n q ((z, some (fw_j x)) :: (z + 1, none) :: lv) st h t) : fw_R G M E d k n pc lv (fw_j x :: st) h t := by
  subst hq
  intro r hr l p e R s m args below meth c H ls locs cells slots Q C X
  have hdg : decode M.2.1 pc = .ok (.lstore z, 2) := C.dec hd (by omega)
  obtain ⟨x1, x2, x3, x4, x5, x6, x7, x8⟩ := X
  obtain ⟨ls', e', hL⟩ := fw_sto2 (v := fw_j x) x7 hlt rfl hn
  intro T hT X'
  obtain ⟨t', a, b⟩ := kk r hr l p e R s m args below meth c H ls' locs cells slots Q C ⟨x1, x2, x3, x4, x5, x6, hL, x8⟩ T hT X'
  refine ⟨t', ?_, b⟩
  have e' : storeLocals ls z (.long x) = some ls' := e'
  jvm_step X'.here [X'.here.top, ↓top_set X'.here.top, C.1, C.2.1, hdg, e', fw_tr]
  exact a
theorem r_astore {z : Nat} {x : Option Nat} (hd : M.2.2.2.2[i]? = some (pc, .astore z, q)) (hq : pc + 2 = q) (hlt : z < M.2.2.1) (hn : fw_nol lv z = true) (kk : fw_R G M E d k n q ((z, some (fw_r x)) :: lv) st h t) : fw_R G M E d k n pc lv (fw_r x :: st) h t := by
  subst hq
  intro r hr l p e R s m args below meth c H ls locs cells slots Q C X
  have hdg : decode M.2.1 pc = .ok (.astore z, 2) := C.dec hd (by omega)
  obtain ⟨x1, x2, x3, x4, x5, x6, x7, x8⟩ := X
  obtain ⟨ls', e', hL⟩ := fw_sto1 (v := fw_r x) x7 hlt rfl hn
  intro T hT X'
  obtain ⟨t', a, b⟩ := kk r hr l p e R s m args below meth c H ls' locs cells slots Q C ⟨x1, x2, x3, x4, x5, x6, hL, x8⟩ T hT X'
  refine ⟨t', ?_, b⟩
  cases x with
  | none =>
    have e' : storeLocals ls z .null = some ls' := e'
    jvm_step X'.here [X'.here.top, ↓top_set X'.here.top, C.1, C.2.1, hdg, e', Value.isRef, fw_tr, va_rf]
    exact a
  | some y =>
    have e' : storeLocals ls z (.ref (fw_ad G y)) = some ls' := e'
    jvm_step X'.here [X'.here.top, ↓top_set X'.here.top, C.1, C.2.1, hdg, e', Value.isRef, fw_tr, va_rf]
    exact a
theorem r_iinc {z : Nat} {w : Int} {x : Int32} (v : Int32) (hw : Int32.ofInt w = v) (hd : M.2.2.2.2[i]? = some (pc, .iinc z w, q)) (hq : pc + 3 = q) (hg : fw_get lv z = some (fw_i x)) (hlt : z < M.2.2.1) (kk : fw_R G M E d k n q ((z, some (fw_i (x + v))) :: lv) st h t) : fw_R G M E d k n pc lv st h t := by
  subst hq
  subst hw
  intro r hr l p e R s m args below meth c H ls locs cells slots Q C X
  have hdg : decode M.2.1 pc = .ok (.iinc z w, 3) := C.dec hd (by omega)
  obtain ⟨x1, x2, x3, x4, x5, x6, x7, x8⟩ := X
  have hg' : ls[z]? = some (.val (.int x)) := fw_lat x7 hg
  have hn : fw_nol lv z = true := by
    cases z with
    | zero => rfl
    | succ j =>
      refine fw_nol_of fun y hj => ?_
      have h1 : ls[j]? = some (.val (.long y)) := fw_lat x7 hj
      have h2 := x7.2.1.1 j _ h1 rfl
      rw [hg'] at h2
      cases h2
  obtain ⟨ls', e', hL⟩ := fw_sto1 (v := fw_i (x + Int32.ofInt w)) x7 hlt rfl hn
  have e' : storeLocals ls z (.int (x + Int32.ofInt w)) = some ls' := e'
  intro T hT X'
  obtain ⟨t', a, b⟩ := kk r hr l p e R s m args below meth c H ls' locs cells slots Q C ⟨x1, x2, x3, x4, x5, x6, hL, x8⟩ T hT X'
  refine ⟨t', ?_, b⟩
  jvm_step X'.here [X'.here.top, ↓top_set X'.here.top, C.1, C.2.1, hdg, hg', e']
  exact a
theorem r_dup_i {x : Int32} (hd : M.2.2.2.2[i]? = some (pc, .dup, q)) (hq : pc + 1 = q) (kk : fw_R G M E d k n q lv (fw_i x :: fw_i x :: st) h t) : fw_R G M E d k n pc lv (fw_i x :: st) h t := by
  subst hq
  intro r hr l p e R s m args below meth c H ls locs cells slots Q C X
  exact lv_dup C.1 C.2.1 (C.dec hd (by omega)) rfl (kk r hr l p e R s m args below meth c H ls locs cells slots Q C X)
theorem r_dup_r {x : Option Nat} (hd : M.2.2.2.2[i]? = some (pc, .dup, q)) (hq : pc + 1 = q) (kk : fw_R G M E d k n q lv (fw_r x :: fw_r x :: st) h t) : fw_R G M E d k n pc lv (fw_r x :: st) h t := by
  subst hq
  intro r hr l p e R s m args below meth c H ls locs cells slots Q C X
  exact lv_dup C.1 C.2.1 (C.dec hd (by omega)) (fw_cat_tr G (fw_r x)) (kk r hr l p e R s m args below meth c H ls locs cells slots Q C X)
theorem r_dup2 {x : Option Nat} {y : Int32} (hd : M.2.2.2.2[i]? = some (pc, .dup2, q)) (hq : pc + 1 = q) (kk : fw_R G M E d k n q lv (fw_i y :: fw_r x :: fw_i y :: fw_r x :: st) h t) : fw_R G M E d k n pc lv (fw_i y :: fw_r x :: st) h t := by
  subst hq
  intro r hr l p e R s m args below meth c H ls locs cells slots Q C X
  exact lv_dup2_11 C.1 C.2.1 (C.dec hd (by omega)) rfl (fw_cat_tr G (fw_r x)) (kk r hr l p e R s m args below meth c H ls locs cells slots Q C X)
theorem r_pop {x : Int32} (hd : M.2.2.2.2[i]? = some (pc, .pop, q)) (hq : pc + 1 = q) (kk : fw_R G M E d k n q lv st h t) : fw_R G M E d k n pc lv (fw_i x :: st) h t := by
  subst hq
  intro r hr l p e R s m args below meth c H ls locs cells slots Q C X
  exact lv_pop C.1 C.2.1 (C.dec hd (by omega)) rfl (kk r hr l p e R s m args below meth c H ls locs cells slots Q C X)
theorem r_iadd {x y : Int32} (hd : M.2.2.2.2[i]? = some (pc, .iadd, q)) (hq : pc + 1 = q) (kk : fw_R G M E d k n q lv (fw_i (x + y) :: st) h t) : fw_R G M E d k n pc lv (fw_i y :: fw_i x :: st) h t := by
  subst hq
  intro r hr l p e R s m args below meth c H ls locs cells slots Q C X
  exact lv_iadd C.1 C.2.1 (C.dec hd (by omega)) (kk r hr l p e R s m args below meth c H ls locs cells slots Q C X)
theorem r_isub {x y : Int32} (hd : M.2.2.2.2[i]? = some (pc, .isub, q)) (hq : pc + 1 = q) (kk : fw_R G M E d k n q lv (fw_i (x - y) :: st) h t) : fw_R G M E d k n pc lv (fw_i y :: fw_i x :: st) h t := by
  subst hq
  intro r hr l p e R s m args below meth c H ls locs cells slots Q C X
  exact lv_isub C.1 C.2.1 (C.dec hd (by omega)) (kk r hr l p e R s m args below meth c H ls locs cells slots Q C X)
theorem r_imul {x y : Int32} (hd : M.2.2.2.2[i]? = some (pc, .imul, q)) (hq : pc + 1 = q) (kk : fw_R G M E d k n q lv (fw_i (x * y) :: st) h t) : fw_R G M E d k n pc lv (fw_i y :: fw_i x :: st) h t := by
  subst hq
  intro r hr l p e R s m args below meth c H ls locs cells slots Q C X
  exact lv_imul C.1 C.2.1 (C.dec hd (by omega)) (kk r hr l p e R s m args below meth c H ls locs cells slots Q C X)
theorem r_iand {x y : Int32} (hd : M.2.2.2.2[i]? = some (pc, .iand, q)) (hq : pc + 1 = q) (kk : fw_R G M E d k n q lv (fw_i (x &&& y) :: st) h t) : fw_R G M E d k n pc lv (fw_i y :: fw_i x :: st) h t := by
  subst hq
  intro r hr l p e R s m args below meth c H ls locs cells slots Q C X
  exact lv_iand C.1 C.2.1 (C.dec hd (by omega)) (kk r hr l p e R s m args below meth c H ls locs cells slots Q C X)
theorem r_ior {x y : Int32} (hd : M.2.2.2.2[i]? = some (pc, .ior, q)) (hq : pc + 1 = q) (kk : fw_R G M E d k n q lv (fw_i (x ||| y) :: st) h t) : fw_R G M E d k n pc lv (fw_i y :: fw_i x :: st) h t := by
  subst hq
  intro r hr l p e R s m args below meth c H ls locs cells slots Q C X
  exact lv_ior C.1 C.2.1 (C.dec hd (by omega)) (kk r hr l p e R s m args below meth c H ls locs cells slots Q C X)
theorem r_ixor {x y : Int32} (hd : M.2.2.2.2[i]? = some (pc, .ixor, q)) (hq : pc + 1 = q) (kk : fw_R G M E d k n q lv (fw_i (x ^^^ y) :: st) h t) : fw_R G M E d k n pc lv (fw_i y :: fw_i x :: st) h t := by
  subst hq
  intro r hr l p e R s m args below meth c H ls locs cells slots Q C X
  exact lv_ixor C.1 C.2.1 (C.dec hd (by omega)) (kk r hr l p e R s m args below meth c H ls locs cells slots Q C X)
theorem r_ishl {x y : Int32} (hd : M.2.2.2.2[i]? = some (pc, .ishl, q)) (hq : pc + 1 = q) (kk : fw_R G M E d k n q lv (fw_i (x <<< (y &&& 31)) :: st) h t) : fw_R G M E d k n pc lv (fw_i y :: fw_i x :: st) h t := by
  subst hq
  intro r hr l p e R s m args below meth c H ls locs cells slots Q C X
  exact lv_ishl C.1 C.2.1 (C.dec hd (by omega)) (kk r hr l p e R s m args below meth c H ls locs cells slots Q C X)
theorem r_ishr {x y : Int32} (hd : M.2.2.2.2[i]? = some (pc, .ishr, q)) (hq : pc + 1 = q) (kk : fw_R G M E d k n q lv (fw_i (x >>> (y &&& 31)) :: st) h t) : fw_R G M E d k n pc lv (fw_i y :: fw_i x :: st) h t := by
  subst hq
  intro r hr l p e R s m args below meth c H ls locs cells slots Q C X
  exact lv_ishr C.1 C.2.1 (C.dec hd (by omega)) (kk r hr l p e R s m args below meth c H ls locs cells slots Q C X)
theorem r_ineg {x : Int32} (hd : M.2.2.2.2[i]? = some (pc, .ineg, q)) (hq : pc + 1 = q) (kk : fw_R G M E d k n q lv (fw_i (-x) :: st) h t) : fw_R G M E d k n pc lv (fw_i x :: st) h t := by
  subst hq
  intro r hr l p e R s m args below meth c H ls locs cells slots Q C X
  exact lv_ineg C.1 C.2.1 (C.dec hd (by omega)) (kk r hr l p e R s m args below meth c H ls locs cells slots Q C X)
theorem r_ladd {x y : Int64} (hd : M.2.2.2.2[i]? = some (pc, .ladd, q)) (hq : pc + 1 = q) (kk : fw_R G M E d k n q lv (fw_j (x + y) :: st) h t) : fw_R G M E d k n pc lv (fw_j y :: fw_j x :: st) h t := by
  subst hq
  intro r hr l p e R s m args below meth c H ls locs cells slots Q C X
  exact lv_ladd C.1 C.2.1 (C.dec hd (by omega)) (kk r hr l p e R s m args below meth c H ls locs cells slots Q C X)
theorem r_lsub {x y : Int64} (hd : M.2.2.2.2[i]? = some (pc, .lsub, q)) (hq : pc + 1 = q) (kk : fw_R G M E d k n q lv (fw_j (x - y) :: st) h t) : fw_R G M E d k n pc lv (fw_j y :: fw_j x :: st) h t := by
  subst hq
  intro r hr l p e R s m args below meth c H ls locs cells slots Q C X
  exact lv_lsub C.1 C.2.1 (C.dec hd (by omega)) (kk r hr l p e R s m args below meth c H ls locs cells slots Q C X)
theorem r_lmul {x y : Int64} (hd : M.2.2.2.2[i]? = some (pc, .lmul, q)) (hq : pc + 1 = q) (kk : fw_R G M E d k n q lv (fw_j (x * y) :: st) h t) : fw_R G M E d k n pc lv (fw_j y :: fw_j x :: st) h t := by
  subst hq
  intro r hr l p e R s m args below meth c H ls locs cells slots Q C X
  exact lv_lmul C.1 C.2.1 (C.dec hd (by omega)) (kk r hr l p e R s m args below meth c H ls locs cells slots Q C X)
theorem r_land {x y : Int64} (hd : M.2.2.2.2[i]? = some (pc, .land, q)) (hq : pc + 1 = q) (kk : fw_R G M E d k n q lv (fw_j (x &&& y) :: st) h t) : fw_R G M E d k n pc lv (fw_j y :: fw_j x :: st) h t := by
  subst hq
  intro r hr l p e R s m args below meth c H ls locs cells slots Q C X
  exact lv_land C.1 C.2.1 (C.dec hd (by omega)) (kk r hr l p e R s m args below meth c H ls locs cells slots Q C X)
theorem r_lor {x y : Int64} (hd : M.2.2.2.2[i]? = some (pc, .lor, q)) (hq : pc + 1 = q) (kk : fw_R G M E d k n q lv (fw_j (x ||| y) :: st) h t) : fw_R G M E d k n pc lv (fw_j y :: fw_j x :: st) h t := by
  subst hq
  intro r hr l p e R s m args below meth c H ls locs cells slots Q C X
  exact lv_lor C.1 C.2.1 (C.dec hd (by omega)) (kk r hr l p e R s m args below meth c H ls locs cells slots Q C X)
theorem r_iushr {x y : Int32} (hd : M.2.2.2.2[i]? = some (pc, .iushr, q)) (hq : pc + 1 = q) (kk : fw_R G M E d k n q lv (fw_i (fw_iushr x y) :: st) h t) : fw_R G M E d k n pc lv (fw_i y :: fw_i x :: st) h t := by
  subst hq
  intro r hr l p e R s m args below meth c H ls locs cells slots Q C X
  exact lv_iushr C.1 C.2.1 (C.dec hd (by omega)) rfl (kk r hr l p e R s m args below meth c H ls locs cells slots Q C X)
theorem r_lushr {x : Int64} {y : Int32} (hd : M.2.2.2.2[i]? = some (pc, .lushr, q)) (hq : pc + 1 = q) (kk : fw_R G M E d k n q lv (fw_j (fw_lushr x y) :: st) h t) : fw_R G M E d k n pc lv (fw_i y :: fw_j x :: st) h t := by
  subst hq
  intro r hr l p e R s m args below meth c H ls locs cells slots Q C X
  exact lv_lushr C.1 C.2.1 (C.dec hd (by omega)) rfl (kk r hr l p e R s m args below meth c H ls locs cells slots Q C X)
theorem r_lshl {x : Int64} {y : Int32} (hd : M.2.2.2.2[i]? = some (pc, .lshl, q)) (hq : pc + 1 = q) (kk : fw_R G M E d k n q lv (fw_j (fw_lshl x y) :: st) h t) : fw_R G M E d k n pc lv (fw_i y :: fw_j x :: st) h t := by
  subst hq
  intro r hr l p e R s m args below meth c H ls locs cells slots Q C X
  exact lv_lshl C.1 C.2.1 (C.dec hd (by omega)) rfl (kk r hr l p e R s m args below meth c H ls locs cells slots Q C X)
theorem r_i2l {x : Int32} (hd : M.2.2.2.2[i]? = some (pc, .i2l, q)) (hq : pc + 1 = q) (kk : fw_R G M E d k n q lv (fw_j x.toInt64 :: st) h t) : fw_R G M E d k n pc lv (fw_i x :: st) h t := by
  subst hq
  intro r hr l p e R s m args below meth c H ls locs cells slots Q C X
  exact lv_i2l C.1 C.2.1 (C.dec hd (by omega)) rfl (kk r hr l p e R s m args below meth c H ls locs cells slots Q C X)
theorem r_l2i {x : Int64} (hd : M.2.2.2.2[i]? = some (pc, .l2i, q)) (hq : pc + 1 = q) (kk : fw_R G M E d k n q lv (fw_i x.toInt32 :: st) h t) : fw_R G M E d k n pc lv (fw_j x :: st) h t := by
  subst hq
  intro r hr l p e R s m args below meth c H ls locs cells slots Q C X
  exact lv_l2i C.1 C.2.1 (C.dec hd (by omega)) rfl (kk r hr l p e R s m args below meth c H ls locs cells slots Q C X)
theorem r_i2c {x : Int32} (hd : M.2.2.2.2[i]? = some (pc, .i2c, q)) (hq : pc + 1 = q) (kk : fw_R G M E d k n q lv (fw_i (fw_i2c x) :: st) h t) : fw_R G M E d k n pc lv (fw_i x :: st) h t := by
  subst hq
  intro r hr l p e R s m args below meth c H ls locs cells slots Q C X
  exact lv_i2c C.1 C.2.1 (C.dec hd (by omega)) rfl (kk r hr l p e R s m args below meth c H ls locs cells slots Q C X)
theorem r_lcmp {x y : Int64} (hd : M.2.2.2.2[i]? = some (pc, .lcmp, q)) (hq : pc + 1 = q) (kk : fw_R G M E d k n q lv (fw_i (lg_cmp x y) :: st) h t) : fw_R G M E d k n pc lv (fw_j y :: fw_j x :: st) h t := by
  subst hq
  intro r hr l p e R s m args below meth c H ls locs cells slots Q C X
  exact W.lcmp C.1 C.2.1 (C.dec hd (by omega)) (kk r hr l p e R s m args below meth c H ls locs cells slots Q C X)
theorem r_idiv {x y : Int32} {K : Int32 → Option α} (hd : M.2.2.2.2[i]? = some (pc, .idiv, q)) (hq : pc + 1 = q) (kk : fw_R G M E d k n q lv (fw_i (x / y) :: st) h (K (x / y))) : fw_R G M E d k n pc lv (fw_i y :: fw_i x :: st) h ((f_idiv x y).bind K) := by
  subst hq
  intro r hr l p e R s m args below meth c H ls locs cells slots Q C X
  unfold f_idiv at hr
  by_cases hy : y = 0
  · rw [if_pos hy] at hr; cases hr
  · rw [if_neg hy] at hr
    exact lv_idiv C.1 C.2.1 (C.dec hd (by omega)) hy (kk r hr l p e R s m args below meth c H ls locs cells slots Q C X)
theorem r_irem {x y : Int32} {K : Int32 → Option α} (hd : M.2.2.2.2[i]? = some (pc, .irem, q)) (hq : pc + 1 = q) (kk : fw_R G M E d k n q lv (fw_i (fw_irem x y) :: st) h (K (fw_irem x y))) : fw_R G M E d k n pc lv (fw_i y :: fw_i x :: st) h ((f_irem x y).bind K) := by
  subst hq
  intro r hr l p e R s m args below meth c H ls locs cells slots Q C X
  unfold f_irem at hr
  by_cases hy : y = 0
  · rw [if_pos hy] at hr; cases hr
  · rw [if_neg hy] at hr
    exact lv_irem C.1 C.2.1 (C.dec hd (by omega)) hy (kk r hr l p e R s m args below meth c H ls locs cells slots Q C X)
theorem r_ldiv {x y : Int64} {K : Int64 → Option α} (hd : M.2.2.2.2[i]? = some (pc, .ldiv, q)) (hq : pc + 1 = q) (kk : fw_R G M E d k n q lv (fw_j (x / y) :: st) h (K (x / y))) : fw_R G M E d k n pc lv (fw_j y :: fw_j x :: st) h ((f_ldiv x y).bind K) := by
  subst hq
  intro r hr l p e R s m args below meth c H ls locs cells slots Q C X
  unfold f_ldiv at hr
  by_cases hy : y = 0
  · rw [if_pos hy] at hr; cases hr
  · rw [if_neg hy] at hr
    exact lv_ldiv C.1 C.2.1 (C.dec hd (by omega)) hy (kk r hr l p e R s m args below meth c H ls locs cells slots Q C X)
theorem r_lrem {x y : Int64} {K : Int64 → Option α} (hd : M.2.2.2.2[i]? = some (pc, .lrem, q)) (hq : pc + 1 = q) (kk : fw_R G M E d k n q lv (fw_j (fw_lrem x y) :: st) h (K (fw_lrem x y))) : fw_R G M E d k n pc lv (fw_j y :: fw_j x :: st) h ((f_lrem x y).bind K) := by
  subst hq
  intro r hr l p e R s m args below meth c H ls locs cells slots Q C X
  unfold f_lrem at hr
  by_cases hy : y = 0
  · rw [if_pos hy] at hr; cases hr
  · rw [if_neg hy] at hr
    exact lv_lrem C.1 C.2.1 (C.dec hd (by omega)) hy (kk r hr l p e R s m args below meth c H ls locs cells slots Q C X)
theorem r_if_eq {x : Int32} {off : Int} {tgt : Nat} {t1 t2 : Option α} (hd : M.2.2.2.2[i]? = some (pc, .ifCond .eq off, q)) (hq : pc + 3 = q) (ht : (pc : Int) + off = (tgt : Int)) (k1 : fw_R G M E d k n tgt lv st h t1) (k2 : fw_R G M E d k n q lv st h t2) : fw_R G M E d k n pc lv (fw_i x :: st) h (if x = 0 then t1 else t2) := by
  subst hq
  intro r hr l p e R s m args below meth c H ls locs cells slots Q C X
  exact lv_if_eq C.1 C.2.1 (C.dec hd (by omega)) ht (fun hc => k1 r (by rw [if_pos (by simpa using hc)] at hr; exact hr) l p e R s m args below meth c H ls locs cells slots Q C X) (fun hc => k2 r (by rw [if_neg (by simpa using hc)] at hr; exact hr) l p e R s m args below meth c H ls locs cells slots Q C X)
theorem r_icmp_eq {x y : Int32} {off : Int} {tgt : Nat} {t1 t2 : Option α} (hd : M.2.2.2.2[i]? = some (pc, .if_icmp .eq off, q)) (hq : pc + 3 = q) (ht : (pc : Int) + off = (tgt : Int)) (k1 : fw_R G M E d k n tgt lv st h t1) (k2 : fw_R G M E d k n q lv st h t2) : fw_R G M E d k n pc lv (fw_i y :: fw_i x :: st) h (if x = y then t1 else t2) := by
  subst hq
  intro r hr l p e R s m args below meth c H ls locs cells slots Q C X
  exact lv_icmp_eq C.1 C.2.1 (C.dec hd (by omega)) ht (fun hc => k1 r (by rw [if_pos (by simpa using hc)] at hr; exact hr) l p e R s m args below meth c H ls locs cells slots Q C X) (fun hc => k2 r (by rw [if_neg (by simpa using hc)] at hr; exact hr) l p e R s m args below meth c H ls locs cells slots Q C X)
theorem r_if_ne {x : Int32} {off : Int} {tgt : Nat} {t1 t2 : Option α} (hd : M.2.2.2.2[i]? = some (pc, .ifCond .ne off, q)) (hq : pc + 3 = q) (ht : (pc : Int) + off = (tgt : Int)) (k1 : fw_R G M E d k n tgt lv st h t1) (k2 : fw_R G M E d k n q lv st h t2) : fw_R G M E d k n pc lv (fw_i x :: st) h (if ¬ x = 0 then t1 else t2) := by
  subst hq
  intro r hr l p e R s m args below meth c H ls locs cells slots Q C X
  exact lv_if_ne C.1 C.2.1 (C.dec hd (by omega)) ht (fun hc => k1 r (by rw [if_pos (by simpa using hc)] at hr; exact hr) l p e R s m args below meth c H ls locs cells slots Q C X) (fun hc => k2 r (by rw [if_neg (by simpa using hc)] at hr; exact hr) l p e R s m args below meth c H ls locs cells slots Q C X)
theorem r_icmp_ne {x y : Int32} {off : Int} {tgt : Nat} {t1 t2 : Option α} (hd : M.2.2.2.2[i]? = some (pc, .if_icmp .ne off, q)) (hq : pc + 3 = q) (ht : (pc : Int) + off = (tgt : Int)) (k1 : fw_R G M E d k n tgt lv st h t1) (k2 : fw_R G M E d k n q lv st h t2) : fw_R G M E d k n pc lv (fw_i y :: fw_i x :: st) h (if ¬ x = y then t1 else t2) := by
  subst hq
  intro r hr l p e R s m args below meth c H ls locs cells slots Q C X
  exact lv_icmp_ne C.1 C.2.1 (C.dec hd (by omega)) ht (fun hc => k1 r (by rw [if_pos (by simpa using hc)] at hr; exact hr) l p e R s m args below meth c H ls locs cells slots Q C X) (fun hc => k2 r (by rw [if_neg (by simpa using hc)] at hr; exact hr) l p e R s m args below meth c H ls locs cells slots Q C X)
theorem r_if_lt {x : Int32} {off : Int} {tgt : Nat} {t1 t2 : Option α} (hd : M.2.2.2.2[i]? = some (pc, .ifCond .lt off, q)) (hq : pc + 3 = q) (ht : (pc : Int) + off = (tgt : Int)) (k1 : fw_R G M E d k n tgt lv st h t1) (k2 : fw_R G M E d k n q lv st h t2) : fw_R G M E d k n pc lv (fw_i x :: st) h (if x < 0 then t1 else t2) := by
  subst hq
  intro r hr l p e R s m args below meth c H ls locs cells slots Q C X
  exact lv_if_lt C.1 C.2.1 (C.dec hd (by omega)) ht (fun hc => k1 r (by rw [if_pos (by simpa using hc)] at hr; exact hr) l p e R s m args below meth c H ls locs cells slots Q C X) (fun hc => k2 r (by rw [if_neg (by simpa using hc)] at hr; exact hr) l p e R s m args below meth c H ls locs cells slots Q C X)
theorem r_icmp_lt {x y : Int32} {off : Int} {tgt : Nat} {t1 t2 : Option α} (hd : M.2.2.2.2[i]? = some (pc, .if_icmp .lt off, q)) (hq : pc + 3 = q) (ht : (pc : Int) + off = (tgt : Int)) (k1 : fw_R G M E d k n tgt lv st h t1) (k2 : fw_R G M E d k n q lv st h t2) : fw_R G M E d k n pc lv (fw_i y :: fw_i x :: st) h (if x < y then t1 else t2) := by
  subst hq
  intro r hr l p e R s m args below meth c H ls locs cells slots Q C X
  exact lv_icmp_lt C.1 C.2.1 (C.dec hd (by omega)) ht (fun hc => k1 r (by rw [if_pos (by simpa using hc)] at hr; exact hr) l p e R s m args below meth c H ls locs cells slots Q C X) (fun hc => k2 r (by rw [if_neg (by simpa using hc)] at hr; exact hr) l p e R s m args below meth c H ls locs cells slots Q C X)
theorem r_if_ge {x : Int32} {off : Int} {tgt : Nat} {t1 t2 : Option α} (hd : M.2.2.2.2[i]? = some (pc, .ifCond .ge off, q)) (hq : pc + 3 = q) (ht : (pc : Int) + off = (tgt : Int)) (k1 : fw_R G M E d k n tgt lv st h t1) (k2 : fw_R G M E d k n q lv st h t2) : fw_R G M E d k n pc lv (fw_i x :: st) h (if 0 ≤ x then t1 else t2) := by
  subst hq
  intro r hr l p e R s m args below meth c H ls locs cells slots Q C X
  exact lv_if_ge C.1 C.2.1 (C.dec hd (by omega)) ht (fun hc => k1 r (by rw [if_pos (by simpa using hc)] at hr; exact hr) l p e R s m args below meth c H ls locs cells slots Q C X) (fun hc => k2 r (by rw [if_neg (by simpa using hc)] at hr; exact hr) l p e R s m args below meth c H ls locs cells slots Q C X)
theorem r_icmp_ge {x y : Int32} {off : Int} {tgt : Nat} {t1 t2 : Option α} (hd : M.2.2.2.2[i]? = some (pc, .if_icmp .ge off, q)) (hq : pc + 3 = q) (ht : (pc : Int) + off = (tgt : Int)) (k1 : fw_R G M E d k n tgt lv st h t1) (k2 : fw_R G M E d k n q lv st h t2) : fw_R G M E d k n pc lv (fw_i y :: fw_i x :: st) h (if y ≤ x then t1 else t2) := by
  subst hq
  intro r hr l p e R s m args below meth c H ls locs cells slots Q C X
  exact lv_icmp_ge C.1 C.2.1 (C.dec hd (by omega)) ht (fun hc => k1 r (by rw [if_pos (by simpa using hc)] at hr; exact hr) l p e R s m args below meth c H ls locs cells slots Q C X) (fun hc => k2 r (by rw [if_neg (by simpa using hc)] at hr; exact hr) l p e R s m args below meth c H ls locs cells slots Q C X)
theorem r_if_gt {x : Int32} {off : Int} {tgt : Nat} {t1 t2 : Option α} (hd : M.2.2.2.2[i]? = some (pc, .ifCond .gt off, q)) (hq : pc + 3 = q) (ht : (pc : Int) + off = (tgt : Int)) (k1 : fw_R G M E d k n tgt lv st h t1) (k2 : fw_R G M E d k n q lv st h t2) : fw_R G M E d k n pc lv (fw_i x :: st) h (if 0 < x then t1 else t2) := by
  subst hq
  intro r hr l p e R s m args below meth c H ls locs cells slots Q C X
  exact lv_if_gt C.1 C.2.1 (C.dec hd (by omega)) ht (fun hc => k1 r (by rw [if_pos (by simpa using hc)] at hr; exact hr) l p e R s m args below meth c H ls locs cells slots Q C X) (fun hc => k2 r (by rw [if_neg (by simpa using hc)] at hr; exact hr) l p e R s m args below meth c H ls locs cells slots Q C X)
theorem r_icmp_gt {x y : Int32} {off : Int} {tgt : Nat} {t1 t2 : Option α} (hd : M.2.2.2.2[i]? = some (pc, .if_icmp .gt off, q)) (hq : pc + 3 = q) (ht : (pc : Int) + off = (tgt : Int)) (k1 : fw_R G M E d k n tgt lv st h t1) (k2 : fw_R G M E d k n q lv st h t2) : fw_R G M E d k n pc lv (fw_i y :: fw_i x :: st) h (if y < x then t1 else t2) := by
  subst hq
  intro r hr l p e R s m args below meth c H ls locs cells slots Q C X
  exact lv_icmp_gt C.1 C.2.1 (C.dec hd (by omega)) ht (fun hc => k1 r (by rw [if_pos (by simpa using hc)] at hr; exact hr) l p e R s m args below meth c H ls locs cells slots Q C X) (fun hc => k2 r (by rw [if_neg (by simpa using hc)] at hr; exact hr) l p e R s m args below meth c H ls locs cells slots Q C X)
theorem r_if_le {x : Int32} {off : Int} {tgt : Nat} {t1 t2 : Option α} (hd : M.2.2.2.2[i]? = some (pc, .ifCond .le off, q)) (hq : pc + 3 = q) (ht : (pc : Int) + off = (tgt : Int)) (k1 : fw_R G M E d k n tgt lv st h t1) (k2 : fw_R G M E d k n q lv st h t2) : fw_R G M E d k n pc lv (fw_i x :: st) h (if x ≤ 0 then t1 else t2) := by
  subst hq
  intro r hr l p e R s m args below meth c H ls locs cells slots Q C X
  exact lv_if_le C.1 C.2.1 (C.dec hd (by omega)) ht (fun hc => k1 r (by rw [if_pos (by simpa using hc)] at hr; exact hr) l p e R s m args below meth c H ls locs cells slots Q C X) (fun hc => k2 r (by rw [if_neg (by simpa using hc)] at hr; exact hr) l p e R s m args below meth c H ls locs cells slots Q C X)
theorem r_icmp_le {x y : Int32} {off : Int} {tgt : Nat} {t1 t2 : Option α} (hd : M.2.2.2.2[i]? = some (pc, .if_icmp .le off, q)) (hq : pc + 3 = q) (ht : (pc : Int) + off = (tgt : Int)) (k1 : fw_R G M E d k n tgt lv st h t1) (k2 : fw_R G M E d k n q lv st h t2) : fw_R G M E d k n pc lv (fw_i y :: fw_i x :: st) h (if x ≤ y then t1 else t2) := by
  subst hq
  intro r hr l p e R s m args below meth c H ls locs cells slots Q C X
  exact lv_icmp_le C.1 C.2.1 (C.dec hd (by omega)) ht (fun hc => k1 r (by rw [if_pos (by simpa using hc)] at hr; exact hr) l p e R s m args below meth c H ls locs cells slots Q C X) (fun hc => k2 r (by rw [if_neg (by simpa using hc)] at hr; exact hr) l p e R s m args below meth c H ls locs cells slots Q C X)
theorem r_ifeqB {b : Bool} {off : Int} {tgt : Nat} {t1 t2 : Option α} (hd : M.2.2.2.2[i]? = some (pc, .ifCond .eq off, q)) (hq : pc + 3 = q) (ht : (pc : Int) + off = (tgt : Int)) (k1 : fw_R G M E d k n tgt lv st h t1) (k2 : fw_R G M E d k n q lv st h t2) : fw_R G M E d k n pc lv (fw_i (fw_b b) :: st) h (if b = true then t2 else t1) := by
  refine r_eq (t' := if fw_b b = 0 then t1 else t2) ?_ (r_if_eq hd hq ht k1 k2)
  cases b <;> rfl
theorem r_ifneB {b : Bool} {off : Int} {tgt : Nat} {t1 t2 : Option α} (hd : M.2.2.2.2[i]? = some (pc, .ifCond .ne off, q)) (hq : pc + 3 = q) (ht : (pc : Int) + off = (tgt : Int)) (k1 : fw_R G M E d k n tgt lv st h t1) (k2 : fw_R G M E d k n q lv st h t2) : fw_R G M E d k n pc lv (fw_i (fw_b b) :: st) h (if b = true then t1 else t2) := by
  refine r_eq (t' := if ¬ fw_b b = 0 then t1 else t2) ?_ (r_if_ne hd hq ht k1 k2)
  cases b <;> rfl
theorem r_goto {off : Int} {tgt : Nat} (hd : M.2.2.2.2[i]? = some (pc, .goto off, q)) (hq : pc + 3 = q) (ht : (pc : Int) + off = (tgt : Int)) (k1 : fw_R G M E d k n tgt lv st h t) : fw_R G M E d k n pc lv st h t := by
  subst hq
  intro r hr l p e R s m args below meth c H ls locs cells slots Q C X
  exact lv_goto C.1 C.2.1 (C.dec hd (by omega)) ht (k1 r hr l p e R s m args below meth c H ls locs cells slots Q C X)
theorem r_ifnull {x : Option Nat} {off : Int} {tgt : Nat} {t1 t2 : Option α} (hd : M.2.2.2.2[i]? = some (pc, .ifnull off, q)) (hq : pc + 3 = q) (ht : (pc : Int) + off = (tgt : Int)) (k1 : fw_R G M E d k n tgt lv st h t1) (k2 : fw_R G M E d k n q lv st h t2) : fw_R G M E d k n pc lv (fw_r x :: st) h (if x = none then t1 else t2) := by
  subst hq
  intro r hr l p e R s m args below meth c H ls locs cells slots Q C X
  cases x with
  | none => exact lv_ifnullN C.1 C.2.1 (C.dec hd (by omega)) ht (k1 r (by rw [if_pos rfl] at hr; exact hr) l p e R s m args below meth c H ls locs cells slots Q C X)
  | some a => exact lv_ifnull C.1 C.2.1 (C.dec hd (by omega)) (k2 r (by rw [if_neg (by simp)] at hr; exact hr) l p e R s m args below meth c H ls locs cells slots Q C X)
theorem r_ifnonnull {x : Option Nat} {off : Int} {tgt : Nat} {t1 t2 : Option α} (hd : M.2.2.2.2[i]? = some (pc, .ifnonnull off, q)) (hq : pc + 3 = q) (ht : (pc : Int) + off = (tgt : Int)) (k1 : fw_R G M E d k n tgt lv st h t1) (k2 : fw_R G M E d k n q lv st h t2) : fw_R G M E d k n pc lv (fw_r x :: st) h (if x = none then t2 else t1) := by
  subst hq
  intro r hr l p e R s m args below meth c H ls locs cells slots Q C X
  cases x with
  | none => exact lv_ifnonnullN C.1 C.2.1 (C.dec hd (by omega)) (k2 r (by rw [if_pos rfl] at hr; exact hr) l p e R s m args below meth c H ls locs cells slots Q C X)
  | some a => exact lv_ifnonnull C.1 C.2.1 (C.dec hd (by omega)) ht (k1 r (by rw [if_neg (by simp)] at hr; exact hr) l p e R s m args below meth c H ls locs cells slots Q C X)
/-- a switch at a value that is known: in the table, out of it; by pairs -/
theorem r_tin {x : Int32} {dflt lo hi off : Int} {offs : Array Int} {len tgt : Nat} (hd : M.2.2.2.2[i]? = some (pc, .tableswitch dflt lo hi offs, q)) (hq : pc + len = q) (hx : ¬ x.toInt < lo ∧ ¬ hi < x.toInt) (ho : offs[(x.toInt - lo).toNat]? = some off) (ht : (pc : Int) + off = (tgt : Int)) (kk : fw_R G M E d k n tgt lv st h t) : fw_R G M E d k n pc lv (fw_i x :: st) h t := by
  subst hq
  intro r hr l p e R s m args below meth c H ls locs cells slots Q C X
  exact lv_tableIn C.1 C.2.1 (C.dec (len := len) hd (by omega)) hx.1 hx.2 ho ht (kk r hr l p e R s m args below meth c H ls locs cells slots Q C X)
theorem r_tout {x : Int32} {dflt lo hi : Int} {offs : Array Int} {len tgt : Nat} (hd : M.2.2.2.2[i]? = some (pc, .tableswitch dflt lo hi offs, q)) (hq : pc + len = q) (hx : x.toInt < lo ∨ hi < x.toInt) (ht : (pc : Int) + dflt = (tgt : Int)) (kk : fw_R G M E d k n tgt lv st h t) : fw_R G M E d k n pc lv (fw_i x :: st) h t := by
  subst hq
  intro r hr l p e R s m args below meth c H ls locs cells slots Q C X
  exact lv_tableOut C.1 C.2.1 (C.dec (len := len) hd (by omega)) hx ht (kk r hr l p e R s m args below meth c H ls locs cells slots Q C X)
theorem r_look {x : Int32} {dflt off : Int} {ps : Array (Int × Int)} {len tgt : Nat} (hd : M.2.2.2.2[i]? = some (pc, .lookupswitch dflt ps, q)) (hq : pc + len = q) (hp : (ps.toList.zip (ps.toList.drop 1)).all (fun (a, next) => a.1 < next.1) = true) (ho : Op.lookupswitch.offset ps.toList dflt x.toInt = off) (ht : (pc : Int) + off = (tgt : Int)) (kk : fw_R G M E d k n tgt lv st h t) : fw_R G M E d k n pc lv (fw_i x :: st) h t := by
  subst hq
  intro r hr l p e R s m args below meth c H ls locs cells slots Q C X
  exact lv_lookup C.1 C.2.1 (C.dec (len := len) hd (by omega)) hp ho ht (kk r hr l p e R s m args below meth c H ls locs cells slots Q C X)
end RU
