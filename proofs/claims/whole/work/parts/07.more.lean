-- FURTHER RULES
theorem fw_in {w : Cond} (i : Nat) (h : tables_1[i]? = some w) (hg : goodWord w = true) : w ∈ fw_tb := List.mem_filter.mpr ⟨List.mem_append_right _ (List.mem_of_getElem? h), hg⟩
theorem fw_in1 {w : Cond} (i : Nat) (h : tables_1_1[i]? = some w) (hg : goodWord w = true) : w ∈ fw_tb := List.mem_filter.mpr ⟨List.mem_append_right _ (List.mem_append_left _ (List.mem_of_getElem? h)), hg⟩
theorem fw_in2 {w : Cond} (i : Nat) (h : tables_1_2[i]? = some w) (hg : goodWord w = true) : w ∈ fw_tb := List.mem_filter.mpr ⟨List.mem_append_right _ (List.mem_append_right _ (List.mem_append_left _ (List.mem_of_getElem? h))), hg⟩
theorem fw_in3 {w : Cond} (i : Nat) (h : tables_1_3[i]? = some w) (hg : goodWord w = true) : w ∈ fw_tb := List.mem_filter.mpr ⟨List.mem_append_right _ (List.mem_append_right _ (List.mem_append_right _ (List.mem_append_left _ (List.mem_of_getElem? h)))), hg⟩
theorem fw_in4 {w : Cond} (i : Nat) (h : tables_1_4[i]? = some w) (hg : goodWord w = true) : w ∈ fw_tb := List.mem_filter.mpr ⟨List.mem_append_right _ (List.mem_append_right _ (List.mem_append_right _ (List.mem_append_right _ (List.mem_append_left _ (List.mem_of_getElem? h))))), hg⟩
theorem fw_in5 {w : Cond} (i : Nat) (h : tables_1_5[i]? = some w) (hg : goodWord w = true) : w ∈ fw_tb := List.mem_filter.mpr ⟨List.mem_append_right _ (List.mem_append_right _ (List.mem_append_right _ (List.mem_append_right _ (List.mem_append_right _ (List.mem_append_left _ (List.mem_of_getElem? h)))))), hg⟩
theorem fw_in6 {w : Cond} (i : Nat) (h : tables_1_6[i]? = some w) (hg : goodWord w = true) : w ∈ fw_tb := List.mem_filter.mpr ⟨List.mem_append_right _ (List.mem_append_right _ (List.mem_append_right _ (List.mem_append_right _ (List.mem_append_right _ (List.mem_append_right _ (List.mem_append_left _ (List.mem_of_getElem? h))))))), hg⟩
theorem fw_in7 {w : Cond} (i : Nat) (h : tables_1_7[i]? = some w) (hg : goodWord w = true) : w ∈ fw_tb := List.mem_filter.mpr ⟨List.mem_append_right _ (List.mem_append_right _ (List.mem_append_right _ (List.mem_append_right _ (List.mem_append_right _ (List.mem_append_right _ (List.mem_append_right _ (List.mem_append_left _ (List.mem_of_getElem? h)))))))), hg⟩
theorem fw_in8 {w : Cond} (i : Nat) (h : tables_1_8[i]? = some w) (hg : goodWord w = true) : w ∈ fw_tb := List.mem_filter.mpr ⟨List.mem_append_right _ (List.mem_append_right _ (List.mem_append_right _ (List.mem_append_right _ (List.mem_append_right _ (List.mem_append_right _ (List.mem_append_right _ (List.mem_append_right _ (List.mem_append_left _ (List.mem_of_getElem? h))))))))), hg⟩
theorem fw_in9 {w : Cond} (i : Nat) (h : tables_1_9[i]? = some w) (hg : goodWord w = true) : w ∈ fw_tb := List.mem_filter.mpr ⟨List.mem_append_right _ (List.mem_append_right _ (List.mem_append_right _ (List.mem_append_right _ (List.mem_append_right _ (List.mem_append_right _ (List.mem_append_right _ (List.mem_append_right _ (List.mem_append_right _ (List.mem_of_getElem? h))))))))), hg⟩
theorem fw_inS {q : MethodName × Nat} (i : Nat) (h : lw_privs[i]? = some q) : Cond.selects q.1.cls q.1 q.1 ∈ fw_tb :=
  List.mem_filter.mpr ⟨List.mem_append_left _ (List.mem_map.mpr ⟨q, List.mem_of_getElem? h, rfl⟩), rfl⟩
def fw_jn {α β : Type} (J : α) (B : α → β) : β := B J
def fw_min (x y : Int32) : Int32 := if y < x then y else x
def fw_max (x y : Int32) : Int32 := if x < y then y else x
def fw_minJ (x y : Int64) : Int64 := if y < x then y else x
def fw_maxJ (x y : Int64) : Int64 := if y < x then x else y
def fw_new {β : Type} (h : fw_H) (e : fw_E) (f : Option Nat → fw_H → β) : β := f (some h.length) (h ++ [e])
def f_txt (h : fw_H) (r : Option Nat) : Option Nat := match r with
  | none => none
  | some a => match h[a]? with
    | some (.inr (.inr (.inr k))) => some k
    | _ => none
section MO
variable {G : fw_G} {M : fw_M} {α : Type} {E : α → Option fw_V × fw_H} {d k n i pc q : Nat} {lv : fw_L} {st : List fw_V} {h : fw_H} {t : Option α}
theorem r_join {β : Type} {P : β → Prop} {J : β} {B : β → Option α} (hJ : P J) (hB : ∀ j, P j → fw_R G M E d k n pc lv st h (B j)) : fw_R G M E d k n pc lv st h (fw_jn J B) := hB J hJ
theorem r_wk {k2 n2 : Nat} (hk : k2 ≤ k) (hn : n2 ≤ n) (kk : fw_R G M E d k2 n2 pc lv st h t) : fw_R G M E d k n pc lv st h t := by
  intro r hr l p e R s m args below meth c H ls locs cells slots Q C X
  obtain ⟨x1, x2, x3, x4, x5, x6, x7, x8, x9⟩ := X
  exact kk r hr l p e R s m args below meth c H ls locs cells slots Q C ⟨x1, x2, by omega, by omega, x5, x6, x7, x8, fun H' ls' locs' cells' slots' pc' y1 y2 y3 y4 y5 => x9 H' ls' locs' cells' slots' pc' y1 y2 y3 (by omega) (by omega)⟩
theorem r_kill (j : Nat) (kk : fw_R G M E d k n pc ((j, none) :: lv) st h t) : fw_R G M E d k n pc lv st h t := by
  intro r hr l p e R s m args below meth c H ls locs cells slots Q C X
  obtain ⟨x1, x2, x3, x4, x5, x6, x7, x8, x9⟩ := X
  exact kk r hr l p e R s m args below meth c H ls locs cells slots Q C ⟨x1, x2, x3, x4, x5, x6, fw_kill x7 j, x8, x9⟩
theorem r_idivN {x y : Int32} {K : Int32 → Option α} (hd : M.2.2.2.2[i]? = some (pc, .idiv, q)) (hq : pc + 1 = q) (kk : ∀ v, fw_R G M E d k n q lv (fw_i v :: st) h (K v)) : fw_R G M E d k n pc lv (fw_i y :: fw_i x :: st) h ((f_idiv x y).bind K) := r_idiv hd hq (kk _)
theorem r_iremN {x y : Int32} {K : Int32 → Option α} (hd : M.2.2.2.2[i]? = some (pc, .irem, q)) (hq : pc + 1 = q) (kk : ∀ v, fw_R G M E d k n q lv (fw_i v :: st) h (K v)) : fw_R G M E d k n pc lv (fw_i y :: fw_i x :: st) h ((f_irem x y).bind K) := r_irem hd hq (kk _)
theorem r_ldivN {x y : Int64} {K : Int64 → Option α} (hd : M.2.2.2.2[i]? = some (pc, .ldiv, q)) (hq : pc + 1 = q) (kk : ∀ v, fw_R G M E d k n q lv (fw_j v :: st) h (K v)) : fw_R G M E d k n pc lv (fw_j y :: fw_j x :: st) h ((f_ldiv x y).bind K) := r_ldiv hd hq (kk _)
theorem r_lremN {x y : Int64} {K : Int64 → Option α} (hd : M.2.2.2.2[i]? = some (pc, .lrem, q)) (hq : pc + 1 = q) (kk : ∀ v, fw_R G M E d k n q lv (fw_j v :: st) h (K v)) : fw_R G M E d k n pc lv (fw_j y :: fw_j x :: st) h ((f_lrem x y).bind K) := r_lrem hd hq (kk _)
theorem r_newIN {k2 n2 N : Nat} {x : Int32} {K : Option Nat → fw_H → Option α} (hx : ¬ x < 0) (hN : x.toNatClampNeg = N) (hb : N ≤ 60000) (hk : k2 + 1 ≤ k) (hn : n2 + N ≤ n) (hw : Cond.arrayClass .int ∈ fw_tb) (hd : M.2.2.2.2[i]? = some (pc, .newarray .int, q)) (hq : pc + 2 = q) (kk : ∀ qv hv, fw_R G M E d k2 n2 q lv (fw_r qv :: st) hv (K qv hv)) : fw_R G M E d k n pc lv (fw_i x :: st) h (fw_new h (fw_I N (fun _ => 0)) K) := r_newI hx hN hb hk hn hw hd hq (kk _ _)
theorem r_newJN {k2 n2 N : Nat} {x : Int32} {K : Option Nat → fw_H → Option α} (hx : ¬ x < 0) (hN : x.toNatClampNeg = N) (hb : N ≤ 60000) (hk : k2 + 1 ≤ k) (hn : n2 + N ≤ n) (hw : Cond.arrayClass .long ∈ fw_tb) (hd : M.2.2.2.2[i]? = some (pc, .newarray .long, q)) (hq : pc + 2 = q) (kk : ∀ qv hv, fw_R G M E d k2 n2 q lv (fw_r qv :: st) hv (K qv hv)) : fw_R G M E d k n pc lv (fw_i x :: st) h (fw_new h (fw_J N (fun _ => 0)) K) := r_newJ hx hN hb hk hn hw hd hq (kk _ _)
theorem r_min {x y : Int32} {idx : Nat} (hdd : 1 ≤ d) (hs : fw_sz st ≤ 8) (hml : Cond.methodLink M.1.cls idx Lib.Math.min.name ∈ fw_tb) (hd : M.2.2.2.2[i]? = some (pc, .invokestatic idx, q)) (hq : pc + 3 = q) (kk : fw_R G M E d k n q lv (fw_i (fw_min x y) :: st) h t) : fw_R G M E d k n pc lv (fw_i y :: fw_i x :: st) h t := by
  subst hq
  intro r hr l p e R s m args below meth c H ls locs cells slots Q C X
  have hts := C.2.2.2.2.2.2.2.1
  have x1 := X.1
  have x2 := X.2.1
  exact va_mmin C.1 C.2.1 (C.2.2.1.trans X.2.2.2.2.2.2.1.1.symm) C.2.2.2.2.2.1 (hts _ hml) (hts _ (fw_in 521 (by decide +kernel) rfl)) (hts _ (fw_in 17 (by decide +kernel) rfl)) (hts (Cond.code Lib.Math.min.name Lib.Math.min.code 2 (some .int)) (fw_in 522 (by decide +kernel) rfl)) (by omega) (by rw [fw_sz_tr]; omega) (by have := X.2.2.1; omega) (by have := X.2.2.2.1; omega) (C.dec hd (by omega)) (kk r hr l p e R s m args below meth c H ls locs cells slots Q C X)
theorem r_max {x y : Int32} {idx : Nat} (hdd : 1 ≤ d) (hs : fw_sz st ≤ 8) (hml : Cond.methodLink M.1.cls idx Lib.Math.max.name ∈ fw_tb) (hd : M.2.2.2.2[i]? = some (pc, .invokestatic idx, q)) (hq : pc + 3 = q) (kk : fw_R G M E d k n q lv (fw_i (fw_max x y) :: st) h t) : fw_R G M E d k n pc lv (fw_i y :: fw_i x :: st) h t := by
  subst hq
  intro r hr l p e R s m args below meth c H ls locs cells slots Q C X
  have hts := C.2.2.2.2.2.2.2.1
  have x1 := X.1
  have x2 := X.2.1
  exact va_mmax C.1 C.2.1 (C.2.2.1.trans X.2.2.2.2.2.2.1.1.symm) C.2.2.2.2.2.1 (hts _ hml) (hts _ (fw_in 518 (by decide +kernel) rfl)) (hts _ (fw_in 17 (by decide +kernel) rfl)) (hts (Cond.code Lib.Math.max.name Lib.Math.max.code 2 (some .int)) (fw_in 519 (by decide +kernel) rfl)) (by omega) (by rw [fw_sz_tr]; omega) (by have := X.2.2.1; omega) (by have := X.2.2.2.1; omega) (C.dec hd (by omega)) (kk r hr l p e R s m args below meth c H ls locs cells slots Q C X)
theorem r_minJ {x y : Int64} {idx : Nat} (hdd : 1 ≤ d) (hs : fw_sz st ≤ 8) (hml : Cond.methodLink M.1.cls idx Lib.MathLoose.min_long.x ∈ fw_tb) (hd : M.2.2.2.2[i]? = some (pc, .invokestatic idx, q)) (hq : pc + 3 = q) (kk : fw_R G M E d k n q lv (fw_j (fw_minJ x y) :: st) h t) : fw_R G M E d k n pc lv (fw_j y :: fw_j x :: st) h t := by
  subst hq
  intro r hr l p e R s m args below meth c H ls locs cells slots Q C X
  have hts := C.2.2.2.2.2.2.2.1
  have x1 := X.1
  have x2 := X.2.1
  exact va_mmin_long C.1 C.2.1 (C.2.2.1.trans X.2.2.2.2.2.2.1.1.symm) C.2.2.2.2.2.1 (hts _ hml) (hts _ (fw_in 1101 (by decide +kernel) rfl)) (hts _ (fw_in 17 (by decide +kernel) rfl)) (hts (Cond.code Lib.MathLoose.min_long.x Lib.MathLoose.min_long.code 4 (some .long)) (fw_in 1102 (by decide +kernel) rfl)) (by omega) (by rw [fw_sz_tr]; omega) (by have := X.2.2.1; omega) (by have := X.2.2.2.1; omega) (C.dec hd (by omega)) (kk r hr l p e R s m args below meth c H ls locs cells slots Q C X)
theorem r_maxJ {x y : Int64} {idx : Nat} (hdd : 1 ≤ d) (hs : fw_sz st ≤ 8) (hml : Cond.methodLink M.1.cls idx Lib.MathLoose.max_long.x ∈ fw_tb) (hd : M.2.2.2.2[i]? = some (pc, .invokestatic idx, q)) (hq : pc + 3 = q) (kk : fw_R G M E d k n q lv (fw_j (fw_maxJ x y) :: st) h t) : fw_R G M E d k n pc lv (fw_j y :: fw_j x :: st) h t := by
  subst hq
  intro r hr l p e R s m args below meth c H ls locs cells slots Q C X
  have hts := C.2.2.2.2.2.2.2.1
  have x1 := X.1
  have x2 := X.2.1
  exact va_mmax_long C.1 C.2.1 (C.2.2.1.trans X.2.2.2.2.2.2.1.1.symm) C.2.2.2.2.2.1 (hts _ hml) (hts _ (fw_in 1702 (by decide +kernel) rfl)) (hts _ (fw_in 17 (by decide +kernel) rfl)) (hts (Cond.code Lib.MathLoose.max_long.x Lib.MathLoose.max_long.code 4 (some .long)) (fw_in 1703 (by decide +kernel) rfl)) (by omega) (by rw [fw_sz_tr]; omega) (by have := X.2.2.1; omega) (by have := X.2.2.2.1; omega) (C.dec hd (by omega)) (kk r hr l p e R s m args below meth c H ls locs cells slots Q C X)
theorem r_newQN {k2 n2 N idx : Nat} {x : Int32} {K : Option Nat → fw_H → Option α} (hx : ¬ x < 0) (hN : x.toNatClampNeg = N) (hb : N ≤ 60000) (hk : k2 + 1 ≤ k) (hn : n2 + N ≤ n) (hw : Cond.classLink M.1.cls idx RX1 ∈ fw_tb) (hd : M.2.2.2.2[i]? = some (pc, .anewarray idx, q)) (hq : pc + 3 = q) (kk : ∀ qv hv, fw_R G M E d k2 n2 q lv (fw_r qv :: st) hv (K qv hv)) : fw_R G M E d k n pc lv (fw_i x :: st) h (fw_new h (fw_Q N (fun _ => none)) K) := r_newQ hx hN hb hk hn hw hd hq (kk _ _)
theorem r_newON {k2 n2 ci idx N : Nat} {C0 : String} {T : u_T} {fs : List fw_V} {K : Option Nat → fw_H → Option α} (hc : fw_cls[ci]? = some (C0, T, N)) (hfs : fs.length = N ∧ ∀ j, j < N → (parseFieldDescriptor (T j).2.2.1).bind (fun ty => some (defaultValue ty)) = fs[j]?.bind fw_dfl) (hk : k2 + 1 ≤ k) (hn : n2 + N ≤ n) (hw1 : Cond.classLink M.1.cls idx C0 ∈ fw_tb) (hw2 : Cond.instantiable C0 N ∈ fw_tb) (hw3 : Cond.initialized C0 ∈ fw_tb) (hd : M.2.2.2.2[i]? = some (pc, .new idx, q)) (hq : pc + 3 = q) (kk : ∀ (qv : Option Nat) hv, qv.isSome = true → fw_R G M E d k2 n2 q lv (fw_r qv :: st) hv (K qv hv)) : fw_R G M E d k n pc lv st h (fw_new h (fw_O ci fs) K) := r_newO hc hfs hk hn hw1 hw2 hw3 hd hq (kk _ _ rfl)
theorem r_tinK {x v : Int32} {dflt lo hi off : Int} {offs : Array Int} {len tgt : Nat} (e : x = v) (hd : M.2.2.2.2[i]? = some (pc, .tableswitch dflt lo hi offs, q)) (hq : pc + len = q) (hx : ¬ v.toInt < lo ∧ ¬ hi < v.toInt) (ho : offs[(v.toInt - lo).toNat]? = some off) (ht : (pc : Int) + off = (tgt : Int)) (kk : fw_R G M E d k n tgt lv st h t) : fw_R G M E d k n pc lv (fw_i x :: st) h t := by
  subst e
  exact r_tin hd hq hx ho ht kk
theorem r_lookK {x v : Int32} {dflt off : Int} {ps : Array (Int × Int)} {len tgt : Nat} (e : x = v) (hd : M.2.2.2.2[i]? = some (pc, .lookupswitch dflt ps, q)) (hq : pc + len = q) (hp : (ps.toList.zip (ps.toList.drop 1)).all (fun (a, next) => a.1 < next.1) = true) (ho : Op.lookupswitch.offset ps.toList dflt v.toInt = off) (ht : (pc : Int) + off = (tgt : Int)) (kk : fw_R G M E d k n tgt lv st h t) : fw_R G M E d k n pc lv (fw_i x :: st) h t := by
  subst e
  exact r_look hd hq hp ho ht kk
theorem fw_ni {x v : Int32} {z : Int} (n : ¬ x = v) (hv : v.toInt = z) : x.toInt ≠ z := fun e => n (Int32.toInt_inj.mp (e.trans hv.symm))
theorem fw_lookD2 {x : Int32} {dflt a b oa ob : Int} (ha : x.toInt ≠ a) (hb : x.toInt ≠ b) : Op.lookupswitch.offset [(a, oa), (b, ob)] dflt x.toInt = dflt := by
  have ha' : ¬ a = x.toInt := fun e => ha e.symm
  have hb' : ¬ b = x.toInt := fun e => hb e.symm
  simp [Op.lookupswitch.offset, ha', hb']
theorem fw_txt_at {h : fw_H} {r : Option Nat} {j : Nat} (e : f_txt h r = some j) : ∃ a, r = some a ∧ h[a]? = some (fw_XS j) := by
  cases r with
  | none => cases e
  | some a =>
    refine ⟨a, rfl, ?_⟩
    simp only [f_txt] at e
    split at e
    · rename_i n hh
      cases e
      exact hh
    · cases e
end MO
