-- THE WORLD (PHASE 2): what stands where, reads and writes at known places. Written by wip/gen/mk_world.py
def z_kf : fw_V → Nat
  | .inl _ => 0
  | .inr (.inl _) => 1
  | .inr (.inr none) => 2
  | .inr (.inr (some a)) => a + 3
/-- references that change (their kind is 2 whatever they are): Walk.law; Spread.now, Spread.then -/
def z_wd (c k x : Nat) : Nat := if (c = 9 ∧ k = 1) ∨ (c = 5 ∧ (k = 1 ∨ k = 2)) then min x 2 else x
def z_cs : fw_E → Nat × (Nat × List Nat)
  | .inl (n, .inl _) => (1, (n, []))
  | .inl (n, .inr (.inl _)) => (2, (n, []))
  | .inl (n, .inr (.inr (.inr (.inr _)))) => (3, (n, []))
  | .inl (n, _) => (0, (n, []))
  | .inr (.inl (c, fs)) => (4, (c, fs.mapIdx (fun k v => z_wd c k (z_kf v))))
  | .inr (.inr (.inl (n, _))) => (5, (n, []))
  | .inr (.inr (.inr k)) => (6, (k, []))
def z_ck (h : fw_H) (a : Nat) : Option (Nat × (Nat × List Nat)) := (h[a]?).map z_cs
-- what is read
def z_I (h : fw_H) (a k : Nat) : Int32 := match h[a]? with
  | some (.inr (.inl (_, fs))) => (match fs[k]? with
    | some (.inl x) => x
    | _ => 0)
  | _ => 0
def z_R (h : fw_H) (a k : Nat) : Option Nat := match h[a]? with
  | some (.inr (.inl (_, fs))) => (match fs[k]? with
    | some (.inr (.inr x)) => x
    | _ => none)
  | _ => none
def z_A (h : fw_H) (a i : Nat) : Int32 := match h[a]? with
  | some (.inl (_, .inl f)) => f i
  | _ => 0
def z_J (h : fw_H) (a i : Nat) : Int64 := match h[a]? with
  | some (.inl (_, .inr (.inl f))) => f i
  | _ => 0
def z_Q (h : fw_H) (a i : Nat) : Option Nat := match h[a]? with
  | some (.inl (_, .inr (.inr (.inr (.inr f))))) => f i
  | _ => none
-- what is written
def z_sI (h : fw_H) (a k : Nat) (x : Int32) : fw_H := match h[a]? with
  | some (.inr (.inl (c, fs))) => (match fs[k]? with
    | some (.inl _) => h.set a (fw_O c (fs.set k (fw_i x)))
    | _ => h)
  | _ => h
def z_sR (h : fw_H) (a k : Nat) (x : Option Nat) : fw_H := match h[a]? with
  | some (.inr (.inl (c, fs))) => (match fs[k]? with
    | some (.inr (.inr _)) => if z_wd c k 9 = 2 then h.set a (fw_O c (fs.set k (fw_r x))) else h
    | _ => h)
  | _ => h
def z_sA (h : fw_H) (a i : Nat) (x : Int32) : fw_H := match h[a]? with
  | some (.inl (n, .inl f)) => h.set a (fw_I n (upd f i x))
  | _ => h
def z_sJ (h : fw_H) (a i : Nat) (x : Int64) : fw_H := match h[a]? with
  | some (.inl (n, .inr (.inl f))) => h.set a (fw_J n (vp_updL f i x))
  | _ => h
/-- h' is h but for the cells A, and has its kinds -/
def z_fr (As : List Nat) (h h' : fw_H) : Prop := (∀ j, z_ck h' j = z_ck h j) ∧ ∀ j, j ∉ As → h'[j]? = h[j]?
section W0
variable {h h' h'' : fw_H} {As Bs : List Nat} {a b c i j k n m x : Nat} {ks : List Nat} {r : Option Nat} {v w : Int32}
theorem z_obj (e : z_ck h a = some (4, (c, ks))) : ∃ fs : List fw_V, h[a]? = some (fw_O c fs) ∧ fs.mapIdx (fun k v => z_wd c k (z_kf v)) = ks := by
  unfold z_ck at e
  match h1 : h[a]? with
  | none => rw [h1] at e; cases e
  | some (.inl (n, .inl _)) => rw [h1] at e; cases e
  | some (.inl (n, .inr (.inl _))) => rw [h1] at e; cases e
  | some (.inl (n, .inr (.inr (.inl _)))) => rw [h1] at e; cases e
  | some (.inl (n, .inr (.inr (.inr (.inl _))))) => rw [h1] at e; cases e
  | some (.inl (n, .inr (.inr (.inr (.inr _))))) => rw [h1] at e; cases e
  | some (.inr (.inr (.inl (n, _)))) => rw [h1] at e; cases e
  | some (.inr (.inr (.inr k))) => rw [h1] at e; cases e
  | some (.inr (.inl (c', fs))) =>
    rw [h1] at e
    simp only [Option.map_some, z_cs, Option.some.injEq, Prod.mk.injEq, true_and] at e
    obtain ⟨rfl, e⟩ := e
    exact ⟨fs, rfl, e⟩
theorem z_fld (e : z_ck h a = some (4, (c, ks))) (hk : ks[k]? = some x) : ∃ fs v, h[a]? = some (fw_O c fs) ∧ fs.mapIdx (fun k v => z_wd c k (z_kf v)) = ks ∧ fs[k]? = some v ∧ z_wd c k (z_kf v) = x := by
  obtain ⟨fs, h1, h2⟩ := z_obj e
  subst h2
  rw [List.getElem?_mapIdx] at hk
  match h3 : fs[k]? with
  | none => rw [h3] at hk; cases hk
  | some v => rw [h3] at hk; cases hk; exact ⟨fs, v, h1, rfl, h3, rfl⟩
theorem z_wd0 {y : Nat} (e : z_wd c k y = 0) : y = 0 := by
  unfold z_wd at e
  split at e <;> omega
theorem z_kf0 {v : fw_V} (e : z_kf v = 0) : ∃ y, v = .inl y := by
  match v with
  | .inl y => exact ⟨y, rfl⟩
  | .inr (.inl _) => cases e
  | .inr (.inr none) => cases e
  | .inr (.inr (some _)) => cases e
theorem z_fldI (e : z_ck h a = some (4, (c, ks))) (hk : ks[k]? = some 0) : ∃ (fs : List fw_V) (y : Int32), h[a]? = some (fw_O c fs) ∧ fs.mapIdx (fun k v => z_wd c k (z_kf v)) = ks ∧ fs[k]? = some (fw_i y) := by
  obtain ⟨fs, v, h1, h2, h3, h4⟩ := z_fld e hk
  obtain ⟨y, rfl⟩ := z_kf0 (z_wd0 h4)
  exact ⟨fs, y, h1, h2, h3⟩
theorem z_fldR (e : z_ck h a = some (4, (c, ks))) (hk : ks[k]? = some x) (hx : 2 ≤ x) : ∃ (fs : List fw_V) (y : Option Nat), h[a]? = some (fw_O c fs) ∧ fs.mapIdx (fun k v => z_wd c k (z_kf v)) = ks ∧ fs[k]? = some (fw_r y) ∧ (∀ m, x = m + 3 → y = some m) := by
  obtain ⟨fs, v, h1, h2, h3, h4⟩ := z_fld e hk
  match v, h4 with
  | .inl y, h4 => exfalso; revert h4; unfold z_wd; simp only [z_kf]; split <;> omega
  | .inr (.inl y), h4 => exfalso; revert h4; unfold z_wd; simp only [z_kf]; split <;> omega
  | .inr (.inr none), h4 => exact ⟨fs, none, h1, h2, h3, fun m hm => by exfalso; revert h4; unfold z_wd; simp only [z_kf]; split <;> omega⟩
  | .inr (.inr (some q)), h4 => exact ⟨fs, some q, h1, h2, h3, fun m hm => by revert h4; unfold z_wd; simp only [z_kf]; split <;> intro h4 <;> first | (exfalso; omega) | (congr 1; omega)⟩
theorem z_ckO (e : z_ck h a = some (4, (c, ks))) : f_ck h (some a) c = some () := by
  obtain ⟨fs, h1, -⟩ := z_obj e
  simp [f_ck, f_obj, h1]
theorem z_objO (e : z_ck h a = some (4, (c, ks))) : ∃ fs, f_obj h (some a) c = some fs ∧ h[a]? = some (fw_O c fs) := by
  obtain ⟨fs, h1, -⟩ := z_obj e
  exact ⟨fs, by simp [f_obj, h1], h1⟩
theorem z_gI (e : z_ck h a = some (4, (c, ks))) (hk : ks[k]? = some 0) : f_gI h (some a) c k = some (z_I h a k) := by
  obtain ⟨fs, y, h1, -, h3⟩ := z_fldI e hk
  simp [f_gI, f_obj, h1, h3, f_vI, z_I]
theorem z_gB {q : Bool} (e : f_gI h r c k = some v) (hv : v = fw_b q) : f_gB h r c k = some q := by
  subst hv
  unfold f_gI at e
  unfold f_gB
  match h1 : f_obj h r c with
  | none => rw [h1] at e; cases e
  | some fs =>
    rw [h1] at e
    simp only [Option.bind_some] at e ⊢
    match h2 : fs[k]? with
    | none => rw [h2] at e; cases e
    | some (.inl x) => rw [h2] at e; cases e; cases q <;> rfl
    | some (.inr (.inl x)) => rw [h2] at e; cases e
    | some (.inr (.inr x)) => rw [h2] at e; cases e
theorem z_gRx (e : z_ck h a = some (4, (c, ks))) (hk : ks[k]? = some x) (hx : 2 ≤ x) : f_gR h (some a) c k = some (z_R h a k) := by
  obtain ⟨fs, y, h1, -, h3, -⟩ := z_fldR e hk hx
  simp [f_gR, f_obj, h1, h3, f_vR, z_R]
theorem z_gR (e : z_ck h a = some (4, (c, ks))) (hk : ks[k]? = some (m + 3)) : f_gR h (some a) c k = some (some m) := by
  obtain ⟨fs, y, h1, -, h3, h4⟩ := z_fldR e hk (by omega)
  simp [f_gR, f_obj, h1, h3, f_vR, h4 m rfl]
theorem z_pI (e : z_ck h a = some (4, (c, ks))) (hk : ks[k]? = some 0) : f_pI h (some a) c k v = some (z_sI h a k v) := by
  obtain ⟨fs, y, h1, -, h3⟩ := z_fldI e hk
  simp [f_pI, f_put, f_obj, h1, h3, z_sI]
theorem z_pR (e : z_ck h a = some (4, (c, ks))) (hk : ks[k]? = some x) (hx : 2 ≤ x) (hw : z_wd c k 9 = 2) : f_pR h (some a) c k r = some (z_sR h a k r) := by
  obtain ⟨fs, y, h1, -, h3, -⟩ := z_fldR e hk hx
  simp [f_pR, f_put, f_obj, h1, h3, z_sR, hw]
theorem z_arr (e : z_ck h a = some (1, (n, []))) : ∃ f, h[a]? = some (fw_I n f) := by
  unfold z_ck at e
  match h1 : h[a]? with
  | none => rw [h1] at e; cases e
  | some (.inl (n, .inl f)) => rw [h1] at e; cases e; exact ⟨f, rfl⟩
  | some (.inl (n, .inr (.inl _))) => rw [h1] at e; cases e
  | some (.inl (n, .inr (.inr (.inl _)))) => rw [h1] at e; cases e
  | some (.inl (n, .inr (.inr (.inr (.inl _))))) => rw [h1] at e; cases e
  | some (.inl (n, .inr (.inr (.inr (.inr _))))) => rw [h1] at e; cases e
  | some (.inr (.inr (.inl (n, _)))) => rw [h1] at e; cases e
  | some (.inr (.inr (.inr k))) => rw [h1] at e; cases e
  | some (.inr (.inl (c', fs))) => rw [h1] at e; cases e
theorem z_arrJ (e : z_ck h a = some (2, (n, []))) : ∃ f, h[a]? = some (fw_J n f) := by
  unfold z_ck at e
  match h1 : h[a]? with
  | none => rw [h1] at e; cases e
  | some (.inl (n, .inl f)) => rw [h1] at e; cases e
  | some (.inl (n, .inr (.inl f))) => rw [h1] at e; cases e; exact ⟨f, rfl⟩
  | some (.inl (n, .inr (.inr (.inl _)))) => rw [h1] at e; cases e
  | some (.inl (n, .inr (.inr (.inr (.inl _))))) => rw [h1] at e; cases e
  | some (.inl (n, .inr (.inr (.inr (.inr _))))) => rw [h1] at e; cases e
  | some (.inr (.inr (.inl (n, _)))) => rw [h1] at e; cases e
  | some (.inr (.inr (.inr k))) => rw [h1] at e; cases e
  | some (.inr (.inl (c', fs))) => rw [h1] at e; cases e
theorem z_arrQ (e : z_ck h a = some (3, (n, []))) : ∃ f, h[a]? = some (fw_Q n f) := by
  unfold z_ck at e
  match h1 : h[a]? with
  | none => rw [h1] at e; cases e
  | some (.inl (n, .inl f)) => rw [h1] at e; cases e
  | some (.inl (n, .inr (.inl f))) => rw [h1] at e; cases e
  | some (.inl (n, .inr (.inr (.inl _)))) => rw [h1] at e; cases e
  | some (.inl (n, .inr (.inr (.inr (.inl _))))) => rw [h1] at e; cases e
  | some (.inl (n, .inr (.inr (.inr (.inr f))))) => rw [h1] at e; cases e; exact ⟨f, rfl⟩
  | some (.inr (.inr (.inl (n, _)))) => rw [h1] at e; cases e
  | some (.inr (.inr (.inr k))) => rw [h1] at e; cases e
  | some (.inr (.inl (c', fs))) => rw [h1] at e; cases e
theorem z_ln (e : z_ck h a = some (1, (n, []))) : f_lnI h (some a) = some (nI n) := by
  obtain ⟨f, h1⟩ := z_arr e
  simp [f_lnI, f_arI, h1, nI]
theorem z_lnJ (e : z_ck h a = some (2, (n, []))) : f_lnJ h (some a) = some (nI n) := by
  obtain ⟨f, h1⟩ := z_arrJ e
  simp [f_lnJ, f_arJ, h1, nI]
theorem z_lnQ (e : z_ck h a = some (3, (n, []))) : f_lnQ h (some a) = some (nI n) := by
  obtain ⟨f, h1⟩ := z_arrQ e
  simp [f_lnQ, f_arQ, h1, nI]
theorem z_bd (hi : i < n) (hn : n ≤ 2 ^ 31) : ¬ nI i < 0 ∧ (nI i).toNatClampNeg < n := by
  have h1 : i < 2 ^ 31 := by omega
  exact ⟨nI_pos h1, by rw [nI_clamp h1]; exact hi⟩
theorem z_aI (e : z_ck h a = some (1, (n, []))) (hi : i < n) (hn : n ≤ 2 ^ 31) : f_aI h (some a) (nI i) = some (z_A h a i) := by
  obtain ⟨f, h1⟩ := z_arr e
  have h2 := z_bd hi hn
  simp [f_aI, f_arI, h1, h2, hi, z_A, nI_clamp (Nat.lt_of_lt_of_le hi hn)]
theorem z_aJ (e : z_ck h a = some (2, (n, []))) (hi : i < n) (hn : n ≤ 2 ^ 31) : f_aJ h (some a) (nI i) = some (z_J h a i) := by
  obtain ⟨f, h1⟩ := z_arrJ e
  have h2 := z_bd hi hn
  simp [f_aJ, f_arJ, h1, h2, hi, z_J, nI_clamp (Nat.lt_of_lt_of_le hi hn)]
theorem z_aQ (e : z_ck h a = some (3, (n, []))) (hi : i < n) (hn : n ≤ 2 ^ 31) : f_aQ h (some a) (nI i) = some (z_Q h a i) := by
  obtain ⟨f, h1⟩ := z_arrQ e
  have h2 := z_bd hi hn
  simp [f_aQ, f_arQ, h1, h2, hi, z_Q, nI_clamp (Nat.lt_of_lt_of_le hi hn)]
theorem z_sIx (e : z_ck h a = some (1, (n, []))) (hi : i < n) (hn : n ≤ 2 ^ 31) : f_sI h (some a) (nI i) v = some (z_sA h a i v) := by
  obtain ⟨f, h1⟩ := z_arr e
  have h2 := z_bd hi hn
  simp [f_sI, f_owI, h1, h2, hi, z_sA, nI_clamp (Nat.lt_of_lt_of_le hi hn)]
theorem z_sJx {y : Int64} (e : z_ck h a = some (2, (n, []))) (hi : i < n) (hn : n ≤ 2 ^ 31) : f_sJ h (some a) (nI i) y = some (z_sJ h a i y) := by
  obtain ⟨f, h1⟩ := z_arrJ e
  have h2 := z_bd hi hn
  simp [f_sJ, f_arJ, h1, h2, hi, z_sJ, nI_clamp (Nat.lt_of_lt_of_le hi hn)]
-- the writes keep the kinds
theorem z_set_ck {e : fw_E} {y : fw_E} (h1 : h[a]? = some y) (h2 : z_cs e = z_cs y) (j : Nat) : z_ck (h.set a e) j = z_ck h j := by
  unfold z_ck
  rw [List.getElem?_set]
  split
  · next e1 =>
    subst e1
    rw [if_pos (List.getElem?_eq_some_iff.mp h1).1, h1]
    simp [h2]
  · rfl
theorem z_map_set {f : Nat → fw_V → Nat} {fs : List fw_V} {y z : fw_V} (h1 : fs[k]? = some y) (h2 : f k z = f k y) : (fs.set k z).mapIdx f = fs.mapIdx f := by
  apply List.ext_getElem?
  intro i
  rw [List.getElem?_mapIdx, List.getElem?_mapIdx, List.getElem?_set]
  split
  · next e1 => subst e1; rw [if_pos (List.getElem?_eq_some_iff.mp h1).1, h1]; simp [h2]
  · rfl
theorem z_ck_sI (j : Nat) : z_ck (z_sI h a k v) j = z_ck h j := by
  unfold z_sI
  split
  · next c fs h1 =>
    split
    · next y h2 => exact z_set_ck h1 (by simp only [z_cs]; rw [z_map_set (z := fw_i v) h2 rfl]) j
    · rfl
  · rfl
theorem z_ck_sR (j : Nat) : z_ck (z_sR h a k r) j = z_ck h j := by
  unfold z_sR
  split
  · next c fs h1 =>
    split
    · next y h2 =>
      split
      · next hw =>
        have hq : ∀ p : Option Nat, z_wd c k (z_kf (fw_r p)) = 2 := by
          intro p
          unfold z_wd at hw ⊢
          split at hw
          · next hc =>
            rw [if_pos hc]
            cases p
            · rfl
            · simp only [z_kf]; omega
          · cases hw
        exact z_set_ck h1 (by simp only [z_cs]; rw [z_map_set h2 (by rw [hq, hq])]) j
      · rfl
    · rfl
  · rfl
theorem z_ck_sA (j : Nat) : z_ck (z_sA h a i v) j = z_ck h j := by
  unfold z_sA
  split
  · next n f h1 => exact z_set_ck (e := fw_I n (upd f i v)) h1 rfl j
  · rfl
theorem z_ck_sJ {y : Int64} (j : Nat) : z_ck (z_sJ h a i y) j = z_ck h j := by
  unfold z_sJ
  split
  · next n f h1 => exact z_set_ck (e := fw_J n (vp_updL f i y)) h1 rfl j
  · rfl
theorem z_at_sI (hj : j ≠ a) : (z_sI h a k v)[j]? = h[j]? := by
  unfold z_sI
  split
  · split
    · rw [List.getElem?_set_ne (Ne.symm hj)]
    · rfl
  · rfl
theorem z_at_sR (hj : j ≠ a) : (z_sR h a k r)[j]? = h[j]? := by
  unfold z_sR
  split
  · split
    · split
      · rw [List.getElem?_set_ne (Ne.symm hj)]
      · rfl
    · rfl
  · rfl
theorem z_at_sA (hj : j ≠ a) : (z_sA h a i v)[j]? = h[j]? := by
  unfold z_sA
  split
  · rw [List.getElem?_set_ne (Ne.symm hj)]
  · rfl
theorem z_at_sJ {y : Int64} (hj : j ≠ a) : (z_sJ h a i y)[j]? = h[j]? := by
  unfold z_sJ
  split
  · rw [List.getElem?_set_ne (Ne.symm hj)]
  · rfl
-- frames
theorem z_fr.refl : z_fr As h h := ⟨fun _ => rfl, fun _ _ => rfl⟩
theorem z_fr.trans (h1 : z_fr As h h') (h2 : z_fr As h' h'') : z_fr As h h'' := ⟨fun j => (h2.1 j).trans (h1.1 j), fun j hj => (h2.2 j hj).trans (h1.2 j hj)⟩
theorem z_fr.mono (h1 : z_fr As h h') (hs : ∀ j, j ∈ As → j ∈ Bs) : z_fr Bs h h' := ⟨h1.1, fun j hj => h1.2 j (fun z => hj (hs j z))⟩
theorem z_fr.sI (h1 : z_fr As h h') (ha : a ∈ As) : z_fr As h (z_sI h' a k v) := ⟨fun j => (z_ck_sI j).trans (h1.1 j), fun j hj => (z_at_sI (fun z => hj (by rw [z]; exact ha))).trans (h1.2 j hj)⟩
theorem z_fr.sR (h1 : z_fr As h h') (ha : a ∈ As) : z_fr As h (z_sR h' a k r) := ⟨fun j => (z_ck_sR j).trans (h1.1 j), fun j hj => (z_at_sR (fun z => hj (by rw [z]; exact ha))).trans (h1.2 j hj)⟩
theorem z_fr.sA (h1 : z_fr As h h') (ha : a ∈ As) : z_fr As h (z_sA h' a i v) := ⟨fun j => (z_ck_sA j).trans (h1.1 j), fun j hj => (z_at_sA (fun z => hj (by rw [z]; exact ha))).trans (h1.2 j hj)⟩
theorem z_fr.sJ {y : Int64} (h1 : z_fr As h h') (ha : a ∈ As) : z_fr As h (z_sJ h' a i y) := ⟨fun j => (z_ck_sJ j).trans (h1.1 j), fun j hj => (z_at_sJ (fun z => hj (by rw [z]; exact ha))).trans (h1.2 j hj)⟩
theorem z_I_of (e : h'[a]? = h[a]?) : z_I h' a k = z_I h a k := by unfold z_I; rw [e]
theorem z_R_of (e : h'[a]? = h[a]?) : z_R h' a k = z_R h a k := by unfold z_R; rw [e]
theorem z_A_of (e : h'[a]? = h[a]?) : z_A h' a k = z_A h a k := by unfold z_A; rw [e]
theorem z_J_of (e : h'[a]? = h[a]?) : z_J h' a k = z_J h a k := by unfold z_J; rw [e]
theorem z_Q_of (e : h'[a]? = h[a]?) : z_Q h' a k = z_Q h a k := by unfold z_Q; rw [e]
theorem z_fr.I (h1 : z_fr As h h') (ha : a ∉ As) : z_I h' a k = z_I h a k := z_I_of (h1.2 a ha)
theorem z_fr.R (h1 : z_fr As h h') (ha : a ∉ As) : z_R h' a k = z_R h a k := z_R_of (h1.2 a ha)
theorem z_fr.A (h1 : z_fr As h h') (ha : a ∉ As) : z_A h' a k = z_A h a k := z_A_of (h1.2 a ha)
theorem z_fr.J (h1 : z_fr As h h') (ha : a ∉ As) : z_J h' a k = z_J h a k := z_J_of (h1.2 a ha)
theorem z_fr.Q (h1 : z_fr As h h') (ha : a ∉ As) : z_Q h' a k = z_Q h a k := z_Q_of (h1.2 a ha)
-- reads behind writes
theorem z_I_sI_ne (hj : b ≠ a) : z_I (z_sI h a k v) b m = z_I h b m := z_I_of (z_at_sI hj)
theorem z_I_sI_nk (hj : m ≠ k) : z_I (z_sI h a k v) a m = z_I h a m := by
  unfold z_sI
  split
  · next c fs h1 =>
    split
    · next y h2 =>
      unfold z_I
      rw [List.getElem?_set_self (List.getElem?_eq_some_iff.mp h1).1, h1]
      simp only []
      rw [List.getElem?_set_ne (Ne.symm hj)]
    · rfl
  · rfl
theorem z_I_sI (e : z_ck h a = some (4, (c, ks))) (hk : ks[k]? = some 0) : z_I (z_sI h a k v) a k = v := by
  obtain ⟨fs, y, h1, -, h3⟩ := z_fldI e hk
  unfold z_sI
  simp only [h1, h3]
  unfold z_I
  rw [List.getElem?_set_self (List.getElem?_eq_some_iff.mp h1).1]
  simp only []
  rw [List.getElem?_set_self (List.getElem?_eq_some_iff.mp h3).1]
theorem z_R_sI : z_R (z_sI h a k v) b m = z_R h b m := by
  by_cases hj : b = a
  · subst hj
    unfold z_sI
    split
    · next c fs h1 =>
      split
      · next y h2 =>
        unfold z_R
        rw [List.getElem?_set_self (List.getElem?_eq_some_iff.mp h1).1, h1]
        simp only []
        rw [List.getElem?_set]
        by_cases e : k = m
        · subst e; rw [if_pos rfl, if_pos (List.getElem?_eq_some_iff.mp h2).1, h2]
        · rw [if_neg e]
      · rfl
    · rfl
  · exact z_R_of (z_at_sI hj)
theorem z_I_sR : z_I (z_sR h a k r) b m = z_I h b m := by
  by_cases hj : b = a
  · subst hj
    unfold z_sR
    split
    · next c fs h1 =>
      split
      · next y h2 =>
        split
        · unfold z_I
          rw [List.getElem?_set_self (List.getElem?_eq_some_iff.mp h1).1, h1]
          simp only []
          rw [List.getElem?_set]
          by_cases e : k = m
          · subst e; rw [if_pos rfl, if_pos (List.getElem?_eq_some_iff.mp h2).1, h2]
          · rw [if_neg e]
        · rfl
      · rfl
    · rfl
  · exact z_I_of (z_at_sR hj)
theorem z_R_sR_ne (hj : b ≠ a) : z_R (z_sR h a k r) b m = z_R h b m := z_R_of (z_at_sR hj)
theorem z_R_sR_nk (hj : m ≠ k) : z_R (z_sR h a k r) a m = z_R h a m := by
  unfold z_sR
  split
  · next c fs h1 =>
    split
    · next y h2 =>
      split
      · unfold z_R
        rw [List.getElem?_set_self (List.getElem?_eq_some_iff.mp h1).1, h1]
        simp only []
        rw [List.getElem?_set_ne (Ne.symm hj)]
      · rfl
    · rfl
  · rfl
theorem z_R_sR (e : z_ck h a = some (4, (c, ks))) (hk : ks[k]? = some x) (hx : 2 ≤ x) (hw : z_wd c k 9 = 2) : z_R (z_sR h a k r) a k = r := by
  obtain ⟨fs, y, h1, -, h3, -⟩ := z_fldR e hk hx
  unfold z_sR
  simp only [h1, h3, hw, if_true]
  unfold z_R
  rw [List.getElem?_set_self (List.getElem?_eq_some_iff.mp h1).1]
  simp only []
  rw [List.getElem?_set_self (List.getElem?_eq_some_iff.mp h3).1]
theorem z_A_sI : z_A (z_sI h a k v) b m = z_A h b m := by
  by_cases hj : b = a
  · subst hj
    unfold z_sI
    split
    · next c fs h1 =>
      split
      · unfold z_A
        rw [List.getElem?_set_self (List.getElem?_eq_some_iff.mp h1).1, h1]
      · rfl
    · rfl
  · exact z_A_of (z_at_sI hj)
theorem z_J_sI : z_J (z_sI h a k v) b m = z_J h b m := by
  by_cases hj : b = a
  · subst hj
    unfold z_sI
    split
    · next c fs h1 =>
      split
      · unfold z_J
        rw [List.getElem?_set_self (List.getElem?_eq_some_iff.mp h1).1, h1]
      · rfl
    · rfl
  · exact z_J_of (z_at_sI hj)
theorem z_Q_sI : z_Q (z_sI h a k v) b m = z_Q h b m := by
  by_cases hj : b = a
  · subst hj
    unfold z_sI
    split
    · next c fs h1 =>
      split
      · unfold z_Q
        rw [List.getElem?_set_self (List.getElem?_eq_some_iff.mp h1).1, h1]
      · rfl
    · rfl
  · exact z_Q_of (z_at_sI hj)
theorem z_A_sR : z_A (z_sR h a k r) b m = z_A h b m := by
  by_cases hj : b = a
  · subst hj
    unfold z_sR
    split
    · next c fs h1 =>
      split
      · split
        · unfold z_A
          rw [List.getElem?_set_self (List.getElem?_eq_some_iff.mp h1).1, h1]
        · rfl
      · rfl
    · rfl
  · exact z_A_of (z_at_sR hj)
theorem z_J_sR : z_J (z_sR h a k r) b m = z_J h b m := by
  by_cases hj : b = a
  · subst hj
    unfold z_sR
    split
    · next c fs h1 =>
      split
      · split
        · unfold z_J
          rw [List.getElem?_set_self (List.getElem?_eq_some_iff.mp h1).1, h1]
        · rfl
      · rfl
    · rfl
  · exact z_J_of (z_at_sR hj)
theorem z_I_sA : z_I (z_sA h a i v) b m = z_I h b m := by
  by_cases hj : b = a
  · subst hj
    unfold z_sA
    split
    · next n f h1 =>
      unfold z_I
      rw [List.getElem?_set_self (List.getElem?_eq_some_iff.mp h1).1, h1]
    · rfl
  · exact z_I_of (z_at_sA hj)
theorem z_R_sA : z_R (z_sA h a i v) b m = z_R h b m := by
  by_cases hj : b = a
  · subst hj
    unfold z_sA
    split
    · next n f h1 =>
      unfold z_R
      rw [List.getElem?_set_self (List.getElem?_eq_some_iff.mp h1).1, h1]
    · rfl
  · exact z_R_of (z_at_sA hj)
theorem z_J_sA : z_J (z_sA h a i v) b m = z_J h b m := by
  by_cases hj : b = a
  · subst hj
    unfold z_sA
    split
    · next n f h1 =>
      unfold z_J
      rw [List.getElem?_set_self (List.getElem?_eq_some_iff.mp h1).1, h1]
    · rfl
  · exact z_J_of (z_at_sA hj)
theorem z_Q_sA : z_Q (z_sA h a i v) b m = z_Q h b m := by
  by_cases hj : b = a
  · subst hj
    unfold z_sA
    split
    · next n f h1 =>
      unfold z_Q
      rw [List.getElem?_set_self (List.getElem?_eq_some_iff.mp h1).1, h1]
    · rfl
  · exact z_Q_of (z_at_sA hj)
theorem z_A_sA_ne (hj : b ≠ a) : z_A (z_sA h a i v) b m = z_A h b m := z_A_of (z_at_sA hj)
theorem z_A_sA_nk (hj : m ≠ i) : z_A (z_sA h a i v) a m = z_A h a m := by
  unfold z_sA
  split
  · next n f h1 =>
    unfold z_A
    rw [List.getElem?_set_self (List.getElem?_eq_some_iff.mp h1).1, h1]
    exact pk_un hj
  · rfl
theorem z_A_sA (e : z_ck h a = some (1, (n, []))) : z_A (z_sA h a i v) a m = if m = i then v else z_A h a m := by
  obtain ⟨f, h1⟩ := z_arr e
  unfold z_sA
  simp only [h1]
  unfold z_A
  rw [List.getElem?_set_self (List.getElem?_eq_some_iff.mp h1).1]
  simp only [h1]
  split
  · next e => subst e; exact pk_us
  · next e => exact pk_un e
theorem z_J_sJ_ne {y : Int64} (hj : b ≠ a) : z_J (z_sJ h a i y) b m = z_J h b m := z_J_of (z_at_sJ hj)
theorem z_J_sJ {y : Int64} (e : z_ck h a = some (2, (n, []))) : z_J (z_sJ h a i y) a m = if m = i then y else z_J h a m := by
  obtain ⟨f, h1⟩ := z_arrJ e
  unfold z_sJ
  simp only [h1]
  unfold z_J
  rw [List.getElem?_set_self (List.getElem?_eq_some_iff.mp h1).1]
  simp only [h1]
  split
  · next e => subst e; exact pk_uLs
  · next e => exact pk_uLn e
theorem z_I_sJ {y : Int64} : z_I (z_sJ h a i y) b m = z_I h b m := by
  by_cases hj : b = a
  · subst hj
    unfold z_sJ
    split
    · next n f h1 =>
      unfold z_I
      rw [List.getElem?_set_self (List.getElem?_eq_some_iff.mp h1).1, h1]
    · rfl
  · exact z_I_of (z_at_sJ hj)
theorem z_A_sJ {y : Int64} : z_A (z_sJ h a i y) b m = z_A h b m := by
  by_cases hj : b = a
  · subst hj
    unfold z_sJ
    split
    · next n f h1 =>
      unfold z_A
      rw [List.getElem?_set_self (List.getElem?_eq_some_iff.mp h1).1, h1]
    · rfl
  · exact z_A_of (z_at_sJ hj)
theorem z_R_sJ {y : Int64} : z_R (z_sJ h a i y) b m = z_R h b m := by
  by_cases hj : b = a
  · subst hj
    unfold z_sJ
    split
    · next n f h1 =>
      unfold z_R
      rw [List.getElem?_set_self (List.getElem?_eq_some_iff.mp h1).1, h1]
    · rfl
  · exact z_R_of (z_at_sJ hj)
end W0
/-- the cells by their kinds: (4, class, fields: 0 int, 2 a reference that changes, n + 3 the cell n), (1, ints), (2, longs), (3, references) -/
def z_S : List (Nat × (Nat × List Nat)) := [
  (7, (0, [])),
  (7, (0, [])),
  (7, (0, [])),
  (7, (0, [])),
  (7, (0, [])),
  (7, (0, [])),
  (7, (0, [])),
  (7, (0, [])),
  (7, (0, [])),
  (7, (0, [])),
  (7, (0, [])),
  (7, (0, [])),
  (7, (0, [])),
  (7, (0, [])),
  (7, (0, [])),
  (4, (11, [19, 21, 28, 32, 37, 0, 42, 45, 0, 0, 46, 0, 51, 62, 64, 67])),
  (4, (6, [20, 0, 0, 0])),
  (1, (240, [])),
  (4, (8, [19, 22, 27, 0])),
  (4, (7, [0, 0, 23, 24, 25, 0, 0, 0, 0, 0, 0, 0, 0, 26, 0])),
  (1, (60, [])),
  (1, (12, [])),
  (1, (32, [])),
  (1, (100, [])),
  (1, (6, [])),
  (4, (2, [19, 29])),
  (4, (1, [30, 31, 0, 0, 0])),
  (1, (240, [])),
  (1, (40, [])),
  (4, (7, [0, 0, 33, 34, 35, 0, 0, 0, 0, 0, 0, 0, 0, 36, 0])),
  (1, (60, [])),
  (1, (12, [])),
  (1, (32, [])),
  (1, (100, [])),
  (4, (7, [0, 0, 38, 39, 40, 0, 0, 0, 0, 0, 0, 0, 0, 41, 0])),
  (1, (60, [])),
  (1, (12, [])),
  (1, (32, [])),
  (1, (100, [])),
  (4, (1, [43, 44, 0, 0, 0])),
  (1, (240, [])),
  (1, (40, [])),
  (3, (4, [])),
  (4, (0, [47, 48, 49, 50, 0, 0])),
  (1, (40, [])),
  (1, (40, [])),
  (1, (40, [])),
  (1, (40, [])),
  (4, (9, [52, 2, 0, 0, 0, 0, 0, 57, 58, 59, 60, 61, 0, 0, 0, 0])),
  (4, (7, [0, 0, 53, 54, 55, 0, 0, 0, 0, 0, 0, 0, 0, 56, 0])),
  (1, (60, [])),
  (1, (12, [])),
  (1, (32, [])),
  (1, (100, [])),
  (1, (144, [])),
  (1, (12, [])),
  (1, (576, [])),
  (1, (8, [])),
  (1, (3744, [])),
  (4, (10, [51, 0, 0, 0, 63])),
  (1, (4, [])),
  (4, (5, [51, 2, 2])),
  (2, (156, [])),
  (2, (156, [])),
  (4, (4, [51, 68, 69, 0, 70, 0, 0, 0, 0])),
  (1, (12, [])),
  (1, (12, [])),
  (1, (21, [])),
  (4, (12, [0, 72, 0, 0, 0, 0, 73, 74, 75, 76, 77, 78, 79, 0, 0, 80, 81, 82, 83, 84, 0, 0, 85, 86, 0, 0, 87, 88, 0, 0, 89, 0, 0, 0, 0, 90, 0, 0, 0, 0, 91, 92, 93, 94, 95, 96, 97, 0, 98, 0])),
  (1, (240, [])),
  (1, (2600, [])),
  (1, (2600, [])),
  (1, (5, [])),
  (1, (5, [])),
  (1, (700, [])),
  (1, (700, [])),
  (1, (700, [])),
  (1, (8, [])),
  (1, (80, [])),
  (1, (3, [])),
  (1, (72, [])),
  (1, (48, [])),
  (1, (72, [])),
  (1, (48, [])),
  (1, (118, [])),
  (1, (12, [])),
  (1, (4720, [])),
  (1, (3744, [])),
  (1, (118, [])),
  (1, (156, [])),
  (1, (156, [])),
  (2, (156, [])),
  (2, (156, [])),
  (1, (12, [])),
  (1, (12, [])),
  (1, (118, [])),
  (2, (1, []))]
/-- the world stands: outside as at the law's entry, the cells 15 .. 96 as the table has them -/
def z_Sh (h : fw_H) : Prop := (∃ (L : Nat) (xs : Nat → Int32), L ≤ 3072 ∧ ∀ j, j < 15 → h[j]? = (gl_h0 L xs)[j]?) ∧ ∀ j, 15 ≤ j → j < 97 → z_ck h j = z_S[j]?
section W1
variable {h h' : fw_H} {As : List Nat} {a c i k n m x : Nat} {ks : List Nat} {r : Option Nat} {v : Int32}
def z_ka (a : Nat) : Option (Nat × (Nat × List Nat)) := if 15 ≤ a then z_S[a]? else none
theorem z_ckT {q : Nat × (Nat × List Nat)} (hS : z_Sh h) (e : z_ka a = some q) : z_ck h a = some q := by
  unfold z_ka at e
  split at e
  · next h15 => exact (hS.2 a h15 (List.getElem?_eq_some_iff.mp e).1).trans e
  · cases e
theorem z_ckS (hS : z_Sh h) (e : z_ka a = some (4, (c, ks))) : f_ck h (some a) c = some () := z_ckO (z_ckT hS e)
def z_fk (a c k : Nat) : Option Nat := match z_ka a with
  | some (4, (c', ks)) => if c' = c then ks[k]? else none
  | _ => none
theorem z_fkT (e : z_fk a c k = some x) : ∃ ks, z_ka a = some (4, (c, ks)) ∧ ks[k]? = some x := by
  unfold z_fk at e
  split at e
  · next c' ks h1 =>
    split at e
    · next hc => subst hc; exact ⟨ks, h1, e⟩
    · cases e
  · cases e
theorem z_gIS (hS : z_Sh h) (e : z_fk a c k = some 0) : f_gI h (some a) c k = some (z_I h a k) := by
  obtain ⟨ks, h1, h2⟩ := z_fkT e
  exact z_gI (z_ckT hS h1) h2
theorem z_pIS (hS : z_Sh h) (e : z_fk a c k = some 0) : f_pI h (some a) c k v = some (z_sI h a k v) := by
  obtain ⟨ks, h1, h2⟩ := z_fkT e
  exact z_pI (z_ckT hS h1) h2
theorem z_gRS (hS : z_Sh h) (e : z_fk a c k = some x) (hx : 2 ≤ x) : f_gR h (some a) c k = some (z_R h a k) := by
  obtain ⟨ks, h1, h2⟩ := z_fkT e
  exact z_gRx (z_ckT hS h1) h2 hx
theorem z_gRC (hS : z_Sh h) (e : z_fk a c k = some (m + 3)) : f_gR h (some a) c k = some (some m) := by
  obtain ⟨ks, h1, h2⟩ := z_fkT e
  exact z_gR (z_ckT hS h1) h2
theorem z_pRS (hS : z_Sh h) (e : z_fk a c k = some x) (hx : 2 ≤ x) (hw : z_wd c k 9 = 2) : f_pR h (some a) c k r = some (z_sR h a k r) := by
  obtain ⟨ks, h1, h2⟩ := z_fkT e
  exact z_pR (z_ckT hS h1) h2 hx hw
theorem z_II (hS : z_Sh h) (c : Nat) (e : z_fk a c k = some 0) : z_I (z_sI h a k v) a k = v := by
  obtain ⟨ks, h1, h2⟩ := z_fkT e
  exact z_I_sI (z_ckT hS h1) h2
theorem z_lnS (hS : z_Sh h) (e : z_ka a = some (1, (n, []))) : f_lnI h (some a) = some (nI n) := z_ln (z_ckT hS e)
theorem z_aIS (hS : z_Sh h) (e : z_ka a = some (1, (n, []))) (hi : i < n) (hn : n ≤ 2 ^ 31) : f_aI h (some a) (nI i) = some (z_A h a i) := z_aI (z_ckT hS e) hi hn
theorem z_sIS (hS : z_Sh h) (e : z_ka a = some (1, (n, []))) (hi : i < n) (hn : n ≤ 2 ^ 31) : f_sI h (some a) (nI i) v = some (z_sA h a i v) := z_sIx (z_ckT hS e) hi hn
-- the world stands on
theorem z_Sh.of (hS : z_Sh h) (hc : ∀ j, z_ck h' j = z_ck h j) (hj : ∀ j, j < 15 → h'[j]? = h[j]?) : z_Sh h' := ⟨by obtain ⟨L, xs, hL, h0⟩ := hS.1; exact ⟨L, xs, hL, fun j h1 => (hj j h1).trans (h0 j h1)⟩, fun j h1 h2 => (hc j).trans (hS.2 j h1 h2)⟩
theorem z_Sh.fr (hS : z_Sh h) (hf : z_fr As h h') (hA : ∀ j, j ∈ As → 15 ≤ j) : z_Sh h' := hS.of hf.1 (fun j h1 => hf.2 j (fun z => absurd (hA j z) (by omega)))
theorem z_out (hS : z_Sh h) (hj : i < 15) : ∃ e : fw_E, h[i]? = some e ∧ (∀ n f, e ≠ fw_I n f) ∧ (∀ n f, e ≠ fw_J n f) ∧ ∀ c fs, e ≠ fw_O c fs := by
  obtain ⟨L, xs, -, h0⟩ := hS.1
  rw [h0 i hj]
  by_cases h7 : i < 7
  · refine ⟨.inr (.inr (.inl (gl_xa L xs i))), ?_, fun n f => nofun, fun n f => nofun, fun c fs => nofun⟩
    rw [gl_h0, List.getElem?_append_left (by simpa using h7)]
    simp [h7]
  · refine ⟨fw_XS (i - 7), ?_, fun n f => nofun, fun n f => nofun, fun c fs => nofun⟩
    rw [gl_h0, List.getElem?_append_right (by simpa using Nat.le_of_not_lt h7)]
    simp only [List.length_map, List.length_range]
    rw [List.getElem?_map, List.getElem?_range (by omega)]
    rfl
theorem z_Sh_sI (hS : z_Sh h) : z_Sh (z_sI h a k v) := by
  refine hS.of (fun j => z_ck_sI j) (fun j hj => ?_)
  by_cases e : j = a
  · subst e
    obtain ⟨e, h1, -, -, h4⟩ := z_out hS hj
    unfold z_sI
    split
    · next c fs h2 => rw [h1] at h2; cases h2; exact absurd rfl (h4 c fs)
    · rfl
  · exact z_at_sI e
theorem z_Sh_sR (hS : z_Sh h) : z_Sh (z_sR h a k r) := by
  refine hS.of (fun j => z_ck_sR j) (fun j hj => ?_)
  by_cases e : j = a
  · subst e
    obtain ⟨e, h1, -, -, h4⟩ := z_out hS hj
    unfold z_sR
    split
    · next c fs h2 => rw [h1] at h2; cases h2; exact absurd rfl (h4 c fs)
    · rfl
  · exact z_at_sR e
theorem z_Sh_sA (hS : z_Sh h) : z_Sh (z_sA h a i v) := by
  refine hS.of (fun j => z_ck_sA j) (fun j hj => ?_)
  by_cases e : j = a
  · subst e
    obtain ⟨e, h1, h2, -, -⟩ := z_out hS hj
    unfold z_sA
    split
    · next n f h3 => rw [h1] at h3; cases h3; exact absurd rfl (h2 n f)
    · rfl
  · exact z_at_sA e
theorem z_Sh_sJ {y : Int64} (hS : z_Sh h) : z_Sh (z_sJ h a i y) := by
  refine hS.of (fun j => z_ck_sJ j) (fun j hj => ?_)
  by_cases e : j = a
  · subst e
    obtain ⟨e, h1, -, h2, -⟩ := z_out hS hj
    unfold z_sJ
    split
    · next n f h3 => rw [h1] at h3; cases h3; exact absurd rfl (h2 n f)
    · rfl
  · exact z_at_sJ e
theorem z_IIS (hS : z_Sh h) (c : Nat) (e : z_fk a c k = some 0) {b m : Nat} : z_I (z_sI h a k v) b m = if b = a ∧ m = k then v else z_I h b m := by
  by_cases h1 : b = a
  · subst h1
    by_cases h2 : m = k
    · subst h2; rw [if_pos ⟨rfl, rfl⟩]; exact z_II hS c e
    · rw [if_neg (fun z => h2 z.2)]; exact z_I_sI_nk h2
  · rw [if_neg (fun z => h1 z.1)]; exact z_I_sI_ne h1
end W1

section WR
variable {h : fw_H}
theorem z_c15 (hS : z_Sh h) : f_ck h (some 15) 11 = some () := z_ckS hS (ks := _) rfl
theorem z_r15_0 (hS : z_Sh h) : f_gR h (some 15) 11 0 = some (some 16) := z_gRC hS rfl
theorem z_r15_1 (hS : z_Sh h) : f_gR h (some 15) 11 1 = some (some 18) := z_gRC hS rfl
theorem z_r15_2 (hS : z_Sh h) : f_gR h (some 15) 11 2 = some (some 25) := z_gRC hS rfl
theorem z_r15_3 (hS : z_Sh h) : f_gR h (some 15) 11 3 = some (some 29) := z_gRC hS rfl
theorem z_r15_4 (hS : z_Sh h) : f_gR h (some 15) 11 4 = some (some 34) := z_gRC hS rfl
theorem z_i15_5 (hS : z_Sh h) : f_gI h (some 15) 11 5 = some (z_I h 15 5) := z_gIS hS rfl
theorem z_w15_5 (hS : z_Sh h) {x : Int32} : f_pI h (some 15) 11 5 x = some (z_sI h 15 5 x) := z_pIS hS rfl
theorem z_r15_6 (hS : z_Sh h) : f_gR h (some 15) 11 6 = some (some 39) := z_gRC hS rfl
theorem z_r15_7 (hS : z_Sh h) : f_gR h (some 15) 11 7 = some (some 42) := z_gRC hS rfl
theorem z_i15_8 (hS : z_Sh h) : f_gI h (some 15) 11 8 = some (z_I h 15 8) := z_gIS hS rfl
theorem z_w15_8 (hS : z_Sh h) {x : Int32} : f_pI h (some 15) 11 8 x = some (z_sI h 15 8 x) := z_pIS hS rfl
theorem z_i15_9 (hS : z_Sh h) : f_gI h (some 15) 11 9 = some (z_I h 15 9) := z_gIS hS rfl
theorem z_w15_9 (hS : z_Sh h) {x : Int32} : f_pI h (some 15) 11 9 x = some (z_sI h 15 9 x) := z_pIS hS rfl
theorem z_r15_10 (hS : z_Sh h) : f_gR h (some 15) 11 10 = some (some 43) := z_gRC hS rfl
theorem z_i15_11 (hS : z_Sh h) : f_gI h (some 15) 11 11 = some (z_I h 15 11) := z_gIS hS rfl
theorem z_w15_11 (hS : z_Sh h) {x : Int32} : f_pI h (some 15) 11 11 x = some (z_sI h 15 11 x) := z_pIS hS rfl
theorem z_r15_12 (hS : z_Sh h) : f_gR h (some 15) 11 12 = some (some 48) := z_gRC hS rfl
theorem z_r15_13 (hS : z_Sh h) : f_gR h (some 15) 11 13 = some (some 59) := z_gRC hS rfl
theorem z_r15_14 (hS : z_Sh h) : f_gR h (some 15) 11 14 = some (some 61) := z_gRC hS rfl
theorem z_r15_15 (hS : z_Sh h) : f_gR h (some 15) 11 15 = some (some 64) := z_gRC hS rfl
theorem z_c16 (hS : z_Sh h) : f_ck h (some 16) 6 = some () := z_ckS hS (ks := _) rfl
theorem z_r16_0 (hS : z_Sh h) : f_gR h (some 16) 6 0 = some (some 17) := z_gRC hS rfl
theorem z_i16_1 (hS : z_Sh h) : f_gI h (some 16) 6 1 = some (z_I h 16 1) := z_gIS hS rfl
theorem z_w16_1 (hS : z_Sh h) {x : Int32} : f_pI h (some 16) 6 1 x = some (z_sI h 16 1 x) := z_pIS hS rfl
theorem z_i16_2 (hS : z_Sh h) : f_gI h (some 16) 6 2 = some (z_I h 16 2) := z_gIS hS rfl
theorem z_w16_2 (hS : z_Sh h) {x : Int32} : f_pI h (some 16) 6 2 x = some (z_sI h 16 2 x) := z_pIS hS rfl
theorem z_i16_3 (hS : z_Sh h) : f_gI h (some 16) 6 3 = some (z_I h 16 3) := z_gIS hS rfl
theorem z_w16_3 (hS : z_Sh h) {x : Int32} : f_pI h (some 16) 6 3 x = some (z_sI h 16 3 x) := z_pIS hS rfl
theorem z_l17 (hS : z_Sh h) : f_lnI h (some 17) = some (nI 240) := z_lnS hS rfl
theorem z_a17 (hS : z_Sh h) {i : Nat} (hi : i < 240) : f_aI h (some 17) (nI i) = some (z_A h 17 i) := z_aIS hS (n := 240) rfl hi (Nat.le_of_ble_eq_true rfl)
theorem z_s17 (hS : z_Sh h) {i : Nat} (hi : i < 240) {x : Int32} : f_sI h (some 17) (nI i) x = some (z_sA h 17 i x) := z_sIS hS (n := 240) rfl hi (Nat.le_of_ble_eq_true rfl)
theorem z_c18 (hS : z_Sh h) : f_ck h (some 18) 8 = some () := z_ckS hS (ks := _) rfl
theorem z_r18_0 (hS : z_Sh h) : f_gR h (some 18) 8 0 = some (some 16) := z_gRC hS rfl
theorem z_r18_1 (hS : z_Sh h) : f_gR h (some 18) 8 1 = some (some 19) := z_gRC hS rfl
theorem z_r18_2 (hS : z_Sh h) : f_gR h (some 18) 8 2 = some (some 24) := z_gRC hS rfl
theorem z_i18_3 (hS : z_Sh h) : f_gI h (some 18) 8 3 = some (z_I h 18 3) := z_gIS hS rfl
theorem z_w18_3 (hS : z_Sh h) {x : Int32} : f_pI h (some 18) 8 3 x = some (z_sI h 18 3 x) := z_pIS hS rfl
theorem z_c19 (hS : z_Sh h) : f_ck h (some 19) 7 = some () := z_ckS hS (ks := _) rfl
theorem z_i19_0 (hS : z_Sh h) : f_gI h (some 19) 7 0 = some (z_I h 19 0) := z_gIS hS rfl
theorem z_w19_0 (hS : z_Sh h) {x : Int32} : f_pI h (some 19) 7 0 x = some (z_sI h 19 0 x) := z_pIS hS rfl
theorem z_i19_1 (hS : z_Sh h) : f_gI h (some 19) 7 1 = some (z_I h 19 1) := z_gIS hS rfl
theorem z_w19_1 (hS : z_Sh h) {x : Int32} : f_pI h (some 19) 7 1 x = some (z_sI h 19 1 x) := z_pIS hS rfl
theorem z_r19_2 (hS : z_Sh h) : f_gR h (some 19) 7 2 = some (some 20) := z_gRC hS rfl
theorem z_r19_3 (hS : z_Sh h) : f_gR h (some 19) 7 3 = some (some 21) := z_gRC hS rfl
theorem z_r19_4 (hS : z_Sh h) : f_gR h (some 19) 7 4 = some (some 22) := z_gRC hS rfl
theorem z_i19_5 (hS : z_Sh h) : f_gI h (some 19) 7 5 = some (z_I h 19 5) := z_gIS hS rfl
theorem z_w19_5 (hS : z_Sh h) {x : Int32} : f_pI h (some 19) 7 5 x = some (z_sI h 19 5 x) := z_pIS hS rfl
theorem z_i19_6 (hS : z_Sh h) : f_gI h (some 19) 7 6 = some (z_I h 19 6) := z_gIS hS rfl
theorem z_w19_6 (hS : z_Sh h) {x : Int32} : f_pI h (some 19) 7 6 x = some (z_sI h 19 6 x) := z_pIS hS rfl
theorem z_i19_7 (hS : z_Sh h) : f_gI h (some 19) 7 7 = some (z_I h 19 7) := z_gIS hS rfl
theorem z_w19_7 (hS : z_Sh h) {x : Int32} : f_pI h (some 19) 7 7 x = some (z_sI h 19 7 x) := z_pIS hS rfl
theorem z_i19_8 (hS : z_Sh h) : f_gI h (some 19) 7 8 = some (z_I h 19 8) := z_gIS hS rfl
theorem z_w19_8 (hS : z_Sh h) {x : Int32} : f_pI h (some 19) 7 8 x = some (z_sI h 19 8 x) := z_pIS hS rfl
theorem z_i19_9 (hS : z_Sh h) : f_gI h (some 19) 7 9 = some (z_I h 19 9) := z_gIS hS rfl
theorem z_w19_9 (hS : z_Sh h) {x : Int32} : f_pI h (some 19) 7 9 x = some (z_sI h 19 9 x) := z_pIS hS rfl
theorem z_i19_10 (hS : z_Sh h) : f_gI h (some 19) 7 10 = some (z_I h 19 10) := z_gIS hS rfl
theorem z_w19_10 (hS : z_Sh h) {x : Int32} : f_pI h (some 19) 7 10 x = some (z_sI h 19 10 x) := z_pIS hS rfl
theorem z_i19_11 (hS : z_Sh h) : f_gI h (some 19) 7 11 = some (z_I h 19 11) := z_gIS hS rfl
theorem z_w19_11 (hS : z_Sh h) {x : Int32} : f_pI h (some 19) 7 11 x = some (z_sI h 19 11 x) := z_pIS hS rfl
theorem z_i19_12 (hS : z_Sh h) : f_gI h (some 19) 7 12 = some (z_I h 19 12) := z_gIS hS rfl
theorem z_w19_12 (hS : z_Sh h) {x : Int32} : f_pI h (some 19) 7 12 x = some (z_sI h 19 12 x) := z_pIS hS rfl
theorem z_r19_13 (hS : z_Sh h) : f_gR h (some 19) 7 13 = some (some 23) := z_gRC hS rfl
theorem z_i19_14 (hS : z_Sh h) : f_gI h (some 19) 7 14 = some (z_I h 19 14) := z_gIS hS rfl
theorem z_w19_14 (hS : z_Sh h) {x : Int32} : f_pI h (some 19) 7 14 x = some (z_sI h 19 14 x) := z_pIS hS rfl
theorem z_l20 (hS : z_Sh h) : f_lnI h (some 20) = some (nI 60) := z_lnS hS rfl
theorem z_a20 (hS : z_Sh h) {i : Nat} (hi : i < 60) : f_aI h (some 20) (nI i) = some (z_A h 20 i) := z_aIS hS (n := 60) rfl hi (Nat.le_of_ble_eq_true rfl)
theorem z_s20 (hS : z_Sh h) {i : Nat} (hi : i < 60) {x : Int32} : f_sI h (some 20) (nI i) x = some (z_sA h 20 i x) := z_sIS hS (n := 60) rfl hi (Nat.le_of_ble_eq_true rfl)
theorem z_l21 (hS : z_Sh h) : f_lnI h (some 21) = some (nI 12) := z_lnS hS rfl
theorem z_a21 (hS : z_Sh h) {i : Nat} (hi : i < 12) : f_aI h (some 21) (nI i) = some (z_A h 21 i) := z_aIS hS (n := 12) rfl hi (Nat.le_of_ble_eq_true rfl)
theorem z_s21 (hS : z_Sh h) {i : Nat} (hi : i < 12) {x : Int32} : f_sI h (some 21) (nI i) x = some (z_sA h 21 i x) := z_sIS hS (n := 12) rfl hi (Nat.le_of_ble_eq_true rfl)
theorem z_l22 (hS : z_Sh h) : f_lnI h (some 22) = some (nI 32) := z_lnS hS rfl
theorem z_a22 (hS : z_Sh h) {i : Nat} (hi : i < 32) : f_aI h (some 22) (nI i) = some (z_A h 22 i) := z_aIS hS (n := 32) rfl hi (Nat.le_of_ble_eq_true rfl)
theorem z_s22 (hS : z_Sh h) {i : Nat} (hi : i < 32) {x : Int32} : f_sI h (some 22) (nI i) x = some (z_sA h 22 i x) := z_sIS hS (n := 32) rfl hi (Nat.le_of_ble_eq_true rfl)
theorem z_l23 (hS : z_Sh h) : f_lnI h (some 23) = some (nI 100) := z_lnS hS rfl
theorem z_a23 (hS : z_Sh h) {i : Nat} (hi : i < 100) : f_aI h (some 23) (nI i) = some (z_A h 23 i) := z_aIS hS (n := 100) rfl hi (Nat.le_of_ble_eq_true rfl)
theorem z_s23 (hS : z_Sh h) {i : Nat} (hi : i < 100) {x : Int32} : f_sI h (some 23) (nI i) x = some (z_sA h 23 i x) := z_sIS hS (n := 100) rfl hi (Nat.le_of_ble_eq_true rfl)
theorem z_l24 (hS : z_Sh h) : f_lnI h (some 24) = some (nI 6) := z_lnS hS rfl
theorem z_a24 (hS : z_Sh h) {i : Nat} (hi : i < 6) : f_aI h (some 24) (nI i) = some (z_A h 24 i) := z_aIS hS (n := 6) rfl hi (Nat.le_of_ble_eq_true rfl)
theorem z_s24 (hS : z_Sh h) {i : Nat} (hi : i < 6) {x : Int32} : f_sI h (some 24) (nI i) x = some (z_sA h 24 i x) := z_sIS hS (n := 6) rfl hi (Nat.le_of_ble_eq_true rfl)
theorem z_c25 (hS : z_Sh h) : f_ck h (some 25) 2 = some () := z_ckS hS (ks := _) rfl
theorem z_r25_0 (hS : z_Sh h) : f_gR h (some 25) 2 0 = some (some 16) := z_gRC hS rfl
theorem z_r25_1 (hS : z_Sh h) : f_gR h (some 25) 2 1 = some (some 26) := z_gRC hS rfl
theorem z_c26 (hS : z_Sh h) : f_ck h (some 26) 1 = some () := z_ckS hS (ks := _) rfl
theorem z_r26_0 (hS : z_Sh h) : f_gR h (some 26) 1 0 = some (some 27) := z_gRC hS rfl
theorem z_r26_1 (hS : z_Sh h) : f_gR h (some 26) 1 1 = some (some 28) := z_gRC hS rfl
theorem z_i26_2 (hS : z_Sh h) : f_gI h (some 26) 1 2 = some (z_I h 26 2) := z_gIS hS rfl
theorem z_w26_2 (hS : z_Sh h) {x : Int32} : f_pI h (some 26) 1 2 x = some (z_sI h 26 2 x) := z_pIS hS rfl
theorem z_i26_3 (hS : z_Sh h) : f_gI h (some 26) 1 3 = some (z_I h 26 3) := z_gIS hS rfl
theorem z_w26_3 (hS : z_Sh h) {x : Int32} : f_pI h (some 26) 1 3 x = some (z_sI h 26 3 x) := z_pIS hS rfl
theorem z_i26_4 (hS : z_Sh h) : f_gI h (some 26) 1 4 = some (z_I h 26 4) := z_gIS hS rfl
theorem z_w26_4 (hS : z_Sh h) {x : Int32} : f_pI h (some 26) 1 4 x = some (z_sI h 26 4 x) := z_pIS hS rfl
theorem z_l27 (hS : z_Sh h) : f_lnI h (some 27) = some (nI 240) := z_lnS hS rfl
theorem z_a27 (hS : z_Sh h) {i : Nat} (hi : i < 240) : f_aI h (some 27) (nI i) = some (z_A h 27 i) := z_aIS hS (n := 240) rfl hi (Nat.le_of_ble_eq_true rfl)
theorem z_s27 (hS : z_Sh h) {i : Nat} (hi : i < 240) {x : Int32} : f_sI h (some 27) (nI i) x = some (z_sA h 27 i x) := z_sIS hS (n := 240) rfl hi (Nat.le_of_ble_eq_true rfl)
theorem z_l28 (hS : z_Sh h) : f_lnI h (some 28) = some (nI 40) := z_lnS hS rfl
theorem z_a28 (hS : z_Sh h) {i : Nat} (hi : i < 40) : f_aI h (some 28) (nI i) = some (z_A h 28 i) := z_aIS hS (n := 40) rfl hi (Nat.le_of_ble_eq_true rfl)
theorem z_s28 (hS : z_Sh h) {i : Nat} (hi : i < 40) {x : Int32} : f_sI h (some 28) (nI i) x = some (z_sA h 28 i x) := z_sIS hS (n := 40) rfl hi (Nat.le_of_ble_eq_true rfl)
theorem z_c29 (hS : z_Sh h) : f_ck h (some 29) 7 = some () := z_ckS hS (ks := _) rfl
theorem z_i29_0 (hS : z_Sh h) : f_gI h (some 29) 7 0 = some (z_I h 29 0) := z_gIS hS rfl
theorem z_w29_0 (hS : z_Sh h) {x : Int32} : f_pI h (some 29) 7 0 x = some (z_sI h 29 0 x) := z_pIS hS rfl
theorem z_i29_1 (hS : z_Sh h) : f_gI h (some 29) 7 1 = some (z_I h 29 1) := z_gIS hS rfl
theorem z_w29_1 (hS : z_Sh h) {x : Int32} : f_pI h (some 29) 7 1 x = some (z_sI h 29 1 x) := z_pIS hS rfl
theorem z_r29_2 (hS : z_Sh h) : f_gR h (some 29) 7 2 = some (some 30) := z_gRC hS rfl
theorem z_r29_3 (hS : z_Sh h) : f_gR h (some 29) 7 3 = some (some 31) := z_gRC hS rfl
theorem z_r29_4 (hS : z_Sh h) : f_gR h (some 29) 7 4 = some (some 32) := z_gRC hS rfl
theorem z_i29_5 (hS : z_Sh h) : f_gI h (some 29) 7 5 = some (z_I h 29 5) := z_gIS hS rfl
theorem z_w29_5 (hS : z_Sh h) {x : Int32} : f_pI h (some 29) 7 5 x = some (z_sI h 29 5 x) := z_pIS hS rfl
theorem z_i29_6 (hS : z_Sh h) : f_gI h (some 29) 7 6 = some (z_I h 29 6) := z_gIS hS rfl
theorem z_w29_6 (hS : z_Sh h) {x : Int32} : f_pI h (some 29) 7 6 x = some (z_sI h 29 6 x) := z_pIS hS rfl
theorem z_i29_7 (hS : z_Sh h) : f_gI h (some 29) 7 7 = some (z_I h 29 7) := z_gIS hS rfl
theorem z_w29_7 (hS : z_Sh h) {x : Int32} : f_pI h (some 29) 7 7 x = some (z_sI h 29 7 x) := z_pIS hS rfl
theorem z_i29_8 (hS : z_Sh h) : f_gI h (some 29) 7 8 = some (z_I h 29 8) := z_gIS hS rfl
theorem z_w29_8 (hS : z_Sh h) {x : Int32} : f_pI h (some 29) 7 8 x = some (z_sI h 29 8 x) := z_pIS hS rfl
theorem z_i29_9 (hS : z_Sh h) : f_gI h (some 29) 7 9 = some (z_I h 29 9) := z_gIS hS rfl
theorem z_w29_9 (hS : z_Sh h) {x : Int32} : f_pI h (some 29) 7 9 x = some (z_sI h 29 9 x) := z_pIS hS rfl
theorem z_i29_10 (hS : z_Sh h) : f_gI h (some 29) 7 10 = some (z_I h 29 10) := z_gIS hS rfl
theorem z_w29_10 (hS : z_Sh h) {x : Int32} : f_pI h (some 29) 7 10 x = some (z_sI h 29 10 x) := z_pIS hS rfl
theorem z_i29_11 (hS : z_Sh h) : f_gI h (some 29) 7 11 = some (z_I h 29 11) := z_gIS hS rfl
theorem z_w29_11 (hS : z_Sh h) {x : Int32} : f_pI h (some 29) 7 11 x = some (z_sI h 29 11 x) := z_pIS hS rfl
theorem z_i29_12 (hS : z_Sh h) : f_gI h (some 29) 7 12 = some (z_I h 29 12) := z_gIS hS rfl
theorem z_w29_12 (hS : z_Sh h) {x : Int32} : f_pI h (some 29) 7 12 x = some (z_sI h 29 12 x) := z_pIS hS rfl
theorem z_r29_13 (hS : z_Sh h) : f_gR h (some 29) 7 13 = some (some 33) := z_gRC hS rfl
theorem z_i29_14 (hS : z_Sh h) : f_gI h (some 29) 7 14 = some (z_I h 29 14) := z_gIS hS rfl
theorem z_w29_14 (hS : z_Sh h) {x : Int32} : f_pI h (some 29) 7 14 x = some (z_sI h 29 14 x) := z_pIS hS rfl
theorem z_l30 (hS : z_Sh h) : f_lnI h (some 30) = some (nI 60) := z_lnS hS rfl
theorem z_a30 (hS : z_Sh h) {i : Nat} (hi : i < 60) : f_aI h (some 30) (nI i) = some (z_A h 30 i) := z_aIS hS (n := 60) rfl hi (Nat.le_of_ble_eq_true rfl)
theorem z_s30 (hS : z_Sh h) {i : Nat} (hi : i < 60) {x : Int32} : f_sI h (some 30) (nI i) x = some (z_sA h 30 i x) := z_sIS hS (n := 60) rfl hi (Nat.le_of_ble_eq_true rfl)
theorem z_l31 (hS : z_Sh h) : f_lnI h (some 31) = some (nI 12) := z_lnS hS rfl
theorem z_a31 (hS : z_Sh h) {i : Nat} (hi : i < 12) : f_aI h (some 31) (nI i) = some (z_A h 31 i) := z_aIS hS (n := 12) rfl hi (Nat.le_of_ble_eq_true rfl)
theorem z_s31 (hS : z_Sh h) {i : Nat} (hi : i < 12) {x : Int32} : f_sI h (some 31) (nI i) x = some (z_sA h 31 i x) := z_sIS hS (n := 12) rfl hi (Nat.le_of_ble_eq_true rfl)
theorem z_l32 (hS : z_Sh h) : f_lnI h (some 32) = some (nI 32) := z_lnS hS rfl
theorem z_a32 (hS : z_Sh h) {i : Nat} (hi : i < 32) : f_aI h (some 32) (nI i) = some (z_A h 32 i) := z_aIS hS (n := 32) rfl hi (Nat.le_of_ble_eq_true rfl)
theorem z_s32 (hS : z_Sh h) {i : Nat} (hi : i < 32) {x : Int32} : f_sI h (some 32) (nI i) x = some (z_sA h 32 i x) := z_sIS hS (n := 32) rfl hi (Nat.le_of_ble_eq_true rfl)
theorem z_l33 (hS : z_Sh h) : f_lnI h (some 33) = some (nI 100) := z_lnS hS rfl
theorem z_a33 (hS : z_Sh h) {i : Nat} (hi : i < 100) : f_aI h (some 33) (nI i) = some (z_A h 33 i) := z_aIS hS (n := 100) rfl hi (Nat.le_of_ble_eq_true rfl)
theorem z_s33 (hS : z_Sh h) {i : Nat} (hi : i < 100) {x : Int32} : f_sI h (some 33) (nI i) x = some (z_sA h 33 i x) := z_sIS hS (n := 100) rfl hi (Nat.le_of_ble_eq_true rfl)
theorem z_c34 (hS : z_Sh h) : f_ck h (some 34) 7 = some () := z_ckS hS (ks := _) rfl
theorem z_i34_0 (hS : z_Sh h) : f_gI h (some 34) 7 0 = some (z_I h 34 0) := z_gIS hS rfl
theorem z_w34_0 (hS : z_Sh h) {x : Int32} : f_pI h (some 34) 7 0 x = some (z_sI h 34 0 x) := z_pIS hS rfl
theorem z_i34_1 (hS : z_Sh h) : f_gI h (some 34) 7 1 = some (z_I h 34 1) := z_gIS hS rfl
theorem z_w34_1 (hS : z_Sh h) {x : Int32} : f_pI h (some 34) 7 1 x = some (z_sI h 34 1 x) := z_pIS hS rfl
theorem z_r34_2 (hS : z_Sh h) : f_gR h (some 34) 7 2 = some (some 35) := z_gRC hS rfl
theorem z_r34_3 (hS : z_Sh h) : f_gR h (some 34) 7 3 = some (some 36) := z_gRC hS rfl
theorem z_r34_4 (hS : z_Sh h) : f_gR h (some 34) 7 4 = some (some 37) := z_gRC hS rfl
theorem z_i34_5 (hS : z_Sh h) : f_gI h (some 34) 7 5 = some (z_I h 34 5) := z_gIS hS rfl
theorem z_w34_5 (hS : z_Sh h) {x : Int32} : f_pI h (some 34) 7 5 x = some (z_sI h 34 5 x) := z_pIS hS rfl
theorem z_i34_6 (hS : z_Sh h) : f_gI h (some 34) 7 6 = some (z_I h 34 6) := z_gIS hS rfl
theorem z_w34_6 (hS : z_Sh h) {x : Int32} : f_pI h (some 34) 7 6 x = some (z_sI h 34 6 x) := z_pIS hS rfl
theorem z_i34_7 (hS : z_Sh h) : f_gI h (some 34) 7 7 = some (z_I h 34 7) := z_gIS hS rfl
theorem z_w34_7 (hS : z_Sh h) {x : Int32} : f_pI h (some 34) 7 7 x = some (z_sI h 34 7 x) := z_pIS hS rfl
theorem z_i34_8 (hS : z_Sh h) : f_gI h (some 34) 7 8 = some (z_I h 34 8) := z_gIS hS rfl
theorem z_w34_8 (hS : z_Sh h) {x : Int32} : f_pI h (some 34) 7 8 x = some (z_sI h 34 8 x) := z_pIS hS rfl
theorem z_i34_9 (hS : z_Sh h) : f_gI h (some 34) 7 9 = some (z_I h 34 9) := z_gIS hS rfl
theorem z_w34_9 (hS : z_Sh h) {x : Int32} : f_pI h (some 34) 7 9 x = some (z_sI h 34 9 x) := z_pIS hS rfl
theorem z_i34_10 (hS : z_Sh h) : f_gI h (some 34) 7 10 = some (z_I h 34 10) := z_gIS hS rfl
theorem z_w34_10 (hS : z_Sh h) {x : Int32} : f_pI h (some 34) 7 10 x = some (z_sI h 34 10 x) := z_pIS hS rfl
theorem z_i34_11 (hS : z_Sh h) : f_gI h (some 34) 7 11 = some (z_I h 34 11) := z_gIS hS rfl
theorem z_w34_11 (hS : z_Sh h) {x : Int32} : f_pI h (some 34) 7 11 x = some (z_sI h 34 11 x) := z_pIS hS rfl
theorem z_i34_12 (hS : z_Sh h) : f_gI h (some 34) 7 12 = some (z_I h 34 12) := z_gIS hS rfl
theorem z_w34_12 (hS : z_Sh h) {x : Int32} : f_pI h (some 34) 7 12 x = some (z_sI h 34 12 x) := z_pIS hS rfl
theorem z_r34_13 (hS : z_Sh h) : f_gR h (some 34) 7 13 = some (some 38) := z_gRC hS rfl
theorem z_i34_14 (hS : z_Sh h) : f_gI h (some 34) 7 14 = some (z_I h 34 14) := z_gIS hS rfl
theorem z_w34_14 (hS : z_Sh h) {x : Int32} : f_pI h (some 34) 7 14 x = some (z_sI h 34 14 x) := z_pIS hS rfl
theorem z_l35 (hS : z_Sh h) : f_lnI h (some 35) = some (nI 60) := z_lnS hS rfl
theorem z_a35 (hS : z_Sh h) {i : Nat} (hi : i < 60) : f_aI h (some 35) (nI i) = some (z_A h 35 i) := z_aIS hS (n := 60) rfl hi (Nat.le_of_ble_eq_true rfl)
theorem z_s35 (hS : z_Sh h) {i : Nat} (hi : i < 60) {x : Int32} : f_sI h (some 35) (nI i) x = some (z_sA h 35 i x) := z_sIS hS (n := 60) rfl hi (Nat.le_of_ble_eq_true rfl)
theorem z_l36 (hS : z_Sh h) : f_lnI h (some 36) = some (nI 12) := z_lnS hS rfl
theorem z_a36 (hS : z_Sh h) {i : Nat} (hi : i < 12) : f_aI h (some 36) (nI i) = some (z_A h 36 i) := z_aIS hS (n := 12) rfl hi (Nat.le_of_ble_eq_true rfl)
theorem z_s36 (hS : z_Sh h) {i : Nat} (hi : i < 12) {x : Int32} : f_sI h (some 36) (nI i) x = some (z_sA h 36 i x) := z_sIS hS (n := 12) rfl hi (Nat.le_of_ble_eq_true rfl)
theorem z_l37 (hS : z_Sh h) : f_lnI h (some 37) = some (nI 32) := z_lnS hS rfl
theorem z_a37 (hS : z_Sh h) {i : Nat} (hi : i < 32) : f_aI h (some 37) (nI i) = some (z_A h 37 i) := z_aIS hS (n := 32) rfl hi (Nat.le_of_ble_eq_true rfl)
theorem z_s37 (hS : z_Sh h) {i : Nat} (hi : i < 32) {x : Int32} : f_sI h (some 37) (nI i) x = some (z_sA h 37 i x) := z_sIS hS (n := 32) rfl hi (Nat.le_of_ble_eq_true rfl)
theorem z_l38 (hS : z_Sh h) : f_lnI h (some 38) = some (nI 100) := z_lnS hS rfl
theorem z_a38 (hS : z_Sh h) {i : Nat} (hi : i < 100) : f_aI h (some 38) (nI i) = some (z_A h 38 i) := z_aIS hS (n := 100) rfl hi (Nat.le_of_ble_eq_true rfl)
theorem z_s38 (hS : z_Sh h) {i : Nat} (hi : i < 100) {x : Int32} : f_sI h (some 38) (nI i) x = some (z_sA h 38 i x) := z_sIS hS (n := 100) rfl hi (Nat.le_of_ble_eq_true rfl)
theorem z_c39 (hS : z_Sh h) : f_ck h (some 39) 1 = some () := z_ckS hS (ks := _) rfl
theorem z_r39_0 (hS : z_Sh h) : f_gR h (some 39) 1 0 = some (some 40) := z_gRC hS rfl
theorem z_r39_1 (hS : z_Sh h) : f_gR h (some 39) 1 1 = some (some 41) := z_gRC hS rfl
theorem z_i39_2 (hS : z_Sh h) : f_gI h (some 39) 1 2 = some (z_I h 39 2) := z_gIS hS rfl
theorem z_w39_2 (hS : z_Sh h) {x : Int32} : f_pI h (some 39) 1 2 x = some (z_sI h 39 2 x) := z_pIS hS rfl
theorem z_i39_3 (hS : z_Sh h) : f_gI h (some 39) 1 3 = some (z_I h 39 3) := z_gIS hS rfl
theorem z_w39_3 (hS : z_Sh h) {x : Int32} : f_pI h (some 39) 1 3 x = some (z_sI h 39 3 x) := z_pIS hS rfl
theorem z_i39_4 (hS : z_Sh h) : f_gI h (some 39) 1 4 = some (z_I h 39 4) := z_gIS hS rfl
theorem z_w39_4 (hS : z_Sh h) {x : Int32} : f_pI h (some 39) 1 4 x = some (z_sI h 39 4 x) := z_pIS hS rfl
theorem z_l40 (hS : z_Sh h) : f_lnI h (some 40) = some (nI 240) := z_lnS hS rfl
theorem z_a40 (hS : z_Sh h) {i : Nat} (hi : i < 240) : f_aI h (some 40) (nI i) = some (z_A h 40 i) := z_aIS hS (n := 240) rfl hi (Nat.le_of_ble_eq_true rfl)
theorem z_s40 (hS : z_Sh h) {i : Nat} (hi : i < 240) {x : Int32} : f_sI h (some 40) (nI i) x = some (z_sA h 40 i x) := z_sIS hS (n := 240) rfl hi (Nat.le_of_ble_eq_true rfl)
theorem z_l41 (hS : z_Sh h) : f_lnI h (some 41) = some (nI 40) := z_lnS hS rfl
theorem z_a41 (hS : z_Sh h) {i : Nat} (hi : i < 40) : f_aI h (some 41) (nI i) = some (z_A h 41 i) := z_aIS hS (n := 40) rfl hi (Nat.le_of_ble_eq_true rfl)
theorem z_s41 (hS : z_Sh h) {i : Nat} (hi : i < 40) {x : Int32} : f_sI h (some 41) (nI i) x = some (z_sA h 41 i x) := z_sIS hS (n := 40) rfl hi (Nat.le_of_ble_eq_true rfl)
theorem z_c43 (hS : z_Sh h) : f_ck h (some 43) 0 = some () := z_ckS hS (ks := _) rfl
theorem z_r43_0 (hS : z_Sh h) : f_gR h (some 43) 0 0 = some (some 44) := z_gRC hS rfl
theorem z_r43_1 (hS : z_Sh h) : f_gR h (some 43) 0 1 = some (some 45) := z_gRC hS rfl
theorem z_r43_2 (hS : z_Sh h) : f_gR h (some 43) 0 2 = some (some 46) := z_gRC hS rfl
theorem z_r43_3 (hS : z_Sh h) : f_gR h (some 43) 0 3 = some (some 47) := z_gRC hS rfl
theorem z_i43_4 (hS : z_Sh h) : f_gI h (some 43) 0 4 = some (z_I h 43 4) := z_gIS hS rfl
theorem z_w43_4 (hS : z_Sh h) {x : Int32} : f_pI h (some 43) 0 4 x = some (z_sI h 43 4 x) := z_pIS hS rfl
theorem z_i43_5 (hS : z_Sh h) : f_gI h (some 43) 0 5 = some (z_I h 43 5) := z_gIS hS rfl
theorem z_w43_5 (hS : z_Sh h) {x : Int32} : f_pI h (some 43) 0 5 x = some (z_sI h 43 5 x) := z_pIS hS rfl
theorem z_l44 (hS : z_Sh h) : f_lnI h (some 44) = some (nI 40) := z_lnS hS rfl
theorem z_a44 (hS : z_Sh h) {i : Nat} (hi : i < 40) : f_aI h (some 44) (nI i) = some (z_A h 44 i) := z_aIS hS (n := 40) rfl hi (Nat.le_of_ble_eq_true rfl)
theorem z_s44 (hS : z_Sh h) {i : Nat} (hi : i < 40) {x : Int32} : f_sI h (some 44) (nI i) x = some (z_sA h 44 i x) := z_sIS hS (n := 40) rfl hi (Nat.le_of_ble_eq_true rfl)
theorem z_l45 (hS : z_Sh h) : f_lnI h (some 45) = some (nI 40) := z_lnS hS rfl
theorem z_a45 (hS : z_Sh h) {i : Nat} (hi : i < 40) : f_aI h (some 45) (nI i) = some (z_A h 45 i) := z_aIS hS (n := 40) rfl hi (Nat.le_of_ble_eq_true rfl)
theorem z_s45 (hS : z_Sh h) {i : Nat} (hi : i < 40) {x : Int32} : f_sI h (some 45) (nI i) x = some (z_sA h 45 i x) := z_sIS hS (n := 40) rfl hi (Nat.le_of_ble_eq_true rfl)
theorem z_l46 (hS : z_Sh h) : f_lnI h (some 46) = some (nI 40) := z_lnS hS rfl
theorem z_a46 (hS : z_Sh h) {i : Nat} (hi : i < 40) : f_aI h (some 46) (nI i) = some (z_A h 46 i) := z_aIS hS (n := 40) rfl hi (Nat.le_of_ble_eq_true rfl)
theorem z_s46 (hS : z_Sh h) {i : Nat} (hi : i < 40) {x : Int32} : f_sI h (some 46) (nI i) x = some (z_sA h 46 i x) := z_sIS hS (n := 40) rfl hi (Nat.le_of_ble_eq_true rfl)
theorem z_l47 (hS : z_Sh h) : f_lnI h (some 47) = some (nI 40) := z_lnS hS rfl
theorem z_a47 (hS : z_Sh h) {i : Nat} (hi : i < 40) : f_aI h (some 47) (nI i) = some (z_A h 47 i) := z_aIS hS (n := 40) rfl hi (Nat.le_of_ble_eq_true rfl)
theorem z_s47 (hS : z_Sh h) {i : Nat} (hi : i < 40) {x : Int32} : f_sI h (some 47) (nI i) x = some (z_sA h 47 i x) := z_sIS hS (n := 40) rfl hi (Nat.le_of_ble_eq_true rfl)
theorem z_c48 (hS : z_Sh h) : f_ck h (some 48) 9 = some () := z_ckS hS (ks := _) rfl
theorem z_r48_0 (hS : z_Sh h) : f_gR h (some 48) 9 0 = some (some 49) := z_gRC hS rfl
theorem z_r48_1 (hS : z_Sh h) : f_gR h (some 48) 9 1 = some (z_R h 48 1) := z_gRS hS (x := 2) rfl (by decide)
theorem z_i48_2 (hS : z_Sh h) : f_gI h (some 48) 9 2 = some (z_I h 48 2) := z_gIS hS rfl
theorem z_w48_2 (hS : z_Sh h) {x : Int32} : f_pI h (some 48) 9 2 x = some (z_sI h 48 2 x) := z_pIS hS rfl
theorem z_i48_3 (hS : z_Sh h) : f_gI h (some 48) 9 3 = some (z_I h 48 3) := z_gIS hS rfl
theorem z_w48_3 (hS : z_Sh h) {x : Int32} : f_pI h (some 48) 9 3 x = some (z_sI h 48 3 x) := z_pIS hS rfl
theorem z_i48_4 (hS : z_Sh h) : f_gI h (some 48) 9 4 = some (z_I h 48 4) := z_gIS hS rfl
theorem z_w48_4 (hS : z_Sh h) {x : Int32} : f_pI h (some 48) 9 4 x = some (z_sI h 48 4 x) := z_pIS hS rfl
theorem z_i48_5 (hS : z_Sh h) : f_gI h (some 48) 9 5 = some (z_I h 48 5) := z_gIS hS rfl
theorem z_w48_5 (hS : z_Sh h) {x : Int32} : f_pI h (some 48) 9 5 x = some (z_sI h 48 5 x) := z_pIS hS rfl
theorem z_i48_6 (hS : z_Sh h) : f_gI h (some 48) 9 6 = some (z_I h 48 6) := z_gIS hS rfl
theorem z_w48_6 (hS : z_Sh h) {x : Int32} : f_pI h (some 48) 9 6 x = some (z_sI h 48 6 x) := z_pIS hS rfl
theorem z_r48_7 (hS : z_Sh h) : f_gR h (some 48) 9 7 = some (some 54) := z_gRC hS rfl
theorem z_r48_8 (hS : z_Sh h) : f_gR h (some 48) 9 8 = some (some 55) := z_gRC hS rfl
theorem z_r48_9 (hS : z_Sh h) : f_gR h (some 48) 9 9 = some (some 56) := z_gRC hS rfl
theorem z_r48_10 (hS : z_Sh h) : f_gR h (some 48) 9 10 = some (some 57) := z_gRC hS rfl
theorem z_r48_11 (hS : z_Sh h) : f_gR h (some 48) 9 11 = some (some 58) := z_gRC hS rfl
theorem z_i48_12 (hS : z_Sh h) : f_gI h (some 48) 9 12 = some (z_I h 48 12) := z_gIS hS rfl
theorem z_w48_12 (hS : z_Sh h) {x : Int32} : f_pI h (some 48) 9 12 x = some (z_sI h 48 12 x) := z_pIS hS rfl
theorem z_i48_13 (hS : z_Sh h) : f_gI h (some 48) 9 13 = some (z_I h 48 13) := z_gIS hS rfl
theorem z_w48_13 (hS : z_Sh h) {x : Int32} : f_pI h (some 48) 9 13 x = some (z_sI h 48 13 x) := z_pIS hS rfl
theorem z_i48_14 (hS : z_Sh h) : f_gI h (some 48) 9 14 = some (z_I h 48 14) := z_gIS hS rfl
theorem z_w48_14 (hS : z_Sh h) {x : Int32} : f_pI h (some 48) 9 14 x = some (z_sI h 48 14 x) := z_pIS hS rfl
theorem z_i48_15 (hS : z_Sh h) : f_gI h (some 48) 9 15 = some (z_I h 48 15) := z_gIS hS rfl
theorem z_w48_15 (hS : z_Sh h) {x : Int32} : f_pI h (some 48) 9 15 x = some (z_sI h 48 15 x) := z_pIS hS rfl
theorem z_c49 (hS : z_Sh h) : f_ck h (some 49) 7 = some () := z_ckS hS (ks := _) rfl
theorem z_i49_0 (hS : z_Sh h) : f_gI h (some 49) 7 0 = some (z_I h 49 0) := z_gIS hS rfl
theorem z_w49_0 (hS : z_Sh h) {x : Int32} : f_pI h (some 49) 7 0 x = some (z_sI h 49 0 x) := z_pIS hS rfl
theorem z_i49_1 (hS : z_Sh h) : f_gI h (some 49) 7 1 = some (z_I h 49 1) := z_gIS hS rfl
theorem z_w49_1 (hS : z_Sh h) {x : Int32} : f_pI h (some 49) 7 1 x = some (z_sI h 49 1 x) := z_pIS hS rfl
theorem z_r49_2 (hS : z_Sh h) : f_gR h (some 49) 7 2 = some (some 50) := z_gRC hS rfl
theorem z_r49_3 (hS : z_Sh h) : f_gR h (some 49) 7 3 = some (some 51) := z_gRC hS rfl
theorem z_r49_4 (hS : z_Sh h) : f_gR h (some 49) 7 4 = some (some 52) := z_gRC hS rfl
theorem z_i49_5 (hS : z_Sh h) : f_gI h (some 49) 7 5 = some (z_I h 49 5) := z_gIS hS rfl
theorem z_w49_5 (hS : z_Sh h) {x : Int32} : f_pI h (some 49) 7 5 x = some (z_sI h 49 5 x) := z_pIS hS rfl
theorem z_i49_6 (hS : z_Sh h) : f_gI h (some 49) 7 6 = some (z_I h 49 6) := z_gIS hS rfl
theorem z_w49_6 (hS : z_Sh h) {x : Int32} : f_pI h (some 49) 7 6 x = some (z_sI h 49 6 x) := z_pIS hS rfl
theorem z_i49_7 (hS : z_Sh h) : f_gI h (some 49) 7 7 = some (z_I h 49 7) := z_gIS hS rfl
theorem z_w49_7 (hS : z_Sh h) {x : Int32} : f_pI h (some 49) 7 7 x = some (z_sI h 49 7 x) := z_pIS hS rfl
theorem z_i49_8 (hS : z_Sh h) : f_gI h (some 49) 7 8 = some (z_I h 49 8) := z_gIS hS rfl
theorem z_w49_8 (hS : z_Sh h) {x : Int32} : f_pI h (some 49) 7 8 x = some (z_sI h 49 8 x) := z_pIS hS rfl
theorem z_i49_9 (hS : z_Sh h) : f_gI h (some 49) 7 9 = some (z_I h 49 9) := z_gIS hS rfl
theorem z_w49_9 (hS : z_Sh h) {x : Int32} : f_pI h (some 49) 7 9 x = some (z_sI h 49 9 x) := z_pIS hS rfl
theorem z_i49_10 (hS : z_Sh h) : f_gI h (some 49) 7 10 = some (z_I h 49 10) := z_gIS hS rfl
theorem z_w49_10 (hS : z_Sh h) {x : Int32} : f_pI h (some 49) 7 10 x = some (z_sI h 49 10 x) := z_pIS hS rfl
theorem z_i49_11 (hS : z_Sh h) : f_gI h (some 49) 7 11 = some (z_I h 49 11) := z_gIS hS rfl
theorem z_w49_11 (hS : z_Sh h) {x : Int32} : f_pI h (some 49) 7 11 x = some (z_sI h 49 11 x) := z_pIS hS rfl
theorem z_i49_12 (hS : z_Sh h) : f_gI h (some 49) 7 12 = some (z_I h 49 12) := z_gIS hS rfl
theorem z_w49_12 (hS : z_Sh h) {x : Int32} : f_pI h (some 49) 7 12 x = some (z_sI h 49 12 x) := z_pIS hS rfl
theorem z_r49_13 (hS : z_Sh h) : f_gR h (some 49) 7 13 = some (some 53) := z_gRC hS rfl
theorem z_i49_14 (hS : z_Sh h) : f_gI h (some 49) 7 14 = some (z_I h 49 14) := z_gIS hS rfl
theorem z_w49_14 (hS : z_Sh h) {x : Int32} : f_pI h (some 49) 7 14 x = some (z_sI h 49 14 x) := z_pIS hS rfl
theorem z_l50 (hS : z_Sh h) : f_lnI h (some 50) = some (nI 60) := z_lnS hS rfl
theorem z_a50 (hS : z_Sh h) {i : Nat} (hi : i < 60) : f_aI h (some 50) (nI i) = some (z_A h 50 i) := z_aIS hS (n := 60) rfl hi (Nat.le_of_ble_eq_true rfl)
theorem z_s50 (hS : z_Sh h) {i : Nat} (hi : i < 60) {x : Int32} : f_sI h (some 50) (nI i) x = some (z_sA h 50 i x) := z_sIS hS (n := 60) rfl hi (Nat.le_of_ble_eq_true rfl)
theorem z_l51 (hS : z_Sh h) : f_lnI h (some 51) = some (nI 12) := z_lnS hS rfl
theorem z_a51 (hS : z_Sh h) {i : Nat} (hi : i < 12) : f_aI h (some 51) (nI i) = some (z_A h 51 i) := z_aIS hS (n := 12) rfl hi (Nat.le_of_ble_eq_true rfl)
theorem z_s51 (hS : z_Sh h) {i : Nat} (hi : i < 12) {x : Int32} : f_sI h (some 51) (nI i) x = some (z_sA h 51 i x) := z_sIS hS (n := 12) rfl hi (Nat.le_of_ble_eq_true rfl)
theorem z_l52 (hS : z_Sh h) : f_lnI h (some 52) = some (nI 32) := z_lnS hS rfl
theorem z_a52 (hS : z_Sh h) {i : Nat} (hi : i < 32) : f_aI h (some 52) (nI i) = some (z_A h 52 i) := z_aIS hS (n := 32) rfl hi (Nat.le_of_ble_eq_true rfl)
theorem z_s52 (hS : z_Sh h) {i : Nat} (hi : i < 32) {x : Int32} : f_sI h (some 52) (nI i) x = some (z_sA h 52 i x) := z_sIS hS (n := 32) rfl hi (Nat.le_of_ble_eq_true rfl)
theorem z_l53 (hS : z_Sh h) : f_lnI h (some 53) = some (nI 100) := z_lnS hS rfl
theorem z_a53 (hS : z_Sh h) {i : Nat} (hi : i < 100) : f_aI h (some 53) (nI i) = some (z_A h 53 i) := z_aIS hS (n := 100) rfl hi (Nat.le_of_ble_eq_true rfl)
theorem z_s53 (hS : z_Sh h) {i : Nat} (hi : i < 100) {x : Int32} : f_sI h (some 53) (nI i) x = some (z_sA h 53 i x) := z_sIS hS (n := 100) rfl hi (Nat.le_of_ble_eq_true rfl)
theorem z_l54 (hS : z_Sh h) : f_lnI h (some 54) = some (nI 144) := z_lnS hS rfl
theorem z_a54 (hS : z_Sh h) {i : Nat} (hi : i < 144) : f_aI h (some 54) (nI i) = some (z_A h 54 i) := z_aIS hS (n := 144) rfl hi (Nat.le_of_ble_eq_true rfl)
theorem z_s54 (hS : z_Sh h) {i : Nat} (hi : i < 144) {x : Int32} : f_sI h (some 54) (nI i) x = some (z_sA h 54 i x) := z_sIS hS (n := 144) rfl hi (Nat.le_of_ble_eq_true rfl)
theorem z_l55 (hS : z_Sh h) : f_lnI h (some 55) = some (nI 12) := z_lnS hS rfl
theorem z_a55 (hS : z_Sh h) {i : Nat} (hi : i < 12) : f_aI h (some 55) (nI i) = some (z_A h 55 i) := z_aIS hS (n := 12) rfl hi (Nat.le_of_ble_eq_true rfl)
theorem z_s55 (hS : z_Sh h) {i : Nat} (hi : i < 12) {x : Int32} : f_sI h (some 55) (nI i) x = some (z_sA h 55 i x) := z_sIS hS (n := 12) rfl hi (Nat.le_of_ble_eq_true rfl)
theorem z_l56 (hS : z_Sh h) : f_lnI h (some 56) = some (nI 576) := z_lnS hS rfl
theorem z_a56 (hS : z_Sh h) {i : Nat} (hi : i < 576) : f_aI h (some 56) (nI i) = some (z_A h 56 i) := z_aIS hS (n := 576) rfl hi (Nat.le_of_ble_eq_true rfl)
theorem z_s56 (hS : z_Sh h) {i : Nat} (hi : i < 576) {x : Int32} : f_sI h (some 56) (nI i) x = some (z_sA h 56 i x) := z_sIS hS (n := 576) rfl hi (Nat.le_of_ble_eq_true rfl)
theorem z_l57 (hS : z_Sh h) : f_lnI h (some 57) = some (nI 8) := z_lnS hS rfl
theorem z_a57 (hS : z_Sh h) {i : Nat} (hi : i < 8) : f_aI h (some 57) (nI i) = some (z_A h 57 i) := z_aIS hS (n := 8) rfl hi (Nat.le_of_ble_eq_true rfl)
theorem z_s57 (hS : z_Sh h) {i : Nat} (hi : i < 8) {x : Int32} : f_sI h (some 57) (nI i) x = some (z_sA h 57 i x) := z_sIS hS (n := 8) rfl hi (Nat.le_of_ble_eq_true rfl)
theorem z_l58 (hS : z_Sh h) : f_lnI h (some 58) = some (nI 3744) := z_lnS hS rfl
theorem z_a58 (hS : z_Sh h) {i : Nat} (hi : i < 3744) : f_aI h (some 58) (nI i) = some (z_A h 58 i) := z_aIS hS (n := 3744) rfl hi (Nat.le_of_ble_eq_true rfl)
theorem z_s58 (hS : z_Sh h) {i : Nat} (hi : i < 3744) {x : Int32} : f_sI h (some 58) (nI i) x = some (z_sA h 58 i x) := z_sIS hS (n := 3744) rfl hi (Nat.le_of_ble_eq_true rfl)
theorem z_c59 (hS : z_Sh h) : f_ck h (some 59) 10 = some () := z_ckS hS (ks := _) rfl
theorem z_r59_0 (hS : z_Sh h) : f_gR h (some 59) 10 0 = some (some 48) := z_gRC hS rfl
theorem z_i59_1 (hS : z_Sh h) : f_gI h (some 59) 10 1 = some (z_I h 59 1) := z_gIS hS rfl
theorem z_w59_1 (hS : z_Sh h) {x : Int32} : f_pI h (some 59) 10 1 x = some (z_sI h 59 1 x) := z_pIS hS rfl
theorem z_i59_2 (hS : z_Sh h) : f_gI h (some 59) 10 2 = some (z_I h 59 2) := z_gIS hS rfl
theorem z_w59_2 (hS : z_Sh h) {x : Int32} : f_pI h (some 59) 10 2 x = some (z_sI h 59 2 x) := z_pIS hS rfl
theorem z_i59_3 (hS : z_Sh h) : f_gI h (some 59) 10 3 = some (z_I h 59 3) := z_gIS hS rfl
theorem z_w59_3 (hS : z_Sh h) {x : Int32} : f_pI h (some 59) 10 3 x = some (z_sI h 59 3 x) := z_pIS hS rfl
theorem z_r59_4 (hS : z_Sh h) : f_gR h (some 59) 10 4 = some (some 60) := z_gRC hS rfl
theorem z_l60 (hS : z_Sh h) : f_lnI h (some 60) = some (nI 4) := z_lnS hS rfl
theorem z_a60 (hS : z_Sh h) {i : Nat} (hi : i < 4) : f_aI h (some 60) (nI i) = some (z_A h 60 i) := z_aIS hS (n := 4) rfl hi (Nat.le_of_ble_eq_true rfl)
theorem z_s60 (hS : z_Sh h) {i : Nat} (hi : i < 4) {x : Int32} : f_sI h (some 60) (nI i) x = some (z_sA h 60 i x) := z_sIS hS (n := 4) rfl hi (Nat.le_of_ble_eq_true rfl)
theorem z_c61 (hS : z_Sh h) : f_ck h (some 61) 5 = some () := z_ckS hS (ks := _) rfl
theorem z_r61_0 (hS : z_Sh h) : f_gR h (some 61) 5 0 = some (some 48) := z_gRC hS rfl
theorem z_r61_1 (hS : z_Sh h) : f_gR h (some 61) 5 1 = some (z_R h 61 1) := z_gRS hS (x := 2) rfl (by decide)
theorem z_r61_2 (hS : z_Sh h) : f_gR h (some 61) 5 2 = some (z_R h 61 2) := z_gRS hS (x := 2) rfl (by decide)
theorem z_c64 (hS : z_Sh h) : f_ck h (some 64) 4 = some () := z_ckS hS (ks := _) rfl
theorem z_r64_0 (hS : z_Sh h) : f_gR h (some 64) 4 0 = some (some 48) := z_gRC hS rfl
theorem z_r64_1 (hS : z_Sh h) : f_gR h (some 64) 4 1 = some (some 65) := z_gRC hS rfl
theorem z_r64_2 (hS : z_Sh h) : f_gR h (some 64) 4 2 = some (some 66) := z_gRC hS rfl
theorem z_i64_3 (hS : z_Sh h) : f_gI h (some 64) 4 3 = some (z_I h 64 3) := z_gIS hS rfl
theorem z_w64_3 (hS : z_Sh h) {x : Int32} : f_pI h (some 64) 4 3 x = some (z_sI h 64 3 x) := z_pIS hS rfl
theorem z_r64_4 (hS : z_Sh h) : f_gR h (some 64) 4 4 = some (some 67) := z_gRC hS rfl
theorem z_i64_5 (hS : z_Sh h) : f_gI h (some 64) 4 5 = some (z_I h 64 5) := z_gIS hS rfl
theorem z_w64_5 (hS : z_Sh h) {x : Int32} : f_pI h (some 64) 4 5 x = some (z_sI h 64 5 x) := z_pIS hS rfl
theorem z_i64_6 (hS : z_Sh h) : f_gI h (some 64) 4 6 = some (z_I h 64 6) := z_gIS hS rfl
theorem z_w64_6 (hS : z_Sh h) {x : Int32} : f_pI h (some 64) 4 6 x = some (z_sI h 64 6 x) := z_pIS hS rfl
theorem z_i64_7 (hS : z_Sh h) : f_gI h (some 64) 4 7 = some (z_I h 64 7) := z_gIS hS rfl
theorem z_w64_7 (hS : z_Sh h) {x : Int32} : f_pI h (some 64) 4 7 x = some (z_sI h 64 7 x) := z_pIS hS rfl
theorem z_i64_8 (hS : z_Sh h) : f_gI h (some 64) 4 8 = some (z_I h 64 8) := z_gIS hS rfl
theorem z_w64_8 (hS : z_Sh h) {x : Int32} : f_pI h (some 64) 4 8 x = some (z_sI h 64 8 x) := z_pIS hS rfl
theorem z_l65 (hS : z_Sh h) : f_lnI h (some 65) = some (nI 12) := z_lnS hS rfl
theorem z_a65 (hS : z_Sh h) {i : Nat} (hi : i < 12) : f_aI h (some 65) (nI i) = some (z_A h 65 i) := z_aIS hS (n := 12) rfl hi (Nat.le_of_ble_eq_true rfl)
theorem z_s65 (hS : z_Sh h) {i : Nat} (hi : i < 12) {x : Int32} : f_sI h (some 65) (nI i) x = some (z_sA h 65 i x) := z_sIS hS (n := 12) rfl hi (Nat.le_of_ble_eq_true rfl)
theorem z_l66 (hS : z_Sh h) : f_lnI h (some 66) = some (nI 12) := z_lnS hS rfl
theorem z_a66 (hS : z_Sh h) {i : Nat} (hi : i < 12) : f_aI h (some 66) (nI i) = some (z_A h 66 i) := z_aIS hS (n := 12) rfl hi (Nat.le_of_ble_eq_true rfl)
theorem z_s66 (hS : z_Sh h) {i : Nat} (hi : i < 12) {x : Int32} : f_sI h (some 66) (nI i) x = some (z_sA h 66 i x) := z_sIS hS (n := 12) rfl hi (Nat.le_of_ble_eq_true rfl)
theorem z_l67 (hS : z_Sh h) : f_lnI h (some 67) = some (nI 21) := z_lnS hS rfl
theorem z_a67 (hS : z_Sh h) {i : Nat} (hi : i < 21) : f_aI h (some 67) (nI i) = some (z_A h 67 i) := z_aIS hS (n := 21) rfl hi (Nat.le_of_ble_eq_true rfl)
theorem z_s67 (hS : z_Sh h) {i : Nat} (hi : i < 21) {x : Int32} : f_sI h (some 67) (nI i) x = some (z_sA h 67 i x) := z_sIS hS (n := 21) rfl hi (Nat.le_of_ble_eq_true rfl)
theorem z_c68 (hS : z_Sh h) : f_ck h (some 68) 12 = some () := z_ckS hS (ks := _) rfl
theorem z_i68_0 (hS : z_Sh h) : f_gI h (some 68) 12 0 = some (z_I h 68 0) := z_gIS hS rfl
theorem z_w68_0 (hS : z_Sh h) {x : Int32} : f_pI h (some 68) 12 0 x = some (z_sI h 68 0 x) := z_pIS hS rfl
theorem z_r68_1 (hS : z_Sh h) : f_gR h (some 68) 12 1 = some (some 69) := z_gRC hS rfl
theorem z_i68_2 (hS : z_Sh h) : f_gI h (some 68) 12 2 = some (z_I h 68 2) := z_gIS hS rfl
theorem z_w68_2 (hS : z_Sh h) {x : Int32} : f_pI h (some 68) 12 2 x = some (z_sI h 68 2 x) := z_pIS hS rfl
theorem z_i68_3 (hS : z_Sh h) : f_gI h (some 68) 12 3 = some (z_I h 68 3) := z_gIS hS rfl
theorem z_w68_3 (hS : z_Sh h) {x : Int32} : f_pI h (some 68) 12 3 x = some (z_sI h 68 3 x) := z_pIS hS rfl
theorem z_i68_4 (hS : z_Sh h) : f_gI h (some 68) 12 4 = some (z_I h 68 4) := z_gIS hS rfl
theorem z_w68_4 (hS : z_Sh h) {x : Int32} : f_pI h (some 68) 12 4 x = some (z_sI h 68 4 x) := z_pIS hS rfl
theorem z_i68_5 (hS : z_Sh h) : f_gI h (some 68) 12 5 = some (z_I h 68 5) := z_gIS hS rfl
theorem z_w68_5 (hS : z_Sh h) {x : Int32} : f_pI h (some 68) 12 5 x = some (z_sI h 68 5 x) := z_pIS hS rfl
theorem z_r68_6 (hS : z_Sh h) : f_gR h (some 68) 12 6 = some (some 70) := z_gRC hS rfl
theorem z_r68_7 (hS : z_Sh h) : f_gR h (some 68) 12 7 = some (some 71) := z_gRC hS rfl
theorem z_r68_8 (hS : z_Sh h) : f_gR h (some 68) 12 8 = some (some 72) := z_gRC hS rfl
theorem z_r68_9 (hS : z_Sh h) : f_gR h (some 68) 12 9 = some (some 73) := z_gRC hS rfl
theorem z_r68_10 (hS : z_Sh h) : f_gR h (some 68) 12 10 = some (some 74) := z_gRC hS rfl
theorem z_r68_11 (hS : z_Sh h) : f_gR h (some 68) 12 11 = some (some 75) := z_gRC hS rfl
theorem z_r68_12 (hS : z_Sh h) : f_gR h (some 68) 12 12 = some (some 76) := z_gRC hS rfl
theorem z_i68_13 (hS : z_Sh h) : f_gI h (some 68) 12 13 = some (z_I h 68 13) := z_gIS hS rfl
theorem z_w68_13 (hS : z_Sh h) {x : Int32} : f_pI h (some 68) 12 13 x = some (z_sI h 68 13 x) := z_pIS hS rfl
theorem z_i68_14 (hS : z_Sh h) : f_gI h (some 68) 12 14 = some (z_I h 68 14) := z_gIS hS rfl
theorem z_w68_14 (hS : z_Sh h) {x : Int32} : f_pI h (some 68) 12 14 x = some (z_sI h 68 14 x) := z_pIS hS rfl
theorem z_r68_15 (hS : z_Sh h) : f_gR h (some 68) 12 15 = some (some 77) := z_gRC hS rfl
theorem z_r68_16 (hS : z_Sh h) : f_gR h (some 68) 12 16 = some (some 78) := z_gRC hS rfl
theorem z_r68_17 (hS : z_Sh h) : f_gR h (some 68) 12 17 = some (some 79) := z_gRC hS rfl
theorem z_r68_18 (hS : z_Sh h) : f_gR h (some 68) 12 18 = some (some 80) := z_gRC hS rfl
theorem z_r68_19 (hS : z_Sh h) : f_gR h (some 68) 12 19 = some (some 81) := z_gRC hS rfl
theorem z_i68_20 (hS : z_Sh h) : f_gI h (some 68) 12 20 = some (z_I h 68 20) := z_gIS hS rfl
theorem z_w68_20 (hS : z_Sh h) {x : Int32} : f_pI h (some 68) 12 20 x = some (z_sI h 68 20 x) := z_pIS hS rfl
theorem z_i68_21 (hS : z_Sh h) : f_gI h (some 68) 12 21 = some (z_I h 68 21) := z_gIS hS rfl
theorem z_w68_21 (hS : z_Sh h) {x : Int32} : f_pI h (some 68) 12 21 x = some (z_sI h 68 21 x) := z_pIS hS rfl
theorem z_r68_22 (hS : z_Sh h) : f_gR h (some 68) 12 22 = some (some 82) := z_gRC hS rfl
theorem z_r68_23 (hS : z_Sh h) : f_gR h (some 68) 12 23 = some (some 83) := z_gRC hS rfl
theorem z_i68_24 (hS : z_Sh h) : f_gI h (some 68) 12 24 = some (z_I h 68 24) := z_gIS hS rfl
theorem z_w68_24 (hS : z_Sh h) {x : Int32} : f_pI h (some 68) 12 24 x = some (z_sI h 68 24 x) := z_pIS hS rfl
theorem z_i68_25 (hS : z_Sh h) : f_gI h (some 68) 12 25 = some (z_I h 68 25) := z_gIS hS rfl
theorem z_w68_25 (hS : z_Sh h) {x : Int32} : f_pI h (some 68) 12 25 x = some (z_sI h 68 25 x) := z_pIS hS rfl
theorem z_r68_26 (hS : z_Sh h) : f_gR h (some 68) 12 26 = some (some 84) := z_gRC hS rfl
theorem z_r68_27 (hS : z_Sh h) : f_gR h (some 68) 12 27 = some (some 85) := z_gRC hS rfl
theorem z_i68_28 (hS : z_Sh h) : f_gI h (some 68) 12 28 = some (z_I h 68 28) := z_gIS hS rfl
theorem z_w68_28 (hS : z_Sh h) {x : Int32} : f_pI h (some 68) 12 28 x = some (z_sI h 68 28 x) := z_pIS hS rfl
theorem z_i68_29 (hS : z_Sh h) : f_gI h (some 68) 12 29 = some (z_I h 68 29) := z_gIS hS rfl
theorem z_w68_29 (hS : z_Sh h) {x : Int32} : f_pI h (some 68) 12 29 x = some (z_sI h 68 29 x) := z_pIS hS rfl
theorem z_r68_30 (hS : z_Sh h) : f_gR h (some 68) 12 30 = some (some 86) := z_gRC hS rfl
theorem z_i68_31 (hS : z_Sh h) : f_gI h (some 68) 12 31 = some (z_I h 68 31) := z_gIS hS rfl
theorem z_w68_31 (hS : z_Sh h) {x : Int32} : f_pI h (some 68) 12 31 x = some (z_sI h 68 31 x) := z_pIS hS rfl
theorem z_i68_32 (hS : z_Sh h) : f_gI h (some 68) 12 32 = some (z_I h 68 32) := z_gIS hS rfl
theorem z_w68_32 (hS : z_Sh h) {x : Int32} : f_pI h (some 68) 12 32 x = some (z_sI h 68 32 x) := z_pIS hS rfl
theorem z_i68_33 (hS : z_Sh h) : f_gI h (some 68) 12 33 = some (z_I h 68 33) := z_gIS hS rfl
theorem z_w68_33 (hS : z_Sh h) {x : Int32} : f_pI h (some 68) 12 33 x = some (z_sI h 68 33 x) := z_pIS hS rfl
theorem z_i68_34 (hS : z_Sh h) : f_gI h (some 68) 12 34 = some (z_I h 68 34) := z_gIS hS rfl
theorem z_w68_34 (hS : z_Sh h) {x : Int32} : f_pI h (some 68) 12 34 x = some (z_sI h 68 34 x) := z_pIS hS rfl
theorem z_r68_35 (hS : z_Sh h) : f_gR h (some 68) 12 35 = some (some 87) := z_gRC hS rfl
theorem z_i68_36 (hS : z_Sh h) : f_gI h (some 68) 12 36 = some (z_I h 68 36) := z_gIS hS rfl
theorem z_w68_36 (hS : z_Sh h) {x : Int32} : f_pI h (some 68) 12 36 x = some (z_sI h 68 36 x) := z_pIS hS rfl
theorem z_i68_37 (hS : z_Sh h) : f_gI h (some 68) 12 37 = some (z_I h 68 37) := z_gIS hS rfl
theorem z_w68_37 (hS : z_Sh h) {x : Int32} : f_pI h (some 68) 12 37 x = some (z_sI h 68 37 x) := z_pIS hS rfl
theorem z_i68_38 (hS : z_Sh h) : f_gI h (some 68) 12 38 = some (z_I h 68 38) := z_gIS hS rfl
theorem z_w68_38 (hS : z_Sh h) {x : Int32} : f_pI h (some 68) 12 38 x = some (z_sI h 68 38 x) := z_pIS hS rfl
theorem z_i68_39 (hS : z_Sh h) : f_gI h (some 68) 12 39 = some (z_I h 68 39) := z_gIS hS rfl
theorem z_w68_39 (hS : z_Sh h) {x : Int32} : f_pI h (some 68) 12 39 x = some (z_sI h 68 39 x) := z_pIS hS rfl
theorem z_r68_40 (hS : z_Sh h) : f_gR h (some 68) 12 40 = some (some 88) := z_gRC hS rfl
theorem z_r68_41 (hS : z_Sh h) : f_gR h (some 68) 12 41 = some (some 89) := z_gRC hS rfl
theorem z_r68_42 (hS : z_Sh h) : f_gR h (some 68) 12 42 = some (some 90) := z_gRC hS rfl
theorem z_r68_43 (hS : z_Sh h) : f_gR h (some 68) 12 43 = some (some 91) := z_gRC hS rfl
theorem z_r68_44 (hS : z_Sh h) : f_gR h (some 68) 12 44 = some (some 92) := z_gRC hS rfl
theorem z_r68_45 (hS : z_Sh h) : f_gR h (some 68) 12 45 = some (some 93) := z_gRC hS rfl
theorem z_r68_46 (hS : z_Sh h) : f_gR h (some 68) 12 46 = some (some 94) := z_gRC hS rfl
theorem z_i68_47 (hS : z_Sh h) : f_gI h (some 68) 12 47 = some (z_I h 68 47) := z_gIS hS rfl
theorem z_w68_47 (hS : z_Sh h) {x : Int32} : f_pI h (some 68) 12 47 x = some (z_sI h 68 47 x) := z_pIS hS rfl
theorem z_r68_48 (hS : z_Sh h) : f_gR h (some 68) 12 48 = some (some 95) := z_gRC hS rfl
theorem z_i68_49 (hS : z_Sh h) : f_gI h (some 68) 12 49 = some (z_I h 68 49) := z_gIS hS rfl
theorem z_w68_49 (hS : z_Sh h) {x : Int32} : f_pI h (some 68) 12 49 x = some (z_sI h 68 49 x) := z_pIS hS rfl
theorem z_l69 (hS : z_Sh h) : f_lnI h (some 69) = some (nI 240) := z_lnS hS rfl
theorem z_a69 (hS : z_Sh h) {i : Nat} (hi : i < 240) : f_aI h (some 69) (nI i) = some (z_A h 69 i) := z_aIS hS (n := 240) rfl hi (Nat.le_of_ble_eq_true rfl)
theorem z_s69 (hS : z_Sh h) {i : Nat} (hi : i < 240) {x : Int32} : f_sI h (some 69) (nI i) x = some (z_sA h 69 i x) := z_sIS hS (n := 240) rfl hi (Nat.le_of_ble_eq_true rfl)
theorem z_l70 (hS : z_Sh h) : f_lnI h (some 70) = some (nI 2600) := z_lnS hS rfl
theorem z_a70 (hS : z_Sh h) {i : Nat} (hi : i < 2600) : f_aI h (some 70) (nI i) = some (z_A h 70 i) := z_aIS hS (n := 2600) rfl hi (Nat.le_of_ble_eq_true rfl)
theorem z_s70 (hS : z_Sh h) {i : Nat} (hi : i < 2600) {x : Int32} : f_sI h (some 70) (nI i) x = some (z_sA h 70 i x) := z_sIS hS (n := 2600) rfl hi (Nat.le_of_ble_eq_true rfl)
theorem z_l71 (hS : z_Sh h) : f_lnI h (some 71) = some (nI 2600) := z_lnS hS rfl
theorem z_a71 (hS : z_Sh h) {i : Nat} (hi : i < 2600) : f_aI h (some 71) (nI i) = some (z_A h 71 i) := z_aIS hS (n := 2600) rfl hi (Nat.le_of_ble_eq_true rfl)
theorem z_s71 (hS : z_Sh h) {i : Nat} (hi : i < 2600) {x : Int32} : f_sI h (some 71) (nI i) x = some (z_sA h 71 i x) := z_sIS hS (n := 2600) rfl hi (Nat.le_of_ble_eq_true rfl)
theorem z_l72 (hS : z_Sh h) : f_lnI h (some 72) = some (nI 5) := z_lnS hS rfl
theorem z_a72 (hS : z_Sh h) {i : Nat} (hi : i < 5) : f_aI h (some 72) (nI i) = some (z_A h 72 i) := z_aIS hS (n := 5) rfl hi (Nat.le_of_ble_eq_true rfl)
theorem z_s72 (hS : z_Sh h) {i : Nat} (hi : i < 5) {x : Int32} : f_sI h (some 72) (nI i) x = some (z_sA h 72 i x) := z_sIS hS (n := 5) rfl hi (Nat.le_of_ble_eq_true rfl)
theorem z_l73 (hS : z_Sh h) : f_lnI h (some 73) = some (nI 5) := z_lnS hS rfl
theorem z_a73 (hS : z_Sh h) {i : Nat} (hi : i < 5) : f_aI h (some 73) (nI i) = some (z_A h 73 i) := z_aIS hS (n := 5) rfl hi (Nat.le_of_ble_eq_true rfl)
theorem z_s73 (hS : z_Sh h) {i : Nat} (hi : i < 5) {x : Int32} : f_sI h (some 73) (nI i) x = some (z_sA h 73 i x) := z_sIS hS (n := 5) rfl hi (Nat.le_of_ble_eq_true rfl)
theorem z_l74 (hS : z_Sh h) : f_lnI h (some 74) = some (nI 700) := z_lnS hS rfl
theorem z_a74 (hS : z_Sh h) {i : Nat} (hi : i < 700) : f_aI h (some 74) (nI i) = some (z_A h 74 i) := z_aIS hS (n := 700) rfl hi (Nat.le_of_ble_eq_true rfl)
theorem z_s74 (hS : z_Sh h) {i : Nat} (hi : i < 700) {x : Int32} : f_sI h (some 74) (nI i) x = some (z_sA h 74 i x) := z_sIS hS (n := 700) rfl hi (Nat.le_of_ble_eq_true rfl)
theorem z_l75 (hS : z_Sh h) : f_lnI h (some 75) = some (nI 700) := z_lnS hS rfl
theorem z_a75 (hS : z_Sh h) {i : Nat} (hi : i < 700) : f_aI h (some 75) (nI i) = some (z_A h 75 i) := z_aIS hS (n := 700) rfl hi (Nat.le_of_ble_eq_true rfl)
theorem z_s75 (hS : z_Sh h) {i : Nat} (hi : i < 700) {x : Int32} : f_sI h (some 75) (nI i) x = some (z_sA h 75 i x) := z_sIS hS (n := 700) rfl hi (Nat.le_of_ble_eq_true rfl)
theorem z_l76 (hS : z_Sh h) : f_lnI h (some 76) = some (nI 700) := z_lnS hS rfl
theorem z_a76 (hS : z_Sh h) {i : Nat} (hi : i < 700) : f_aI h (some 76) (nI i) = some (z_A h 76 i) := z_aIS hS (n := 700) rfl hi (Nat.le_of_ble_eq_true rfl)
theorem z_s76 (hS : z_Sh h) {i : Nat} (hi : i < 700) {x : Int32} : f_sI h (some 76) (nI i) x = some (z_sA h 76 i x) := z_sIS hS (n := 700) rfl hi (Nat.le_of_ble_eq_true rfl)
theorem z_l77 (hS : z_Sh h) : f_lnI h (some 77) = some (nI 8) := z_lnS hS rfl
theorem z_a77 (hS : z_Sh h) {i : Nat} (hi : i < 8) : f_aI h (some 77) (nI i) = some (z_A h 77 i) := z_aIS hS (n := 8) rfl hi (Nat.le_of_ble_eq_true rfl)
theorem z_s77 (hS : z_Sh h) {i : Nat} (hi : i < 8) {x : Int32} : f_sI h (some 77) (nI i) x = some (z_sA h 77 i x) := z_sIS hS (n := 8) rfl hi (Nat.le_of_ble_eq_true rfl)
theorem z_l78 (hS : z_Sh h) : f_lnI h (some 78) = some (nI 80) := z_lnS hS rfl
theorem z_a78 (hS : z_Sh h) {i : Nat} (hi : i < 80) : f_aI h (some 78) (nI i) = some (z_A h 78 i) := z_aIS hS (n := 80) rfl hi (Nat.le_of_ble_eq_true rfl)
theorem z_s78 (hS : z_Sh h) {i : Nat} (hi : i < 80) {x : Int32} : f_sI h (some 78) (nI i) x = some (z_sA h 78 i x) := z_sIS hS (n := 80) rfl hi (Nat.le_of_ble_eq_true rfl)
theorem z_l79 (hS : z_Sh h) : f_lnI h (some 79) = some (nI 3) := z_lnS hS rfl
theorem z_a79 (hS : z_Sh h) {i : Nat} (hi : i < 3) : f_aI h (some 79) (nI i) = some (z_A h 79 i) := z_aIS hS (n := 3) rfl hi (Nat.le_of_ble_eq_true rfl)
theorem z_s79 (hS : z_Sh h) {i : Nat} (hi : i < 3) {x : Int32} : f_sI h (some 79) (nI i) x = some (z_sA h 79 i x) := z_sIS hS (n := 3) rfl hi (Nat.le_of_ble_eq_true rfl)
theorem z_l80 (hS : z_Sh h) : f_lnI h (some 80) = some (nI 72) := z_lnS hS rfl
theorem z_a80 (hS : z_Sh h) {i : Nat} (hi : i < 72) : f_aI h (some 80) (nI i) = some (z_A h 80 i) := z_aIS hS (n := 72) rfl hi (Nat.le_of_ble_eq_true rfl)
theorem z_s80 (hS : z_Sh h) {i : Nat} (hi : i < 72) {x : Int32} : f_sI h (some 80) (nI i) x = some (z_sA h 80 i x) := z_sIS hS (n := 72) rfl hi (Nat.le_of_ble_eq_true rfl)
theorem z_l81 (hS : z_Sh h) : f_lnI h (some 81) = some (nI 48) := z_lnS hS rfl
theorem z_a81 (hS : z_Sh h) {i : Nat} (hi : i < 48) : f_aI h (some 81) (nI i) = some (z_A h 81 i) := z_aIS hS (n := 48) rfl hi (Nat.le_of_ble_eq_true rfl)
theorem z_s81 (hS : z_Sh h) {i : Nat} (hi : i < 48) {x : Int32} : f_sI h (some 81) (nI i) x = some (z_sA h 81 i x) := z_sIS hS (n := 48) rfl hi (Nat.le_of_ble_eq_true rfl)
theorem z_l82 (hS : z_Sh h) : f_lnI h (some 82) = some (nI 72) := z_lnS hS rfl
theorem z_a82 (hS : z_Sh h) {i : Nat} (hi : i < 72) : f_aI h (some 82) (nI i) = some (z_A h 82 i) := z_aIS hS (n := 72) rfl hi (Nat.le_of_ble_eq_true rfl)
theorem z_s82 (hS : z_Sh h) {i : Nat} (hi : i < 72) {x : Int32} : f_sI h (some 82) (nI i) x = some (z_sA h 82 i x) := z_sIS hS (n := 72) rfl hi (Nat.le_of_ble_eq_true rfl)
theorem z_l83 (hS : z_Sh h) : f_lnI h (some 83) = some (nI 48) := z_lnS hS rfl
theorem z_a83 (hS : z_Sh h) {i : Nat} (hi : i < 48) : f_aI h (some 83) (nI i) = some (z_A h 83 i) := z_aIS hS (n := 48) rfl hi (Nat.le_of_ble_eq_true rfl)
theorem z_s83 (hS : z_Sh h) {i : Nat} (hi : i < 48) {x : Int32} : f_sI h (some 83) (nI i) x = some (z_sA h 83 i x) := z_sIS hS (n := 48) rfl hi (Nat.le_of_ble_eq_true rfl)
theorem z_l84 (hS : z_Sh h) : f_lnI h (some 84) = some (nI 118) := z_lnS hS rfl
theorem z_a84 (hS : z_Sh h) {i : Nat} (hi : i < 118) : f_aI h (some 84) (nI i) = some (z_A h 84 i) := z_aIS hS (n := 118) rfl hi (Nat.le_of_ble_eq_true rfl)
theorem z_s84 (hS : z_Sh h) {i : Nat} (hi : i < 118) {x : Int32} : f_sI h (some 84) (nI i) x = some (z_sA h 84 i x) := z_sIS hS (n := 118) rfl hi (Nat.le_of_ble_eq_true rfl)
theorem z_l85 (hS : z_Sh h) : f_lnI h (some 85) = some (nI 12) := z_lnS hS rfl
theorem z_a85 (hS : z_Sh h) {i : Nat} (hi : i < 12) : f_aI h (some 85) (nI i) = some (z_A h 85 i) := z_aIS hS (n := 12) rfl hi (Nat.le_of_ble_eq_true rfl)
theorem z_s85 (hS : z_Sh h) {i : Nat} (hi : i < 12) {x : Int32} : f_sI h (some 85) (nI i) x = some (z_sA h 85 i x) := z_sIS hS (n := 12) rfl hi (Nat.le_of_ble_eq_true rfl)
theorem z_l86 (hS : z_Sh h) : f_lnI h (some 86) = some (nI 4720) := z_lnS hS rfl
theorem z_a86 (hS : z_Sh h) {i : Nat} (hi : i < 4720) : f_aI h (some 86) (nI i) = some (z_A h 86 i) := z_aIS hS (n := 4720) rfl hi (Nat.le_of_ble_eq_true rfl)
theorem z_s86 (hS : z_Sh h) {i : Nat} (hi : i < 4720) {x : Int32} : f_sI h (some 86) (nI i) x = some (z_sA h 86 i x) := z_sIS hS (n := 4720) rfl hi (Nat.le_of_ble_eq_true rfl)
theorem z_l87 (hS : z_Sh h) : f_lnI h (some 87) = some (nI 3744) := z_lnS hS rfl
theorem z_a87 (hS : z_Sh h) {i : Nat} (hi : i < 3744) : f_aI h (some 87) (nI i) = some (z_A h 87 i) := z_aIS hS (n := 3744) rfl hi (Nat.le_of_ble_eq_true rfl)
theorem z_s87 (hS : z_Sh h) {i : Nat} (hi : i < 3744) {x : Int32} : f_sI h (some 87) (nI i) x = some (z_sA h 87 i x) := z_sIS hS (n := 3744) rfl hi (Nat.le_of_ble_eq_true rfl)
theorem z_l88 (hS : z_Sh h) : f_lnI h (some 88) = some (nI 118) := z_lnS hS rfl
theorem z_a88 (hS : z_Sh h) {i : Nat} (hi : i < 118) : f_aI h (some 88) (nI i) = some (z_A h 88 i) := z_aIS hS (n := 118) rfl hi (Nat.le_of_ble_eq_true rfl)
theorem z_s88 (hS : z_Sh h) {i : Nat} (hi : i < 118) {x : Int32} : f_sI h (some 88) (nI i) x = some (z_sA h 88 i x) := z_sIS hS (n := 118) rfl hi (Nat.le_of_ble_eq_true rfl)
theorem z_l89 (hS : z_Sh h) : f_lnI h (some 89) = some (nI 156) := z_lnS hS rfl
theorem z_a89 (hS : z_Sh h) {i : Nat} (hi : i < 156) : f_aI h (some 89) (nI i) = some (z_A h 89 i) := z_aIS hS (n := 156) rfl hi (Nat.le_of_ble_eq_true rfl)
theorem z_s89 (hS : z_Sh h) {i : Nat} (hi : i < 156) {x : Int32} : f_sI h (some 89) (nI i) x = some (z_sA h 89 i x) := z_sIS hS (n := 156) rfl hi (Nat.le_of_ble_eq_true rfl)
theorem z_l90 (hS : z_Sh h) : f_lnI h (some 90) = some (nI 156) := z_lnS hS rfl
theorem z_a90 (hS : z_Sh h) {i : Nat} (hi : i < 156) : f_aI h (some 90) (nI i) = some (z_A h 90 i) := z_aIS hS (n := 156) rfl hi (Nat.le_of_ble_eq_true rfl)
theorem z_s90 (hS : z_Sh h) {i : Nat} (hi : i < 156) {x : Int32} : f_sI h (some 90) (nI i) x = some (z_sA h 90 i x) := z_sIS hS (n := 156) rfl hi (Nat.le_of_ble_eq_true rfl)
theorem z_l93 (hS : z_Sh h) : f_lnI h (some 93) = some (nI 12) := z_lnS hS rfl
theorem z_a93 (hS : z_Sh h) {i : Nat} (hi : i < 12) : f_aI h (some 93) (nI i) = some (z_A h 93 i) := z_aIS hS (n := 12) rfl hi (Nat.le_of_ble_eq_true rfl)
theorem z_s93 (hS : z_Sh h) {i : Nat} (hi : i < 12) {x : Int32} : f_sI h (some 93) (nI i) x = some (z_sA h 93 i x) := z_sIS hS (n := 12) rfl hi (Nat.le_of_ble_eq_true rfl)
theorem z_l94 (hS : z_Sh h) : f_lnI h (some 94) = some (nI 12) := z_lnS hS rfl
theorem z_a94 (hS : z_Sh h) {i : Nat} (hi : i < 12) : f_aI h (some 94) (nI i) = some (z_A h 94 i) := z_aIS hS (n := 12) rfl hi (Nat.le_of_ble_eq_true rfl)
theorem z_s94 (hS : z_Sh h) {i : Nat} (hi : i < 12) {x : Int32} : f_sI h (some 94) (nI i) x = some (z_sA h 94 i x) := z_sIS hS (n := 12) rfl hi (Nat.le_of_ble_eq_true rfl)
theorem z_l95 (hS : z_Sh h) : f_lnI h (some 95) = some (nI 118) := z_lnS hS rfl
theorem z_a95 (hS : z_Sh h) {i : Nat} (hi : i < 118) : f_aI h (some 95) (nI i) = some (z_A h 95 i) := z_aIS hS (n := 118) rfl hi (Nat.le_of_ble_eq_true rfl)
theorem z_s95 (hS : z_Sh h) {i : Nat} (hi : i < 118) {x : Int32} : f_sI h (some 95) (nI i) x = some (z_sA h 95 i x) := z_sIS hS (n := 118) rfl hi (Nat.le_of_ble_eq_true rfl)
/-- the four villages -/
def z_V (a : Nat) : Prop := a = 19 ∨ a = 29 ∨ a = 34 ∨ a = 49
variable {a : Nat}
theorem zv_c (hS : z_Sh h) (hv : z_V a) : f_ck h (some a) 7 = some () := by rcases hv with rfl | rfl | rfl | rfl <;> exact z_ckS hS (ks := _) rfl
theorem zv_i0 (hS : z_Sh h) (hv : z_V a) : f_gI h (some a) 7 0 = some (z_I h a 0) := by rcases hv with rfl | rfl | rfl | rfl <;> exact z_gIS hS rfl
theorem zv_w0 (hS : z_Sh h) (hv : z_V a) {x : Int32} : f_pI h (some a) 7 0 x = some (z_sI h a 0 x) := by rcases hv with rfl | rfl | rfl | rfl <;> exact z_pIS hS rfl
theorem zv_i1 (hS : z_Sh h) (hv : z_V a) : f_gI h (some a) 7 1 = some (z_I h a 1) := by rcases hv with rfl | rfl | rfl | rfl <;> exact z_gIS hS rfl
theorem zv_w1 (hS : z_Sh h) (hv : z_V a) {x : Int32} : f_pI h (some a) 7 1 x = some (z_sI h a 1 x) := by rcases hv with rfl | rfl | rfl | rfl <;> exact z_pIS hS rfl
theorem zv_r2 (hS : z_Sh h) (hv : z_V a) : f_gR h (some a) 7 2 = some (some (a + 1)) := by rcases hv with rfl | rfl | rfl | rfl <;> exact z_gRC hS rfl
theorem zv_r3 (hS : z_Sh h) (hv : z_V a) : f_gR h (some a) 7 3 = some (some (a + 2)) := by rcases hv with rfl | rfl | rfl | rfl <;> exact z_gRC hS rfl
theorem zv_r4 (hS : z_Sh h) (hv : z_V a) : f_gR h (some a) 7 4 = some (some (a + 3)) := by rcases hv with rfl | rfl | rfl | rfl <;> exact z_gRC hS rfl
theorem zv_i5 (hS : z_Sh h) (hv : z_V a) : f_gI h (some a) 7 5 = some (z_I h a 5) := by rcases hv with rfl | rfl | rfl | rfl <;> exact z_gIS hS rfl
theorem zv_w5 (hS : z_Sh h) (hv : z_V a) {x : Int32} : f_pI h (some a) 7 5 x = some (z_sI h a 5 x) := by rcases hv with rfl | rfl | rfl | rfl <;> exact z_pIS hS rfl
theorem zv_i6 (hS : z_Sh h) (hv : z_V a) : f_gI h (some a) 7 6 = some (z_I h a 6) := by rcases hv with rfl | rfl | rfl | rfl <;> exact z_gIS hS rfl
theorem zv_w6 (hS : z_Sh h) (hv : z_V a) {x : Int32} : f_pI h (some a) 7 6 x = some (z_sI h a 6 x) := by rcases hv with rfl | rfl | rfl | rfl <;> exact z_pIS hS rfl
theorem zv_i7 (hS : z_Sh h) (hv : z_V a) : f_gI h (some a) 7 7 = some (z_I h a 7) := by rcases hv with rfl | rfl | rfl | rfl <;> exact z_gIS hS rfl
theorem zv_w7 (hS : z_Sh h) (hv : z_V a) {x : Int32} : f_pI h (some a) 7 7 x = some (z_sI h a 7 x) := by rcases hv with rfl | rfl | rfl | rfl <;> exact z_pIS hS rfl
theorem zv_i8 (hS : z_Sh h) (hv : z_V a) : f_gI h (some a) 7 8 = some (z_I h a 8) := by rcases hv with rfl | rfl | rfl | rfl <;> exact z_gIS hS rfl
theorem zv_w8 (hS : z_Sh h) (hv : z_V a) {x : Int32} : f_pI h (some a) 7 8 x = some (z_sI h a 8 x) := by rcases hv with rfl | rfl | rfl | rfl <;> exact z_pIS hS rfl
theorem zv_i9 (hS : z_Sh h) (hv : z_V a) : f_gI h (some a) 7 9 = some (z_I h a 9) := by rcases hv with rfl | rfl | rfl | rfl <;> exact z_gIS hS rfl
theorem zv_w9 (hS : z_Sh h) (hv : z_V a) {x : Int32} : f_pI h (some a) 7 9 x = some (z_sI h a 9 x) := by rcases hv with rfl | rfl | rfl | rfl <;> exact z_pIS hS rfl
theorem zv_i10 (hS : z_Sh h) (hv : z_V a) : f_gI h (some a) 7 10 = some (z_I h a 10) := by rcases hv with rfl | rfl | rfl | rfl <;> exact z_gIS hS rfl
theorem zv_w10 (hS : z_Sh h) (hv : z_V a) {x : Int32} : f_pI h (some a) 7 10 x = some (z_sI h a 10 x) := by rcases hv with rfl | rfl | rfl | rfl <;> exact z_pIS hS rfl
theorem zv_i11 (hS : z_Sh h) (hv : z_V a) : f_gI h (some a) 7 11 = some (z_I h a 11) := by rcases hv with rfl | rfl | rfl | rfl <;> exact z_gIS hS rfl
theorem zv_w11 (hS : z_Sh h) (hv : z_V a) {x : Int32} : f_pI h (some a) 7 11 x = some (z_sI h a 11 x) := by rcases hv with rfl | rfl | rfl | rfl <;> exact z_pIS hS rfl
theorem zv_i12 (hS : z_Sh h) (hv : z_V a) : f_gI h (some a) 7 12 = some (z_I h a 12) := by rcases hv with rfl | rfl | rfl | rfl <;> exact z_gIS hS rfl
theorem zv_w12 (hS : z_Sh h) (hv : z_V a) {x : Int32} : f_pI h (some a) 7 12 x = some (z_sI h a 12 x) := by rcases hv with rfl | rfl | rfl | rfl <;> exact z_pIS hS rfl
theorem zv_r13 (hS : z_Sh h) (hv : z_V a) : f_gR h (some a) 7 13 = some (some (a + 4)) := by rcases hv with rfl | rfl | rfl | rfl <;> exact z_gRC hS rfl
theorem zv_i14 (hS : z_Sh h) (hv : z_V a) : f_gI h (some a) 7 14 = some (z_I h a 14) := by rcases hv with rfl | rfl | rfl | rfl <;> exact z_gIS hS rfl
theorem zv_w14 (hS : z_Sh h) (hv : z_V a) {x : Int32} : f_pI h (some a) 7 14 x = some (z_sI h a 14 x) := by rcases hv with rfl | rfl | rfl | rfl <;> exact z_pIS hS rfl
theorem zv_l1 (hS : z_Sh h) (hv : z_V a) : f_lnI h (some (a + 1)) = some (nI 60) := by rcases hv with rfl | rfl | rfl | rfl <;> exact z_lnS hS rfl
theorem zv_a1 (hS : z_Sh h) (hv : z_V a) {i : Nat} (hi : i < 60) : f_aI h (some (a + 1)) (nI i) = some (z_A h (a + 1) i) := by rcases hv with rfl | rfl | rfl | rfl <;> exact z_aIS hS (n := 60) rfl hi (Nat.le_of_ble_eq_true rfl)
theorem zv_s1 (hS : z_Sh h) (hv : z_V a) {i : Nat} (hi : i < 60) {x : Int32} : f_sI h (some (a + 1)) (nI i) x = some (z_sA h (a + 1) i x) := by rcases hv with rfl | rfl | rfl | rfl <;> exact z_sIS hS (n := 60) rfl hi (Nat.le_of_ble_eq_true rfl)
theorem zv_k1 (hS : z_Sh h) (hv : z_V a) : z_ck h (a + 1) = some (1, (60, [])) := by rcases hv with rfl | rfl | rfl | rfl <;> exact z_ckT hS rfl
theorem zv_l2 (hS : z_Sh h) (hv : z_V a) : f_lnI h (some (a + 2)) = some (nI 12) := by rcases hv with rfl | rfl | rfl | rfl <;> exact z_lnS hS rfl
theorem zv_a2 (hS : z_Sh h) (hv : z_V a) {i : Nat} (hi : i < 12) : f_aI h (some (a + 2)) (nI i) = some (z_A h (a + 2) i) := by rcases hv with rfl | rfl | rfl | rfl <;> exact z_aIS hS (n := 12) rfl hi (Nat.le_of_ble_eq_true rfl)
theorem zv_s2 (hS : z_Sh h) (hv : z_V a) {i : Nat} (hi : i < 12) {x : Int32} : f_sI h (some (a + 2)) (nI i) x = some (z_sA h (a + 2) i x) := by rcases hv with rfl | rfl | rfl | rfl <;> exact z_sIS hS (n := 12) rfl hi (Nat.le_of_ble_eq_true rfl)
theorem zv_k2 (hS : z_Sh h) (hv : z_V a) : z_ck h (a + 2) = some (1, (12, [])) := by rcases hv with rfl | rfl | rfl | rfl <;> exact z_ckT hS rfl
theorem zv_l3 (hS : z_Sh h) (hv : z_V a) : f_lnI h (some (a + 3)) = some (nI 32) := by rcases hv with rfl | rfl | rfl | rfl <;> exact z_lnS hS rfl
theorem zv_a3 (hS : z_Sh h) (hv : z_V a) {i : Nat} (hi : i < 32) : f_aI h (some (a + 3)) (nI i) = some (z_A h (a + 3) i) := by rcases hv with rfl | rfl | rfl | rfl <;> exact z_aIS hS (n := 32) rfl hi (Nat.le_of_ble_eq_true rfl)
theorem zv_s3 (hS : z_Sh h) (hv : z_V a) {i : Nat} (hi : i < 32) {x : Int32} : f_sI h (some (a + 3)) (nI i) x = some (z_sA h (a + 3) i x) := by rcases hv with rfl | rfl | rfl | rfl <;> exact z_sIS hS (n := 32) rfl hi (Nat.le_of_ble_eq_true rfl)
theorem zv_k3 (hS : z_Sh h) (hv : z_V a) : z_ck h (a + 3) = some (1, (32, [])) := by rcases hv with rfl | rfl | rfl | rfl <;> exact z_ckT hS rfl
theorem zv_l4 (hS : z_Sh h) (hv : z_V a) : f_lnI h (some (a + 4)) = some (nI 100) := by rcases hv with rfl | rfl | rfl | rfl <;> exact z_lnS hS rfl
theorem zv_a4 (hS : z_Sh h) (hv : z_V a) {i : Nat} (hi : i < 100) : f_aI h (some (a + 4)) (nI i) = some (z_A h (a + 4) i) := by rcases hv with rfl | rfl | rfl | rfl <;> exact z_aIS hS (n := 100) rfl hi (Nat.le_of_ble_eq_true rfl)
theorem zv_s4 (hS : z_Sh h) (hv : z_V a) {i : Nat} (hi : i < 100) {x : Int32} : f_sI h (some (a + 4)) (nI i) x = some (z_sA h (a + 4) i x) := by rcases hv with rfl | rfl | rfl | rfl <;> exact z_sIS hS (n := 100) rfl hi (Nat.le_of_ble_eq_true rfl)
theorem zv_k4 (hS : z_Sh h) (hv : z_V a) : z_ck h (a + 4) = some (1, (100, [])) := by rcases hv with rfl | rfl | rfl | rfl <;> exact z_ckT hS rfl
end WR
