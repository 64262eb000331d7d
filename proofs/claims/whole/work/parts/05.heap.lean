-- HEAP: what a method reads and writes
def f_obj (h : fw_H) (r : Option Nat) (c : Nat) : Option (List fw_V) := match r with
  | none => none
  | some a => match h[a]? with
    | some (.inr (.inl (c', fs))) => if c' = c then some fs else none
    | _ => none
def f_ck (h : fw_H) (r : Option Nat) (c : Nat) : Option Unit := (f_obj h r c).bind fun _ => some ()
def f_vI : Option fw_V → Option Int32
  | some (.inl x) => some x
  | _ => none
def f_vR : Option fw_V → Option (Option Nat)
  | some (.inr (.inr x)) => some x
  | _ => none
def f_vB : Option fw_V → Option Bool
  | some (.inl x) => if x = 0 then some false else if x = 1 then some true else none
  | _ => none
def f_toB (x : Int32) : Option Bool := if x = 0 then some false else if x = 1 then some true else none
def f_gI (h : fw_H) (r : Option Nat) (c k : Nat) : Option Int32 := (f_obj h r c).bind fun fs => f_vI fs[k]?
def f_gB (h : fw_H) (r : Option Nat) (c k : Nat) : Option Bool := (f_obj h r c).bind fun fs => f_vB fs[k]?
def f_gR (h : fw_H) (r : Option Nat) (c k : Nat) : Option (Option Nat) := (f_obj h r c).bind fun fs => f_vR fs[k]?
def f_put (h : fw_H) (r : Option Nat) (c k : Nat) (v : fw_V) : Option fw_H := (f_obj h r c).bind fun fs => some (h.set (r.getD 0) (fw_O c (fs.set k v)))
def f_pI (h : fw_H) (r : Option Nat) (c k : Nat) (x : Int32) : Option fw_H := f_put h r c k (fw_i x)
def f_pB (h : fw_H) (r : Option Nat) (c k : Nat) (x : Bool) : Option fw_H := f_put h r c k (fw_i (fw_b x))
def f_pR (h : fw_H) (r : Option Nat) (c k : Nat) (x : Option Nat) : Option fw_H := f_put h r c k (fw_r x)
def f_arI (h : fw_H) (r : Option Nat) : Option (Nat × (Nat → Int32)) := match r with
  | none => none
  | some a => match h[a]? with
    | some (.inl (n, .inl f)) => some (n, f)
    | some (.inr (.inr (.inl (n, .inl f)))) => some (n, f)
    | _ => none
def f_owI (h : fw_H) (r : Option Nat) : Option (Nat × (Nat → Int32)) := match r with
  | none => none
  | some a => match h[a]? with
    | some (.inl (n, .inl f)) => some (n, f)
    | _ => none
def f_arJ (h : fw_H) (r : Option Nat) : Option (Nat × (Nat → Int64)) := match r with
  | none => none
  | some a => match h[a]? with
    | some (.inl (n, .inr (.inl f))) => some (n, f)
    | _ => none
def f_arQ (h : fw_H) (r : Option Nat) : Option (Nat × (Nat → Option Nat)) := match r with
  | none => none
  | some a => match h[a]? with
    | some (.inl (n, .inr (.inr (.inr (.inr f))))) => some (n, f)
    | _ => none
def f_aI (h : fw_H) (r : Option Nat) (i : Int32) : Option Int32 := (f_arI h r).bind fun x => if ¬ i < 0 ∧ i.toNatClampNeg < x.1 then some (x.2 i.toNatClampNeg) else none
def f_aJ (h : fw_H) (r : Option Nat) (i : Int32) : Option Int64 := (f_arJ h r).bind fun x => if ¬ i < 0 ∧ i.toNatClampNeg < x.1 then some (x.2 i.toNatClampNeg) else none
def f_aQ (h : fw_H) (r : Option Nat) (i : Int32) : Option (Option Nat) := (f_arQ h r).bind fun x => if ¬ i < 0 ∧ i.toNatClampNeg < x.1 then some (x.2 i.toNatClampNeg) else none
def f_sI (h : fw_H) (r : Option Nat) (i v : Int32) : Option fw_H := (f_owI h r).bind fun x => if ¬ i < 0 ∧ i.toNatClampNeg < x.1 then some (h.set (r.getD 0) (fw_I x.1 (upd x.2 i.toNatClampNeg v))) else none
def f_sJ (h : fw_H) (r : Option Nat) (i : Int32) (v : Int64) : Option fw_H := (f_arJ h r).bind fun x => if ¬ i < 0 ∧ i.toNatClampNeg < x.1 then some (h.set (r.getD 0) (fw_J x.1 (vp_updL x.2 i.toNatClampNeg v))) else none
/-- the one array of references holds Laws -/
def f_sQ (h : fw_H) (r : Option Nat) (i : Int32) (v : Option Nat) : Option fw_H := (f_arQ h r).bind fun x => (f_obj h v 1).bind fun _ => if ¬ i < 0 ∧ i.toNatClampNeg < x.1 then some (h.set (r.getD 0) (fw_Q x.1 (va_up x.2 i.toNatClampNeg v))) else none
def f_lnI (h : fw_H) (r : Option Nat) : Option Int32 := (f_arI h r).bind fun x => some (Int32.ofNat x.1)
def f_lnJ (h : fw_H) (r : Option Nat) : Option Int32 := (f_arJ h r).bind fun x => some (Int32.ofNat x.1)
def f_lnQ (h : fw_H) (r : Option Nat) : Option Int32 := (f_arQ h r).bind fun x => some (Int32.ofNat x.1)
theorem fw_clsOK : ∀ (ci : Nat) (r : vw_C), fw_cls[ci]? = some r → (∀ w ∈ u_ws r.1 r.2.1 r.2.2, w ∈ fw_tb) ∧ (∀ a, a < r.2.2 → ∀ b, b < r.2.2 → a ≠ b → (r.2.1 a).2.1 ≠ (r.2.1 b).2.1) ∧ ∃ ty : Nat → FieldType, ∀ k, k < r.2.2 → parseFieldDescriptor (r.2.1 k).2.2.1 = some (ty k) := by
  intro ci r h
  match ci, h with
  | 0, h => cases h; exact ⟨by decide +kernel, nmX0, tyX0, tyX0_ok⟩
  | 1, h => cases h; exact ⟨by decide +kernel, nmX1, tyX1, tyX1_ok⟩
  | 2, h => cases h; exact ⟨by decide +kernel, nmX2, tyX2, tyX2_ok⟩
  | 3, h => cases h; exact ⟨by decide +kernel, nmX0, tyX0, tyX0_ok⟩
  | 4, h => cases h; exact ⟨by decide +kernel, nmX4, tyX4, tyX4_ok⟩
  | 5, h => cases h; exact ⟨by decide +kernel, nmX5, tyX5, tyX5_ok⟩
  | 6, h => cases h; exact ⟨by decide +kernel, nmX6, tyX6, tyX6_ok⟩
  | 7, h => cases h; exact ⟨by decide +kernel, nmX7, tyX7, tyX7_ok⟩
  | 8, h => cases h; exact ⟨by decide +kernel, nmX8, tyX8, tyX8_ok⟩
  | 9, h => cases h; exact ⟨by decide +kernel, nmX9, tyX9, tyX9_ok⟩
  | 10, h => cases h; exact ⟨by decide +kernel, nmX10, tyX10, tyX10_ok⟩
  | 11, h => cases h; exact ⟨by decide +kernel, nmX11, tyX11, tyX11_ok⟩
  | 12, h => cases h; exact ⟨by decide +kernel, nmX12, tyX12, tyX12_ok⟩
  | n + 13, h => cases h
section HE
variable {G : fw_G} {M : fw_M} {α : Type} {E : α → Option fw_V × fw_H} {d k n i pc q : Nat} {lv : fw_L} {st : List fw_V} {h : fw_H} {t : Option α}
theorem fw_obj_at {h : fw_H} {r : Option Nat} {c : Nat} {fs : List fw_V} (e : f_obj h r c = some fs) : ∃ a, r = some a ∧ h[a]? = some (fw_O c fs) := by
  cases r with
  | none => cases e
  | some a =>
    refine ⟨a, rfl, ?_⟩
    simp only [f_obj] at e
    split at e
    · rename_i c' fs' hh
      split at e
      · rename_i hc
        cases e
        rw [hh, hc]
      · cases e
    · cases e
theorem fw_arI_at {h : fw_H} {r : Option Nat} {x : Nat × (Nat → Int32)} (e : f_arI h r = some x) : ∃ a, r = some a ∧ (h[a]? = some (fw_I x.1 x.2) ∨ h[a]? = some (fw_XI x.1 x.2)) := by
  cases r with
  | none => cases e
  | some a =>
    refine ⟨a, rfl, ?_⟩
    simp only [f_arI] at e
    split at e
    · rename_i n f hh
      cases e
      exact Or.inl hh
    · rename_i n f hh
      cases e
      exact Or.inr hh
    · cases e
theorem fw_owI_at {h : fw_H} {r : Option Nat} {x : Nat × (Nat → Int32)} (e : f_owI h r = some x) : ∃ a, r = some a ∧ h[a]? = some (fw_I x.1 x.2) := by
  cases r with
  | none => cases e
  | some a =>
    refine ⟨a, rfl, ?_⟩
    simp only [f_owI] at e
    split at e
    · rename_i n f hh
      cases e
      exact hh
    · cases e
theorem fw_arJ_at {h : fw_H} {r : Option Nat} {x : Nat × (Nat → Int64)} (e : f_arJ h r = some x) : ∃ a, r = some a ∧ h[a]? = some (fw_J x.1 x.2) := by
  cases r with
  | none => cases e
  | some a =>
    refine ⟨a, rfl, ?_⟩
    simp only [f_arJ] at e
    split at e
    · rename_i n f hh
      cases e
      exact hh
    · cases e
theorem fw_arQ_at {h : fw_H} {r : Option Nat} {x : Nat × (Nat → Option Nat)} (e : f_arQ h r = some x) : ∃ a, r = some a ∧ h[a]? = some (fw_Q x.1 x.2) := by
  cases r with
  | none => cases e
  | some a =>
    refine ⟨a, rfl, ?_⟩
    simp only [f_arQ] at e
    split at e
    · rename_i n f hh
      cases e
      exact hh
    · cases e
theorem fw_bd {α β : Type} {f : Option α} {K : α → Option β} {r : β} (e : f.bind K = some r) : ∃ x, f = some x ∧ K x = some r := by
  cases f with
  | none => cases e
  | some x => exact ⟨x, rfl, e⟩
/-- the cell of an object, as the kit's rows want it -/
theorem fw_one {H : Heap} {a ci : Nat} {fs : List fw_V} (hP : fw_P G H h) (ho : h[a]? = some (fw_O ci fs)) : 15 ≤ a ∧ ∃ r : vw_C, fw_cls[ci]? = some r ∧ fs.length = r.2.2 ∧ va_P (fw_D G) fw_cls [(fw_ad G a, .inr (ci, fs.map (fw_tr G)))] H := by
  obtain ⟨h11, r, h1, h2, h3⟩ := hP.2.2.2 a _ ho
  refine ⟨h11, r, h1, h2, fun k q hq => ?_⟩
  cases k with
  | zero => cases hq; exact ⟨r, h1, h3⟩
  | succ k => cases hq
theorem fw_rf (a : Nat) : fw_tr G (fw_r (some a)) = .ref (fw_ad G a) := rfl
theorem r_gI {x0 : Option Nat} {ci kf idx : Nat} {C0 : String} {T : u_T} {N : Nat} {K : Int32 → Option α} (hc : fw_cls[ci]? = some (C0, T, N)) (hk : kf < N) (hw : Cond.fieldLink M.1.cls idx (T kf).1 (T kf).2.1 (T kf).2.2.1 ∈ fw_tb) (hd : M.2.2.2.2[i]? = some (pc, .getfield idx, q)) (hq : pc + 3 = q) (kk : ∀ x, fw_R G M E d k n q lv (fw_i x :: st) h (K x)) : fw_R G M E d k n pc lv (fw_r x0 :: st) h ((f_gI h x0 ci kf).bind K) := by
  subst hq
  intro r hr l p e R s m args below meth c H ls locs cells slots Q C X
  obtain ⟨x, hx, hK⟩ := fw_bd hr
  obtain ⟨fs, ho, hv⟩ := fw_bd hx
  obtain ⟨a, rfl, ho'⟩ := fw_obj_at ho; replace ho := ho'
  obtain ⟨-, r', hr', hlen, hPw⟩ := fw_one X.2.2.2.2.1 ho
  have hfv : fs[kf]? = some (fw_i x) := by
    cases hf : fs[kf]? with
    | none => rw [hf] at hv; cases hv
    | some v =>
      rw [hf] at hv
      match v, hv with
      | .inl y, hv => cases hv; rfl
      | .inr (.inl y), hv => cases hv
      | .inr (.inr y), hv => cases hv
  exact va_get (ws := [(fw_ad G a, .inr (ci, fs.map (fw_tr G)))]) (v := fw_tr G (fw_i x)) C.1 C.2.1 C.2.2.2.2.2.2.2.1 (fw_clsOK _ _ hc).1 C.2.2.2.2.2.1 C.2.2.2.2.2.2.2.2.1.1 hPw 0 rfl hc kf hk (C.2.2.2.2.2.2.2.1 _ hw) (fun _ h => h) (by rw [List.getElem?_map, hfv]; rfl) (C.dec hd (by omega)) (kk x r hK l p e R s m args below meth c H ls locs cells slots Q C X)
theorem r_gR {x0 : Option Nat} {ci kf idx : Nat} {C0 : String} {T : u_T} {N : Nat} {K : Option Nat → Option α} (hc : fw_cls[ci]? = some (C0, T, N)) (hk : kf < N) (hw : Cond.fieldLink M.1.cls idx (T kf).1 (T kf).2.1 (T kf).2.2.1 ∈ fw_tb) (hd : M.2.2.2.2[i]? = some (pc, .getfield idx, q)) (hq : pc + 3 = q) (kk : ∀ x, fw_R G M E d k n q lv (fw_r x :: st) h (K x)) : fw_R G M E d k n pc lv (fw_r x0 :: st) h ((f_gR h x0 ci kf).bind K) := by
  subst hq
  intro r hr l p e R s m args below meth c H ls locs cells slots Q C X
  obtain ⟨x, hx, hK⟩ := fw_bd hr
  obtain ⟨fs, ho, hv⟩ := fw_bd hx
  obtain ⟨a, rfl, ho'⟩ := fw_obj_at ho; replace ho := ho'
  obtain ⟨-, r', hr', hlen, hPw⟩ := fw_one X.2.2.2.2.1 ho
  have hfv : fs[kf]? = some (fw_r x) := by
    cases hf : fs[kf]? with
    | none => rw [hf] at hv; cases hv
    | some v =>
      rw [hf] at hv
      match v, hv with
      | .inl y, hv => cases hv
      | .inr (.inl y), hv => cases hv
      | .inr (.inr y), hv => cases hv; rfl
  exact va_get (ws := [(fw_ad G a, .inr (ci, fs.map (fw_tr G)))]) (v := fw_tr G (fw_r x)) C.1 C.2.1 C.2.2.2.2.2.2.2.1 (fw_clsOK _ _ hc).1 C.2.2.2.2.2.1 C.2.2.2.2.2.2.2.2.1.1 hPw 0 rfl hc kf hk (C.2.2.2.2.2.2.2.1 _ hw) (fun _ h => h) (by rw [List.getElem?_map, hfv]; rfl) (C.dec hd (by omega)) (kk x r hK l p e R s m args below meth c H ls locs cells slots Q C X)
theorem r_gB {x0 : Option Nat} {ci kf idx : Nat} {C0 : String} {T : u_T} {N : Nat} {K : Bool → Option α} (hc : fw_cls[ci]? = some (C0, T, N)) (hk : kf < N) (hw : Cond.fieldLink M.1.cls idx (T kf).1 (T kf).2.1 (T kf).2.2.1 ∈ fw_tb) (hd : M.2.2.2.2[i]? = some (pc, .getfield idx, q)) (hq : pc + 3 = q) (kk : ∀ x, fw_R G M E d k n q lv (fw_i (fw_b x) :: st) h (K x)) : fw_R G M E d k n pc lv (fw_r x0 :: st) h ((f_gB h x0 ci kf).bind K) := by
  subst hq
  intro r hr l p e R s m args below meth c H ls locs cells slots Q C X
  obtain ⟨x, hx, hK⟩ := fw_bd hr
  obtain ⟨fs, ho, hv⟩ := fw_bd hx
  obtain ⟨a, rfl, ho'⟩ := fw_obj_at ho; replace ho := ho'
  obtain ⟨-, r', hr', hlen, hPw⟩ := fw_one X.2.2.2.2.1 ho
  have hfv : fs[kf]? = some (fw_i (fw_b x)) := by
    cases hf : fs[kf]? with
    | none => rw [hf] at hv; cases hv
    | some v =>
      rw [hf] at hv
      match v, hv with
      | .inl y, hv =>
        simp only [f_vB] at hv
        by_cases h0 : y = 0
        · subst h0; simp at hv; subst hv; rfl
        · rw [if_neg h0] at hv
          by_cases h1 : y = 1
          · subst h1; simp at hv; subst hv; rfl
          · rw [if_neg h1] at hv; cases hv
      | .inr (.inl y), hv => cases hv
      | .inr (.inr y), hv => cases hv
  exact va_get (ws := [(fw_ad G a, .inr (ci, fs.map (fw_tr G)))]) (v := fw_tr G (fw_i (fw_b x))) C.1 C.2.1 C.2.2.2.2.2.2.2.1 (fw_clsOK _ _ hc).1 C.2.2.2.2.2.1 C.2.2.2.2.2.2.2.2.1.1 hPw 0 rfl hc kf hk (C.2.2.2.2.2.2.2.1 _ hw) (fun _ h => h) (by rw [List.getElem?_map, hfv]; rfl) (C.dec hd (by omega)) (kk x r hK l p e R s m args below meth c H ls locs cells slots Q C X)
/-- a field is written: ints, booleans, references; a final one in a constructor -/
theorem fw_put_at {l : Launch} {p : Program} {e : Env} {R : Room} {s : State} {m : MethodId} {args : Array Value} {below : List Frame} {meth : Method} {c : Code} {H : Heap} {ls : Array Slot} {locs : List Loc} {cells slots : Nat} {Q : State → Prop} {a ci kf idx : Nat} {C0 : String} {T : u_T} {N : Nat} {fs : List fw_V} {v : fw_V} {ty : FieldType} {rest : List Value}
    (C : fw_C G M l p s m args meth c) (hP : fw_P G H h) (ho : h[a]? = some (fw_O ci fs)) (hc : fw_cls[ci]? = some (C0, T, N)) (hk : kf < N) (hw : Cond.fieldLink M.1.cls idx (T kf).1 (T kf).2.1 (T kf).2.2.1 ∈ fw_tb) (hfin : (T kf).2.2.2 = false ∨ ((T kf).2.2.2 = true ∧ M.1.name = "<init>" ∧ (T kf).1 = M.1.cls)) (hpd : parseFieldDescriptor (T kf).2.2.1 = some ty) (hn : narrow ty (fw_tr G v) = fw_tr G v) (hfit : fits ty (fw_tr G v) = true)
    (hdg : decode M.2.1 pc = .ok (.putfield idx, 3)) (kk : ∀ H' locs', fw_P G H' (h.set a (fw_O ci (fs.set kf v))) → H'.size = H.size → (∀ q ∈ locs', q ∈ locs ∨ fw_base G ≤ q.base) → W p l e R s m args below meth c H' locs' cells slots Q (F0 m (pc + 3) ls rest)) : W p l e R s m args below meth c H locs cells slots Q (F0 m pc ls (fw_tr G v :: .ref (fw_ad G a) :: rest)) := by
  obtain ⟨hin, hnm, ty0, hty⟩ := fw_clsOK _ _ hc
  have hts := C.2.2.2.2.2.2.2.1
  have hK := C.2.2.2.2.2.2.2.2.1.1
  have hown := C.2.2.2.2.2.1
  have hap := va_apart (own := M.1.cls) hts hin ty0 hty hnm hK hc
  obtain ⟨h11, r, h1, hlen, hOB⟩ := hP.2.2.2 a _ ho
  have hr : r = (C0, T, N) := Option.some.inj (h1.symm.trans hc)
  subst hr
  obtain ⟨cell, q1, q2, q3, q4⟩ := hOB
  obtain ⟨hS, hfc, kC, hkC, hkind⟩ := hK.1 ci _ hc
  obtain ⟨cf, kf', fi, f, hi, hsl⟩ := hS kf hk
  have hlay := hts _ (hin _ (u_in_lay hk))
  have hst := (u_facts hfc hkC (u_lays hts hin hk) hi).1
  have key : ∀ H' : Heap, H'[fw_ad G a]? = some (cell.setSlot f.slot (fw_tr G v)) → H'.size = H.size → (∀ q, q ≠ fw_ad G a → H'[q]? = H[q]?) → W p l e R s m args below meth c H' (locs ++ [⟨fw_ad G a, f.slot⟩]) cells slots Q (F0 m (pc + 3) ls rest) := by
    intro H' e1 e2 e3
    refine kk H' _ (hP.set h11 e2 e3 ⟨h11, _, hc, by simpa using hlen, ?_⟩) e2 (fun q hq => ?_)
    · rw [hsl] at e1
      have hlen' : kf < (fs.map (fw_tr G)).length := by simp; rw [hlen]; exact hk
      have h9 := t_OB.to (V := updV (vp_V (fs.map (fw_tr G))) kf (fw_tr G v)) ⟨_, e1, q2, q3, t_set q4 hap hk (fw_tr G v)⟩ (fun j _ => vp_updV_set hlen' (fw_tr G v) j)
      rw [List.map_set]
      exact h9
    · rcases List.mem_append.mp hq with hq | hq
      · exact Or.inl hq
      · rw [List.mem_singleton.mp hq]
        exact Or.inr (by show fw_base G ≤ fw_ad G a; rw [fw_ad_own h11]; omega)
  rcases hfin with hfin | ⟨hfin, hinit, hdecl⟩
  · unfold u_lay at hlay
    rw [if_neg (by rw [hfin]; decide)] at hlay
    have h6 := u_store hfc hkC hkind hlay hi hpd hn hfit
    exact W.putK C.1 C.2.1 (f := f) ⟨hown, hts _ hw, ⟨_, _, _, hi⟩, hst⟩ (by rw [q2]; exact h6) q1 q3 (by rw [hsl]; exact k2_hasslot (q4 kf hk)) rfl rfl hdg key
  · unfold u_lay at hlay
    rw [if_pos hfin] at hlay
    have hcf : m.cls = cf := by
      obtain ⟨_, _, c', _, _, _, -, -, hf', -, -, -, hown2, -⟩ := Cond.laysFinal_spec hlay
      have e1 : c' = cf := by have := hi.symm.trans hf'; simp at this; exact this.1.symm
      rw [hdecl] at hown2
      rw [← e1]; exact Option.some.inj (hown.symm.trans hown2)
    have h6 := u_fits hfc hkC hkind (Or.inr hlay) hi hpd hn hfit
    exact W.putFinK C.1 C.2.1 hown (hts _ hw) hi hst hcf (C.2.2.2.2.2.2.1 hinit) (by rw [q2]; exact h6) q1 q3 (by rw [hsl]; exact k2_hasslot (q4 kf hk)) rfl rfl hdg key
theorem r_pI {x0 : Option Nat} {y : Int32} {ci kf idx : Nat} {C0 : String} {T : u_T} {N : Nat} {K : fw_H → Option α} (hc : fw_cls[ci]? = some (C0, T, N)) (hk : kf < N) (hw : Cond.fieldLink M.1.cls idx (T kf).1 (T kf).2.1 (T kf).2.2.1 ∈ fw_tb) (hfin : (T kf).2.2.2 = false) (hpd : parseFieldDescriptor (T kf).2.2.1 = some .int) (hd : M.2.2.2.2[i]? = some (pc, .putfield idx, q)) (hq : pc + 3 = q) (kk : ∀ h1, fw_R G M E d k n q lv st h1 (K h1)) : fw_R G M E d k n pc lv (fw_i y :: fw_r x0 :: st) h ((f_pI h x0 ci kf y).bind K) := by
  subst hq
  intro r hr l p e R s m args below meth c H ls locs cells slots Q C X
  obtain ⟨h1, hx, hK⟩ := fw_bd hr
  obtain ⟨fs, ho, hv⟩ := fw_bd hx
  obtain ⟨a, rfl, ho'⟩ := fw_obj_at ho; replace ho := ho'
  cases hv
  obtain ⟨x1, x2, x3, x4, x5, x6, x7, x8, x9⟩ := X
  exact fw_put_at (v := fw_i y) C x5 ho hc hk hw (Or.inl hfin) hpd (by rfl) (by rfl) (C.dec hd (by omega)) (fun H' locs' hP' hz hl => kk _ r hK l p e R s m args below meth c H' ls locs' cells slots Q C ⟨x1, x2, x3, x4, hP', by omega, x7, fun q hq => (hl q hq).elim (x8 q) id, x9⟩)
theorem r_pIF {x0 : Option Nat} {y : Int32} {ci kf idx : Nat} {C0 : String} {T : u_T} {N : Nat} {K : fw_H → Option α} (hc : fw_cls[ci]? = some (C0, T, N)) (hk : kf < N) (hw : Cond.fieldLink M.1.cls idx (T kf).1 (T kf).2.1 (T kf).2.2.1 ∈ fw_tb) (hfin : (T kf).2.2.2 = true) (hin : M.1.name = "<init>") (hdl : (T kf).1 = M.1.cls) (hpd : parseFieldDescriptor (T kf).2.2.1 = some .int) (hd : M.2.2.2.2[i]? = some (pc, .putfield idx, q)) (hq : pc + 3 = q) (kk : ∀ h1, fw_R G M E d k n q lv st h1 (K h1)) : fw_R G M E d k n pc lv (fw_i y :: fw_r x0 :: st) h ((f_pI h x0 ci kf y).bind K) := by
  subst hq
  intro r hr l p e R s m args below meth c H ls locs cells slots Q C X
  obtain ⟨h1, hx, hK⟩ := fw_bd hr
  obtain ⟨fs, ho, hv⟩ := fw_bd hx
  obtain ⟨a, rfl, ho'⟩ := fw_obj_at ho; replace ho := ho'
  cases hv
  obtain ⟨x1, x2, x3, x4, x5, x6, x7, x8, x9⟩ := X
  exact fw_put_at (v := fw_i y) C x5 ho hc hk hw (Or.inr ⟨hfin, hin, hdl⟩) hpd (by rfl) (by rfl) (C.dec hd (by omega)) (fun H' locs' hP' hz hl => kk _ r hK l p e R s m args below meth c H' ls locs' cells slots Q C ⟨x1, x2, x3, x4, hP', by omega, x7, fun q hq => (hl q hq).elim (x8 q) id, x9⟩)
theorem r_pB {x0 : Option Nat} {y : Bool} {ci kf idx : Nat} {C0 : String} {T : u_T} {N : Nat} {K : fw_H → Option α} (hc : fw_cls[ci]? = some (C0, T, N)) (hk : kf < N) (hw : Cond.fieldLink M.1.cls idx (T kf).1 (T kf).2.1 (T kf).2.2.1 ∈ fw_tb) (hfin : (T kf).2.2.2 = false) (hpd : parseFieldDescriptor (T kf).2.2.1 = some .boolean) (hd : M.2.2.2.2[i]? = some (pc, .putfield idx, q)) (hq : pc + 3 = q) (kk : ∀ h1, fw_R G M E d k n q lv st h1 (K h1)) : fw_R G M E d k n pc lv (fw_i (fw_b y) :: fw_r x0 :: st) h ((f_pB h x0 ci kf y).bind K) := by
  subst hq
  intro r hr l p e R s m args below meth c H ls locs cells slots Q C X
  obtain ⟨h1, hx, hK⟩ := fw_bd hr
  obtain ⟨fs, ho, hv⟩ := fw_bd hx
  obtain ⟨a, rfl, ho'⟩ := fw_obj_at ho; replace ho := ho'
  cases hv
  obtain ⟨x1, x2, x3, x4, x5, x6, x7, x8, x9⟩ := X
  exact fw_put_at (v := fw_i (fw_b y)) C x5 ho hc hk hw (Or.inl hfin) hpd (by cases y <;> rfl) (by cases y <;> rfl) (C.dec hd (by omega)) (fun H' locs' hP' hz hl => kk _ r hK l p e R s m args below meth c H' ls locs' cells slots Q C ⟨x1, x2, x3, x4, hP', by omega, x7, fun q hq => (hl q hq).elim (x8 q) id, x9⟩)
theorem r_pBF {x0 : Option Nat} {y : Bool} {ci kf idx : Nat} {C0 : String} {T : u_T} {N : Nat} {K : fw_H → Option α} (hc : fw_cls[ci]? = some (C0, T, N)) (hk : kf < N) (hw : Cond.fieldLink M.1.cls idx (T kf).1 (T kf).2.1 (T kf).2.2.1 ∈ fw_tb) (hfin : (T kf).2.2.2 = true) (hin : M.1.name = "<init>") (hdl : (T kf).1 = M.1.cls) (hpd : parseFieldDescriptor (T kf).2.2.1 = some .boolean) (hd : M.2.2.2.2[i]? = some (pc, .putfield idx, q)) (hq : pc + 3 = q) (kk : ∀ h1, fw_R G M E d k n q lv st h1 (K h1)) : fw_R G M E d k n pc lv (fw_i (fw_b y) :: fw_r x0 :: st) h ((f_pB h x0 ci kf y).bind K) := by
  subst hq
  intro r hr l p e R s m args below meth c H ls locs cells slots Q C X
  obtain ⟨h1, hx, hK⟩ := fw_bd hr
  obtain ⟨fs, ho, hv⟩ := fw_bd hx
  obtain ⟨a, rfl, ho'⟩ := fw_obj_at ho; replace ho := ho'
  cases hv
  obtain ⟨x1, x2, x3, x4, x5, x6, x7, x8, x9⟩ := X
  exact fw_put_at (v := fw_i (fw_b y)) C x5 ho hc hk hw (Or.inr ⟨hfin, hin, hdl⟩) hpd (by cases y <;> rfl) (by cases y <;> rfl) (C.dec hd (by omega)) (fun H' locs' hP' hz hl => kk _ r hK l p e R s m args below meth c H' ls locs' cells slots Q C ⟨x1, x2, x3, x4, hP', by omega, x7, fun q hq => (hl q hq).elim (x8 q) id, x9⟩)
theorem r_pR {x0 : Option Nat} {y : Option Nat} {ci kf idx : Nat} {C0 : String} {T : u_T} {N : Nat} {K : fw_H → Option α} (hc : fw_cls[ci]? = some (C0, T, N)) (hk : kf < N) (hw : Cond.fieldLink M.1.cls idx (T kf).1 (T kf).2.1 (T kf).2.2.1 ∈ fw_tb) (hfin : (T kf).2.2.2 = false) (hpd : ∃ ty, parseFieldDescriptor (T kf).2.2.1 = some ty ∧ ((∃ nm, ty = .object nm) ∨ ∃ t9, ty = .array t9)) (hd : M.2.2.2.2[i]? = some (pc, .putfield idx, q)) (hq : pc + 3 = q) (kk : ∀ h1, fw_R G M E d k n q lv st h1 (K h1)) : fw_R G M E d k n pc lv (fw_r y :: fw_r x0 :: st) h ((f_pR h x0 ci kf y).bind K) := by
  subst hq
  intro r hr l p e R s m args below meth c H ls locs cells slots Q C X
  obtain ⟨h1, hx, hK⟩ := fw_bd hr
  obtain ⟨fs, ho, hv⟩ := fw_bd hx
  obtain ⟨a, rfl, ho'⟩ := fw_obj_at ho; replace ho := ho'
  cases hv
  obtain ⟨x1, x2, x3, x4, x5, x6, x7, x8, x9⟩ := X
  exact fw_put_at (v := fw_r y) C x5 ho hc hk hw (Or.inl hfin) hpd.choose_spec.1 (by rcases hpd.choose_spec.2 with ⟨z, e⟩ | ⟨z, e⟩ <;> rw [e] <;> cases y <;> rfl) (by rcases hpd.choose_spec.2 with ⟨z, e⟩ | ⟨z, e⟩ <;> rw [e] <;> cases y <;> rfl) (C.dec hd (by omega)) (fun H' locs' hP' hz hl => kk _ r hK l p e R s m args below meth c H' ls locs' cells slots Q C ⟨x1, x2, x3, x4, hP', by omega, x7, fun q hq => (hl q hq).elim (x8 q) id, x9⟩)
theorem r_pRF {x0 : Option Nat} {y : Option Nat} {ci kf idx : Nat} {C0 : String} {T : u_T} {N : Nat} {K : fw_H → Option α} (hc : fw_cls[ci]? = some (C0, T, N)) (hk : kf < N) (hw : Cond.fieldLink M.1.cls idx (T kf).1 (T kf).2.1 (T kf).2.2.1 ∈ fw_tb) (hfin : (T kf).2.2.2 = true) (hin : M.1.name = "<init>") (hdl : (T kf).1 = M.1.cls) (hpd : ∃ ty, parseFieldDescriptor (T kf).2.2.1 = some ty ∧ ((∃ nm, ty = .object nm) ∨ ∃ t9, ty = .array t9)) (hd : M.2.2.2.2[i]? = some (pc, .putfield idx, q)) (hq : pc + 3 = q) (kk : ∀ h1, fw_R G M E d k n q lv st h1 (K h1)) : fw_R G M E d k n pc lv (fw_r y :: fw_r x0 :: st) h ((f_pR h x0 ci kf y).bind K) := by
  subst hq
  intro r hr l p e R s m args below meth c H ls locs cells slots Q C X
  obtain ⟨h1, hx, hK⟩ := fw_bd hr
  obtain ⟨fs, ho, hv⟩ := fw_bd hx
  obtain ⟨a, rfl, ho'⟩ := fw_obj_at ho; replace ho := ho'
  cases hv
  obtain ⟨x1, x2, x3, x4, x5, x6, x7, x8, x9⟩ := X
  exact fw_put_at (v := fw_r y) C x5 ho hc hk hw (Or.inr ⟨hfin, hin, hdl⟩) hpd.choose_spec.1 (by rcases hpd.choose_spec.2 with ⟨z, e⟩ | ⟨z, e⟩ <;> rw [e] <;> cases y <;> rfl) (by rcases hpd.choose_spec.2 with ⟨z, e⟩ | ⟨z, e⟩ <;> rw [e] <;> cases y <;> rfl) (C.dec hd (by omega)) (fun H' locs' hP' hz hl => kk _ r hK l p e R s m args below meth c H' ls locs' cells slots Q C ⟨x1, x2, x3, x4, hP', by omega, x7, fun q hq => (hl q hq).elim (x8 q) id, x9⟩)
theorem r_ck {x0 : Option Nat} {ci : Nat} {K : Unit → Option α} (kk : fw_R G M E d k n pc lv st h (K ())) : fw_R G M E d k n pc lv st h ((f_ck h x0 ci).bind K) := by
  intro r hr l p e R s m args below meth c H ls locs cells slots Q C X
  obtain ⟨x, hx, hK⟩ := fw_bd hr
  exact kk r hK l p e R s m args below meth c H ls locs cells slots Q C X
theorem r_toB {x : Int32} {K : Bool → Option α} (kk : ∀ b, x = fw_b b → fw_R G M E d k n pc lv (fw_i (fw_b b) :: st) h (K b)) : fw_R G M E d k n pc lv (fw_i x :: st) h ((f_toB x).bind K) := by
  intro r hr l p e R s m args below meth c H ls locs cells slots Q C X
  obtain ⟨b, hx, hK⟩ := fw_bd hr
  have e1 : x = fw_b b := by
    unfold f_toB at hx
    by_cases h0 : x = 0
    · subst h0; simp at hx; subst hx; rfl
    · rw [if_neg h0] at hx
      by_cases h1 : x = 1
      · subst h1; simp at hx; subst hx; rfl
      · rw [if_neg h1] at hx; cases hx
  subst e1
  exact kk b rfl r hK l p e R s m args below meth c H ls locs cells slots Q C X
/-- what an array of ints is, own or outside -/
theorem fw_arr {s : State} {H : Heap} {a n : Nat} {f : Nat → Int32} (hP : fw_P G H h) (hK : fw_K G s) (ha : h[a]? = some (fw_I n f) ∨ h[a]? = some (fw_XI n f)) : ∃ cell : Cell, H[fw_ad G a]? = some cell ∧ s.isArrayOf cell .int ∧ cell.vm ≠ .unknown ∧ n ≤ cell.slots.size ∧ cell.slots.size.toInt32 = Int32.ofNat n ∧ ∀ j, j < n → cell.slots[j]? = some (.int (f j)) := by
  rcases ha with ha | ha
  · obtain ⟨h11, hH⟩ := hP.2.2.2 a _ ha
    replace hH := hH _ rfl
    refine ⟨_, hH, (hK.1.2 0 (fw_cI G, .int) rfl).1 n (fun j => .int (f j)), (fun z => by cases z), ?_, ?_, fun j hj => ?_⟩
    · rw [vp_cell_i, arrV_size]; exact Nat.le_refl _
    · rw [vp_cell_i, arrV_size]; try rfl
    · rw [vp_cell_i]; exact arrV_read _ _ hj
  · obtain ⟨h7, hx⟩ := hP.2.2.2 a _ ha
    obtain ⟨n', f', e, hn, cell, t1, t2, t3, t4, t5, t6, t7⟩ := hK.2.1 a h7
    rw [← hx] at e
    cases e
    have hb := hK.ext (i := a) (by omega)
    refine ⟨cell, ?_, t2, t3, t4, t5, t6⟩
    rw [fw_ad_ext (by omega), hP.2.2.1 _ hb]
    exact t1
theorem r_aI {x0 : Option Nat} {j : Int32} {K : Int32 → Option α} (hd : M.2.2.2.2[i]? = some (pc, .iaload, q)) (hq : pc + 1 = q) (kk : ∀ x, fw_R G M E d k n q lv (fw_i x :: st) h (K x)) : fw_R G M E d k n pc lv (fw_i j :: fw_r x0 :: st) h ((f_aI h x0 j).bind K) := by
  subst hq
  intro r hr l p e R s m args below meth c H ls locs cells slots Q C X
  obtain ⟨x, hx, hK⟩ := fw_bd hr
  obtain ⟨y, ho, hv⟩ := fw_bd hx
  obtain ⟨a, rfl, ho'⟩ := fw_arI_at ho; replace ho := ho'
  by_cases hin : ¬ j < 0 ∧ j.toNatClampNeg < y.1
  · rw [if_pos hin] at hv
    cases hv
    obtain ⟨cell, c1, c2, c3, c4, c5, c6⟩ := fw_arr X.2.2.2.2.1 C.2.2.2.2.2.2.2.2.1 ho
    exact W.iald (v := .int (y.2 j.toNatClampNeg)) C.1 C.2.1 c1 c2 c3 (by intro z; rcases z with z | z; exact hin.1 z; omega) (c6 _ hin.2) rfl rfl (C.dec hd (by omega)) (kk _ r hK l p e R s m args below meth c H ls locs cells slots Q C X)
  · rw [if_neg hin] at hv; cases hv
theorem r_lnI {x0 : Option Nat} {K : Int32 → Option α} (hd : M.2.2.2.2[i]? = some (pc, .arraylength, q)) (hq : pc + 1 = q) (kk : ∀ x, fw_R G M E d k n q lv (fw_i x :: st) h (K x)) : fw_R G M E d k n pc lv (fw_r x0 :: st) h ((f_lnI h x0).bind K) := by
  subst hq
  intro r hr l p e R s m args below meth c H ls locs cells slots Q C X
  obtain ⟨x, hx, hK⟩ := fw_bd hr
  obtain ⟨y, ho, hv⟩ := fw_bd hx
  obtain ⟨a, rfl, ho'⟩ := fw_arI_at ho; replace ho := ho'
  cases hv
  obtain ⟨cell, c1, c2, c3, c4, c5, c6⟩ := fw_arr X.2.2.2.2.1 C.2.2.2.2.2.2.2.2.1 ho
  exact W.alen C.1 C.2.1 c1 c2 c5 rfl rfl (C.dec hd (by omega)) (kk _ r hK l p e R s m args below meth c H ls locs cells slots Q C X)
theorem r_aJ {x0 : Option Nat} {j : Int32} {K : Int64 → Option α} (hd : M.2.2.2.2[i]? = some (pc, .laload, q)) (hq : pc + 1 = q) (kk : ∀ x, fw_R G M E d k n q lv (fw_j x :: st) h (K x)) : fw_R G M E d k n pc lv (fw_i j :: fw_r x0 :: st) h ((f_aJ h x0 j).bind K) := by
  subst hq
  intro r hr l p e R s m args below meth c H ls locs cells slots Q C X
  obtain ⟨x, hx, hK⟩ := fw_bd hr
  obtain ⟨y, ho, hv⟩ := fw_bd hx
  obtain ⟨a, rfl, ho'⟩ := fw_arJ_at ho; replace ho := ho'
  by_cases hin : ¬ j < 0 ∧ j.toNatClampNeg < y.1
  · rw [if_pos hin] at hv
    cases hv
    obtain ⟨h11, hH⟩ := X.2.2.2.2.1.2.2.2 a _ ho
    replace hH := hH _ rfl
    exact W.lald (v := .long (y.2 j.toNatClampNeg)) C.1 C.2.1 hH ((C.2.2.2.2.2.2.2.2.1.1.2 1 (fw_cJ G, .long) rfl).1 y.1 (fun j => .long (y.2 j))) (fun z => by cases z) (by rw [vp_cell_l, arrV_size]; intro z; rcases z with z | z; exact hin.1 z; omega) (by rw [vp_cell_l]; exact arrV_read _ _ hin.2) rfl rfl (C.dec hd (by omega)) (kk _ r hK l p e R s m args below meth c H ls locs cells slots Q C X)
  · rw [if_neg hin] at hv; cases hv
theorem r_lnJ {x0 : Option Nat} {K : Int32 → Option α} (hd : M.2.2.2.2[i]? = some (pc, .arraylength, q)) (hq : pc + 1 = q) (kk : ∀ x, fw_R G M E d k n q lv (fw_i x :: st) h (K x)) : fw_R G M E d k n pc lv (fw_r x0 :: st) h ((f_lnJ h x0).bind K) := by
  subst hq
  intro r hr l p e R s m args below meth c H ls locs cells slots Q C X
  obtain ⟨x, hx, hK⟩ := fw_bd hr
  obtain ⟨y, ho, hv⟩ := fw_bd hx
  obtain ⟨a, rfl, ho'⟩ := fw_arJ_at ho; replace ho := ho'
  cases hv
  obtain ⟨h11, hH⟩ := X.2.2.2.2.1.2.2.2 a _ ho
  replace hH := hH _ rfl
  exact W.alen (n := Int32.ofNat y.1) C.1 C.2.1 hH ((C.2.2.2.2.2.2.2.2.1.1.2 1 (fw_cJ G, .long) rfl).1 y.1 (fun j => .long (y.2 j))) (by rw [vp_cell_l, arrV_size] <;> rfl) rfl rfl (C.dec hd (by omega)) (kk _ r hK l p e R s m args below meth c H ls locs cells slots Q C X)
theorem r_aQ {x0 : Option Nat} {j : Int32} {K : Option Nat → Option α} (hd : M.2.2.2.2[i]? = some (pc, .aaload, q)) (hq : pc + 1 = q) (kk : ∀ x, fw_R G M E d k n q lv (fw_r x :: st) h (K x)) : fw_R G M E d k n pc lv (fw_i j :: fw_r x0 :: st) h ((f_aQ h x0 j).bind K) := by
  subst hq
  intro r hr l p e R s m args below meth c H ls locs cells slots Q C X
  obtain ⟨x, hx, hK⟩ := fw_bd hr
  obtain ⟨y, ho, hv⟩ := fw_bd hx
  obtain ⟨a, rfl, ho'⟩ := fw_arQ_at ho; replace ho := ho'
  by_cases hin : ¬ j < 0 ∧ j.toNatClampNeg < y.1
  · rw [if_pos hin] at hv
    cases hv
    obtain ⟨h11, hH⟩ := X.2.2.2.2.1.2.2.2 a _ ho
    replace hH := hH _ rfl
    exact W.aald (v := va_rf ((y.2 j.toNatClampNeg).map (fw_ad G))) (ty := .object RX1) C.1 C.2.1 hH ((C.2.2.2.2.2.2.2.2.1.1.2 2 (fw_cQ G, .object RX1) rfl).1 y.1 (fun j => va_rf ((y.2 j).map (fw_ad G)))) rfl (fun z => by cases z) (by rw [vp_cell_q, arrV_size]; intro z; rcases z with z | z; exact hin.1 z; omega) (by rw [vp_cell_q]; exact arrV_read _ _ hin.2) rfl rfl (C.dec hd (by omega)) (kk _ r hK l p e R s m args below meth c H ls locs cells slots Q C X)
  · rw [if_neg hin] at hv; cases hv
theorem r_lnQ {x0 : Option Nat} {K : Int32 → Option α} (hd : M.2.2.2.2[i]? = some (pc, .arraylength, q)) (hq : pc + 1 = q) (kk : ∀ x, fw_R G M E d k n q lv (fw_i x :: st) h (K x)) : fw_R G M E d k n pc lv (fw_r x0 :: st) h ((f_lnQ h x0).bind K) := by
  subst hq
  intro r hr l p e R s m args below meth c H ls locs cells slots Q C X
  obtain ⟨x, hx, hK⟩ := fw_bd hr
  obtain ⟨y, ho, hv⟩ := fw_bd hx
  obtain ⟨a, rfl, ho'⟩ := fw_arQ_at ho; replace ho := ho'
  cases hv
  obtain ⟨h11, hH⟩ := X.2.2.2.2.1.2.2.2 a _ ho
  replace hH := hH _ rfl
  exact W.alen (n := Int32.ofNat y.1) C.1 C.2.1 hH ((C.2.2.2.2.2.2.2.2.1.1.2 2 (fw_cQ G, .object RX1) rfl).1 y.1 (fun j => va_rf ((y.2 j).map (fw_ad G)))) (by rw [vp_cell_q, arrV_size] <;> rfl) rfl rfl (C.dec hd (by omega)) (kk _ r hK l p e R s m args below meth c H ls locs cells slots Q C X)
theorem r_sI {x0 : Option Nat} {j : Int32} {v : Int32} {K : fw_H → Option α} (hd : M.2.2.2.2[i]? = some (pc, .iastore, q)) (hq : pc + 1 = q) (kk : ∀ h1, fw_R G M E d k n q lv st h1 (K h1)) : fw_R G M E d k n pc lv (fw_i v :: fw_i j :: fw_r x0 :: st) h ((f_sI h x0 j v).bind K) := by
  subst hq
  intro r hr l p e R s m args below meth c H ls locs cells slots Q C X
  obtain ⟨h1, hx, hK⟩ := fw_bd hr
  obtain ⟨y, ho, hv⟩ := fw_bd hx
  obtain ⟨a, rfl, ho'⟩ := fw_owI_at ho; replace ho := ho'
  by_cases hin : ¬ j < 0 ∧ j.toNatClampNeg < y.1
  · rw [if_pos hin] at hv
    cases hv
    obtain ⟨x1, x2, x3, x4, x5, x6, x7, x8, x9⟩ := X
    obtain ⟨h11, hH⟩ := x5.2.2.2 a _ ho
    replace hH := hH _ rfl
    refine W.iast C.1 C.2.1 hH ((C.2.2.2.2.2.2.2.2.1.1.2 0 (fw_cI G, .int) rfl).1 y.1 (fun j => .int (y.2 j))) (fun z => by cases z) (by rw [vp_cell_i, arrV_size]; intro z; rcases z with z | z; exact hin.1 z; omega) rfl rfl (C.dec hd (by omega)) (fun H1 e1 z oq => kk _ r hK l p e R s m args below meth c H1 ls _ cells slots Q C ⟨x1, x2, x3, x4, x5.set h11 z oq (fw_at_arr h11 rfl ?_), by omega, x7, ?_, x9⟩)
    · show H1[fw_ad G a]? = _
      rw [e1, vp_cell_i, arrV_store, vp_cell_i]
      congr 2
      funext b
      by_cases hb : b = j.toNatClampNeg
      · subst hb; simp [updV, upd]
      · simp [updV, upd, hb]
    · intro b hb
      rcases List.mem_append.mp hb with hb | hb
      · exact x8 b hb
      · rw [List.mem_singleton.mp hb]
        show fw_base G ≤ fw_ad G a
        rw [fw_ad_own h11]; omega
  · rw [if_neg hin] at hv; cases hv
theorem r_sJ {x0 : Option Nat} {j : Int32} {v : Int64} {K : fw_H → Option α} (hd : M.2.2.2.2[i]? = some (pc, .lastore, q)) (hq : pc + 1 = q) (kk : ∀ h1, fw_R G M E d k n q lv st h1 (K h1)) : fw_R G M E d k n pc lv (fw_j v :: fw_i j :: fw_r x0 :: st) h ((f_sJ h x0 j v).bind K) := by
  subst hq
  intro r hr l p e R s m args below meth c H ls locs cells slots Q C X
  obtain ⟨h1, hx, hK⟩ := fw_bd hr
  obtain ⟨y, ho, hv⟩ := fw_bd hx
  obtain ⟨a, rfl, ho'⟩ := fw_arJ_at ho; replace ho := ho'
  by_cases hin : ¬ j < 0 ∧ j.toNatClampNeg < y.1
  · rw [if_pos hin] at hv
    cases hv
    obtain ⟨x1, x2, x3, x4, x5, x6, x7, x8, x9⟩ := X
    obtain ⟨h11, hH⟩ := x5.2.2.2 a _ ho
    replace hH := hH _ rfl
    refine W.last C.1 C.2.1 hH ((C.2.2.2.2.2.2.2.2.1.1.2 1 (fw_cJ G, .long) rfl).1 y.1 (fun j => .long (y.2 j))) (fun z => by cases z) (by rw [vp_cell_l, arrV_size]; intro z; rcases z with z | z; exact hin.1 z; omega) rfl rfl (C.dec hd (by omega)) (fun H1 e1 z oq => kk _ r hK l p e R s m args below meth c H1 ls _ cells slots Q C ⟨x1, x2, x3, x4, x5.set h11 z oq (fw_at_arr h11 rfl ?_), by omega, x7, ?_, x9⟩)
    · show H1[fw_ad G a]? = _
      rw [e1, vp_cell_l, arrV_store, vp_cell_l]
      congr 2
      funext b
      by_cases hb : b = j.toNatClampNeg
      · subst hb; simp [updV, vp_updL]
      · simp [updV, vp_updL, hb]
    · intro b hb
      rcases List.mem_append.mp hb with hb | hb
      · exact x8 b hb
      · rw [List.mem_singleton.mp hb]
        show fw_base G ≤ fw_ad G a
        rw [fw_ad_own h11]; omega
  · rw [if_neg hin] at hv; cases hv
theorem r_sQ {x0 v : Option Nat} {j : Int32} {K : fw_H → Option α} (hd : M.2.2.2.2[i]? = some (pc, .aastore, q)) (hq : pc + 1 = q) (kk : ∀ h1, fw_R G M E d k n q lv st h1 (K h1)) : fw_R G M E d k n pc lv (fw_r v :: fw_i j :: fw_r x0 :: st) h ((f_sQ h x0 j v).bind K) := by
  subst hq
  intro r hr l p e R s m args below meth c H ls locs cells slots Q C X
  obtain ⟨h1, hx, hK⟩ := fw_bd hr
  obtain ⟨y, ho, hv⟩ := fw_bd hx
  obtain ⟨a, rfl, ho'⟩ := fw_arQ_at ho; replace ho := ho'
  obtain ⟨fs, hov, hv⟩ := fw_bd hv
  obtain ⟨b, rfl, hov'⟩ := fw_obj_at hov; replace hov := hov'
  by_cases hin : ¬ j < 0 ∧ j.toNatClampNeg < y.1
  · rw [if_pos hin] at hv
    cases hv
    obtain ⟨x1, x2, x3, x4, x5, x6, x7, x8, x9⟩ := X
    obtain ⟨h11, hH⟩ := x5.2.2.2 a _ ho
    replace hH := hH _ rfl
    obtain ⟨hb11, r', hr', hlen, cellV, g1, g2, g3, -⟩ := x5.2.2.2 b _ hov
    have hKK := C.2.2.2.2.2.2.2.2.1.1
    have hcls := (hKK.1 1 (RX1, TX1, 5) rfl).2
    obtain ⟨kA, comp, k1, k2, k3, -⟩ := (hKK.2 2 (fw_cQ G, .object RX1) rfl).2
    have hcomp : comp = (fw_D G).1 1 := Option.some.inj (k3.symm.trans hcls.1)
    subst hcomp
    obtain ⟨kC, hkC, -⟩ := hcls.2
    refine W.aast C.1 C.2.1 hH (fun q h => by cases h) (fun h => by cases h) k1 k2 rfl hkC ⟨hin.1, by rw [vp_cell_q, arrV_size]; exact hin.2⟩ g1 (fun q h => by rw [g3] at h; cases h) (by rw [g2]; exact hkC) (by rw [g2]; exact va_assign hcls) rfl rfl (C.dec hd (by omega)) (fun H1 e1 z oq => kk _ r hK l p e R s m args below meth c H1 ls _ cells slots Q C ⟨x1, x2, x3, x4, x5.set h11 z oq (fw_at_arr h11 rfl ?_), by omega, x7, ?_, x9⟩)
    · show H1[fw_ad G a]? = _
      rw [e1, vp_cell_q, arrV_store, vp_cell_q]
      congr 2
      funext b2
      by_cases hb : b2 = j.toNatClampNeg
      · subst hb; simp [updV, va_up, va_rf]
      · simp [updV, va_up, hb]
    · intro b2 hb
      rcases List.mem_append.mp hb with hb | hb
      · exact x8 b2 hb
      · rw [List.mem_singleton.mp hb]
        show fw_base G ≤ fw_ad G a
        rw [fw_ad_own h11]; omega
  · rw [if_neg hin] at hv; cases hv
theorem r_newI {k2 n2 N : Nat} {x : Int32} {K : Option Nat → fw_H → Option α} (hx : ¬ x < 0) (hN : x.toNatClampNeg = N) (hb : N ≤ 60000) (hk : k2 + 1 ≤ k) (hn : n2 + N ≤ n) (hw : Cond.arrayClass .int ∈ fw_tb) (hd : M.2.2.2.2[i]? = some (pc, .newarray .int, q)) (hq : pc + 2 = q) (kk : fw_R G M E d k2 n2 q lv (fw_r (some h.length) :: st) (h ++ [fw_I N (fun _ => 0)]) (K (some h.length) (h ++ [fw_I N (fun _ => 0)]))) : fw_R G M E d k n pc lv (fw_i x :: st) h (K (some h.length) (h ++ [fw_I N (fun _ => 0)])) := by
  subst hq
  intro r hr l p e_ R s m args below meth c H ls locs cells slots Q C X
  obtain ⟨x1, x2, x3, x4, x5, x6, x7, x8, x9⟩ := X
  refine va_newaK C.1 C.2.1 (atype := .int) (C.2.2.2.2.2.2.2.1 _ hw) rfl (C.dec hd (by omega)) rfl hx hN (by show N * componentBytes .int ≤ _; simp [componentBytes]; omega) (by omega) (by omega) rfl (fun H1 cA e1 z1 o1 hA hNm => ?_)
  have hcA : cA = fw_cI G := Option.some.inj (hNm.symm.trans (C.2.2.2.2.2.2.2.2.1.1.2 0 (fw_cI G, .int) rfl).2)
  subst hcA
  have e := fw_ad_new x5
  have hP1 : fw_P G H1 (h ++ [fw_I N (fun _ => 0)]) := x5.push z1 o1 (fw_at_arr x5.1 rfl (by rw [e, e1]; rfl))
  have K9 := kk r hr l p e_ R s m args below meth c H1 ls locs (cells + 1) (slots + N) Q C ⟨x1, x2, by omega, by omega, hP1, by omega, x7, x8, fun H' ls' locs' cells' slots' pc' y1 y2 y3 y4 y5 => x9 H' ls' locs' cells' slots' pc' y1 y2 y3 (by omega) (by omega)⟩
  rw [List.map_cons, fw_rf, e] at K9
  exact K9
theorem r_newJ {k2 n2 N : Nat} {x : Int32} {K : Option Nat → fw_H → Option α} (hx : ¬ x < 0) (hN : x.toNatClampNeg = N) (hb : N ≤ 60000) (hk : k2 + 1 ≤ k) (hn : n2 + N ≤ n) (hw : Cond.arrayClass .long ∈ fw_tb) (hd : M.2.2.2.2[i]? = some (pc, .newarray .long, q)) (hq : pc + 2 = q) (kk : fw_R G M E d k2 n2 q lv (fw_r (some h.length) :: st) (h ++ [fw_J N (fun _ => 0)]) (K (some h.length) (h ++ [fw_J N (fun _ => 0)]))) : fw_R G M E d k n pc lv (fw_i x :: st) h (K (some h.length) (h ++ [fw_J N (fun _ => 0)])) := by
  subst hq
  intro r hr l p e_ R s m args below meth c H ls locs cells slots Q C X
  obtain ⟨x1, x2, x3, x4, x5, x6, x7, x8, x9⟩ := X
  refine va_newaK C.1 C.2.1 (atype := .long) (C.2.2.2.2.2.2.2.1 _ hw) rfl (C.dec hd (by omega)) rfl hx hN (by show N * componentBytes .long ≤ _; simp [componentBytes]; omega) (by omega) (by omega) rfl (fun H1 cA e1 z1 o1 hA hNm => ?_)
  have hcA : cA = fw_cJ G := Option.some.inj (hNm.symm.trans (C.2.2.2.2.2.2.2.2.1.1.2 1 (fw_cJ G, .long) rfl).2)
  subst hcA
  have e := fw_ad_new x5
  have hP1 : fw_P G H1 (h ++ [fw_J N (fun _ => 0)]) := x5.push z1 o1 (fw_at_arr x5.1 rfl (by rw [e, e1]; rfl))
  have K9 := kk r hr l p e_ R s m args below meth c H1 ls locs (cells + 1) (slots + N) Q C ⟨x1, x2, by omega, by omega, hP1, by omega, x7, x8, fun H' ls' locs' cells' slots' pc' y1 y2 y3 y4 y5 => x9 H' ls' locs' cells' slots' pc' y1 y2 y3 (by omega) (by omega)⟩
  rw [List.map_cons, fw_rf, e] at K9
  exact K9
def fw_dfl : fw_V → Option Value
  | .inl x => some (.int x)
  | .inr (.inl x) => some (.long x)
  | .inr (.inr none) => some .null
  | .inr (.inr (some _)) => none
theorem fw_dfl_tr {v : fw_V} {w : Value} (h : fw_dfl v = some w) : fw_tr G v = w := by
  match v, h with
  | .inl x, h => cases h; rfl
  | .inr (.inl x), h => cases h; rfl
  | .inr (.inr none), h => cases h; rfl
  | .inr (.inr (some _)), h => cases h
theorem r_newO {k2 n2 ci idx N : Nat} {C0 : String} {T : u_T} {fs : List fw_V} {K : Option Nat → fw_H → Option α} (hc : fw_cls[ci]? = some (C0, T, N)) (hfs : fs.length = N ∧ ∀ j, j < N → (parseFieldDescriptor (T j).2.2.1).bind (fun ty => some (defaultValue ty)) = fs[j]?.bind fw_dfl) (hk : k2 + 1 ≤ k) (hn : n2 + N ≤ n) (hw1 : Cond.classLink M.1.cls idx C0 ∈ fw_tb) (hw2 : Cond.instantiable C0 N ∈ fw_tb) (hw3 : Cond.initialized C0 ∈ fw_tb) (hd : M.2.2.2.2[i]? = some (pc, .new idx, q)) (hq : pc + 3 = q) (kk : fw_R G M E d k2 n2 q lv (fw_r (some h.length) :: st) (h ++ [fw_O ci fs]) (K (some h.length) (h ++ [fw_O ci fs]))) : fw_R G M E d k n pc lv st h (K (some h.length) (h ++ [fw_O ci fs])) := by
  subst hq
  intro r hr l p e_ R s m args below meth c H ls locs cells slots Q C X
  obtain ⟨x1, x2, x3, x4, x5, x6, x7, x8, x9⟩ := X
  obtain ⟨hin, -, ty, hty⟩ := fw_clsOK _ _ hc
  have hKn := C.2.2.2.2.2.2.2.2.1.1.1 ci _ hc
  refine W.newcK C.1 C.2.1 C.2.2.2.2.2.1 (C.2.2.2.2.2.2.2.1 _ hw1) (C.2.2.2.2.2.2.2.1 _ hw2) (C.2.2.2.2.2.2.2.1 _ hw3) rfl (C.dec hd (by omega)) (by omega) (by omega) hKn.2.1 rfl fun H1 kC hkC e1 z1 o1 => ?_
  have e := fw_ad_new x5
  have hP1 : fw_P G H1 (h ++ [fw_O ci fs]) := by
    refine x5.push z1 o1 ⟨x5.1, _, hc, hfs.1, ?_⟩
    rw [e]
    refine (u_born ty C.2.2.2.2.2.2.2.1 hin hKn hkC e1 hty).to (fun j hj => ?_)
    have h1 := hfs.2 j hj
    rw [hty j hj] at h1
    have hj2 : j < fs.length := by rw [hfs.1]; exact hj
    rw [List.getElem?_eq_getElem hj2] at h1
    have h2 : fw_tr G fs[j] = defaultValue (ty j) := fw_dfl_tr h1.symm
    rw [← h2]
    simp [vp_V, hj2]
  have K9 := kk r hr l p e_ R s m args below meth c H1 ls locs (cells + 1) (slots + N) Q C ⟨x1, x2, by omega, by omega, hP1, by omega, x7, x8, fun H' ls' locs' cells' slots' pc' y1 y2 y3 y4 y5 => x9 H' ls' locs' cells' slots' pc' y1 y2 y3 (by omega) (by omega)⟩
  rw [List.map_cons, fw_rf, e] at K9
  exact K9
theorem r_newQ {k2 n2 N idx : Nat} {x : Int32} {K : Option Nat → fw_H → Option α} (hx : ¬ x < 0) (hN : x.toNatClampNeg = N) (hb : N ≤ 60000) (hk : k2 + 1 ≤ k) (hn : n2 + N ≤ n) (hw : Cond.classLink M.1.cls idx RX1 ∈ fw_tb) (hd : M.2.2.2.2[i]? = some (pc, .anewarray idx, q)) (hq : pc + 3 = q) (kk : fw_R G M E d k2 n2 q lv (fw_r (some h.length) :: st) (h ++ [fw_Q N (fun _ => none)]) (K (some h.length) (h ++ [fw_Q N (fun _ => none)]))) : fw_R G M E d k n pc lv (fw_i x :: st) h (K (some h.length) (h ++ [fw_Q N (fun _ => none)])) := by
  subst hq
  intro r hr l p e_ R s m args below meth c H ls locs cells slots Q C X
  obtain ⟨x1, x2, x3, x4, x5, x6, x7, x8, x9⟩ := X
  subst hN
  refine W.anew C.1 C.2.1 C.2.2.2.2.2.1 (C.2.2.2.2.2.2.2.1 _ hw) (va_AO.use C.2.2.2.2.2.2.2.2.1.2.2.2.2.2.2.1) rfl (C.dec hd (by omega)) rfl hx (by omega) (by omega) (by omega) (fun cA kA comp f1 f2 f3 f4 => ?_)
  obtain ⟨kA', comp', g1, g2, g3, g4⟩ := (C.2.2.2.2.2.2.2.2.1.1.2 2 (fw_cQ G, .object RX1) rfl).2
  have hcA : cA = fw_cQ G := Option.some.inj (f1.symm.trans g4)
  subst hcA
  have e := fw_ad_new x5
  generalize hH1 : H.push ({ cls := fw_cQ G, slots := Array.replicate x.toNatClampNeg .null, vm := .none } : Cell) = H1
  have z1 : H1.size = H.size + 1 := by rw [← hH1, Array.size_push]
  have e1 : H1[H.size]? = some (arrV (fw_cQ G) x.toNatClampNeg (fun _ => .null)) := by rw [← hH1, Array.getElem?_push_size, ← arrV_new]
  have o1 : ∀ q : Nat, q < H.size → H1[q]? = H[q]? := fun q hq => by rw [← hH1, Array.getElem?_push, if_neg (Nat.ne_of_lt hq)]
  have hP1 : fw_P G H1 (h ++ [fw_Q x.toNatClampNeg (fun _ => none)]) := x5.push z1 o1 (fw_at_arr x5.1 rfl (by rw [e, e1]; rfl))
  have K9 := kk r hr l p e_ R s m args below meth c H1 ls locs (cells + 1) (slots + x.toNatClampNeg) Q C ⟨x1, x2, by omega, by omega, hP1, by omega, x7, x8, fun H' ls' locs' cells' slots' pc' y1 y2 y3 y4 y5 => x9 H' ls' locs' cells' slots' pc' y1 y2 y3 (by omega) (by omega)⟩
  rw [List.map_cons, fw_rf, e] at K9
  exact K9
def fw_sz (st : List fw_V) : Nat := (st.map fw_cat).sum
theorem fw_sz_tr (st : List fw_V) : ((st.map (fw_tr G)).map fun v => v.category).sum = fw_sz st := by
  unfold fw_sz
  rw [List.map_map]
  congr 1
  exact List.map_congr_left (fun v _ => fw_cat_tr G v)
theorem r_obji {x0 : Option Nat} {idx : Nat} (hx : x0.isSome = true) (hs : fw_sz st ≤ 8) (hdd : 1 ≤ d) (hw1 : Cond.methodLink M.1.cls idx Lib.objectInit ∈ fw_tb) (hw2 : Cond.instanceMethod Lib.objectInit ∈ fw_tb) (hw3 : Cond.code Lib.objectInit ⟨#[0xb1]⟩ 1 none ∈ fw_tb) (hd : M.2.2.2.2[i]? = some (pc, .invokespecial idx, q)) (hq : pc + 3 = q) (kk : fw_R G M E d k n q lv st h t) : fw_R G M E d k n pc lv (fw_r x0 :: st) h t := by
  subst hq
  intro r hr l p e R s m args below meth c H ls locs cells slots Q C X
  cases x0 with
  | none => cases hx
  | some a =>
    have x1 := X.1
    have x2 := X.2.1
    exact W.objInit C.1 C.2.1 C.2.2.2.2.2.1 (C.2.2.2.2.2.2.2.1 _ hw1) (C.2.2.2.2.2.2.2.1 _ hw2) (C.2.2.2.2.2.2.2.1 _ hw3) rfl (X.2.2.2.2.2.2.1.1.trans C.2.2.1.symm) (a := fw_ad G a) (rest := st.map (fw_tr G)) rfl (C.dec hd (by omega)) (by omega) (by rw [fw_sz_tr]; show 2 * 0 + _ + 12 ≤ _; omega) (kk r hr l p e R s m args below meth c H ls locs cells slots Q C X)
theorem r_gets {j idx : Nat} (hj : j < 6) (hw : Cond.fieldLink M.1.cls idx RX8 (fw_stn j) "[I" ∈ fw_tb) (hd : M.2.2.2.2[i]? = some (pc, .getstatic idx, q)) (hq : pc + 3 = q) (kk : fw_R G M E d k n q lv (fw_r (some (j + 1)) :: st) h t) : fw_R G M E d k n pc lv st h t := by
  subst hq
  intro r hr l p e R s m args below meth c H ls locs cells slots Q C X
  obtain ⟨cf, kf, fi, f, a, cell, h1, h2, h3, h4, h5, h6, h7, h8⟩ := C.2.2.2.2.2.2.2.2.1.2.2.1 j hj
  have K9 := kk r hr l p e R s m args below meth c H ls locs cells slots Q C X
  rw [List.map_cons, fw_rf, fw_ad_ext (by omega)] at K9
  exact W.gets C.1 C.2.1 C.2.2.2.2.2.1 (C.2.2.2.2.2.2.2.1 _ hw) h1 h2 h3 h4 (by rw [X.2.2.2.2.1.2.2.1 a (Array.getElem?_eq_some_iff.mp h5).1]; exact h5) (fun e => by rw [e] at h6; cases h6) h7 rfl (C.dec hd (by omega)) K9
theorem r_ldcS {j : Nat} (hj : j < 4) (hown : M.1.cls = fw_own j) (hd : M.2.2.2.2[i]? = some (pc, .ldc (fw_idx j), q)) (hq : pc + 2 = q) (kk : fw_R G M E d k n q lv (fw_r (some (j + 7)) :: st) h t) : fw_R G M E d k n pc lv st h t := by
  subst hq
  intro r hr l p e R s m args below meth c H ls locs cells slots Q C X
  have hR := C.2.2.2.2.2.2.2.2.1.2.2.2.2.2.1 j hj
  have K9 := kk r hr l p e R s m args below meth c H ls locs cells slots Q C X
  rw [List.map_cons, fw_rf, fw_ad_ext (by omega)] at K9
  exact va_ldcS C.1 C.2.1 (by rw [← hown]; exact C.2.2.2.2.2.1) hR (C.dec hd (by omega)) K9
end HE
