-- THE WORLD AT THE START (2)
def k_rf (v : Option fw_V) : Nat := match v with
  | some (.inr (.inr (some t))) => t
  | _ => 0
def k_w1 : List fw_E := fw_O 11 [fw_r (some 16), fw_r (some 18), fw_r (some 25), fw_r (some 29), fw_r (some 34), fw_i 0, fw_r (some 39), fw_r (some 42), fw_i 0, fw_i (-1), fw_r (some 43), fw_i 0, fw_r (some 48), fw_r (some 59), fw_r (some 61), fw_r (some 64)] :: (k_bTape 16 ++ k_bVText 18 16 ++ k_bLText 25 16 ++ k_bVil 29 ++ k_bVil 34 ++ k_bLaw 39 ++ [fw_Q 4 (fun _ => none)] ++ k_bActs 43 ++ k_bWalk 48 ++ k_bWays 59 48 ++ k_bSpread 61 48 ++ k_bSeen 64 48)
def k_w : List fw_E := k_w1 ++ k_bMod 68 ++ [fw_J 1 (fun _ => 0)]
section WT
variable {h b : fw_H} {t c k j : Nat} {fs : List fw_V} {rest : List fw_E} {o e : fw_E}
theorem k_rf_s : k_rf (some (fw_r (some t))) = t := rfl
theorem k_stepG' {α : Type} {K : fw_H → Option α} {init : fw_H → Option Nat → Option Nat → Option fw_H} {blk : Nat → Nat → List fw_E} (hI : ∀ (h : fw_H) (t : Nat), init (h ++ [o]) (some h.length) (some t) = some (h ++ blk h.length t)) (hj : fs[j]? = some (fw_r (some (k_rf fs[j]?)))) : (fw_new (h ++ fw_O c fs :: rest) o fun q h5 => (f_gR h5 (some h.length) c j).bind fun x => (init h5 q x).bind fun h9 => (f_pR h9 (some h.length) c k q).bind K) = K (h ++ fw_O c (fs.set k (fw_r (some (h.length + 1 + rest.length)))) :: (rest ++ blk (h.length + 1 + rest.length) (k_rf fs[j]?))) := k_stepG hI hj
theorem k_lens (n t : Nat) : (k_bTape n).length = 2 ∧ (k_bVText n t).length = 7 ∧ (k_bLText n t).length = 4 ∧ (k_bVil n).length = 5 ∧ (k_bLaw n).length = 3 ∧ (k_bActs n).length = 5 ∧ (k_bWalk n).length = 11 ∧ (k_bWays n t).length = 2 ∧ (k_bSpread n t).length = 3 ∧ (k_bSeen n t).length = 4 ∧ (k_bMod n).length = 28 := ⟨rfl, rfl, rfl, rfl, rfl, rfl, rfl, rfl, rfl, rfl, rfl⟩
theorem z_iJoy (hb : b.length = 15) : s_Joy_init (b ++ [fw_O 11 [fw_r none, fw_r none, fw_r none, fw_r none, fw_r none, fw_i 0, fw_r none, fw_r none, fw_i 0, fw_i 0, fw_r none, fw_i 0, fw_r none, fw_r none, fw_r none, fw_r none]]) (some b.length) = some (b ++ k_w1) := by
  unfold s_Joy_init
  rw [k_stepO (init := s_Tape_init) (blk := k_bTape) (fun _ => z_iTape)]
  simp only [List.set_cons_zero, List.set_cons_succ, List.nil_append, List.getElem?_cons_zero, List.getElem?_cons_succ, k_rf_s]
  rw [k_stepG' (j := 0) (init := s_VText_init) (blk := k_bVText) (fun _ _ => z_iVText) rfl]
  simp only [List.set_cons_zero, List.set_cons_succ, List.nil_append, List.getElem?_cons_zero, List.getElem?_cons_succ, k_rf_s]
  rw [k_stepG' (j := 0) (init := s_LText_init) (blk := k_bLText) (fun _ _ => z_iLText) rfl]
  simp only [List.set_cons_zero, List.set_cons_succ, List.nil_append, List.getElem?_cons_zero, List.getElem?_cons_succ, k_rf_s]
  rw [k_stepO (init := s_Vil_init) (blk := k_bVil) (fun _ => z_iVil)]
  simp only [List.set_cons_zero, List.set_cons_succ, List.nil_append, List.getElem?_cons_zero, List.getElem?_cons_succ, k_rf_s]
  rw [k_stepO (init := s_Vil_init) (blk := k_bVil) (fun _ => z_iVil)]
  simp only [List.set_cons_zero, List.set_cons_succ, List.nil_append, List.getElem?_cons_zero, List.getElem?_cons_succ, k_rf_s]
  rw [k_stepO (init := s_Law_init) (blk := k_bLaw) (fun _ => z_iLaw)]
  simp only [List.set_cons_zero, List.set_cons_succ, List.nil_append, List.getElem?_cons_zero, List.getElem?_cons_succ, k_rf_s]
  rw [k_stepA]
  simp only [List.set_cons_zero, List.set_cons_succ, List.nil_append, List.getElem?_cons_zero, List.getElem?_cons_succ, k_rf_s]
  rw [k_pIn, Option.bind_some]
  simp only [List.set_cons_zero, List.set_cons_succ, List.nil_append, List.getElem?_cons_zero, List.getElem?_cons_succ, k_rf_s]
  rw [k_stepO (init := s_Acts_init) (blk := k_bActs) (fun _ => z_iActs)]
  simp only [List.set_cons_zero, List.set_cons_succ, List.nil_append, List.getElem?_cons_zero, List.getElem?_cons_succ, k_rf_s]
  rw [k_stepO (init := s_Walk_init) (blk := k_bWalk) (fun _ => z_iWalk)]
  simp only [List.set_cons_zero, List.set_cons_succ, List.nil_append, List.getElem?_cons_zero, List.getElem?_cons_succ, k_rf_s]
  rw [k_stepG' (j := 12) (init := s_Ways_init) (blk := k_bWays) (fun _ _ => z_iWays) rfl]
  simp only [List.set_cons_zero, List.set_cons_succ, List.nil_append, List.getElem?_cons_zero, List.getElem?_cons_succ, k_rf_s]
  rw [k_stepG' (j := 12) (init := s_Spread_init) (blk := k_bSpread) (fun _ _ => z_iSpread) rfl]
  simp only [List.set_cons_zero, List.set_cons_succ, List.nil_append, List.getElem?_cons_zero, List.getElem?_cons_succ, k_rf_s]
  rw [k_stepG' (j := 12) (init := s_Seen_init) (blk := k_bSeen) (fun _ _ => z_iSeen) rfl]
  simp only [List.set_cons_zero, List.set_cons_succ, List.nil_append, List.getElem?_cons_zero, List.getElem?_cons_succ, k_rf_s]
  simp only [List.length_append, List.length_cons, List.length_nil, (k_lens _ _).1, (k_lens _ 0).1, (k_lens _ _).2.1, (k_lens _ _).2.2.1, (k_lens _ 0).2.2.2.1, (k_lens _ 0).2.2.2.2.1, (k_lens _ 0).2.2.2.2.2.1, (k_lens _ 0).2.2.2.2.2.2.1, (k_lens _ _).2.2.2.2.2.2.2.1, (k_lens _ _).2.2.2.2.2.2.2.2.1, (k_lens _ _).2.2.2.2.2.2.2.2.2.1, hb]
  rfl
end WT
