-- THE WORLD AT THE START (1): each object built
def k_bTape (n : Nat) : List fw_E := [fw_O 6 [fw_r (some (n + 1)), fw_i 0, fw_i 0, fw_i (-1)],
  fw_I 240 (fun _ => 0)]
def k_bVText (n t : Nat) : List fw_E := [fw_O 8 [fw_r (some t), fw_r (some (n + 1)), fw_r (some (n + 6)), fw_i 0],
  fw_O 7 [fw_i 0, fw_i 0, fw_r (some (n + 2)), fw_r (some (n + 3)), fw_r (some (n + 4)), fw_i 0, fw_i 0, fw_i 0, fw_i 0, fw_i 0, fw_i (-1), fw_i (-1), fw_i 0, fw_r (some (n + 5)), fw_i 0],
  fw_I 60 (fun _ => 0),
  fw_I 12 (fun _ => 0),
  fw_I 32 (fun _ => 0),
  fw_I 100 (fun _ => 0),
  fw_I 6 (fun _ => 0)]
def k_bLText (n t : Nat) : List fw_E := [fw_O 2 [fw_r (some t), fw_r (some (n + 1))],
  fw_O 1 [fw_r (some (n + 2)), fw_r (some (n + 3)), fw_i 0, fw_i (-1), fw_i 0],
  fw_I 240 (fun _ => 0),
  fw_I 40 (fun _ => 0)]
def k_bVil (n : Nat) : List fw_E := [fw_O 7 [fw_i 0, fw_i 0, fw_r (some (n + 1)), fw_r (some (n + 2)), fw_r (some (n + 3)), fw_i 0, fw_i 0, fw_i 0, fw_i 0, fw_i 0, fw_i (-1), fw_i (-1), fw_i 0, fw_r (some (n + 4)), fw_i 0],
  fw_I 60 (fun _ => 0),
  fw_I 12 (fun _ => 0),
  fw_I 32 (fun _ => 0),
  fw_I 100 (fun _ => 0)]
def k_bLaw (n : Nat) : List fw_E := [fw_O 1 [fw_r (some (n + 1)), fw_r (some (n + 2)), fw_i 0, fw_i (-1), fw_i 0],
  fw_I 240 (fun _ => 0),
  fw_I 40 (fun _ => 0)]
def k_bActs (n : Nat) : List fw_E := [fw_O 0 [fw_r (some (n + 1)), fw_r (some (n + 2)), fw_r (some (n + 3)), fw_r (some (n + 4)), fw_i 0, fw_i 0],
  fw_I 40 (fun _ => 0),
  fw_I 40 (fun _ => 0),
  fw_I 40 (fun _ => 0),
  fw_I 40 (fun _ => 0)]
def k_bWalk (n : Nat) : List fw_E := [fw_O 9 [fw_r (some (n + 1)), fw_r none, fw_i 0, fw_i 0, fw_i 0, fw_i 0, fw_i 0, fw_r (some (n + 6)), fw_r (some (n + 7)), fw_r (some (n + 8)), fw_r (some (n + 9)), fw_r (some (n + 10)), fw_i 1, fw_i 0, fw_i 0, fw_i 0],
  fw_O 7 [fw_i 0, fw_i 0, fw_r (some (n + 2)), fw_r (some (n + 3)), fw_r (some (n + 4)), fw_i 0, fw_i 0, fw_i 0, fw_i 0, fw_i 0, fw_i (-1), fw_i (-1), fw_i 0, fw_r (some (n + 5)), fw_i 0],
  fw_I 60 (fun _ => 0),
  fw_I 12 (fun _ => 0),
  fw_I 32 (fun _ => 0),
  fw_I 100 (fun _ => 0),
  fw_I 144 (fun _ => 0),
  fw_I 12 (fun _ => 0),
  fw_I 576 (fun _ => 0),
  fw_I 8 (fun _ => 0),
  fw_I 3744 (fun _ => 0)]
def k_bWays (n t : Nat) : List fw_E := [fw_O 10 [fw_r (some t), fw_i 0, fw_i 0, fw_i 0, fw_r (some (n + 1))],
  fw_I 4 (fun _ => 0)]
def k_bSpread (n t : Nat) : List fw_E := [fw_O 5 [fw_r (some t), fw_r (some (n + 1)), fw_r (some (n + 2))],
  fw_J 156 (fun _ => 0),
  fw_J 156 (fun _ => 0)]
def k_bSeen (n t : Nat) : List fw_E := [fw_O 4 [fw_r (some t), fw_r (some (n + 1)), fw_r (some (n + 2)), fw_i 0, fw_r (some (n + 3)), fw_i 0, fw_i 0, fw_i 0, fw_i 0],
  fw_I 12 (fun _ => 0),
  fw_I 12 (fun _ => 0),
  fw_I 21 (fun _ => 0)]
def k_bMod (n : Nat) : List fw_E := [fw_O 12 [fw_i 0, fw_r (some (n + 1)), fw_i 0, fw_i 0, fw_i 0, fw_i 0, fw_r (some (n + 2)), fw_r (some (n + 3)), fw_r (some (n + 4)), fw_r (some (n + 5)), fw_r (some (n + 6)), fw_r (some (n + 7)), fw_r (some (n + 8)), fw_i 0, fw_i 0, fw_r (some (n + 9)), fw_r (some (n + 10)), fw_r (some (n + 11)), fw_r (some (n + 12)), fw_r (some (n + 13)), fw_i 0, fw_i 0, fw_r (some (n + 14)), fw_r (some (n + 15)), fw_i 0, fw_i 0, fw_r (some (n + 16)), fw_r (some (n + 17)), fw_i (-1), fw_i 0, fw_r (some (n + 18)), fw_i 0, fw_i 0, fw_i 0, fw_i 0, fw_r (some (n + 19)), fw_i 0, fw_i 0, fw_i 0, fw_i 0, fw_r (some (n + 20)), fw_r (some (n + 21)), fw_r (some (n + 22)), fw_r (some (n + 23)), fw_r (some (n + 24)), fw_r (some (n + 25)), fw_r (some (n + 26)), fw_i 0, fw_r (some (n + 27)), fw_i 0],
  fw_I 240 (fun _ => 0),
  fw_I 2600 (fun _ => 0),
  fw_I 2600 (fun _ => 0),
  fw_I 5 (fun _ => 0),
  fw_I 5 (fun _ => 0),
  fw_I 700 (fun _ => 0),
  fw_I 700 (fun _ => 0),
  fw_I 700 (fun _ => 0),
  fw_I 8 (fun _ => 0),
  fw_I 80 (fun _ => 0),
  fw_I 3 (fun _ => 0),
  fw_I 72 (fun _ => 0),
  fw_I 48 (fun _ => 0),
  fw_I 72 (fun _ => 0),
  fw_I 48 (fun _ => 0),
  fw_I 118 (fun _ => 0),
  fw_I 12 (fun _ => 0),
  fw_I 4720 (fun _ => 0),
  fw_I 3744 (fun _ => 0),
  fw_I 118 (fun _ => 0),
  fw_I 156 (fun _ => 0),
  fw_I 156 (fun _ => 0),
  fw_J 156 (fun _ => 0),
  fw_J 156 (fun _ => 0),
  fw_I 12 (fun _ => 0),
  fw_I 12 (fun _ => 0),
  fw_I 118 (fun _ => 0)]
section WS
variable {h b : fw_H} {t c k j : Nat} {fs : List fw_V} {rest : List fw_E} {o e : fw_E}
theorem k_ln : (h ++ o :: rest).length = h.length + 1 + rest.length := by
  rw [List.length_append, List.length_cons]
  omega
theorem k_stepA {α : Type} {K : fw_H → Option α} : (fw_new (h ++ fw_O c fs :: rest) e fun q h8 => (f_pR h8 (some h.length) c k q).bind K) = K (h ++ fw_O c (fs.set k (fw_r (some (h.length + 1 + rest.length)))) :: (rest ++ [e])) := by
  unfold fw_new
  show (f_pR ((h ++ fw_O c fs :: rest) ++ [e]) (some h.length) c k (some (h ++ fw_O c fs :: rest).length)).bind K = _
  rw [k_ln, List.append_assoc, List.cons_append, k_pRn, Option.bind_some]
theorem k_stepO {α : Type} {K : fw_H → Option α} {init : fw_H → Option Nat → Option fw_H} {blk : Nat → List fw_E} (hI : ∀ h : fw_H, init (h ++ [o]) (some h.length) = some (h ++ blk h.length)) : (fw_new (h ++ fw_O c fs :: rest) o fun q h5 => (init h5 q).bind fun h9 => (f_pR h9 (some h.length) c k q).bind K) = K (h ++ fw_O c (fs.set k (fw_r (some (h.length + 1 + rest.length)))) :: (rest ++ blk (h.length + 1 + rest.length))) := by
  unfold fw_new
  show ((init ((h ++ fw_O c fs :: rest) ++ [o]) (some (h ++ fw_O c fs :: rest).length)).bind fun h9 => (f_pR h9 (some h.length) c k (some (h ++ fw_O c fs :: rest).length)).bind K) = _
  rw [hI, Option.bind_some, k_ln, List.append_assoc, List.cons_append, k_pRn, Option.bind_some]
theorem k_gRn (hj : fs[j]? = some (fw_r (some t))) : f_gR (h ++ fw_O c fs :: rest) (some h.length) c j = some (some t) := by
  unfold f_gR f_obj
  simp only [k_hat, if_true, Option.bind_some, hj]
  rfl
theorem k_stepG {α : Type} {K : fw_H → Option α} {init : fw_H → Option Nat → Option Nat → Option fw_H} {blk : Nat → Nat → List fw_E} (hI : ∀ (h : fw_H) (t : Nat), init (h ++ [o]) (some h.length) (some t) = some (h ++ blk h.length t)) (hj : fs[j]? = some (fw_r (some t))) : (fw_new (h ++ fw_O c fs :: rest) o fun q h5 => (f_gR h5 (some h.length) c j).bind fun x => (init h5 q x).bind fun h9 => (f_pR h9 (some h.length) c k q).bind K) = K (h ++ fw_O c (fs.set k (fw_r (some (h.length + 1 + rest.length)))) :: (rest ++ blk (h.length + 1 + rest.length) t)) := by
  unfold fw_new
  show ((f_gR ((h ++ fw_O c fs :: rest) ++ [o]) (some h.length) c j).bind fun x => (init ((h ++ fw_O c fs :: rest) ++ [o]) (some (h ++ fw_O c fs :: rest).length) x).bind fun h9 => (f_pR h9 (some h.length) c k (some (h ++ fw_O c fs :: rest).length)).bind K) = _
  have e : f_gR ((h ++ fw_O c fs :: rest) ++ [o]) (some h.length) c j = some (some t) := by
    rw [List.append_assoc, List.cons_append]
    exact k_gRn hj
  rw [e, Option.bind_some, hI, Option.bind_some, k_ln, List.append_assoc, List.cons_append, k_pRn, Option.bind_some]
theorem z_iTape : s_Tape_init (h ++ [fw_O 6 [fw_r none, fw_i 0, fw_i 0, fw_i 0]]) (some h.length) = some (h ++ k_bTape h.length) := by
  unfold s_Tape_init
  rw [k_stepA, k_pIn, Option.bind_some]
  rfl
theorem z_iVil : s_Vil_init (h ++ [fw_O 7 [fw_i 0, fw_i 0, fw_r none, fw_r none, fw_r none, fw_i 0, fw_i 0, fw_i 0, fw_i 0, fw_i 0, fw_i 0, fw_i 0, fw_i 0, fw_r none, fw_i 0]]) (some h.length) = some (h ++ k_bVil h.length) := by
  unfold s_Vil_init
  rw [k_stepA, k_stepA, k_stepA, k_pIn, Option.bind_some, k_pIn, Option.bind_some, k_stepA]
  rfl
theorem z_iLaw : s_Law_init (h ++ [fw_O 1 [fw_r none, fw_r none, fw_i 0, fw_i 0, fw_i 0]]) (some h.length) = some (h ++ k_bLaw h.length) := by
  unfold s_Law_init
  rw [k_stepA, k_stepA, k_pIn, Option.bind_some]
  rfl
theorem z_iVText : s_VText_init (h ++ [fw_O 8 [fw_r none, fw_r none, fw_r none, fw_i 0]]) (some h.length) (some t) = some (h ++ k_bVText h.length t) := by
  unfold s_VText_init
  rw [k_stepO (init := s_Vil_init) (blk := k_bVil) (fun _ => z_iVil), k_stepA, k_pRn, Option.bind_some]
  rfl
theorem z_iLText : s_LText_init (h ++ [fw_O 2 [fw_r none, fw_r none]]) (some h.length) (some t) = some (h ++ k_bLText h.length t) := by
  unfold s_LText_init
  rw [k_stepO (init := s_Law_init) (blk := k_bLaw) (fun _ => z_iLaw), k_pRn, Option.bind_some]
  rfl
theorem z_iActs : s_Acts_init (h ++ [fw_O 0 [fw_r none, fw_r none, fw_r none, fw_r none, fw_i 0, fw_i 0]]) (some h.length) = some (h ++ k_bActs h.length) := by
  unfold s_Acts_init
  rw [k_stepA, k_stepA, k_stepA, k_stepA]
  rfl
theorem z_iWalk : s_Walk_init (h ++ [fw_O 9 [fw_r none, fw_r none, fw_i 0, fw_i 0, fw_i 0, fw_i 0, fw_i 0, fw_r none, fw_r none, fw_r none, fw_r none, fw_r none, fw_i 0, fw_i 0, fw_i 0, fw_i 0]]) (some h.length) = some (h ++ k_bWalk h.length) := by
  unfold s_Walk_init
  rw [k_stepO (init := s_Vil_init) (blk := k_bVil) (fun _ => z_iVil), k_stepA, k_stepA, k_stepA, k_stepA, k_stepA, k_pIn, Option.bind_some]
  rfl
theorem z_iWays : s_Ways_init (h ++ [fw_O 10 [fw_r none, fw_i 0, fw_i 0, fw_i 0, fw_r none]]) (some h.length) (some t) = some (h ++ k_bWays h.length t) := by
  unfold s_Ways_init
  rw [k_stepA, k_pRn, Option.bind_some]
  rfl
theorem z_iSpread : s_Spread_init (h ++ [fw_O 5 [fw_r none, fw_r none, fw_r none]]) (some h.length) (some t) = some (h ++ k_bSpread h.length t) := by
  unfold s_Spread_init
  rw [k_stepA, k_stepA, k_pRn, Option.bind_some]
  rfl
theorem z_iSeen : s_Seen_init (h ++ [fw_O 4 [fw_r none, fw_r none, fw_r none, fw_i 0, fw_r none, fw_i 0, fw_i 0, fw_i 0, fw_i 0]]) (some h.length) (some t) = some (h ++ k_bSeen h.length t) := by
  unfold s_Seen_init
  rw [k_stepA, k_stepA, k_stepA, k_pRn, Option.bind_some]
  rfl
theorem z_iMod : s_Mod_init (h ++ [fw_O 12 [fw_i 0, fw_r none, fw_i 0, fw_i 0, fw_i 0, fw_i 0, fw_r none, fw_r none, fw_r none, fw_r none, fw_r none, fw_r none, fw_r none, fw_i 0, fw_i 0, fw_r none, fw_r none, fw_r none, fw_r none, fw_r none, fw_i 0, fw_i 0, fw_r none, fw_r none, fw_i 0, fw_i 0, fw_r none, fw_r none, fw_i 0, fw_i 0, fw_r none, fw_i 0, fw_i 0, fw_i 0, fw_i 0, fw_r none, fw_i 0, fw_i 0, fw_i 0, fw_i 0, fw_r none, fw_r none, fw_r none, fw_r none, fw_r none, fw_r none, fw_r none, fw_i 0, fw_r none, fw_i 0]]) (some h.length) = some (h ++ k_bMod h.length) := by
  unfold s_Mod_init
  rw [k_stepA, k_stepA, k_stepA, k_stepA]
  simp only [List.set_cons_zero, List.set_cons_succ, List.nil_append, List.cons_append, List.length_cons, List.length_nil]
  rw [k_stepA, k_stepA, k_stepA, k_stepA]
  simp only [List.set_cons_zero, List.set_cons_succ, List.nil_append, List.cons_append, List.length_cons, List.length_nil]
  rw [k_stepA, k_stepA, k_stepA, k_stepA]
  simp only [List.set_cons_zero, List.set_cons_succ, List.nil_append, List.cons_append, List.length_cons, List.length_nil]
  rw [k_stepA, k_stepA, k_stepA, k_stepA]
  simp only [List.set_cons_zero, List.set_cons_succ, List.nil_append, List.cons_append, List.length_cons, List.length_nil]
  rw [k_stepA, k_pIn, Option.bind_some, k_stepA]
  simp only [List.set_cons_zero, List.set_cons_succ, List.nil_append, List.cons_append, List.length_cons, List.length_nil]
  rw [k_stepA, k_stepA, k_stepA, k_stepA]
  simp only [List.set_cons_zero, List.set_cons_succ, List.nil_append, List.cons_append, List.length_cons, List.length_nil]
  rw [k_stepA, k_stepA, k_stepA, k_stepA]
  simp only [List.set_cons_zero, List.set_cons_succ, List.nil_append, List.cons_append, List.length_cons, List.length_nil]
  rw [k_stepA]
  simp only [List.set_cons_zero, List.set_cons_succ, List.nil_append, List.cons_append, List.length_cons, List.length_nil]
  rfl
end WS
