-- A LAW'S TEXT (5): a clause
def k_c80 (F : Nat) (t : Int32) (h : fw_H) : Option fw_H := if t = (0 : Int32) then (k_J100 F t h) else (s_LText_comparison F h (some 25) (0 : Int32)).bind fun h87 => (s_LText_moreUnits F h87 (some 25) (0 : Int32)).bind fun h92 => (s_LText_moreTruths F h92 (some 25) (0 : Int32)).bind fun h97 => k_J100 F t h97
def k_c43 (F : Nat) (t : Int32) (h : fw_H) : Option fw_H := if t = (0 : Int32) then ((s_LText_sum F h (some 25) (0 : Int32)).bind fun h58 => (f_gR h58 (some 25) 2 0).bind fun x62 => (s_Tape_peek F h58 x62).bind fun x65 => (s_LText_comparing x65.1).bind fun x68 => if x68 = (-1 : Int32) then (k_c80 F 0 x65.2) else k_c80 F 1 x65.2) else (s_LText_condition F h (some 25) (0 : Int32)).bind fun h50 => k_J100 F t h50
def k_tail (F : Nat) (h : fw_H) : Option fw_H := (f_gR h (some 25) 2 0).bind fun x19 => (s_Tape_peek F h x19).bind fun x22 => if x22.1 = (33 : Int32) then (k_c43 F 1 x22.2) else if ¬ x22.1 = (40 : Int32) then (k_c43 F 0 x22.2) else k_c43 F 1 x22.2
def k_mB (F : Nat) (x4 x16 j : Int32) (h : fw_H) : Option fw_H := if j = (0 : Int32) then (k_J184 F x4 x16 j h) else (s_Mod_compare F h (some 68)).bind fun h173 => (s_Mod_goOnAnd F h173 (some 68)).bind fun h177 => (s_Mod_goOnOr F h177 (some 68)).bind fun h181 => k_J184 F x4 x16 j h181
def k_m128 (F : Nat) (x4 x16 t : Int32) (h : fw_H) : Option fw_H := if t = (0 : Int32) then ((s_Mod_sum F h (some 68)).bind fun h141 => (f_gI h141 (some 68) 12 4).bind fun x145 => if ¬ x145 = (-1 : Int32) then (k_mB F x4 x16 0 h141) else (s_Mod_look F h141 (some 68)).bind fun x153 => (s_Mod_isSign x153.1).bind fun x156 => if x156 = true then (k_mB F x4 x16 1 x153.2) else k_mB F x4 x16 0 x153.2) else (s_Mod_condition F h (some 68)).bind fun h134 => k_J184 F x4 x16 t h134
def k_mtail (F : Nat) (x4 x16 : Int32) (h78 : fw_H) : Option fw_H := (f_gR h78 (some 68) 12 10).bind fun x91 => (f_gR h78 (some 68) 12 8).bind fun x96 => (f_gI h78 (some 68) 12 14).bind fun x100 => (f_aI h78 x96 x100).bind fun x103 => (f_sI h78 x91 (((140 : Int32) * x4) + x16) x103).bind fun h104 => (s_Mod_look F h104 (some 68)).bind fun x106 => if x106.1 = (33 : Int32) then (k_m128 F x4 x16 1 x106.2) else (s_Mod_look F x106.2 (some 68)).bind fun x115 => if ¬ x115.1 = (40 : Int32) then (k_m128 F x4 x16 0 x115.2) else k_m128 F x4 x16 1 x115.2
def k_m71 (F : Nat) (x4 x16 : Int32) (h : fw_H) : Option fw_H := (f_gI h (some 68) 12 3).bind fun x73 => (f_pI h (some 68) 12 3 (x73 + (1 : Int32))).bind fun h78 => (f_gI h78 (some 68) 12 4).bind fun x82 => if x82 = (-1 : Int32) then (k_mtail F x4 x16 h78) else some h78
def k_m40 (F : Nat) (x4 x16 : Int32) (h : fw_H) : Option fw_H := (f_gI h (some 68) 12 3).bind fun x42 => (f_pI h (some 68) 12 3 (x42 + (1 : Int32))).bind fun h47 => (f_gI h47 (some 68) 12 4).bind fun x51 => if ¬ x51 = (-1 : Int32) then (k_m71 F x4 x16 h47) else (s_Mod_look F h47 (some 68)).bind fun x59 => if x59.1 = (58 : Int32) then (k_m71 F x4 x16 x59.2) else (s_Mod_bad x59.2 (some 68)).bind fun h68 => k_m71 F x4 x16 h68
def k_R : List q_C → List q_O
  | [] => []
  | c :: r => (c.1 ++ c.2) ++ k_R r
def k_pos (m : fw_H) (n : Nat) : Nat → Nat → List q_C → Prop
  | _, _, [] => True
  | j, P, c :: r => z_A m 74 (140 * n + j) = nI P ∧ z_A m 75 (140 * n + j) = nI (P + c.1.length) ∧ z_A m 76 (140 * n + j) = nI (P + c.1.length + c.2.length) ∧ k_pos m n (j + 1) (P + c.1.length + c.2.length) r
/-- the law so far, both sides -/
def k_LD (g m : fw_H) (k : Nat) (cls : List q_C) : Prop := k_cE g (q_enc 0 cls) ∧ z_I g 26 3 = -1 ∧ k_mE m k (k_R cls) ∧ k_pos m k 0 0 cls ∧ z_A m 73 k = nI cls.length ∧ q_wf cls
section LC
variable {g g' g'' h m m' m'' : fw_H} {B : Nat → Nat} {l p p' q d D v mo i j k nn F c C n f r s P : Nat} {x y x4 x16 : Int32} {As : List Nat} {L R N E0 R0 c1 c2 : List q_O} {o : q_O} {b : Bool} {cls : List q_C} {u : q_C}
theorem k_clause_eq : s_LText_clause F h (some 25) = (f_ck h (some 25) 2).bind fun _ => (f_gR h (some 25) 2 0).bind fun x1 => (s_Tape_expect F h x1 (121 : Int32)).bind fun h6 => (f_gR h6 (some 25) 2 0).bind fun x10 => (s_Tape_expect F h6 x10 (58 : Int32)).bind fun h15 => k_tail F h15 := rfl
theorem k_mclause_eq : s_Mod_clause F h (some 68) = (f_ck h (some 68) 12).bind fun _ => (f_gI h (some 68) 12 14).bind fun x4 => (f_gR h (some 68) 12 9).bind fun x9 => (f_gI h (some 68) 12 14).bind fun x13 => (f_aI h x9 x13).bind fun x16 => (f_gI h (some 68) 12 4).bind fun x20 => if ¬ x20 = (-1 : Int32) then (k_m40 F x4 x16 h) else (s_Mod_look F h (some 68)).bind fun x28 => if x28.1 = (121 : Int32) then (k_m40 F x4 x16 x28.2) else (s_Mod_bad x28.2 (some 68)).bind fun h37 => k_m40 F x4 x16 h37 := rfl
-- lists
theorem k_R_app : ∀ {cls : List q_C}, k_R (cls ++ [u]) = k_R cls ++ (u.1 ++ u.2)
  | [] => by show (u.1 ++ u.2) ++ [] = [] ++ (u.1 ++ u.2); simp
  | c :: r => by
    show (c.1 ++ c.2) ++ k_R (r ++ [u]) = ((c.1 ++ c.2) ++ k_R r) ++ (u.1 ++ u.2)
    rw [k_R_app]
    simp
theorem k_enc1 (s : Nat) : q_enc s [u] = if u.1 = [] then u.2 ++ [(13, 0)] else u.1 ++ ((12, s + q_len u) :: (u.2 ++ [(13, 0)])) := by
  show (if u.1 = [] then u.2 ++ [(13, 0)] else u.1 ++ ((12, s + q_len u) :: (u.2 ++ [(13, 0)]))) ++ [] = _
  rw [List.append_nil]
theorem k_encl (s : Nat) : (if u.1 = [] then u.2 ++ [((13 : Nat), (0 : Nat))] else u.1 ++ ((12, s) :: (u.2 ++ [(13, 0)]))).length = q_len u := by
  unfold q_len
  by_cases e : u.1 = []
  · rw [if_pos e, if_pos e, List.length_append]; rfl
  · rw [if_neg e, if_neg e, List.length_append, List.length_cons, List.length_append]
    show u.1.length + (u.2.length + 1 + 1) = _
    omega
theorem k_enc_app : ∀ {cls : List q_C} (s : Nat), q_enc s (cls ++ [u]) = q_enc s cls ++ q_enc (s + (q_enc s cls).length) [u]
  | [], s => by show q_enc s [u] = [] ++ q_enc (s + 0) [u]; rfl
  | c :: r, s => by
    show (if c.1 = [] then c.2 ++ [(13, 0)] else c.1 ++ ((12, s + q_len c) :: (c.2 ++ [(13, 0)]))) ++ q_enc (s + q_len c) (r ++ [u]) = ((if c.1 = [] then c.2 ++ [(13, 0)] else c.1 ++ ((12, s + q_len c) :: (c.2 ++ [(13, 0)]))) ++ q_enc (s + q_len c) r) ++ q_enc (s + ((if c.1 = [] then c.2 ++ [(13, 0)] else c.1 ++ ((12, s + q_len c) :: (c.2 ++ [(13, 0)]))) ++ q_enc (s + q_len c) r).length) [u]
    rw [k_enc_app, List.length_append, k_encl, List.append_assoc, Nat.add_assoc]
theorem k_pos_app : ∀ {cls : List q_C} {j P : Nat}, k_pos m n j P cls → z_A m 74 (140 * n + (j + cls.length)) = nI (P + (k_R cls).length) → z_A m 75 (140 * n + (j + cls.length)) = nI (P + (k_R cls).length + u.1.length) → z_A m 76 (140 * n + (j + cls.length)) = nI (P + (k_R cls).length + u.1.length + u.2.length) → k_pos m n j P (cls ++ [u])
  | [], j, P, _, h1, h2, h3 => ⟨h1, h2, h3, trivial⟩
  | c :: r, j, P, h, h1, h2, h3 => by
    have el : (k_R (c :: r)).length = c.1.length + c.2.length + (k_R r).length := by
      show ((c.1 ++ c.2) ++ k_R r).length = _
      rw [List.length_append, List.length_append]
    have ej : j + (c :: r).length = j + 1 + r.length := by rw [List.length_cons]; omega
    rw [el, ej, show P + (c.1.length + c.2.length + (k_R r).length) = P + c.1.length + c.2.length + (k_R r).length by omega] at h1 h2 h3
    exact ⟨h.1, h.2.1, h.2.2.1, k_pos_app h.2.2.2 h1 h2 h3⟩
theorem k_pos.of : ∀ {cls : List q_C} {j P : Nat}, (∀ x, x < j + cls.length → z_A m' 74 (140 * n + x) = z_A m 74 (140 * n + x) ∧ z_A m' 75 (140 * n + x) = z_A m 75 (140 * n + x) ∧ z_A m' 76 (140 * n + x) = z_A m 76 (140 * n + x)) → k_pos m n j P cls → k_pos m' n j P cls
  | [], _, _, _, _ => trivial
  | c :: r, j, P, hx, h => by
    have h0 := hx j (by rw [List.length_cons]; omega)
    exact ⟨h0.1.trans h.1, h0.2.1.trans h.2.1, h0.2.2.trans h.2.2.1, k_pos.of (fun x hx' => hx x (by rw [List.length_cons]; omega)) h.2.2.2⟩
/-- comparison and what follows -/
theorem z_cmpAll (hF : 70000 ≤ F) (hk5 : k < 5) (hk : k_ok g B l p) (hm : k_mo m B l p) (h5 : z_I m 68 5 = nI 0) (h14 : z_I m 68 14 = nI k) (hL : k_cE g L) (hR : k_mE m k R) (hLl : L.length ≤ p) (hRl : R.length ≤ p) :
    ∃ g' m', (∀ K : fw_H → Option fw_H, ((s_LText_comparison F g (some 25) (0 : Int32)).bind fun h87 => (s_LText_moreUnits F h87 (some 25) (0 : Int32)).bind fun h92 => (s_LText_moreTruths F h92 (some 25) (0 : Int32)).bind K) = K g') ∧ (∀ K : fw_H → Option fw_H, ((s_Mod_compare F m (some 68)).bind fun h173 => (s_Mod_goOnAnd F h173 (some 68)).bind fun h177 => (s_Mod_goOnOr F h177 (some 68)).bind K) = K m') ∧ (k_lc g g' ∧ k_pf k m m' ∧ k_O g' m' B l k 0 5 1 p L R [false] true) := by
  obtain ⟨g1, m1, a1, a2, a3, a4, a5⟩ := k_cmp (d := 0) hF hk5 (by omega) hk hm h5 h14 hL hR hLl hRl
  have a1' : s_LText_comparison F g (some 25) (0 : Int32) = some g1 := a1
  rcases a5 with ⟨p', N, y1, y2, y3, y4, y5, y6, y7, y8⟩ | ⟨q, R', y1, y2, y3, y4⟩
  · obtain ⟨g2, m2, b1, b2, b3, b4, b5⟩ := (k_moreS (l := l) (B := B) hF hk5).1 g1 m1 p' (L ++ N) (R ++ N) y3 y4 y5 ((a4.2.1 14 (by decide) (by decide) (by decide)).trans h14) y6 y7 (by rw [List.length_append]; omega) (by rw [List.length_append]; omega)
    have b1' : s_LText_moreUnits F g1 (some 25) (0 : Int32) = some g2 := b1
    have b2' : s_Mod_goOnAnd F m1 (some 68) = some m2 := b2
    rcases b5 with ⟨p2, N2, z1, z2, z3, z4, z5, z6, z7, z8⟩ | ⟨q, R', z1, z2, z3, z4⟩
    · obtain ⟨g3, m3, c1, c2, c3, c4, c5⟩ := (k_moreS (l := l) (B := B) hF hk5).2 g2 m2 p2 (L ++ N ++ N2) (R ++ N ++ N2) z3 z4 z5 ((b4.2.1 14 (by decide) (by decide) (by decide)).trans ((a4.2.1 14 (by decide) (by decide) (by decide)).trans h14)) z6 z7 (by rw [List.length_append, List.length_append]; omega) (by rw [List.length_append, List.length_append]; omega)
      have c1' : s_LText_moreTruths F g2 (some 25) (0 : Int32) = some g3 := c1
      have c2' : s_Mod_goOnOr F m2 (some 68) = some m3 := c2
      refine ⟨g3, m3, fun K => by rw [a1', Option.bind_some, b1', Option.bind_some, c1', Option.bind_some], fun K => by rw [a2, Option.bind_some, b2', Option.bind_some, c2', Option.bind_some], (a3.trans b3).trans c3, (a4.trans b4).trans c4, ?_⟩
      rw [List.append_assoc L, List.append_assoc R] at c5
      refine c5.seq (N := N ++ N2) (I2 := [true]) (by rw [List.length_append]; omega) (by omega) (by omega) (fun τ hτ => ?_)
      rw [q_ty_app, show q_ty N ([false] ++ τ) = some (true :: τ) from y8 τ (by omega), Option.bind_some]
      exact z8 τ (by omega)
    · have c1' : s_LText_moreTruths F g2 (some 25) (0 : Int32) = some g2 := z_truthsN (D := 79) hF z1
      have c2' : s_Mod_goOnOr F m2 (some 68) = some m2 := z_goOrN (D := 79) hF z2
      exact ⟨g2, m2, fun K => by rw [a1', Option.bind_some, b1', Option.bind_some, c1', Option.bind_some], fun K => by rw [a2, Option.bind_some, b2', Option.bind_some, c2', Option.bind_some], a3.trans b3, a4.trans b4, .inr ⟨q, R', z1, z2, z3, by omega⟩⟩
  · have b1' : s_LText_moreUnits F g1 (some 25) (0 : Int32) = some g1 := z_unitsN (D := 79) hF y1
    have b2' : s_Mod_goOnAnd F m1 (some 68) = some m1 := z_goAndN (D := 79) hF y2
    have c1' : s_LText_moreTruths F g1 (some 25) (0 : Int32) = some g1 := z_truthsN (D := 79) hF y1
    have c2' : s_Mod_goOnOr F m1 (some 68) = some m1 := z_goOrN (D := 79) hF y2
    exact ⟨g1, m1, fun K => by rw [a1', Option.bind_some, b1', Option.bind_some, c1', Option.bind_some], fun K => by rw [a2, Option.bind_some, b2', Option.bind_some, c2', Option.bind_some], a3, a4, .inr ⟨q, R', y1, y2, y3, by omega⟩⟩
theorem k_tailN (hF : 70000 ≤ F) (hk : k_no g B l q) : ∃ g', k_tail F g = some g' ∧ (z_fr [16, 26, 27] g g' ∧ k_no g' B l q) := by
  have n33 : ¬ (-1 : Int32) = (33 : Int32) := by decide
  have n40 : ¬ (-1 : Int32) = (40 : Int32) := by decide
  obtain ⟨g1, a1, a2, -, a3⟩ := z_sumSN (F := F) (x := (0 : Int32)) hF hk
  obtain ⟨g2, b1, b2, b3⟩ := z_J100_N (F := F) (x := (0 : Int32)) hF a3
  refine ⟨g2, ?_, (a2.mono (by simp)).trans b2, b3⟩
  unfold k_tail
  rw [z_r25_0 hk.1.1, Option.bind_some, z_peekN hk, Option.bind_some, if_neg n33, if_pos n40]
  unfold k_c43
  rw [if_pos rfl]
  show ((s_LText_sum F g (some 25) (0 : Int32)).bind fun h58 => _) = some g2
  rw [a1, Option.bind_some, z_r25_0 a3.1.1, Option.bind_some, z_peekN a3, Option.bind_some]
  show ((s_LText_comparing (-1)).bind fun x68 => _) = some g2
  rw [show s_LText_comparing (-1) = some (-1) from by decide, Option.bind_some, if_pos rfl]
  unfold k_c80
  rw [if_pos rfl]
  exact b1
/-- what a clause leaves -/
def k_CO (g m : fw_H) (B : Nat → Nat) (l k C p : Nat) (cls : List q_C) (m0 : fw_H) : Prop :=
  (∃ p' u, (q_enc 0 (cls ++ [u])).length ≤ p' ∧ (k_R (cls ++ [u])).length ≤ p' ∧ p + 1 ≤ p' ∧ k_ok g B l p' ∧ k_mo m B l p' ∧ z_I m 68 5 = nI 0 ∧ k_LD g m k (cls ++ [u])) ∨ ∃ q, k_no g B l q ∧ k_mn m B l q
theorem k_ne_ty {c1 : List q_O} (h : q_ty c1 [] = some [true]) : c1 ≠ [] := fun z => by rw [z] at h; cases h
theorem z_tail (hF : 70000 ≤ F) (hk5 : k < 5) (hC : cls.length < 140) (hk : k_ok g B l p) (hm : k_mo m B l p) (h5 : z_I m 68 5 = nI 0) (h14 : z_I m 68 14 = nI k) (hD : k_LD g m k cls) (hLl : (q_enc 0 cls).length + 2 ≤ p) (hRl : (k_R cls).length + 2 ≤ p) :
    ∃ g' m', k_tail F g = some g' ∧ k_mtail F (nI k) (nI cls.length) m = some m' ∧ (z_fr [16, 26, 27] g g' ∧ k_pg k cls.length m m' ∧ k_CO g' m' B l k cls.length p cls m) := by
  obtain ⟨dE, d3, dM, dP, d73, dW⟩ := hD
  have hS := hk.1.1
  have hSm := hm.1.1
  have hl := hk.1.2.1
  have hBB := hk.1.2.2.2.1
  obtain ⟨C, hCe⟩ : ∃ C, C = cls.length := ⟨_, rfl⟩
  rw [← hCe] at hC d73 ⊢
  -- the note where the clause begins
  have ck := z_ckT (a := 74) hSm rfl
  obtain ⟨m1, hm1⟩ : ∃ m1, m1 = z_sA m 74 (140 * k + C) (nI (k_R cls).length) := ⟨_, rfl⟩
  have f1 : z_fr [74] m m1 := by rw [hm1]; exact z_fr.refl.sA (by simp)
  have p1 : k_pg k C m m1 := k_pg.a74 (f1.mono (by simp)) (fun x hx => ⟨by rw [hm1, z_A_sA ck, if_neg hx], f1.A (by decide), f1.A (by decide)⟩)
  have k1 : k_mo m1 B l p := hm.pgf (f1.mono (by simp))
  have R1 : k_mE m1 k (k_R cls) := dM.pgf (f1.mono (by simp))
  have v74 : z_A m1 74 (140 * k + C) = nI (k_R cls).length := by rw [hm1, z_A_sA ck, if_pos rfl]
  obtain ⟨r, hr⟩ : ∃ r, r = k_n B l p := ⟨_, rfl⟩
  have hle := k_n_le (B := B) hk.2.1
  obtain ⟨g1, a1, a2, a3⟩ := z_peek hF hk
  obtain ⟨m2, b1, b2, b3⟩ := z_look hF k1
  obtain ⟨m3, c1, c2, c3⟩ := z_look hF b3
  have hrn : k_n B l r = r := by rw [hr]; exact k_n_id hk.2.1
  rw [← hr] at hle a1 a3 b1 b3 c1 c3
  rw [hrn] at c1 c3
  have E : ∀ c, 1 ≤ c → c < 256 → (k_g B l r = nI c ↔ k_b B l r = c) := fun c h1 h2 => k_g_b hBB h1 h2
  have dE1 : k_cE g1 (q_enc 0 cls) := dE.f16 a2
  have g3 : z_I g1 26 3 = -1 := (a2.I (by decide)).trans d3
  -- what the two do from any such place on
  have keep : ∀ (m' : fw_H), k_pg k C m m' → z_A m' 74 (140 * k + C) = nI (k_R cls).length → ∀ u : q_C, z_A m' 75 (140 * k + C) = nI ((k_R cls).length + u.1.length) → z_A m' 76 (140 * k + C) = nI ((k_R cls).length + u.1.length + u.2.length) → k_pos m' k 0 0 (cls ++ [u]) := by
    intro m' hp e4 u e5 e6
    refine k_pos_app (dP.of (fun x hx => ?_)) ?_ ?_ ?_
    · rw [Nat.zero_add, ← hCe] at hx
      exact hp.2.2.2.2 _ (by omega)
    · rw [Nat.zero_add, Nat.zero_add, ← hCe]; exact e4
    · rw [Nat.zero_add, Nat.zero_add, ← hCe]; exact e5
    · rw [Nat.zero_add, Nat.zero_add, ← hCe]; exact e6
  have fromJ1 : ∀ (gx mx : fw_H) (p' : Nat) (N : List q_O), p + N.length ≤ p' → p ≤ p' → k_ok gx B l p' → k_mo mx B l p' → z_I mx 68 5 = nI 0 → k_cE gx (q_enc 0 cls ++ N) → k_mE mx k (k_R cls ++ N) → q_ty N [] = some [true] → z_fr [16, 26, 27] g gx → k_pg k C m mx → z_A mx 73 k = nI C → z_A mx 74 (140 * k + C) = nI (k_R cls).length → z_I mx 68 14 = nI k →
      ∃ g' m', k_J100 F 1 gx = some g' ∧ k_J184 F (nI k) (nI C) 1 mx = some m' ∧ (z_fr [16, 26, 27] g g' ∧ k_pg k C m m' ∧ k_CO g' m' B l k C p cls m) := by
    intro gx mx p' N n1 n2 ko mo i5 cE mE ty F1 P1 i73 i74 i14
    obtain ⟨g', m', s1, s2, s3, s4, s5⟩ := z_J1 (L := q_enc 0 cls ++ N) (R := k_R cls ++ N) hF hk5 hC ko mo i5 i14 cE mE (by rw [List.length_append]; omega) (by rw [List.length_append]; omega) i73
    refine ⟨g', m', s1, s2, F1.trans s3, P1.trans s4, ?_⟩
    rcases s5 with ⟨p2, c2, y1, y2, y3, y4, y5, y6, y7, y8, y9, y10, y11, y12, y13⟩ | ⟨q, y1, y2⟩
    · have hne := k_ne_ty ty
      have eenc : q_enc 0 (cls ++ [(N, c2)]) = q_enc 0 cls ++ N ++ (12, (q_enc 0 cls ++ N).length + c2.length + 2) :: (c2 ++ [(13, 0)]) := by
        rw [k_enc_app, k_enc1, if_neg hne]
        unfold q_len
        rw [if_neg hne, List.length_append, Nat.zero_add, ← List.append_assoc]
        congr 3
        show (q_enc 0 cls).length + (N.length + 1 + c2.length + 1) = _
        omega
      have eR : k_R (cls ++ [(N, c2)]) = k_R cls ++ N ++ c2 := by rw [k_R_app, List.append_assoc]
      refine .inl ⟨p2, (N, c2), ?_, ?_, by omega, y3, y4, y5, ?_, y6, ?_, keep m' (P1.trans s4) (y10.trans i74) (N, c2) ?_ ?_, ?_, fun c hc => ?_⟩
      · rw [eenc, List.length_append, List.length_append, List.length_cons, List.length_append]
        show _ + _ + (c2.length + 1 + 1) ≤ p2
        omega
      · rw [eR, List.length_append, List.length_append]; omega
      · rw [eenc]; exact y7
      · rw [eR]; exact y8
      · rw [y11, List.length_append]
      · rw [y12, List.length_append, List.length_append]
      · rw [y9, List.length_append, hCe]; rfl
      · rcases List.mem_append.mp hc with z | z
        · exact dW c z
        · rw [List.mem_singleton.mp z]; exact ⟨.inr ty, y13⟩
    · exact .inr ⟨q, y1, y2⟩
  have fault : ∀ (gx mx : fw_H) (q : Nat) (t j : Int32), k_no gx B l q → k_mn mx B l q → z_fr [16, 26, 27] g gx → k_pg k C m mx → z_A mx 73 k = nI C → z_I mx 68 14 = nI k →
      ∃ g' m', k_J100 F t gx = some g' ∧ k_J184 F (nI k) (nI C) j mx = some m' ∧ (z_fr [16, 26, 27] g g' ∧ k_pg k C m m' ∧ k_CO g' m' B l k C p cls m) := by
    intro gx mx q t j ko mo F1 P1 i73 i14
    obtain ⟨g', s1, s2, s3⟩ := z_J100_N (x := t) hF ko
    obtain ⟨m', t1, t2, t3⟩ := z_J184_N (F := F) (x := j) mo hk5 i14 hC i73
    exact ⟨g', m', s1, t1, F1.trans s2, P1.trans t2, .inr ⟨q, s3, t3⟩⟩
  have n10 : ¬ (1 : Int32) = 0 := by decide
  -- a condition: two places, m2 and m3
  have cond : ∀ mx, k_mo mx B l r → k_bf m1 mx → ∃ g' m', k_c43 F 1 g1 = some g' ∧ k_m128 F (nI k) (nI C) 1 mx = some m' ∧ (z_fr [16, 26, 27] g g' ∧ k_pg k C m m' ∧ k_CO g' m' B l k C p cls m) := by
    intro mx km hb
    obtain ⟨g4, m4, s1, s2, s3, s4, s5⟩ := k_condS (l := l) (B := B) hF hk5 g1 mx r (q_enc 0 cls) (k_R cls) a3 km ((hb.2 5 (by decide) (by decide)).trans ((f1.I (by decide)).trans h5)) ((hb.2 14 (by decide) (by decide)).trans ((f1.I (by decide)).trans h14)) dE1 (R1.f68 hb.1) (by omega) (by omega)
    have s1' : s_LText_condition F g1 (some 25) (0 : Int32) = some g4 := s1
    have s2' : s_Mod_condition F mx (some 68) = some m4 := s2
    unfold k_c43 k_m128
    rw [if_neg n10, s1', Option.bind_some, if_neg n10, s2', Option.bind_some]
    have F4 : z_fr [16, 26, 27] g g4 := (a2.mono (by simp)).trans s3.1
    have P4 : k_pg k C m m4 := p1.trans ((hb.pf.trans s4).pg)
    have i73 : z_A m4 73 k = nI C := by rw [s4.1.A (by decide), hb.1.A (by decide), f1.A (by decide), d73]
    have i74 : z_A m4 74 (140 * k + C) = nI (k_R cls).length := by rw [s4.1.A (by decide), hb.1.A (by decide), v74]
    have i14 : z_I m4 68 14 = nI k := (P4.2.1 14 (by decide) (by decide) (by decide)).trans h14
    rcases s5 with ⟨p', N, y1, y2, y3, y4, y5, y6, y7, y8⟩ | ⟨q, R', y1, y2, y3, y4⟩
    · exact fromJ1 g4 m4 p' N (by omega) (by omega) y3 y4 y5 y6 y7 (y8 [] (by decide)) F4 P4 i73 i74 i14
    · exact fault g4 m4 q 1 1 y1 y2 F4 P4 i73 i14
  unfold k_tail k_mtail
  rw [z_r25_0 hS, Option.bind_some, a1, Option.bind_some, z_r68_10 hSm, Option.bind_some, z_r68_8 hSm, Option.bind_some, z_i68_14 hSm, Option.bind_some, h14, z_a72 hSm hk5, Option.bind_some, dM.1, k_140, z_s74 hSm (by omega), Option.bind_some, ← hm1, b1, Option.bind_some]
  dsimp only
  by_cases e33 : k_b B l r = 33
  · have g33 : k_g B l r = (33 : Int32) := (E 33 (by decide) (by decide)).mpr e33
    rw [if_pos g33, if_pos g33]
    exact cond m2 b3 b2.bf
  · have g33 : ¬ k_g B l r = (33 : Int32) := fun z => e33 ((E 33 (by decide) (by decide)).mp z)
    rw [if_neg g33, if_neg g33, c1, Option.bind_some]
    by_cases e40 : k_b B l r = 40
    · have g40 : ¬ ¬ k_g B l r = (40 : Int32) := fun z => z ((E 40 (by decide) (by decide)).mpr e40)
      rw [if_neg g40, if_neg g40]
      exact cond m3 c3 (b2.bf.trans c2.bf)
    · have g40 : ¬ k_g B l r = (40 : Int32) := fun z => e40 ((E 40 (by decide) (by decide)).mp z)
      rw [if_pos g40, if_pos g40]
      have hb : k_bf m1 m3 := b2.bf.trans c2.bf
      obtain ⟨g4, m4, s1, s2, s3, s4, s5⟩ := k_sumS (l := l) (B := B) (d := 0) hF hk5 (by omega) g1 m3 r (q_enc 0 cls) (k_R cls) a3 c3 ((hb.2 5 (by decide) (by decide)).trans ((f1.I (by decide)).trans h5)) ((hb.2 14 (by decide) (by decide)).trans ((f1.I (by decide)).trans h14)) dE1 (R1.f68 hb.1) (by omega) (by omega)
      have s1' : s_LText_sum F g1 (some 25) (0 : Int32) = some g4 := s1
      have s2' : s_Mod_sum F m3 (some 68) = some m4 := s2
      have F4 : z_fr [16, 26, 27] g g4 := (a2.mono (by simp)).trans s3.1
      have P4 : k_pg k C m m4 := p1.trans ((hb.pf.trans s4).pg)
      have i73 : z_A m4 73 k = nI C := by rw [s4.1.A (by decide), hb.1.A (by decide), f1.A (by decide), d73]
      have i74 : z_A m4 74 (140 * k + C) = nI (k_R cls).length := by rw [s4.1.A (by decide), hb.1.A (by decide), v74]
      have i14 : z_I m4 68 14 = nI k := (P4.2.1 14 (by decide) (by decide) (by decide)).trans h14
      unfold k_c43 k_m128
      rw [if_pos rfl, if_pos rfl, s1', Option.bind_some, s2', Option.bind_some]
      rcases s5 with ⟨p', N, y1, y2, y3, y4, y5, y6, y7, y8⟩ | ⟨q, R', y1, y2, y3, y4⟩
      · obtain ⟨g5, t1, t2, t3⟩ := z_peek hF y3
        obtain ⟨m5, u1, u2, u3⟩ := z_look hF y4
        obtain ⟨s, hs⟩ : ∃ s, s = k_n B l p' := ⟨_, rfl⟩
        have hle2 := k_n_le (B := B) y3.2.1
        rw [← hs] at t1 t3 u1 u3 hle2
        have nw : ¬ ¬ (-1 : Int32) = (-1 : Int32) := fun z => z rfl
        rw [z_r25_0 y3.1.1, Option.bind_some, t1, Option.bind_some, z_i68_4 y4.1.1, Option.bind_some, y4.2.2.2, if_neg nw, u1, Option.bind_some]
        dsimp only
        rw [(z_sgs hBB).1, Option.bind_some, (z_sgs hBB).2, Option.bind_some]
        have F5 : z_fr [16, 26, 27] g g5 := F4.trans (t2.mono (by simp))
        have P5 : k_pg k C m m5 := P4.trans u2.pf.pg
        have j73 : z_A m5 73 k = nI C := by rw [u2.1.A (by decide), i73]
        have j74 : z_A m5 74 (140 * k + C) = nI (k_R cls).length := by rw [u2.1.A (by decide), i74]
        have j14 : z_I m5 68 14 = nI k := (u2.2 14 (by decide)).trans i14
        have ty0 : q_ty N [] = some [false] := y8 [] (by decide)
        match e : k_sg (k_b B l s) with
        | none =>
          have e1 : g_on none (-1) = (-1 : Int32) := rfl
          have e2 : ¬ (none : Option Nat).isSome = true := by decide
          rw [if_pos e1, if_neg e2]
          unfold k_c80 k_mB
          rw [if_pos rfl, if_pos rfl, k_J184_0 u3.1.1 hk5 hC]
          obtain ⟨m6, hm6⟩ : ∃ m6, m6 = z_sA m5 75 (140 * k + C) (z_A m5 74 (140 * k + C)) := ⟨_, rfl⟩
          have ck5 := z_ckT (a := 75) u3.1.1 rfl
          have f6 : z_fr [75] m5 m6 := by rw [hm6]; exact z_fr.refl.sA (by simp)
          have p6 : k_pg k C m5 m6 := k_pg.a74 (f6.mono (by simp)) (fun x hx => ⟨f6.A (by decide), by rw [hm6, z_A_sA ck5, if_neg hx], f6.A (by decide)⟩)
          obtain ⟨m7, w1, w2, w3, w4, w5, w6⟩ := z_fin (u3.1.1.fr f6 (by decide)) hk5 ((f6.I (by decide)).trans j14) hC ((f6.A (by decide)).trans j73)
          rw [← hm6, w1]
          have j3 : z_I g5 26 3 = -1 := (t2.I (by decide)).trans (s3.2.trans g3)
          have hp'l := y3.2.1
          obtain ⟨g6, v1, v2, v3, v4⟩ := z_emit13 (L := q_enc 0 cls ++ N) t3.1.1 (y6.f16 t2) (by rw [List.length_append]; omega) (.inl j3)
          rw [if_pos j3] at v4
          have v4' : k_cE g6 (q_enc 0 cls ++ N ++ [(13, 0)]) := v4
          have eenc : q_enc 0 (cls ++ [(([] : List q_O), N)]) = q_enc 0 cls ++ N ++ [(13, 0)] := by
            rw [k_enc_app, k_enc1, if_pos rfl, ← List.append_assoc]
          have eR : k_R (cls ++ [(([] : List q_O), N)]) = k_R cls ++ N := by rw [k_R_app]; rfl
          have J0 : k_J100 F 0 g5 = some g6 := by
            unfold k_J100
            rw [if_pos rfl, z_r25_1 t3.1.1, Option.bind_some, v1, Option.bind_some]
          refine ⟨g6, m7, J0, rfl, F5.trans (v2.mono (by simp)), (P5.trans p6).trans w3, .inl ⟨s, ([], N), ?_, ?_, by omega, t3.ef v2, (u3.pgf (f6.mono (by simp))).pgf w2, ?_, ?_, v3, ?_, keep m7 ((P5.trans p6).trans w3) ?_ ([], N) ?_ ?_, ?_, fun c hc => ?_⟩⟩
          · rw [eenc, List.length_append, List.length_append]
            show _ + _ + 1 ≤ s
            omega
          · rw [eR, List.length_append]; omega
          · rw [w2.I (by decide), f6.I (by decide), u2.2 5 (by decide), y5]
          · rw [eenc]; exact v4'
          · rw [eR]; exact ((y7.f68 u2.1).pgf (f6.mono (by simp))).pgf w2
          · rw [(w5 _).1, f6.A (by decide), j74]
          · rw [(w5 _).2, hm6, z_A_sA ck5, if_pos rfl, j74]; rfl
          · rw [w6, f6.A (by decide), u2.1.A (by decide), y7.1, List.length_append]; rfl
          · rw [w4, List.length_append, hCe]; rfl
          · rcases List.mem_append.mp hc with z | z
            · exact dW c z
            · rw [List.mem_singleton.mp z]; exact ⟨.inl rfl, ty0⟩
        | some kd =>
          have e1 : ¬ g_on (some kd) (-1) = (-1 : Int32) := by
            have hkd : kd ≤ 8 := by
              unfold k_sg at e
              split at e
              · rw [← Option.some.inj e]; decide
              · split at e
                · rw [← Option.some.inj e]; decide
                · split at e
                  · rw [← Option.some.inj e]; decide
                  · cases e
            exact nI_ne_m1 (by omega)
          have e2 : (some kd : Option Nat).isSome = true := rfl
          rw [if_neg e1, if_pos e2]
          unfold k_c80 k_mB
          rw [if_neg n10, if_neg n10]
          obtain ⟨g6, m6, v1, v2, v3, v4, v5⟩ := z_cmpAll (L := q_enc 0 cls ++ N) (R := k_R cls ++ N) hF hk5 t3 u3 ((u2.2 5 (by decide)).trans y5) j14 (y6.f16 t2) (y7.f68 u2.1) (by rw [List.length_append]; omega) (by rw [List.length_append]; omega)
          rw [v1, v2]
          have l73 : z_A m6 73 k = nI C := by rw [v4.1.A (by decide), j73]
          have l74 : z_A m6 74 (140 * k + C) = nI (k_R cls).length := by rw [v4.1.A (by decide), j74]
          have l14 : z_I m6 68 14 = nI k := (v4.2.1 14 (by decide) (by decide) (by decide)).trans j14
          rcases v5 with ⟨p2, N2, z1, z2, z3, z4, z5, z6, z7, z8⟩ | ⟨q, R', z1, z2, z3, z4⟩
          · rw [List.append_assoc] at z6 z7
            refine fromJ1 g6 m6 p2 (N ++ N2) (by rw [List.length_append]; omega) (by omega) z3 z4 z5 z6 z7 ?_ (F5.trans v3.1) (P5.trans v4.pg) l73 l74 l14
            rw [q_ty_app, ty0, Option.bind_some]
            exact z8 [] (by decide)
          · exact fault g6 m6 q 1 1 z1 z2 (F5.trans v3.1) (P5.trans v4.pg) l73 l14
      · rw [z_r25_0 y1.1.1, Option.bind_some, z_peekN y1, Option.bind_some, z_i68_4 y2.1.1, Option.bind_some, if_pos y2.ne]
        dsimp only
        rw [show s_LText_comparing (-1) = some (-1) from by decide, Option.bind_some, if_pos rfl]
        unfold k_c80 k_mB
        rw [if_pos rfl, if_pos rfl]
        exact fault g4 m4 q 0 0 y1 y2 F4 P4 i73 i14
end LC
