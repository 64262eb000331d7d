-- THE VILLAGE: the class's cells against the reference's numbers (T: told, Wd: window, f: a state of the reference); small reads; a copy
def v_ok (n w : Nat) (Wd : Nat → Int32) : Prop := n ≤ 12 ∧ w ≤ 16 ∧ ∀ j, j < w → (∃ x y, x < n ∧ y < n ∧ x ≠ y ∧ Wd (3 * j) = nI x ∧ Wd (3 * j + 1) = nI y) ∧ ∃ m, Wd (3 * j + 2) = fw_b m
def v_R (h : fw_H) (a n w : Nat) (T Wd f : Nat → Int32) : Prop :=
  z_I h a 0 = nI n ∧ z_I h a 1 = nI w ∧
  (∀ i, i < n → z_A h (a + 1) (5 * i) = f i ∧ ∀ k, 1 ≤ k → k < 5 → z_A h (a + 1) (5 * i + k) = T (6 * i + k)) ∧
  (∀ i, i < n → z_A h (a + 2) i = f (24 + i)) ∧
  (∀ j, j < w → z_A h (a + 3) (2 * j) = Wd (3 * j) ∧ z_A h (a + 3) (2 * j + 1) = Wd (3 * j + 1)) ∧
  (∃ o, o < 2 ^ 16 ∧ z_I h a 5 = nI o ∧ ∀ j, j < w → Wd (3 * j + 2) = fw_b (o.testBit j)) ∧
  (∃ o, o < 2 ^ 16 ∧ z_I h a 6 = nI o ∧ ∀ j, j < w → f (36 + j) = fw_b (o.testBit j)) ∧
  (∃ o, o < 2 ^ 12 ∧ z_I h a 7 = nI o ∧ ∀ i, i < n → f (12 + i) = fw_b (o.testBit i)) ∧
  (∃ m, z_I h a 8 = fw_b m ∧ f 52 = fw_b m) ∧ (∃ m, z_I h a 9 = fw_b m ∧ f 53 = fw_b m) ∧
  (n = 0 → z_I h a 10 = -1 ∧ z_I h a 11 = -1) ∧
  (0 < n → ∃ p q, p < n ∧ (q = 12 ∨ q < n) ∧ z_I h a 10 = nI p ∧ f 54 = nI p ∧ z_I h a 11 = z_b q ∧ f 55 = z_b q) ∧
  ∃ t l, t ≤ 9999 ∧ l ≤ t ∧ z_I h a 12 = nI t ∧ f 56 = nI t ∧ z_I h a 14 = nI l ∧ f 57 = nI (min l 60) ∧ ∀ i, i < min l 60 → z_A h (a + 4) ((l - 1 - i) % 100) = f (58 + (min l 60 - 1 - i))
/-- the village b in h' is what a is in h -/
def v_cp (h : fw_H) (a : Nat) (h' : fw_H) (b : Nat) : Prop :=
  (∀ k, k = 0 ∨ k = 1 ∨ k = 5 ∨ k = 6 ∨ k = 7 ∨ k = 8 ∨ k = 9 ∨ k = 10 ∨ k = 11 ∨ k = 12 ∨ k = 14 → z_I h' b k = z_I h a k) ∧
  (∀ i, i < 60 → z_A h' (b + 1) i = z_A h (a + 1) i) ∧ (∀ i, i < 12 → z_A h' (b + 2) i = z_A h (a + 2) i) ∧ (∀ i, i < 32 → z_A h' (b + 3) i = z_A h (a + 3) i) ∧ ∀ i, i < 100 → z_A h' (b + 4) i = z_A h (a + 4) i
theorem v_R.cp {h h' : fw_H} {a b n w : Nat} {T Wd f : Nat → Int32} (hn : n ≤ 12) (hw : w ≤ 16) (hc : v_cp h a h' b) (hR : v_R h a n w T Wd f) : v_R h' b n w T Wd f := by
  obtain ⟨c1, c2, c3, c4, c5⟩ := hc
  obtain ⟨r1, r2, r3, r4, r5, ⟨o1, r6, r7, r8⟩, ⟨o2, r9, r10, r11⟩, ⟨o3, r12, r13, r14⟩, ⟨m1, r15, r16⟩, ⟨m2, r17, r18⟩, r19, r20, t, l, r21, r22, r23, r24, r25, r26, r27⟩ := hR
  refine ⟨?_, ?_, fun i hi => ⟨?_, fun k h1 h5 => ?_⟩, fun i hi => ?_, fun j hj => ⟨?_, ?_⟩, ⟨o1, r6, ?_, r8⟩, ⟨o2, r9, ?_, r11⟩, ⟨o3, r12, ?_, r14⟩, ⟨m1, ?_, r16⟩, ⟨m2, ?_, r18⟩, fun h0 => ⟨?_, ?_⟩, fun h0 => ?_, t, l, r21, r22, ?_, r24, ?_, r26, fun i hi => ?_⟩
  · rw [c1 0 (by omega)]; exact r1
  · rw [c1 1 (by omega)]; exact r2
  · rw [c2 _ (by omega)]; exact (r3 i hi).1
  · rw [c2 _ (by omega)]; exact (r3 i hi).2 k h1 h5
  · rw [c3 _ (by omega)]; exact r4 i hi
  · rw [c4 _ (by omega)]; exact (r5 j hj).1
  · rw [c4 _ (by omega)]; exact (r5 j hj).2
  · rw [c1 5 (by omega)]; exact r7
  · rw [c1 6 (by omega)]; exact r10
  · rw [c1 7 (by omega)]; exact r13
  · rw [c1 8 (by omega)]; exact r15
  · rw [c1 9 (by omega)]; exact r17
  · rw [c1 10 (by omega)]; exact (r19 h0).1
  · rw [c1 11 (by omega)]; exact (r19 h0).2
  · rw [c1 10 (by omega), c1 11 (by omega)]; exact r20 h0
  · rw [c1 12 (by omega)]; exact r23
  · rw [c1 14 (by omega)]; exact r25
  · rw [c5 _ (Nat.mod_lt _ (by decide))]; exact r27 i hi
section VV
variable {h h' g : fw_H} {a b n w i j k F : Nat} {T Wd f : Nat → Int32} {x y v : Int32} {ks ds : List Nat} {P : fw_H → Prop} {K : fw_H → Option fw_H}
theorem v_apart (ha : z_V a) (hb : z_V b) (hab : a ≠ b) {d e : Nat} (hd : d ≤ 4) (he : e ≤ 4) : a + d ≠ b + e := by
  rcases ha with rfl | rfl | rfl | rfl <;> rcases hb with rfl | rfl | rfl | rfl <;> omega
theorem v_15 (ha : z_V a) : 15 ≤ a := by rcases ha with rfl | rfl | rfl | rfl <;> omega
def v_fr (b : Nat) : List Nat := [b, b + 1, b + 2, b + 3, b + 4]
/-- the copy so far -/
def v_C (h : fw_H) (a b : Nat) (ks ds : List Nat) (g : fw_H) : Prop := z_Sh g ∧ z_fr (v_fr b) h g ∧ (∀ k, k ∈ ks → z_I g b k = z_I h a k) ∧ ∀ d, d ∈ ds → ∀ i, i < [0, 60, 12, 32, 100].getD d 0 → z_A g (b + d) i = z_A h (a + d) i
theorem v_stI (ha : z_V a) (hb : z_V b) (hab : a ≠ b) (c : v_C h a b ks ds g) (hk : z_fk a 7 k = some 0) (hk' : z_fk b 7 k = some 0) (H : ∀ g', v_C h a b (k :: ks) ds g' → ∃ h', K g' = some h' ∧ P h') :
    ∃ h', ((f_gI g (some a) 7 k).bind fun x => (f_pI g (some b) 7 k x).bind K) = some h' ∧ P h' := by
  rw [z_gIS c.1 hk, Option.bind_some, z_pIS c.1 hk', Option.bind_some]
  have hia : z_I g a k = z_I h a k := c.2.1.I (by simp [v_fr]; exact ⟨hab, fun z => v_apart ha hb hab (d := 0) (e := 1) (by omega) (by omega) z, fun z => v_apart ha hb hab (d := 0) (e := 2) (by omega) (by omega) z, fun z => v_apart ha hb hab (d := 0) (e := 3) (by omega) (by omega) z, fun z => v_apart ha hb hab (d := 0) (e := 4) (by omega) (by omega) z⟩)
  refine H _ ⟨z_Sh_sI c.1, c.2.1.sI (by simp [v_fr]), fun j hj => ?_, fun d hd i hi => by rw [z_A_sI]; exact c.2.2.2 d hd i hi⟩
  rw [z_IIS c.1 7 hk', hia]
  by_cases e : j = k
  · subst e; rw [if_pos ⟨rfl, rfl⟩]
  · rw [if_neg (fun z => e z.2)]
    rcases List.mem_cons.mp hj with z | z
    · exact absurd z e
    · exact c.2.2.1 j z
theorem v_stB {m : Bool} (ha : z_V a) (hb : z_V b) (hab : a ≠ b) (c : v_C h a b ks ds g) (hk : z_fk a 7 k = some 0) (hk' : z_fk b 7 k = some 0) (hm : z_I h a k = fw_b m) (H : ∀ g', v_C h a b (k :: ks) ds g' → ∃ h', K g' = some h' ∧ P h') :
    ∃ h', ((f_gB g (some a) 7 k).bind fun x => (f_pB g (some b) 7 k x).bind K) = some h' ∧ P h' := by
  have hia : z_I g a k = z_I h a k := c.2.1.I (by simp [v_fr]; exact ⟨hab, fun z => v_apart ha hb hab (d := 0) (e := 1) (by omega) (by omega) z, fun z => v_apart ha hb hab (d := 0) (e := 2) (by omega) (by omega) z, fun z => v_apart ha hb hab (d := 0) (e := 3) (by omega) (by omega) z, fun z => v_apart ha hb hab (d := 0) (e := 4) (by omega) (by omega) z⟩)
  have e1 := z_gIS c.1 hk
  rw [hia, hm] at e1
  rw [z_gB e1 rfl, Option.bind_some]
  have h1 := v_stI (K := K) (P := P) ha hb hab c hk hk' H
  rw [e1, Option.bind_some] at h1
  exact h1
theorem v_stA {d n : Nat} (hF : 70000 ≤ F) (ha : z_V a) (hb : z_V b) (hab : a ≠ b) (c : v_C h a b ks ds g) (hd : 1 ≤ d ∧ d ≤ 4) (hn : [0, 60, 12, 32, 100].getD d 0 = n) (hk : z_ka (a + d) = some (1, (n, []))) (hk' : z_ka (b + d) = some (1, (n, []))) (hr : z_fk a 7 k = some (a + d + 3)) (hr' : z_fk b 7 k = some (b + d + 3)) (H : ∀ g', v_C h a b ks (d :: ds) g' → ∃ h', K g' = some h' ∧ P h') :
    ∃ h', ((f_gR g (some a) 7 k).bind fun x => (f_gR g (some b) 7 k).bind fun y => (s_Rows_copy F g x y).bind K) = some h' ∧ P h' := by
  have hn7 : n < 70000 := by
    subst hn
    obtain rfl | rfl | rfl | rfl : d = 1 ∨ d = 2 ∨ d = 3 ∨ d = 4 := by omega
    all_goals decide
  rw [z_gRC c.1 hr, Option.bind_some, z_gRC c.1 hr', Option.bind_some]
  obtain ⟨g', a1, a2, a3⟩ := z_copy (h := g) (F := F) (a := a + d) (b := b + d) (fun z => hab (by omega)) hF hn7 (z_ckT c.1 hk) (z_ckT c.1 hk')
  rw [a1, Option.bind_some]
  have hmem : ∀ j, j ∈ [b + d] → j ∈ v_fr b := fun j hj => by
    rw [List.mem_singleton] at hj
    subst hj
    obtain rfl | rfl | rfl | rfl : d = 1 ∨ d = 2 ∨ d = 3 ∨ d = 4 := by omega
    all_goals simp [v_fr]
  have hb15 := v_15 hb
  refine H g' ⟨c.1.fr a2 (fun j hj => by rw [List.mem_singleton] at hj; omega), c.2.1.trans (a2.mono hmem), fun k hk => ?_, fun e he i hi => ?_⟩
  · rw [a2.I (by simp; omega)]; exact c.2.2.1 k hk
  · by_cases hed : e = d
    · subst hed
      rw [a3 i (by rw [← hn]; exact hi)]
      exact c.2.1.A (by simp [v_fr]; exact ⟨fun z => v_apart ha hb hab hd.2 (e := 0) (by omega) z, fun z => v_apart ha hb hab hd.2 (e := 1) (by omega) z, fun z => v_apart ha hb hab hd.2 (e := 2) (by omega) z, fun z => v_apart ha hb hab hd.2 (e := 3) (by omega) z, fun z => v_apart ha hb hab hd.2 (e := 4) (by omega) z⟩)
    · rw [a2.A (by simp; omega)]
      rcases List.mem_cons.mp he with z | z
      · exact absurd z hed
      · exact c.2.2.2 e z i hi
theorem v_fkI (ha : z_V a) (k : Nat) (hk : z_fk 19 7 k = some 0 ∧ z_fk 29 7 k = some 0 ∧ z_fk 34 7 k = some 0 ∧ z_fk 49 7 k = some 0) : z_fk a 7 k = some 0 := by
  rcases ha with rfl | rfl | rfl | rfl
  · exact hk.1
  · exact hk.2.1
  · exact hk.2.2.1
  · exact hk.2.2.2
/-- Village.take -/
theorem z_take (hF : 70000 ≤ F) (hS : z_Sh h) (ha : z_V a) (hb : z_V b) (hab : a ≠ b) (h8 : ∃ m, z_I h a 8 = fw_b m) (h9 : ∃ m, z_I h a 9 = fw_b m) :
    ∃ h', s_Vil_take F h (some b) (some a) = some h' ∧ (z_Sh h' ∧ z_fr (v_fr b) h h' ∧ v_cp h a h' b) := by
  obtain ⟨m8, h8⟩ := h8
  obtain ⟨m9, h9⟩ := h9
  have c0 : v_C h a b [] [] h := ⟨hS, z_fr.refl, fun k hk => (by cases hk), fun d hd => (by cases hd)⟩
  have fa := fun k hk => v_fkI ha k hk
  have fb := fun k hk => v_fkI hb k hk
  have hka : ∀ d n, z_ka (19 + d) = some (1, (n, [])) ∧ z_ka (29 + d) = some (1, (n, [])) ∧ z_ka (34 + d) = some (1, (n, [])) ∧ z_ka (49 + d) = some (1, (n, [])) → ∀ c, z_V c → z_ka (c + d) = some (1, (n, [])) := by
    intro d n hd c hc
    rcases hc with rfl | rfl | rfl | rfl
    · exact hd.1
    · exact hd.2.1
    · exact hd.2.2.1
    · exact hd.2.2.2
  have hkr : ∀ d k, z_fk 19 7 k = some (19 + d + 3) ∧ z_fk 29 7 k = some (29 + d + 3) ∧ z_fk 34 7 k = some (34 + d + 3) ∧ z_fk 49 7 k = some (49 + d + 3) → ∀ c, z_V c → z_fk c 7 k = some (c + d + 3) := by
    intro d k hd c hc
    rcases hc with rfl | rfl | rfl | rfl
    · exact hd.1
    · exact hd.2.1
    · exact hd.2.2.1
    · exact hd.2.2.2
  unfold s_Vil_take
  rw [zv_c hS hb, Option.bind_some]
  refine v_stI ha hb hab c0 (fa 0 (by decide)) (fb 0 (by decide)) fun g c => ?_
  refine v_stI ha hb hab c (fa 1 (by decide)) (fb 1 (by decide)) fun g c => ?_
  refine v_stA (d := 1) (n := 60) hF ha hb hab c (by decide) rfl (hka 1 60 (by decide) a ha) (hka 1 60 (by decide) b hb) (hkr 1 2 (by decide) a ha) (hkr 1 2 (by decide) b hb) fun g c => ?_
  refine v_stA (d := 2) (n := 12) hF ha hb hab c (by decide) rfl (hka 2 12 (by decide) a ha) (hka 2 12 (by decide) b hb) (hkr 2 3 (by decide) a ha) (hkr 2 3 (by decide) b hb) fun g c => ?_
  refine v_stA (d := 3) (n := 32) hF ha hb hab c (by decide) rfl (hka 3 32 (by decide) a ha) (hka 3 32 (by decide) b hb) (hkr 3 4 (by decide) a ha) (hkr 3 4 (by decide) b hb) fun g c => ?_
  refine v_stI ha hb hab c (fa 5 (by decide)) (fb 5 (by decide)) fun g c => ?_
  refine v_stI ha hb hab c (fa 6 (by decide)) (fb 6 (by decide)) fun g c => ?_
  refine v_stI ha hb hab c (fa 7 (by decide)) (fb 7 (by decide)) fun g c => ?_
  refine v_stB ha hb hab c (fa 8 (by decide)) (fb 8 (by decide)) h8 fun g c => ?_
  refine v_stB ha hb hab c (fa 9 (by decide)) (fb 9 (by decide)) h9 fun g c => ?_
  refine v_stI ha hb hab c (fa 10 (by decide)) (fb 10 (by decide)) fun g c => ?_
  refine v_stI ha hb hab c (fa 11 (by decide)) (fb 11 (by decide)) fun g c => ?_
  refine v_stI ha hb hab c (fa 12 (by decide)) (fb 12 (by decide)) fun g c => ?_
  refine v_stA (d := 4) (n := 100) hF ha hb hab c (by decide) rfl (hka 4 100 (by decide) a ha) (hka 4 100 (by decide) b hb) (hkr 4 13 (by decide) a ha) (hkr 4 13 (by decide) b hb) fun g c => ?_
  refine v_stI ha hb hab c (fa 14 (by decide)) (fb 14 (by decide)) fun g c => ?_
  refine ⟨g, rfl, c.1, c.2.1, fun k hk => c.2.2.1 k ?_, c.2.2.2 1 (by simp), c.2.2.2 2 (by simp), c.2.2.2 3 (by simp), c.2.2.2 4 (by simp)⟩
  simp
  omega
-- small reads
def v_in (x : Int32) (n : Nat) : Bool := decide (¬ x < 0 ∧ x < nI n)
theorem v_in_t {x : Int32} {n : Nat} (h : v_in x n = true) (hn : n < 2 ^ 31) : ∃ i, i < n ∧ x = nI i := by
  have h1 := of_decide_eq_true h
  obtain ⟨i, hi, rfl⟩ := nI_of h1.1
  exact ⟨i, (nI_ltI hi hn).mp h1.2, rfl⟩
theorem v_in_n {i n : Nat} (h : i < n) (hn : n < 2 ^ 31) : v_in (nI i) n = true := decide_eq_true ⟨nI_pos (by omega), nI_lt h hn⟩
theorem z_hasHouse (hS : z_Sh h) (ha : z_V a) (hn : z_I h a 0 = nI n) : s_Vil_hasHouse h (some a) x = some (v_in x n) := by
  unfold s_Vil_hasHouse v_in
  rw [zv_c hS ha, Option.bind_some]
  by_cases h0 : x < 0
  · rw [if_pos h0, decide_eq_false (fun z => z.1 h0)]
  · rw [if_neg h0, zv_i0 hS ha, Option.bind_some, hn]
    by_cases h1 : nI n ≤ x
    · rw [if_pos h1, decide_eq_false (fun z => by have := z.2; rw [fa_lt] at this; rw [fa_le] at h1; omega)]
    · rw [if_neg h1, decide_eq_true ⟨h0, fa_of_nle h1⟩]
theorem z_hasWindow (hS : z_Sh h) (ha : z_V a) (hn : z_I h a 1 = nI n) : s_Vil_hasWindow h (some a) x = some (v_in x n) := by
  unfold s_Vil_hasWindow v_in
  rw [zv_c hS ha, Option.bind_some]
  by_cases h0 : x < 0
  · rw [if_pos h0, decide_eq_false (fun z => z.1 h0)]
  · rw [if_neg h0, zv_i1 hS ha, Option.bind_some, hn]
    by_cases h1 : nI n ≤ x
    · rw [if_pos h1, decide_eq_false (fun z => by have := z.2; rw [fa_lt] at this; rw [fa_le] at h1; omega)]
    · rw [if_neg h1, decide_eq_true ⟨h0, fa_of_nle h1⟩]
theorem z_isNone (hS : z_Sh h) (ha : z_V a) (hn : z_I h a 0 = nI n) (h12 : n ≤ 12) : s_Vil_isNone h (some a) = some (decide (n = 0)) := by
  unfold s_Vil_isNone
  rw [zv_c hS ha, Option.bind_some, zv_i0 hS ha, Option.bind_some, hn]
  by_cases h0 : n = 0
  · rw [if_neg (by rw [h0]; decide), decide_eq_true h0]
  · rw [if_pos (nI_ne0 (by omega) (by omega)), decide_eq_false h0]
theorem z_areTwo (hS : z_Sh h) (ha : z_V a) (hn : z_I h a 0 = nI n) : s_Vil_areTwo h (some a) x y = some (v_in x n && (v_in y n && !decide (x = y))) := by
  unfold s_Vil_areTwo
  rw [zv_c hS ha, Option.bind_some, z_hasHouse hS ha hn, Option.bind_some]
  cases h1 : v_in x n
  · rfl
  · rw [if_pos rfl, z_hasHouse hS ha hn, Option.bind_some]
    cases h2 : v_in y n
    · rfl
    · rw [if_pos rfl]
      by_cases e : x = y
      · rw [if_pos e]; simp [e]
      · rw [if_neg e]; simp [e]
theorem z_all (hS : z_Sh h) (ha : z_V a) (hn : z_I h a 0 = nI n) (h12 : n ≤ 12) : s_Vil_all h (some a) = some (nI (2 ^ n - 1)) := by
  unfold s_Vil_all
  rw [zv_c hS ha, Option.bind_some, zv_i0 hS ha, Option.bind_some, hn, z_sh1 (by omega)]
  congr 1
  exact pk_sub (Nat.one_le_two_pow)
end VV
