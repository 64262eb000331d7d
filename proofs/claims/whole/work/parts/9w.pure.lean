-- THE RELATION AT THE START; the law whole
def k_W0 : fw_H := List.replicate 15 (fw_J 0 (fun _ => 0)) ++ k_w
section W0
variable {L F : Nat} {xs : Nat → Int32}
theorem k_w_ck : ∀ i, i < 82 → ((k_w[i]?).map z_cs) = z_S[i + 15]? := by decide +kernel
theorem k_len0 : (gl_h0 L xs).length = 15 := rfl
theorem k_Wat {j : Nat} (h15 : 15 ≤ j) : (gl_h0 L xs ++ k_w)[j]? = k_W0[j]? := by
  unfold k_W0
  rw [List.getElem?_append_right (by rw [k_len0]; exact h15), k_len0, List.getElem?_append_right (by rw [List.length_replicate]; exact h15), List.length_replicate]
theorem k_W0at {j : Nat} (h15 : 15 ≤ j) : k_W0[j]? = k_w[j - 15]? := by
  unfold k_W0
  rw [List.getElem?_append_right (by rw [List.length_replicate]; exact h15), List.length_replicate]
theorem k_ShW (hL : L ≤ 3072) : z_Sh (gl_h0 L xs ++ k_w) := by
  refine ⟨⟨L, xs, hL, fun j hj => List.getElem?_append_left (by rw [k_len0]; exact hj)⟩, fun j h1 h2 => ?_⟩
  unfold z_ck
  rw [k_Wat h1, k_W0at h1, k_w_ck (j - 15) (by omega), show j - 15 + 15 = j by omega]
theorem k_start (hL : L ≤ 3072) : w_R (gl_h0 L xs ++ k_w) := by
  have S := k_ShW (xs := xs) hL
  have I : ∀ a k, 15 ≤ a → z_I (gl_h0 L xs ++ k_w) a k = z_I k_W0 a k := fun a k h => z_I_of (k_Wat h)
  have A : ∀ a i, 15 ≤ a → z_A (gl_h0 L xs ++ k_w) a i = z_A k_W0 a i := fun a k h => z_A_of (k_Wat h)
  have R : ∀ a k, 15 ≤ a → z_R (gl_h0 L xs ++ k_w) a k = z_R k_W0 a k := fun a k h => z_R_of (k_Wat h)
  have nz : ∀ {P : Prop} {i : Nat}, i < 0 → P := fun h => absurd h (Nat.not_lt_zero _)
  have W39 : z_LW (gl_h0 L xs ++ k_w) 39 := ⟨z_ckT S rfl, z_ckT S rfl, z_ckT S rfl⟩
  refine ⟨0, 0, fun _ => 0, fun _ => 0, fun _ => 0, none, 39, S, ⟨⟨Nat.zero_le _, Nat.zero_le _, fun j hj => nz hj⟩, ?_, ?_, ⟨?_, fun j hj => ?_, fun j hj => ?_⟩, fun j hj => ?_, fun x hx => nz hx⟩, ⟨0, fun _ => [], fun _ => 0, Nat.zero_le _, ?_, ?_, fun i hi => nz hi, ⟨W39, .inr rfl, false, ?_, ?_⟩, .inl ⟨?_, ?_, rfl, rfl⟩⟩, ⟨0, Nat.zero_le _, ?_, ?_, fun i hi => nz hi⟩, ⟨0, 0, fun _ => 0, fun _ _ => 0, fun _ => 0, Nat.zero_le _, by decide, ?_, ?_, ?_, fun j hj => nz hj, rfl, fun j _ => ⟨⟨rfl, fun i hi => nz hi⟩, Nat.zero_le _, fun x hx => ⟨0, Nat.zero_le _, rfl⟩⟩, fun j hj => nz hj, fun j hj => nz hj, ?_, fun i hi => nz hi⟩, ⟨false, ?_, ?_, fun z => Bool.noConfusion z⟩, ⟨0, Nat.zero_le _, ?_, ?_, fun i hi => nz hi⟩, ⟨0, Nat.zero_le _, ?_, ?_⟩, ⟨1, by decide, by decide, ?_, fun j hj => ⟨0, by omega, ?_⟩⟩, .inl ⟨?_, ?_⟩⟩
  · refine ⟨?_, ?_, fun i hi => nz hi, fun i hi => nz hi, fun j hj => nz hj, ⟨0, by decide, ?_, fun j hj => nz hj⟩, ⟨0, by decide, ?_, fun j hj => nz hj⟩, ⟨0, by decide, ?_, fun j hj => nz hj⟩, ⟨false, ?_, rfl⟩, ⟨false, ?_, rfl⟩, fun _ => ⟨?_, ?_⟩, fun h => nz h, 0, 0, Nat.zero_le _, Nat.le_refl _, ?_, rfl, ?_, rfl, fun i hi => nz hi⟩
    all_goals exact (I _ _ (by decide)).trans rfl
  all_goals first | exact (I _ _ (by decide)).trans rfl | exact (A _ _ (by decide)).trans rfl | exact (R _ _ (by decide)).trans rfl
theorem k_run : s_Law0_law F (gl_h0 L xs) (some 0) = l_Law0_law_23 F (some 0) (some 15) (some 68) (some 96) 513 (nI (6 * 0)) (gl_h0 L xs ++ k_w) := by
  have l2 : (gl_h0 L xs ++ k_w1).length = 68 := by rw [List.length_append, k_len0]; rfl
  have l3 : ((gl_h0 L xs ++ k_w1) ++ k_bMod 68).length = 96 := by rw [List.length_append, l2]; rfl
  have ew : (((gl_h0 L xs ++ k_w1) ++ k_bMod 68) ++ [fw_J 1 (fun _ => 0)]) = gl_h0 L xs ++ k_w := by
    unfold k_w
    rw [List.append_assoc, List.append_assoc, List.append_assoc]
  unfold s_Law0_law
  show ((s_Joy_init (gl_h0 L xs ++ [fw_O 11 [fw_r none, fw_r none, fw_r none, fw_r none, fw_r none, fw_i 0, fw_r none, fw_r none, fw_i 0, fw_i 0, fw_r none, fw_i 0, fw_r none, fw_r none, fw_r none, fw_r none]]) (some (gl_h0 L xs).length)).bind fun h4 => fw_new h4 (fw_O 12 [fw_i 0, fw_r none, fw_i 0, fw_i 0, fw_i 0, fw_i 0, fw_r none, fw_r none, fw_r none, fw_r none, fw_r none, fw_r none, fw_r none, fw_i 0, fw_i 0, fw_r none, fw_r none, fw_r none, fw_r none, fw_r none, fw_i 0, fw_i 0, fw_r none, fw_r none, fw_i 0, fw_i 0, fw_r none, fw_r none, fw_i 0, fw_i 0, fw_r none, fw_i 0, fw_i 0, fw_i 0, fw_i 0, fw_r none, fw_i 0, fw_i 0, fw_i 0, fw_i 0, fw_r none, fw_r none, fw_r none, fw_r none, fw_r none, fw_r none, fw_r none, fw_i 0, fw_r none, fw_i 0]) fun q8 h8 => (s_Mod_init h8 q8).bind fun h12 => fw_new h12 (fw_J 1 (fun _ => 0)) fun q17 h17 => l_Law0_law_23 F (some 0) (some (gl_h0 L xs).length) q8 q17 513 (0 : Int32) h17) = _
  rw [z_iJoy k_len0, Option.bind_some]
  show ((s_Mod_init ((gl_h0 L xs ++ k_w1) ++ [fw_O 12 [fw_i 0, fw_r none, fw_i 0, fw_i 0, fw_i 0, fw_i 0, fw_r none, fw_r none, fw_r none, fw_r none, fw_r none, fw_r none, fw_r none, fw_i 0, fw_i 0, fw_r none, fw_r none, fw_r none, fw_r none, fw_r none, fw_i 0, fw_i 0, fw_r none, fw_r none, fw_i 0, fw_i 0, fw_r none, fw_r none, fw_i 0, fw_i 0, fw_r none, fw_i 0, fw_i 0, fw_i 0, fw_i 0, fw_r none, fw_i 0, fw_i 0, fw_i 0, fw_i 0, fw_r none, fw_r none, fw_r none, fw_r none, fw_r none, fw_r none, fw_r none, fw_i 0, fw_r none, fw_i 0]]) (some (gl_h0 L xs ++ k_w1).length)).bind fun h12 => fw_new h12 (fw_J 1 (fun _ => 0)) fun q17 h17 => l_Law0_law_23 F (some 0) (some (gl_h0 L xs).length) (some (gl_h0 L xs ++ k_w1).length) q17 513 (0 : Int32) h17) = _
  rw [z_iMod, Option.bind_some, l2]
  show l_Law0_law_23 F (some 0) (some (gl_h0 L xs).length) (some 68) (some ((gl_h0 L xs ++ k_w1) ++ k_bMod 68).length) 513 (0 : Int32) (((gl_h0 L xs ++ k_w1) ++ k_bMod 68) ++ [fw_J 1 (fun _ => 0)]) = _
  rw [l3, ew, k_len0]
  rfl
theorem gl_pure (hL : L ≤ 3072) : ∃ h', s_Law0_law 70000 (gl_h0 L xs) (some 0) = some (true, h') := by
  rw [k_run]
  exact k_loop (by decide) hL 513 0 _ (by omega) (by omega) (k_start hL) (List.getElem?_append_left (by rw [k_len0]; decide))
end W0
