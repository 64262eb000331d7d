-- THE VILLAGE, ONE THING OTHERWISE ON BOTH SIDES (written by wip/gen/mk_vr.py)
section VS
variable {h g : fw_H} {a n w x : Nat} {T Wd f f' : Nat → Int32}
/-- a bit turned -/
theorem v_flip {o i x : Nat} : (o ^^^ 2 ^ x).testBit i = if i = x then !o.testBit i else o.testBit i := by
  rw [Nat.testBit_xor, Nat.testBit_two_pow]
  by_cases e : i = x
  · subst e; simp
  · rw [if_neg e, decide_eq_false (fun z => e z.symm)]; simp
theorem v_R.turn (hn : n ≤ 12) (hw : w ≤ 16) (hR : v_R h a n w T Wd f) {b : Bool} (hx : x < n) (h7 : z_I g a 7 = z_I h a 7 ^^^ ((1 : Int32) <<< (nI x &&& 31))) (hb : f (12 + x) = fw_b b) (hb' : f' (12 + x) = fw_b (!b))
    (hI : ∀ k, k ∉ [7] → z_I g a k = z_I h a k) (hA1 : ∀ i, z_A g (a + 1) i = z_A h (a + 1) i) (hA2 : ∀ i, z_A g (a + 2) i = z_A h (a + 2) i) (hA3 : ∀ i, z_A g (a + 3) i = z_A h (a + 3) i) (hA4 : ∀ i, z_A g (a + 4) i = z_A h (a + 4) i) (hf : ∀ j, j < 118 → j ∉ [12 + x] → f' j = f j) : v_R g a n w T Wd f' := by
  obtain ⟨r1, r2, r3, r4, r5, r6, ⟨o2, r9, r10, r11⟩, ⟨o3, r12, r13, r14⟩, ⟨m1, r15, r16⟩, ⟨m2, r17, r18⟩, r19, r20, t, l, r21, r22, r23, r24, r25, r26, r27⟩ := hR
  exact ⟨(hI 0 (by decide)).trans r1, (hI 1 (by decide)).trans r2,
    fun i hi => ⟨by rw [hA1, hf (i) (by omega) (by simp <;> omega)]; exact (r3 i hi).1, fun k k1 k5 => by rw [hA1]; exact (r3 i hi).2 k k1 k5⟩,
    fun i hi => by rw [hA2, hf (24 + i) (by omega) (by simp <;> omega)]; exact r4 i hi, fun j hj => by rw [hA3, hA3]; exact r5 j hj, by rw [hI 5 (by decide)]; exact r6,
    ⟨o2, r9, (hI 6 (by decide)).trans r10, fun j hj => by rw [hf (36 + j) (by omega) (by simp <;> omega)]; exact r11 j hj⟩,
    ⟨o3 ^^^ 2 ^ x, z_xorlt r12 (z_pow (by omega)), by rw [h7, r13, z_sh1 (by omega), nx_xor], fun i hi => by
      rw [v_flip]
      by_cases e : i = x
      · subst e
        rw [if_pos rfl, hb']
        have e2 := r14 i hi
        rw [hb] at e2
        rw [fw_b_inj e2]
      · rw [if_neg e, hf (12 + i) (by omega) (by simp <;> omega)]; exact r14 i hi⟩,
    ⟨m1, (hI 8 (by decide)).trans r15, (hf (52) (by omega) (by simp <;> omega)).trans r16⟩, ⟨m2, (hI 9 (by decide)).trans r17, (hf (53) (by omega) (by simp <;> omega)).trans r18⟩, fun h0 => ⟨(hI 10 (by decide)).trans (r19 h0).1, (hI 11 (by decide)).trans (r19 h0).2⟩,
    fun h0 => by rw [hI 10 (by decide), hI 11 (by decide), hf (54) (by omega) (by simp <;> omega), hf (55) (by omega) (by simp <;> omega)]; exact r20 h0,
    ⟨t, l, r21, r22, (hI 12 (by decide)).trans r23, (hf (56) (by omega) (by simp <;> omega)).trans r24, (hI 14 (by decide)).trans r25, (hf (57) (by omega) (by simp <;> omega)).trans r26, fun i hi => by rw [hA4, hf (58 + (min l 60 - 1 - i)) (by omega) (by simp <;> omega)]; exact r27 i hi⟩⟩
theorem v_R.shut (hn : n ≤ 12) (hw : w ≤ 16) (hR : v_R h a n w T Wd f) {b : Bool} (hx : x < 16) (h7 : z_I g a 6 = z_I h a 6 ^^^ ((1 : Int32) <<< (nI x &&& 31))) (hb : f (36 + x) = fw_b b) (hb' : f' (36 + x) = fw_b (!b))
    (hI : ∀ k, k ∉ [6] → z_I g a k = z_I h a k) (hA1 : ∀ i, z_A g (a + 1) i = z_A h (a + 1) i) (hA2 : ∀ i, z_A g (a + 2) i = z_A h (a + 2) i) (hA3 : ∀ i, z_A g (a + 3) i = z_A h (a + 3) i) (hA4 : ∀ i, z_A g (a + 4) i = z_A h (a + 4) i) (hf : ∀ j, j < 118 → j ∉ [36 + x] → f' j = f j) : v_R g a n w T Wd f' := by
  obtain ⟨r1, r2, r3, r4, r5, r6, ⟨o2, r9, r10, r11⟩, ⟨o3, r12, r13, r14⟩, ⟨m1, r15, r16⟩, ⟨m2, r17, r18⟩, r19, r20, t, l, r21, r22, r23, r24, r25, r26, r27⟩ := hR
  exact ⟨(hI 0 (by decide)).trans r1, (hI 1 (by decide)).trans r2,
    fun i hi => ⟨by rw [hA1, hf (i) (by omega) (by simp <;> omega)]; exact (r3 i hi).1, fun k k1 k5 => by rw [hA1]; exact (r3 i hi).2 k k1 k5⟩,
    fun i hi => by rw [hA2, hf (24 + i) (by omega) (by simp <;> omega)]; exact r4 i hi, fun j hj => by rw [hA3, hA3]; exact r5 j hj, by rw [hI 5 (by decide)]; exact r6,
    ⟨o2 ^^^ 2 ^ x, z_xorlt r9 (z_pow (by omega)), by rw [h7, r10, z_sh1 (by omega), nx_xor], fun i hi => by
      rw [v_flip]
      by_cases e : i = x
      · subst e
        rw [if_pos rfl, hb']
        have e2 := r11 i hi
        rw [hb] at e2
        rw [fw_b_inj e2]
      · rw [if_neg e, hf (36 + i) (by omega) (by simp <;> omega)]; exact r11 i hi⟩,
    ⟨o3, r12, (hI 7 (by decide)).trans r13, fun i hi => by rw [hf (12 + i) (by omega) (by simp <;> omega)]; exact r14 i hi⟩,
    ⟨m1, (hI 8 (by decide)).trans r15, (hf (52) (by omega) (by simp <;> omega)).trans r16⟩, ⟨m2, (hI 9 (by decide)).trans r17, (hf (53) (by omega) (by simp <;> omega)).trans r18⟩, fun h0 => ⟨(hI 10 (by decide)).trans (r19 h0).1, (hI 11 (by decide)).trans (r19 h0).2⟩,
    fun h0 => by rw [hI 10 (by decide), hI 11 (by decide), hf (54) (by omega) (by simp <;> omega), hf (55) (by omega) (by simp <;> omega)]; exact r20 h0,
    ⟨t, l, r21, r22, (hI 12 (by decide)).trans r23, (hf (56) (by omega) (by simp <;> omega)).trans r24, (hI 14 (by decide)).trans r25, (hf (57) (by omega) (by simp <;> omega)).trans r26, fun i hi => by rw [hA4, hf (58 + (min l 60 - 1 - i)) (by omega) (by simp <;> omega)]; exact r27 i hi⟩⟩
theorem v_R.music (hn : n ≤ 12) (hw : w ≤ 16) (hR : v_R h a n w T Wd f) {b : Bool} (h8 : z_I g a 8 = fw_b b) (hb : f' 52 = fw_b b)
    (hI : ∀ k, k ∉ [8] → z_I g a k = z_I h a k) (hA1 : ∀ i, z_A g (a + 1) i = z_A h (a + 1) i) (hA2 : ∀ i, z_A g (a + 2) i = z_A h (a + 2) i) (hA3 : ∀ i, z_A g (a + 3) i = z_A h (a + 3) i) (hA4 : ∀ i, z_A g (a + 4) i = z_A h (a + 4) i) (hf : ∀ j, j < 118 → j ∉ [52] → f' j = f j) : v_R g a n w T Wd f' := by
  obtain ⟨r1, r2, r3, r4, r5, r6, ⟨o2, r9, r10, r11⟩, ⟨o3, r12, r13, r14⟩, ⟨m1, r15, r16⟩, ⟨m2, r17, r18⟩, r19, r20, t, l, r21, r22, r23, r24, r25, r26, r27⟩ := hR
  exact ⟨(hI 0 (by decide)).trans r1, (hI 1 (by decide)).trans r2,
    fun i hi => ⟨by rw [hA1, hf (i) (by omega) (by simp <;> omega)]; exact (r3 i hi).1, fun k k1 k5 => by rw [hA1]; exact (r3 i hi).2 k k1 k5⟩,
    fun i hi => by rw [hA2, hf (24 + i) (by omega) (by simp <;> omega)]; exact r4 i hi, fun j hj => by rw [hA3, hA3]; exact r5 j hj, by rw [hI 5 (by decide)]; exact r6,
    ⟨o2, r9, (hI 6 (by decide)).trans r10, fun j hj => by rw [hf (36 + j) (by omega) (by simp <;> omega)]; exact r11 j hj⟩,
    ⟨o3, r12, (hI 7 (by decide)).trans r13, fun i hi => by rw [hf (12 + i) (by omega) (by simp <;> omega)]; exact r14 i hi⟩,
    ⟨b, h8, hb⟩, ⟨m2, (hI 9 (by decide)).trans r17, (hf (53) (by omega) (by simp <;> omega)).trans r18⟩, fun h0 => ⟨(hI 10 (by decide)).trans (r19 h0).1, (hI 11 (by decide)).trans (r19 h0).2⟩,
    fun h0 => by rw [hI 10 (by decide), hI 11 (by decide), hf (54) (by omega) (by simp <;> omega), hf (55) (by omega) (by simp <;> omega)]; exact r20 h0,
    ⟨t, l, r21, r22, (hI 12 (by decide)).trans r23, (hf (56) (by omega) (by simp <;> omega)).trans r24, (hI 14 (by decide)).trans r25, (hf (57) (by omega) (by simp <;> omega)).trans r26, fun i hi => by rw [hA4, hf (58 + (min l 60 - 1 - i)) (by omega) (by simp <;> omega)]; exact r27 i hi⟩⟩
theorem v_R.fog (hn : n ≤ 12) (hw : w ≤ 16) (hR : v_R h a n w T Wd f) {b : Bool} (h9 : z_I g a 9 = fw_b b) (hb : f' 53 = fw_b b)
    (hI : ∀ k, k ∉ [9] → z_I g a k = z_I h a k) (hA1 : ∀ i, z_A g (a + 1) i = z_A h (a + 1) i) (hA2 : ∀ i, z_A g (a + 2) i = z_A h (a + 2) i) (hA3 : ∀ i, z_A g (a + 3) i = z_A h (a + 3) i) (hA4 : ∀ i, z_A g (a + 4) i = z_A h (a + 4) i) (hf : ∀ j, j < 118 → j ∉ [53] → f' j = f j) : v_R g a n w T Wd f' := by
  obtain ⟨r1, r2, r3, r4, r5, r6, ⟨o2, r9, r10, r11⟩, ⟨o3, r12, r13, r14⟩, ⟨m1, r15, r16⟩, ⟨m2, r17, r18⟩, r19, r20, t, l, r21, r22, r23, r24, r25, r26, r27⟩ := hR
  exact ⟨(hI 0 (by decide)).trans r1, (hI 1 (by decide)).trans r2,
    fun i hi => ⟨by rw [hA1, hf (i) (by omega) (by simp <;> omega)]; exact (r3 i hi).1, fun k k1 k5 => by rw [hA1]; exact (r3 i hi).2 k k1 k5⟩,
    fun i hi => by rw [hA2, hf (24 + i) (by omega) (by simp <;> omega)]; exact r4 i hi, fun j hj => by rw [hA3, hA3]; exact r5 j hj, by rw [hI 5 (by decide)]; exact r6,
    ⟨o2, r9, (hI 6 (by decide)).trans r10, fun j hj => by rw [hf (36 + j) (by omega) (by simp <;> omega)]; exact r11 j hj⟩,
    ⟨o3, r12, (hI 7 (by decide)).trans r13, fun i hi => by rw [hf (12 + i) (by omega) (by simp <;> omega)]; exact r14 i hi⟩,
    ⟨m1, (hI 8 (by decide)).trans r15, (hf (52) (by omega) (by simp <;> omega)).trans r16⟩, ⟨b, h9, hb⟩, fun h0 => ⟨(hI 10 (by decide)).trans (r19 h0).1, (hI 11 (by decide)).trans (r19 h0).2⟩,
    fun h0 => by rw [hI 10 (by decide), hI 11 (by decide), hf (54) (by omega) (by simp <;> omega), hf (55) (by omega) (by simp <;> omega)]; exact r20 h0,
    ⟨t, l, r21, r22, (hI 12 (by decide)).trans r23, (hf (56) (by omega) (by simp <;> omega)).trans r24, (hI 14 (by decide)).trans r25, (hf (57) (by omega) (by simp <;> omega)).trans r26, fun i hi => by rw [hA4, hf (58 + (min l 60 - 1 - i)) (by omega) (by simp <;> omega)]; exact r27 i hi⟩⟩
theorem v_R.want (hn : n ≤ 12) (hw : w ≤ 16) (hR : v_R h a n w T Wd f) (hx : x < n) (hA1 : ∀ i, z_A g (a + 1) i = if i = 5 * x then f' x else z_A h (a + 1) i)
    (hI : ∀ k, k ∉ [99] → z_I g a k = z_I h a k) (hA2 : ∀ i, z_A g (a + 2) i = z_A h (a + 2) i) (hA3 : ∀ i, z_A g (a + 3) i = z_A h (a + 3) i) (hA4 : ∀ i, z_A g (a + 4) i = z_A h (a + 4) i) (hf : ∀ j, j < 118 → j ∉ [x] → f' j = f j) : v_R g a n w T Wd f' := by
  obtain ⟨r1, r2, r3, r4, r5, r6, ⟨o2, r9, r10, r11⟩, ⟨o3, r12, r13, r14⟩, ⟨m1, r15, r16⟩, ⟨m2, r17, r18⟩, r19, r20, t, l, r21, r22, r23, r24, r25, r26, r27⟩ := hR
  exact ⟨(hI 0 (by decide)).trans r1, (hI 1 (by decide)).trans r2,
    fun i hi => ⟨by
      rw [hA1]
      by_cases e : i = x
      · subst e; rw [if_pos rfl]
      · rw [if_neg (by omega), hf i (by omega) (by simp <;> omega)]; exact (r3 i hi).1, fun k k1 k5 => by rw [hA1, if_neg (by omega)]; exact (r3 i hi).2 k k1 k5⟩,
    fun i hi => by rw [hA2, hf (24 + i) (by omega) (by simp <;> omega)]; exact r4 i hi, fun j hj => by rw [hA3, hA3]; exact r5 j hj, by rw [hI 5 (by decide)]; exact r6,
    ⟨o2, r9, (hI 6 (by decide)).trans r10, fun j hj => by rw [hf (36 + j) (by omega) (by simp <;> omega)]; exact r11 j hj⟩,
    ⟨o3, r12, (hI 7 (by decide)).trans r13, fun i hi => by rw [hf (12 + i) (by omega) (by simp <;> omega)]; exact r14 i hi⟩,
    ⟨m1, (hI 8 (by decide)).trans r15, (hf (52) (by omega) (by simp <;> omega)).trans r16⟩, ⟨m2, (hI 9 (by decide)).trans r17, (hf (53) (by omega) (by simp <;> omega)).trans r18⟩, fun h0 => ⟨(hI 10 (by decide)).trans (r19 h0).1, (hI 11 (by decide)).trans (r19 h0).2⟩,
    fun h0 => by rw [hI 10 (by decide), hI 11 (by decide), hf (54) (by omega) (by simp <;> omega), hf (55) (by omega) (by simp <;> omega)]; exact r20 h0,
    ⟨t, l, r21, r22, (hI 12 (by decide)).trans r23, (hf (56) (by omega) (by simp <;> omega)).trans r24, (hI 14 (by decide)).trans r25, (hf (57) (by omega) (by simp <;> omega)).trans r26, fun i hi => by rw [hA4, hf (58 + (min l 60 - 1 - i)) (by omega) (by simp <;> omega)]; exact r27 i hi⟩⟩
theorem v_R.at (hn : n ≤ 12) (hw : w ≤ 16) (hR : v_R h a n w T Wd f) (h0 : 0 < n) {p q : Nat} (hp : p < n) (hq : q = 12 ∨ q < n) (h10 : z_I g a 10 = f' 54) (h11 : z_I g a 11 = f' 55) (h54 : f' 54 = nI p) (h55 : f' 55 = z_b q)
    (hI : ∀ k, k ∉ [10, 11] → z_I g a k = z_I h a k) (hA1 : ∀ i, z_A g (a + 1) i = z_A h (a + 1) i) (hA2 : ∀ i, z_A g (a + 2) i = z_A h (a + 2) i) (hA3 : ∀ i, z_A g (a + 3) i = z_A h (a + 3) i) (hA4 : ∀ i, z_A g (a + 4) i = z_A h (a + 4) i) (hf : ∀ j, j < 118 → j ∉ [54, 55] → f' j = f j) : v_R g a n w T Wd f' := by
  obtain ⟨r1, r2, r3, r4, r5, r6, ⟨o2, r9, r10, r11⟩, ⟨o3, r12, r13, r14⟩, ⟨m1, r15, r16⟩, ⟨m2, r17, r18⟩, r19, r20, t, l, r21, r22, r23, r24, r25, r26, r27⟩ := hR
  exact ⟨(hI 0 (by decide)).trans r1, (hI 1 (by decide)).trans r2,
    fun i hi => ⟨by rw [hA1, hf (i) (by omega) (by simp <;> omega)]; exact (r3 i hi).1, fun k k1 k5 => by rw [hA1]; exact (r3 i hi).2 k k1 k5⟩,
    fun i hi => by rw [hA2, hf (24 + i) (by omega) (by simp <;> omega)]; exact r4 i hi, fun j hj => by rw [hA3, hA3]; exact r5 j hj, by rw [hI 5 (by decide)]; exact r6,
    ⟨o2, r9, (hI 6 (by decide)).trans r10, fun j hj => by rw [hf (36 + j) (by omega) (by simp <;> omega)]; exact r11 j hj⟩,
    ⟨o3, r12, (hI 7 (by decide)).trans r13, fun i hi => by rw [hf (12 + i) (by omega) (by simp <;> omega)]; exact r14 i hi⟩,
    ⟨m1, (hI 8 (by decide)).trans r15, (hf (52) (by omega) (by simp <;> omega)).trans r16⟩, ⟨m2, (hI 9 (by decide)).trans r17, (hf (53) (by omega) (by simp <;> omega)).trans r18⟩, fun z => absurd z (by omega),
    fun _ => ⟨p, q, hp, hq, h10.trans h54, h54, h11.trans h55, h55⟩,
    ⟨t, l, r21, r22, (hI 12 (by decide)).trans r23, (hf (56) (by omega) (by simp <;> omega)).trans r24, (hI 14 (by decide)).trans r25, (hf (57) (by omega) (by simp <;> omega)).trans r26, fun i hi => by rw [hA4, hf (58 + (min l 60 - 1 - i)) (by omega) (by simp <;> omega)]; exact r27 i hi⟩⟩
end VS
