-- THE RELATION between the class's cells and the reference's, and what keeps it
def w_tape (h : fw_H) : Prop := ∃ l, l ≤ 240 ∧ z_I h 16 1 = nI l ∧ z_I h 68 2 = nI l ∧ ∀ i, i < l → ∃ c, 1 ≤ c ∧ c < 256 ∧ z_A h 17 i = nI c ∧ z_A h 69 i = nI c
def w_laws (h : fw_H) (lw : Option (List q_C)) (p : Nat) : Prop := ∃ (m : Nat) (cs : Nat → List q_C) (ps : Nat → Nat), m ≤ 4 ∧ z_I h 15 8 = nI m ∧ z_I h 68 13 = nI m ∧
  (∀ i, i < m → z_Q h 42 i = some (ps i) ∧ 97 ≤ ps i ∧ z_LF h (ps i) (some (cs i)) ∧ q_mS h i (cs i)) ∧ z_LF h 39 none ∧
  ((z_I h 15 9 = -1 ∧ z_I h 68 28 = -1 ∧ lw = none ∧ p = 39) ∨ ∃ k, k < m ∧ z_I h 15 9 = nI k ∧ z_I h 68 28 = nI k ∧ lw = some (cs k) ∧ p = ps k)
def w_vil (h : fw_H) (n w : Nat) (T Wd f : Nat → Int32) : Prop := v_ok n w Wd ∧ v_R h 29 n w T Wd f ∧ z_I h 68 24 = nI n ∧ v_MW h w Wd f ∧ (∀ j, j < 72 → z_A h 82 j = T j) ∧ z_ME h n T (2 ^ n - 1)
/-- an act taken back: s is what it was ahead of it, s' behind it; kind, what, where, before; K: who has kids -/
def w_step (n : Nat) (T : Nat → Int32) (kd wh pl bf : Int32) (s s' : Nat → Int32) (l l' : Nat) : Prop :=
  pl = s 54 ∧ bf = s 55 ∧
  ((∃ x, x < n ∧ kd = nI 0 ∧ wh = nI x ∧ l = l' ∧ (∃ b, s (12 + x) = fw_b b ∧ s' (12 + x) = fw_b (!b)) ∧ ∀ j, j < 118 → j ≠ 12 + x → s j = s' j) ∨
   (∃ x, x < 16 ∧ kd = nI 1 ∧ wh = nI x ∧ l = l' ∧ (∃ b, s (36 + x) = fw_b b ∧ s' (36 + x) = fw_b (!b)) ∧ ∀ j, j < 118 → j ≠ 36 + x → s j = s' j) ∨
   (kd = nI 2 ∧ l = l' ∧ (∃ b, s 52 = fw_b b ∧ s' 52 = fw_b (!b)) ∧ ∀ j, j < 118 → j ≠ 52 → s j = s' j) ∨
   (kd = nI 3 ∧ l = l' ∧ (∃ b, s 53 = fw_b b ∧ s' 53 = fw_b (!b)) ∧ ∀ j, j < 118 → j ≠ 53 → s j = s' j) ∨
   (∃ x, x < n ∧ kd = nI 4 ∧ wh = nI x ∧ l = l' ∧ (∃ v, v < 9 ∧ s x = nI v ∧ s' x = nI (v + 1)) ∧ ∀ j, j < 118 → j ≠ x → s j = s' j) ∨
   (kd = nI 5 ∧ l = l' ∧ ∀ j, j < 118 → j ≠ 54 → j ≠ 55 → s j = s' j) ∨
   (kd = nI 6 ∧ l + 1 = l' ∧ (∃ t, t < 9999 ∧ s 56 = nI t ∧ s' 56 = nI (t + 1) ∧ ∀ x, x < n → s (24 + x) = s' (24 + x) + (if s' 54 = nI x then (-1 : Int32) else 0) + (if t % 24 = 6 then (-1 : Int32) * T (6 * x + 3) else 0)) ∧ ∀ j, j < 118 → (j < 24 ∨ 36 ≤ j) → j ≠ 54 → j ≠ 55 → j ≠ 56 → j < 57 → s j = s' j))
/-- wants within their bounds -/
def w_wt (s : Nat → Int32) : Prop := ∀ x, x < 12 → ∃ v, v ≤ 9 ∧ s x = nI v
/-- the log of a state with l hours behind it, out of all hours H -/
def w_log (H : Nat → Int32) (l : Nat) (s : Nat → Int32) : Prop := (s 57 = nI (min l 60) ∧ ∀ i, i < min l 60 → s (58 + (min l 60 - 1 - i)) = H (l - 1 - i)) ∧ (l ≤ 9999 ∧ w_wt s)
def w_acts (h : fw_H) (n : Nat) (T f : Nat → Int32) : Prop := ∃ (c nx : Nat) (H : Nat → Int32) (S : Nat → Nat → Int32) (l : Nat → Nat), c ≤ 40 ∧ nx < 40 ∧ z_I h 43 4 = nI c ∧ z_I h 68 31 = nI c ∧ z_I h 43 5 = nI nx ∧
  (∀ j, j < c → ∀ k, k < 118 → S j k = z_A h 86 (118 * j + k)) ∧ S c = f ∧ (∀ j, j ≤ c → w_log H (l j) (S j)) ∧
  (∀ j, j < c → w_step n T (z_A h 44 ((nx + 40 - c + j) % 40)) (z_A h 45 ((nx + 40 - c + j) % 40)) (z_A h 46 ((nx + 40 - c + j) % 40)) (z_A h 47 ((nx + 40 - c + j) % 40)) (S j) (S (j + 1)) (l j) (l (j + 1))) ∧
  (∀ j, j < c → (n = 0 → False) ∧ ∃ p q, p < n ∧ (q = 12 ∨ q < n) ∧ S j 54 = nI p ∧ S j 55 = z_b q) ∧
  z_I h 29 14 = nI (l c) ∧ ∀ i, i < l c → l 0 ≤ i + 60 → z_A h 33 (i % 100) = H i
def w_img (h : fw_H) (n w : Nat) (T Wd : Nat → Int32) : Prop := ∃ im, z_I h 15 5 = fw_b im ∧ z_I h 68 49 = fw_b im ∧ (im = true → 0 < n ∧ ∃ s : Nat → Int32, (∀ j, j < 118 → z_A h 95 j = s j) ∧ v_R h 34 n w T Wd s ∧ w_wt s)
def w_seen (h : fw_H) : Prop := ∃ s, s ≤ 12 ∧ z_I h 64 3 = nI s ∧ z_I h 68 47 = nI s ∧ ∀ i, i < s → ∃ j x, 1 ≤ j ∧ j ≤ 20 ∧ x < 12 ∧ z_A h 65 i = nI j ∧ z_A h 93 i = nI j ∧ z_A h 66 i = nI x ∧ z_A h 94 i = nI x
def w_mist (h : fw_H) : Prop := ∃ v, v ≤ 99 ∧ z_I h 15 11 = nI v ∧ z_I h 68 29 = nI v
/-- the class's Spread has its two rows, this way or the other -/
def w_spr (h : fw_H) : Prop := (z_R h 61 1 = some 62 ∧ z_R h 61 2 = some 63) ∨ (z_R h 61 1 = some 63 ∧ z_R h 61 2 = some 62)
def w_tr0 (h : fw_H) : Prop := ∃ B, 1 ≤ B ∧ B ≤ 2000003745 ∧ z_I h 48 12 = nI B ∧ ∀ j, j < 3744 → ∃ v, v < B + 3745 ∧ z_A h 58 j = nI v
def w_trail (h : fw_H) : Prop := w_tr0 h ∧ w_spr h
def w_S (h : fw_H) (n w : Nat) (T Wd f : Nat → Int32) (lw : Option (List q_C)) (p : Nat) : Prop :=
  z_Sh h ∧ w_vil h n w T Wd f ∧ w_laws h lw p ∧ w_tape h ∧ w_acts h n T f ∧ w_img h n w T Wd ∧ w_seen h ∧ w_mist h ∧ w_trail h
def w_R (h : fw_H) : Prop := ∃ (n w : Nat) (T Wd f : Nat → Int32) (lw : Option (List q_C)) (p : Nat), w_S h n w T Wd f lw p
/-- cells that the relation says nothing of -/
def w_sc : List Nat := [18, 19, 20, 21, 22, 23, 24, 25, 26, 27, 28, 41, 49, 50, 51, 52, 53, 54, 55, 56, 57, 59, 60, 61, 62, 63, 67, 77, 78, 79, 80, 81, 87, 88, 89, 90, 91, 92, 96]
/-- nothing that the relation says something of has changed (but the trail) -/
def w_k (h h' : fw_H) : Prop := (∀ j, z_ck h' j = z_ck h j) ∧ (∀ j, j ∉ w_sc → j ≠ 16 → j ≠ 48 → j ≠ 58 → j ≠ 64 → j ≠ 68 → z_ck h j ≠ some (1, (40, [])) ∨ j < 97 → h'[j]? = h[j]?) ∧
  (∀ k, k = 2 ∨ k = 13 ∨ k = 24 ∨ k = 25 ∨ k = 28 ∨ k = 29 ∨ k = 31 ∨ k = 47 ∨ k = 49 → z_I h' 68 k = z_I h 68 k) ∧ z_I h' 64 3 = z_I h 64 3 ∧ z_I h' 16 1 = z_I h 16 1 ∧ (w_trail h → w_trail h')
section KK
variable {h h' h'' g : fw_H} {n w p a k : Nat} {T Wd f : Nat → Int32} {lw : Option (List q_C)} {As : List Nat}
theorem w_k.refl : w_k h h := ⟨fun _ => rfl, fun _ _ _ _ _ _ _ _ => rfl, fun _ _ => rfl, rfl, rfl, fun x => x⟩
theorem w_k.trans (h1 : w_k h h') (h2 : w_k h' h'') : w_k h h'' :=
  ⟨fun j => (h2.1 j).trans (h1.1 j), fun j a b c d e f x => (h2.2.1 j a b c d e f (by rw [h1.1]; exact x)).trans (h1.2.1 j a b c d e f x), fun k hk => (h2.2.2.1 k hk).trans (h1.2.2.1 k hk), h2.2.2.2.1.trans h1.2.2.2.1, h2.2.2.2.2.1.trans h1.2.2.2.2.1, fun x => h2.2.2.2.2.2 (h1.2.2.2.2.2 x)⟩
theorem w_tr0.of (h48 : z_I h' 48 12 = z_I h 48 12) (h58 : ∀ j, z_A h' 58 j = z_A h 58 j) (hT : w_tr0 h) : w_tr0 h' := by
  obtain ⟨B, b1, b2, b3, b4⟩ := hT
  exact ⟨B, b1, b2, h48.trans b3, fun j hj => by obtain ⟨v, v1, v2⟩ := b4 j hj; exact ⟨v, v1, (h58 j).trans v2⟩⟩
theorem w_spr.of (h61 : ∀ k, z_R h' 61 k = z_R h 61 k) (hT : w_spr h) : w_spr h' := by
  unfold w_spr
  rw [h61, h61]
  exact hT
theorem w_trail.of (h48 : z_I h' 48 12 = z_I h 48 12) (h58 : ∀ j, z_A h' 58 j = z_A h 58 j) (h61 : ∀ k, z_R h' 61 k = z_R h 61 k) (hT : w_trail h) : w_trail h' := ⟨hT.1.of h48 h58, hT.2.of h61⟩
/-- only cells of no account have changed -/
theorem w_k.fr (hf : z_fr As h h') (h61 : 61 ∉ As) (hA : ∀ j, j ∈ As → j ∈ w_sc ∨ (97 ≤ j ∧ z_ck h j = some (1, (40, [])))) : w_k h h' := by
  have hn : ∀ j, j ∉ w_sc → z_ck h j ≠ some (1, (40, [])) ∨ j < 97 → j ∉ As := by
    intro j h1 h2 h3
    rcases hA j h3 with z | ⟨z1, z2⟩
    · exact h1 z
    · rcases h2 with h2 | h2
      · exact h2 z2
      · omega
  have h68 : 68 ∉ As := hn 68 (by decide) (.inr (by decide))
  have h64 : 64 ∉ As := hn 64 (by decide) (.inr (by decide))
  have h48 : 48 ∉ As := hn 48 (by decide) (.inr (by decide))
  have h58 : 58 ∉ As := hn 58 (by decide) (.inr (by decide))
  have h16 : 16 ∉ As := hn 16 (by decide) (.inr (by decide))
  exact ⟨hf.1, fun j h1 _ _ _ _ _ h2 => hf.2 j (hn j h1 h2), fun k _ => hf.I h68, hf.I h64, hf.I h16, fun hT => hT.of (hf.I h48) (fun j => hf.A h58) (fun k => hf.R h61)⟩
/-- of the class's walk but where it stands, and numbers of its own -/
theorem w_k.w48 (hf : z_fr [48] h h') (h12 : z_I h' 48 12 = z_I h 48 12) : w_k h h' :=
  ⟨hf.1, fun j _ _ h1 _ _ _ _ => hf.2 j (by simpa using h1), fun k _ => hf.I (by decide), hf.I (by decide), hf.I (by decide), fun hT => hT.of h12 (fun j => hf.A (by decide)) (fun k => hf.R (by decide))⟩
theorem w_k.ww (hw : z_w h h') : w_k h h' := w_k.w48 hw.1 (hw.2.1 12 (by decide) (by decide) (by decide))
/-- of the reference's own numbers those that are of no account -/
theorem w_k.m68 (hf : z_fr [68] h h') (hk : ∀ k, k = 2 ∨ k = 13 ∨ k = 24 ∨ k = 25 ∨ k = 28 ∨ k = 29 ∨ k = 31 ∨ k = 47 ∨ k = 49 → z_I h' 68 k = z_I h 68 k) : w_k h h' :=
  ⟨hf.1, fun j _ _ _ _ _ h1 _ => hf.2 j (by simpa using h1), hk, hf.I (by decide), hf.I (by decide), fun hT => hT.of (hf.I (by decide)) (fun j => hf.A (by decide)) (fun k => hf.R (by decide))⟩
theorem w_k.s68 {v : Int32} (hk : k ≠ 2 ∧ k ≠ 13 ∧ k ≠ 24 ∧ k ≠ 25 ∧ k ≠ 28 ∧ k ≠ 29 ∧ k ≠ 31 ∧ k ≠ 47 ∧ k ≠ 49) : w_k h (z_sI h 68 k v) :=
  w_k.m68 (z_fr.refl.sI (by simp)) (fun j hj => z_I_sI_nk (by omega))
theorem w_k.mw (hw : z_mw h h') : w_k h h' := by
  refine ⟨hw.1.1, fun j h1 h2 h3 h4 h5 h6 h7 => hw.1.2 j (fun z => ?_), fun k hk => hw.2 k (by omega) (by omega) (by omega), hw.1.I (by decide), hw.1.I (by decide), fun hT => hT.of (hw.1.I (by decide)) (fun j => hw.1.A (by decide)) (fun k => hw.1.R (by decide))⟩
  simp only [List.mem_cons, List.not_mem_nil, or_false] at z
  rcases z with z | z | z
  · exact h6 z
  · subst z; exact h1 (by decide)
  · subst z; exact h1 (by decide)
/-- of the class's Seen but how many there are -/
theorem w_k.s64 (hf : z_fr [64] h h') (h3 : z_I h' 64 3 = z_I h 64 3) : w_k h h' :=
  ⟨hf.1, fun j _ _ _ _ h1 _ _ => hf.2 j (by simpa using h1), fun k _ => hf.I (by decide), h3, hf.I (by decide), fun hT => hT.of (hf.I (by decide)) (fun j => hf.A (by decide)) (fun k => hf.R (by decide))⟩
/-- of the class's Tape but how long it is -/
theorem w_k.s16 (hf : z_fr [16] h h') (h3 : z_I h' 16 1 = z_I h 16 1) : w_k h h' :=
  ⟨hf.1, fun j _ h1 _ _ _ _ _ => hf.2 j (by simpa using h1), fun k _ => hf.I (by decide), hf.I (by decide), h3, fun hT => hT.of (hf.I (by decide)) (fun j => hf.A (by decide)) (fun k => hf.R (by decide))⟩
theorem w_k.at (hk : w_k h h') (h1 : a ∉ w_sc) (h2 : a ≠ 16 ∧ a ≠ 48 ∧ a ≠ 58 ∧ a ≠ 64 ∧ a ≠ 68 ∧ a < 97) : h'[a]? = h[a]? := hk.2.1 a h1 h2.1 h2.2.1 h2.2.2.1 h2.2.2.2.1 h2.2.2.2.2.1 (.inr h2.2.2.2.2.2)
theorem w_k.sh (hk : w_k h h') (hS : z_Sh h) : z_Sh h' := hS.of hk.1 (fun j hj => hk.2.1 j (fun z => by simp only [w_sc, List.mem_cons, List.not_mem_nil, or_false] at z; omega) (by omega) (by omega) (by omega) (by omega) (by omega) (.inr (by omega)))
theorem q_mS.kp {cls : List q_C} (hk : w_k h h') (hq : q_mS h a cls) : q_mS h' a cls := hq.of (fun a j ha => z_A_of (hk.at (by simp only [w_sc]; intro z; simp only [List.mem_cons, List.not_mem_nil, or_false] at z; omega) (by omega)))
theorem z_LF.kp (hk : w_k h h') (hL : z_LF h p lw) : z_LF h' p lw := by
  obtain ⟨⟨w1, w2, w3⟩, hp97, bt, hbt, hlw⟩ := hL
  have e0 : h'[p]? = h[p]? := by
    rcases hp97 with h97 | rfl
    · refine hk.2.1 p (fun z => by simp only [w_sc, List.mem_cons, List.not_mem_nil, or_false] at z; omega) (by omega) (by omega) (by omega) (by omega) (by omega) (.inl ?_)
      rw [w1]; intro z; cases z
    · exact hk.at (by decide) (by decide)
  have e1 : h'[p + 1]? = h[p + 1]? := by
    rcases hp97 with h97 | rfl
    · refine hk.2.1 (p + 1) (fun z => by simp only [w_sc, List.mem_cons, List.not_mem_nil, or_false] at z; omega) (by omega) (by omega) (by omega) (by omega) (by omega) (.inl ?_)
      rw [w2]; intro z; cases z
    · exact hk.at (by decide) (by decide)
  refine ⟨⟨(hk.1 _).trans w1, (hk.1 _).trans w2, (hk.1 _).trans w3⟩, hp97, bt, (z_I_of e0).trans hbt, ?_⟩
  match lw, hlw with
  | none, hlw => exact (z_I_of e0).trans hlw
  | some cls, ⟨c1, c2⟩ => exact ⟨⟨⟨(hk.1 _).trans w1, (hk.1 _).trans w2, (hk.1 _).trans w3⟩, (z_I_of e0).trans c1.2.1, c1.2.2.1, fun i o e => by rw [z_A_of e1]; exact c1.2.2.2 i o e⟩, c2⟩
theorem w_laws.kp (hk : w_k h h') (hL : w_laws h lw p) : w_laws h' lw p := by
  obtain ⟨m, cs, ps, m1, m2, m3, m4, m5, m6⟩ := hL
  have e15 : h'[15]? = h[15]? := hk.at (by decide) (by decide)
  have e42 : h'[42]? = h[42]? := hk.at (by decide) (by decide)
  refine ⟨m, cs, ps, m1, (z_I_of e15).trans m2, (hk.2.2.1 13 (by omega)).trans m3, fun i hi => ⟨(z_Q_of e42).trans (m4 i hi).1, (m4 i hi).2.1, (m4 i hi).2.2.1.kp hk, (m4 i hi).2.2.2.kp hk⟩, m5.kp hk, ?_⟩
  rw [z_I_of e15, hk.2.2.1 28 (by omega)]
  exact m6
theorem w_vil.kp (hk : w_k h h') (hV : w_vil h n w T Wd f) : w_vil h' n w T Wd f := by
  obtain ⟨v1, v2, v3, ⟨v4, v5, v6⟩, v7, v8⟩ := hV
  refine ⟨v1, v2.of v1.1 v1.2.1 (hk.at (by decide) (by decide)) (hk.at (by decide) (by decide)) (hk.at (by decide) (by decide)) (hk.at (by decide) (by decide)) (hk.at (by decide) (by decide)), (hk.2.2.1 24 (by omega)).trans v3, ⟨(hk.2.2.1 25 (by omega)).trans v4, fun j hj => ?_, fun j hj => ?_⟩, fun j hj => ?_, fun x hx => ?_⟩
  · rw [z_A_of (hk.at (by decide) (by decide))]; exact v5 j hj
  · rw [z_A_of (hk.at (by decide) (by decide))]; exact v6 j hj
  · rw [z_A_of (hk.at (by decide) (by decide))]; exact v7 j hj
  · rw [z_A_of (hk.at (by decide) (by decide))]; exact v8 x hx
theorem w_tape.kp (hk : w_k h h') (hT : w_tape h) : w_tape h' := by
  obtain ⟨l, l1, l2, l3, l4⟩ := hT
  refine ⟨l, l1, hk.2.2.2.2.1.trans l2, (hk.2.2.1 2 (by omega)).trans l3, fun i hi => ?_⟩
  rw [z_A_of (hk.at (by decide) (by decide)), z_A_of (hk.at (by decide) (by decide))]
  exact l4 i hi
theorem w_acts.kp (hk : w_k h h') (hA : w_acts h n T f) : w_acts h' n T f := by
  obtain ⟨c, nx, H, S, l, a1, a2, a3, a4, a5, a6, a7, a8, a9, a10, a11, a12⟩ := hA
  have e : ∀ a, a ∈ [29, 33, 43, 44, 45, 46, 47, 86] → h'[a]? = h[a]? := by
    intro a ha
    simp only [List.mem_cons, List.not_mem_nil, or_false] at ha
    rcases ha with rfl | rfl | rfl | rfl | rfl | rfl | rfl | rfl
    all_goals exact hk.at (by decide) (by decide)
  refine ⟨c, nx, H, S, l, a1, a2, (z_I_of (e 43 (by decide))).trans a3, (hk.2.2.1 31 (by omega)).trans a4, (z_I_of (e 43 (by decide))).trans a5, fun j hj k hk' => ?_, a7, a8, fun j hj => ?_, a10, (z_I_of (e 29 (by decide))).trans a11, fun i h1 h2 => ?_⟩
  · rw [z_A_of (e 86 (by decide))]; exact a6 j hj k hk'
  · rw [z_A_of (e 44 (by decide)), z_A_of (e 45 (by decide)), z_A_of (e 46 (by decide)), z_A_of (e 47 (by decide))]; exact a9 j hj
  · rw [z_A_of (e 33 (by decide))]; exact a12 i h1 h2
theorem w_img.kp (hn : n ≤ 12) (hw : w ≤ 16) (hk : w_k h h') (hI : w_img h n w T Wd) : w_img h' n w T Wd := by
  obtain ⟨im, i1, i2, i3⟩ := hI
  refine ⟨im, (z_I_of (hk.at (by decide) (by decide))).trans i1, (hk.2.2.1 49 (by omega)).trans i2, fun z => ?_⟩
  obtain ⟨h0, s, s1, s2, s3⟩ := i3 z
  exact ⟨h0, s, fun j hj => by rw [z_A_of (hk.at (by decide) (by decide))]; exact s1 j hj, s2.of hn hw (hk.at (by decide) (by decide)) (hk.at (by decide) (by decide)) (hk.at (by decide) (by decide)) (hk.at (by decide) (by decide)) (hk.at (by decide) (by decide)), s3⟩
theorem w_seen.kp (hk : w_k h h') (hN : w_seen h) : w_seen h' := by
  obtain ⟨s, s1, s2, s3, s4⟩ := hN
  refine ⟨s, s1, hk.2.2.2.1.trans s2, (hk.2.2.1 47 (by omega)).trans s3, fun i hi => ?_⟩
  rw [z_A_of (hk.at (by decide) (by decide)), z_A_of (hk.at (by decide) (by decide)), z_A_of (hk.at (by decide) (by decide)), z_A_of (hk.at (by decide) (by decide))]
  exact s4 i hi
theorem w_mist.kp (hk : w_k h h') (hN : w_mist h) : w_mist h' := by
  obtain ⟨v, v1, v2, v3⟩ := hN
  exact ⟨v, v1, (z_I_of (hk.at (by decide) (by decide))).trans v2, (hk.2.2.1 29 (by omega)).trans v3⟩
theorem w_S.kp (hk : w_k h h') (hR : w_S h n w T Wd f lw p) : w_S h' n w T Wd f lw p := by
  obtain ⟨r1, r2, r3, r4, r5, r6, r7, r8, r9⟩ := hR
  exact ⟨hk.sh r1, r2.kp hk, r3.kp hk, r4.kp hk, r5.kp hk, r6.kp r2.1.1 r2.1.2.1 hk, r7.kp hk, r8.kp hk, hk.2.2.2.2.2 r9⟩
theorem w_k.c0 (hk : w_k h h') : h'[0]? = h[0]? := hk.at (by decide) (by decide)
/-- what the walks need, out of the relation -/
theorem w_laws.LH (hL : w_laws h lw p) : z_LH h p lw := by
  obtain ⟨m, cs, ps, m1, m2, m3, m4, m5, m6⟩ := hL
  rcases m6 with ⟨a1, a2, rfl, rfl⟩ | ⟨k, k1, k2, k3, rfl, rfl⟩
  · exact ⟨m5, .inl ⟨a1, rfl⟩⟩
  · exact ⟨(m4 k k1).2.2.1, .inr ⟨k, by omega, k2, (m4 k k1).1⟩⟩
theorem w_S.MC (hR : w_S h n w T Wd f lw p) : z_MC h n w T Wd f lw (2 ^ n - 1) := by
  obtain ⟨r1, ⟨v1, v2, v3, v4, v5, v6⟩, ⟨m, cs, ps, m1, m2, m3, m4, m5, m6⟩, -⟩ := hR
  refine ⟨r1, ⟨v3, v4, v5, ?_⟩, v6⟩
  rcases m6 with ⟨a1, a2, rfl, rfl⟩ | ⟨k, k1, k2, k3, rfl, rfl⟩
  · exact a2
  · obtain ⟨x1, x2, ⟨y1, y2, bt, y3, y4, y5, y6⟩, x4⟩ := m4 k k1
    exact ⟨k, by omega, k3, x4, y5⟩
end KK
