-- the law's start: what is known of the classes
theorem gl_cls {args : Array Value} {s : State} (hts : ∀ w ∈ lw_tbl, w.before args s = true) : ∃ D : va_G, ∀ (c : Nat) (q : vw_C), fw_cls[c]? = some q → u_Kn s q.1 q.2.1 q.2.2 (D.1 c) (D.2 c) := by
  have h : ∀ c : Nat, ∃ x : ClassId × (Nat → Nat), ∀ q : vw_C, fw_cls[c]? = some q → u_Kn s q.1 q.2.1 q.2.2 x.1 x.2 := by
    intro c
    match c with
    | 0 => obtain ⟨a, b, hk⟩ := u_known (C := RX0) (T := TX0) (N := 6) (n := 6) hts (by decide +kernel) (hts _ (by decide +kernel)); exact ⟨(a, b), fun q hq => by cases hq; exact hk⟩
    | 1 => obtain ⟨a, b, hk⟩ := u_known (C := RX1) (T := TX1) (N := 5) (n := 5) hts (by decide +kernel) (hts _ (by decide +kernel)); exact ⟨(a, b), fun q hq => by cases hq; exact hk⟩
    | 2 => obtain ⟨a, b, hk⟩ := u_known (C := RX2) (T := TX2) (N := 2) (n := 2) hts (by decide +kernel) (hts _ (by decide +kernel)); exact ⟨(a, b), fun q hq => by cases hq; exact hk⟩
    | 3 => obtain ⟨a, b, hk⟩ := u_known (C := RX0) (T := TX0) (N := 6) (n := 6) hts (by decide +kernel) (hts _ (by decide +kernel)); exact ⟨(a, b), fun q hq => by cases hq; exact hk⟩
    | 4 => obtain ⟨a, b, hk⟩ := u_known (C := RX4) (T := TX4) (N := 9) (n := 9) hts (by decide +kernel) (hts _ (by decide +kernel)); exact ⟨(a, b), fun q hq => by cases hq; exact hk⟩
    | 5 => obtain ⟨a, b, hk⟩ := u_known (C := RX5) (T := TX5) (N := 3) (n := 3) hts (by decide +kernel) (hts _ (by decide +kernel)); exact ⟨(a, b), fun q hq => by cases hq; exact hk⟩
    | 6 => obtain ⟨a, b, hk⟩ := u_known (C := RX6) (T := TX6) (N := 4) (n := 4) hts (by decide +kernel) (hts _ (by decide +kernel)); exact ⟨(a, b), fun q hq => by cases hq; exact hk⟩
    | 7 => obtain ⟨a, b, hk⟩ := u_known (C := RX7) (T := TX7) (N := 15) (n := 15) hts (by decide +kernel) (hts _ (by decide +kernel)); exact ⟨(a, b), fun q hq => by cases hq; exact hk⟩
    | 8 => obtain ⟨a, b, hk⟩ := u_known (C := RX8) (T := TX8) (N := 4) (n := 4) hts (by decide +kernel) (hts _ (by decide +kernel)); exact ⟨(a, b), fun q hq => by cases hq; exact hk⟩
    | 9 => obtain ⟨a, b, hk⟩ := u_known (C := RX9) (T := TX9) (N := 16) (n := 16) hts (by decide +kernel) (hts _ (by decide +kernel)); exact ⟨(a, b), fun q hq => by cases hq; exact hk⟩
    | 10 => obtain ⟨a, b, hk⟩ := u_known (C := RX10) (T := TX10) (N := 5) (n := 5) hts (by decide +kernel) (hts _ (by decide +kernel)); exact ⟨(a, b), fun q hq => by cases hq; exact hk⟩
    | 11 => obtain ⟨a, b, hk⟩ := u_known (C := RX11) (T := TX11) (N := 16) (n := 16) hts (by decide +kernel) (hts _ (by decide +kernel)); exact ⟨(a, b), fun q hq => by cases hq; exact hk⟩
    | 12 => obtain ⟨a, b, hk⟩ := u_known (C := RX12) (T := TX12) (N := 50) (n := 50) hts (by decide +kernel) (hts _ (by decide +kernel)); exact ⟨(a, b), fun q hq => by cases hq; exact hk⟩
    | n + 13 => exact ⟨((0 : Nat), fun _ => 0), fun q hq => by cases hq⟩
  exact ⟨(fun c => (Classical.choose (h c)).1, fun c => (Classical.choose (h c)).2), fun c q hq => Classical.choose_spec (h c) q hq⟩
theorem gl_nA {s : State} : ∀ a : Nat, a < s.heap.size → ¬ (fun q : Nat => s.heap.size ≤ q) a := fun a ha hn => absurd ha (Nat.not_lt.mpr hn)
theorem gl_KX {args : Array Value} {s : State} (hts : ∀ w ∈ lw_tbl, w.before args s = true) (hgv : (Jvm.Cond.and given_1 narrow_1).before args s = true) :
    vx_Zq Bundle.tN "UNASSIGNED_STACK" Bundle.steD (fun q : Nat => s.heap.size ≤ q) s s.heap ∧ vx_Zq Bundle.tN "SUPPRESSED_SENTINEL" Bundle.listD (fun q : Nat => s.heap.size ≤ q) s s.heap ∧ ∀ w ∈ fw_nw, w.before #[] s = true := by
  have hs := flat_of_before _ hgv
  refine ⟨vx_Zqof (hts _ (by decide +kernel)) (hts _ (by decide +kernel)) (hs _ (by decide +kernel)) gl_nA, vx_Zqof (hts _ (by decide +kernel)) (hts _ (by decide +kernel)) (hs _ (by decide +kernel)) gl_nA, fun w hw => ?_⟩
  have h2 : w ∈ lw_tbl := (show ∀ w ∈ fw_nw, w ∈ lw_tbl by decide +kernel) w hw
  exact va_tabs (List.all_eq_true.mp hx_x3 w hw) rfl (hts w h2)
theorem gl_AO {args : Array Value} {s : State} (hts : ∀ w ∈ lw_tbl, w.before args s = true) : va_AO RX1 s := va_AO.of (hts (.arrayOver (.object RX1)) (by decide +kernel))
theorem gl_CS {args : Array Value} {s : State} (hts : ∀ w ∈ lw_tbl, w.before args s = true) (hgv : (Jvm.Cond.and given_1 narrow_1).before args s = true) : va_Z RJ0 "COMPACT_STRINGS" "Z" (.int 1) (fun q : Nat => s.heap.size ≤ q) s s.heap := by
  have hs := flat_of_before _ hgv
  exact va_Zof (hts _ (by decide +kernel)) (hts _ (by decide +kernel)) (va_eqt (hs (.eq (.static RJ0 "COMPACT_STRINGS" "Z") (.int 1)) (by decide +kernel))) gl_nA
def gl_sv : List (List Int32) := [[11, 23, 1], [9, 9, 9, 9, 9, 1], [11, 11, 1], [0, 0, 0], [5, 1, 1, 0, 0, 0], [0, 1, 0]]
def gl_tm (k : Nat) : Term := .static RX8 (fw_stn k) "[I"
def gl_fl : List Cond := flatC (Jvm.Cond.and given_1 narrow_1)
theorem gl_d1 : ∀ k, k < 6 → Cond.arrayOf (gl_tm k) .int ∈ gl_fl := by decide +kernel
theorem gl_d2 : ∀ k, k < 6 → Cond.eq (.length (gl_tm k)) (.int (Int32.ofNat (gl_sv.getD k []).length)) ∈ gl_fl := by decide +kernel
theorem gl_d3 : ∀ k, k < 6 → ∀ j, j < (gl_sv.getD k []).length → Cond.eq (.elem (gl_tm k) (.int (Int32.ofNat j))) (.int ((gl_sv.getD k []).getD j 0)) ∈ gl_fl := by decide +kernel
theorem gl_d4 : ∀ k, k < 6 → Cond.laysStatic RX8 (fw_stn k) "[I" ∈ lw_tbl := by decide +kernel
theorem gl_d5 : Cond.initialized RX8 ∈ lw_tbl := by decide +kernel
theorem gl_d6 : ∀ k, k < 6 → (gl_sv.getD k []).length < 2 ^ 31 := by decide +kernel
theorem gl_sta {args : Array Value} {s : State} (hts : ∀ w ∈ lw_tbl, w.before args s = true) (hs : ∀ w ∈ gl_fl, w.before args s = true) {k : Nat} (hk : k < 6) :
    ∃ t : Nat, va_Z RX8 (fw_stn k) "[I" (.ref t) (fun q : Nat => s.heap.size ≤ q) s s.heap ∧ va_T .int t (gl_sv.getD k []).length (fun j => .int ((gl_sv.getD k []).getD j 0)) (fun q : Nat => s.heap.size ≤ q) s s.heap := by
  obtain ⟨t, ht, hT⟩ := va_Tof (f := fun j => .int ((gl_sv.getD k []).getD j 0)) (A := fun q : Nat => s.heap.size ≤ q) (gl_d6 k hk) (hs _ (gl_d1 k hk)) (va_eqt (hs _ (gl_d2 k hk))) (fun j hj => va_eqt (hs _ (gl_d3 k hk j hj))) gl_nA
  exact ⟨t, va_Zref (hts _ (gl_d4 k hk)) (hts _ gl_d5) ht gl_nA, hT⟩
def gl_str (k : Nat) : Term := .string (fw_own k) (fw_idx k)
theorem gl_e1 : ∀ k, k < 4 → Cond.exactly (gl_str k) "java/lang/String" ∈ gl_fl ∧ Cond.eq (.field (gl_str k) "java/lang/String" "coder" "B") (.int 0) ∈ gl_fl ∧ Cond.arrayOf (.field (gl_str k) "java/lang/String" "value" "[B") .byte ∈ gl_fl ∧ Cond.eq (.length (.field (gl_str k) "java/lang/String" "value" "[B")) (.int (Int32.ofNat (fw_len.getD k 0))) ∈ gl_fl ∧ fw_len.getD k 0 < 2 ^ 31 := by decide +kernel
theorem gl_e2 : ∀ k, k < 4 → ∀ j, j < fw_len.getD k 0 → Cond.eq (.elem (.field (gl_str k) "java/lang/String" "value" "[B") (.int (Int32.ofNat j))) (.int ((fw_byt.getD k []).getD j 0)) ∈ gl_fl := by decide +kernel
theorem gl_e3 : ∀ k, k < 4 → ∀ j, j < 4 → k ≠ j → Cond.not (Cond.eq (gl_str k) (gl_str j)) ∈ gl_fl ∨ Cond.not (Cond.eq (gl_str j) (gl_str k)) ∈ gl_fl := by decide +kernel
theorem gl_e4 : ∀ k, k < 4 → Cond.stringRef (fw_own k) (fw_idx k) (fw_txt k) ∈ lw_tbl := by decide +kernel
theorem gl_strs {args : Array Value} {s : State} (hts : ∀ w ∈ lw_tbl, w.before args s = true) (hs : ∀ w ∈ gl_fl, w.before args s = true) :
    ∃ adK adV : Nat → Nat, vk_S 4 fw_len fw_byt adK adV (fun q : Nat => s.heap.size ≤ q) s s.heap ∧ ∀ k : Nat, k < 4 → vk_R (fw_own k) (fw_idx k) (fw_txt k) (adK k) s := by
  obtain ⟨adK, adV, h1, h2⟩ := vk_Sof (args := args) (s := s) (N := 4) (tm := gl_str) (len := fw_len) (byt := fw_byt) (A := fun q : Nat => s.heap.size ≤ q) (fun i hi => (gl_e1 i hi).2.2.2.2) (fun i hi => hs _ (gl_e1 i hi).1) (fun i hi => hs _ (gl_e1 i hi).2.1) (fun i hi => hs _ (gl_e1 i hi).2.2.1) (fun i hi => hs _ (gl_e1 i hi).2.2.2.1) (fun i hi j hj => hs _ (gl_e2 i hi j hj))
    (fun i j hi hj hij => (gl_e3 i hi j hj hij).imp (fun z => hs _ z) (fun z => hs _ z)) gl_nA
  exact ⟨adK, adV, h1, fun k hk => vk_R.of (hts _ (gl_e4 k hk)) (h2 k hk)⟩
