-- TEXTS: what the JDK's own methods do with the class's four literals (cells 7..10; their bytes: cells 11..14)
def f_str (h : fw_H) (r : Option Nat) : Option Nat := (f_txt h r).bind fun k => if k < 4 then some k else none
def f_byt (h : fw_H) (r : Option Nat) : Option Nat := (f_txt h r).bind fun k => if 4 ≤ k then some (k - 4) else none
def f_ckS (h : fw_H) (r : Option Nat) : Option Unit := (f_str h r).bind fun _ => some ()
def f_gS (h : fw_H) (r : Option Nat) : Option (Option Nat) := (f_str h r).bind fun k => some (some (k + 11))
def f_gC (h : fw_H) (r : Option Nat) : Option Int32 := (f_str h r).bind fun _ => some 0
def f_lnY (h : fw_H) (r : Option Nat) : Option Int32 := (f_byt h r).bind fun k => some (Int32.ofNat (fw_len.getD k 0))
def f_aY (h : fw_H) (r : Option Nat) (i : Int32) : Option Int32 := (f_byt h r).bind fun k => if ¬ i < 0 ∧ i.toNatClampNeg < fw_len.getD k 0 then some ((fw_byt.getD k []).getD i.toNatClampNeg 0) else none
def f_toY (x : Int32) : Option Int32 := if x.toInt8.toInt32 = x then some x else none
def fw_i2b (x : Int32) : Int32 := x.toInt8.toInt32
def fw_okT (M : fw_M) (np : Nat) : Prop := fw_ok M np ∧ Cond.instanceMethod M.1 ∈ fw_tb ∧ Cond.selects M.1.cls M.1 M.1 ∈ fw_tb ∧ M.1.cls = "java/lang/String"
section TX
variable {G : fw_G} {M : fw_M} {α : Type} {E : α → Option fw_V × fw_H} {d k n i pc q : Nat} {lv : fw_L} {st : List fw_V} {h : fw_H} {t : Option α}
theorem fw_str_at {h : fw_H} {r : Option Nat} {j : Nat} (e : f_str h r = some j) : j < 4 ∧ ∃ a, r = some a ∧ h[a]? = some (fw_XS j) := by
  obtain ⟨k, h1, h2⟩ := fw_bd e
  obtain ⟨a, e1, e2⟩ := fw_txt_at h1
  by_cases hk : k < 4
  · rw [if_pos hk] at h2
    cases h2
    exact ⟨hk, a, e1, e2⟩
  · rw [if_neg hk] at h2; cases h2
theorem fw_byt_at {h : fw_H} {r : Option Nat} {j : Nat} (e : f_byt h r = some j) : ∃ a, r = some a ∧ h[a]? = some (fw_XS (j + 4)) := by
  obtain ⟨k, h1, h2⟩ := fw_bd e
  obtain ⟨a, e1, e2⟩ := fw_txt_at h1
  by_cases hk : 4 ≤ k
  · rw [if_pos hk] at h2
    cases h2
    exact ⟨a, e1, by rw [e2, show k - 4 + 4 = k by omega]⟩
  · rw [if_neg hk] at h2; cases h2
/-- a text's object and its bytes, in the heap as it is -/
theorem fw_text {H : Heap} {s : State} {j : Nat} (hP : fw_P G H h) (hK : fw_K G s) (hj : j < 4) : va_O "java/lang/String" (fw_ext G (j + 7)) (fw_A G) s H ∧ va_OF "java/lang/String" "coder" "B" (.int 0) (fw_ext G (j + 7)) (fw_A G) s H ∧ va_OF "java/lang/String" "value" "[B" (.ref (fw_ext G (j + 11))) (fw_ext G (j + 7)) (fw_A G) s H ∧ va_T .byte (fw_ext G (j + 11)) (fw_len.getD j 0) (fun q => .int ((fw_byt.getD j []).getD q 0)) (fw_A G) s H :=
  (hK.2.2.2.2.1.kept (fun a ha _ => hP.2.2.1 a ha)).1 j hj
theorem r_gS {x0 : Option Nat} {idx : Nat} {K : Option Nat → Option α} (hw : Cond.fieldLink M.1.cls idx "java/lang/String" "value" "[B" ∈ fw_tb) (hd : M.2.2.2.2[i]? = some (pc, .getfield idx, q)) (hq : pc + 3 = q) (kk : ∀ x, fw_R G M E d k n q lv (fw_r x :: st) h (K x)) : fw_R G M E d k n pc lv (fw_r x0 :: st) h ((f_gS h x0).bind K) := by
  subst hq
  intro r hr l p e R s m args below meth c H ls locs cells slots Q C X
  obtain ⟨x, hx, hK⟩ := fw_bd hr
  obtain ⟨j, ho, hv⟩ := fw_bd hx
  obtain ⟨hj, a, rfl, ho'⟩ := fw_str_at ho
  cases hv
  obtain ⟨ha, -, ea⟩ := X.2.2.2.2.1.2.2.2 a _ ho'
  subst ea
  obtain ⟨-, -, ⟨cf, k', fi, f, cell, h1, h2, h3, h4, h5, h6⟩, -⟩ := fw_text X.2.2.2.2.1 C.2.2.2.2.2.2.2.2.1 hj
  have K9 := kk _ r hK l p e R s m args below meth c H ls locs cells slots Q C X
  rw [List.map_cons, fw_rf, fw_ad_ext (by omega)] at K9
  rw [List.map_cons, fw_rf, fw_ad_ext (by omega)]
  exact W.getf C.1 C.2.1 C.2.2.2.2.2.1 (C.2.2.2.2.2.2.2.1 _ hw) h1 h2 h3 h4 h5 rfl rfl (C.dec hd (by omega)) K9
theorem r_gC {x0 : Option Nat} {idx : Nat} {K : Int32 → Option α} (hw : Cond.fieldLink M.1.cls idx "java/lang/String" "coder" "B" ∈ fw_tb) (hd : M.2.2.2.2[i]? = some (pc, .getfield idx, q)) (hq : pc + 3 = q) (kk : ∀ x, fw_R G M E d k n q lv (fw_i x :: st) h (K x)) : fw_R G M E d k n pc lv (fw_r x0 :: st) h ((f_gC h x0).bind K) := by
  subst hq
  intro r hr l p e R s m args below meth c H ls locs cells slots Q C X
  obtain ⟨x, hx, hK⟩ := fw_bd hr
  obtain ⟨j, ho, hv⟩ := fw_bd hx
  obtain ⟨hj, a, rfl, ho'⟩ := fw_str_at ho
  cases hv
  obtain ⟨ha, -, ea⟩ := X.2.2.2.2.1.2.2.2 a _ ho'
  subst ea
  obtain ⟨-, ⟨cf, k', fi, f, cell, h1, h2, h3, h4, h5, h6⟩, -, -⟩ := fw_text X.2.2.2.2.1 C.2.2.2.2.2.2.2.2.1 hj
  have K9 := kk _ r hK l p e R s m args below meth c H ls locs cells slots Q C X
  rw [List.map_cons, fw_rf, fw_ad_ext (by omega)]
  exact W.getf C.1 C.2.1 C.2.2.2.2.2.1 (C.2.2.2.2.2.2.2.1 _ hw) h1 h2 h3 h4 h5 rfl rfl (C.dec hd (by omega)) K9
theorem r_getsC {idx : Nat} (hw : Cond.fieldLink M.1.cls idx RJ0 "COMPACT_STRINGS" "Z" ∈ fw_tb) (hd : M.2.2.2.2[i]? = some (pc, .getstatic idx, q)) (hq : pc + 3 = q) (kk : fw_R G M E d k n q lv (fw_i 1 :: st) h t) : fw_R G M E d k n pc lv st h t := by
  subst hq
  intro r hr l p e R s m args below meth c H ls locs cells slots Q C X
  obtain ⟨cf, kf, fi, f, a, cell, h1, h2, h3, h4, h5, h6, h7, h8⟩ := C.2.2.2.2.2.2.2.2.1.2.2.2.1
  have K9 := kk r hr l p e R s m args below meth c H ls locs cells slots Q C X
  exact W.gets C.1 C.2.1 C.2.2.2.2.2.1 (C.2.2.2.2.2.2.2.1 _ hw) h1 h2 h3 h4 (by rw [X.2.2.2.2.1.2.2.1 a (Array.getElem?_eq_some_iff.mp h5).1]; exact h5) (fun e => by rw [e] at h6; cases h6) h7 rfl (C.dec hd (by omega)) K9
theorem r_lnY {x0 : Option Nat} {K : Int32 → Option α} (hd : M.2.2.2.2[i]? = some (pc, .arraylength, q)) (hq : pc + 1 = q) (kk : ∀ x, fw_R G M E d k n q lv (fw_i x :: st) h (K x)) : fw_R G M E d k n pc lv (fw_r x0 :: st) h ((f_lnY h x0).bind K) := by
  subst hq
  intro r hr l p e R s m args below meth c H ls locs cells slots Q C X
  obtain ⟨x, hx, hK⟩ := fw_bd hr
  obtain ⟨j, ho, hv⟩ := fw_bd hx
  obtain ⟨a, rfl, ho'⟩ := fw_byt_at ho
  cases hv
  obtain ⟨ha, hk8, ea⟩ := X.2.2.2.2.1.2.2.2 a _ ho'
  subst ea
  obtain ⟨-, -, -, cell, t1, t2, t3, t4, t5, t6, t7⟩ := fw_text (j := j) X.2.2.2.2.1 C.2.2.2.2.2.2.2.2.1 (by omega)
  rw [List.map_cons, fw_rf, fw_ad_ext (by omega), show j + 4 + 7 = j + 11 by omega]
  exact W.alen C.1 C.2.1 t1 t2 t5 rfl rfl (C.dec hd (by omega)) (kk _ r hK l p e R s m args below meth c H ls locs cells slots Q C X)
theorem r_aY {x0 : Option Nat} {j : Int32} {K : Int32 → Option α} (hd : M.2.2.2.2[i]? = some (pc, .baload, q)) (hq : pc + 1 = q) (kk : ∀ x, fw_R G M E d k n q lv (fw_i x :: st) h (K x)) : fw_R G M E d k n pc lv (fw_i j :: fw_r x0 :: st) h ((f_aY h x0 j).bind K) := by
  subst hq
  intro r hr l p e R s m args below meth c H ls locs cells slots Q C X
  obtain ⟨x, hx, hK⟩ := fw_bd hr
  obtain ⟨z, ho, hv⟩ := fw_bd hx
  obtain ⟨a, rfl, ho'⟩ := fw_byt_at ho
  by_cases hin : ¬ j < 0 ∧ j.toNatClampNeg < fw_len.getD z 0
  · rw [if_pos hin] at hv
    cases hv
    obtain ⟨ha, hk8, ea⟩ := X.2.2.2.2.1.2.2.2 a _ ho'
    subst ea
    obtain ⟨-, -, -, cell, t1, t2, t3, t4, t5, t6, t7⟩ := fw_text (j := z) X.2.2.2.2.1 C.2.2.2.2.2.2.2.2.1 (by omega)
    rw [List.map_cons, List.map_cons, fw_rf, fw_ad_ext (by omega), show z + 4 + 7 = z + 11 by omega]
    exact W.bald (v := .int ((fw_byt.getD z []).getD j.toNatClampNeg 0)) C.1 C.2.1 t1 t2 t3 (by intro y; rcases y with y | y; exact hin.1 y; omega) (t6 _ hin.2) rfl rfl (C.dec hd (by omega)) (kk _ r hK l p e R s m args below meth c H ls locs cells slots Q C X)
  · rw [if_neg hin] at hv; cases hv
theorem r_i2b {x : Int32} (hd : M.2.2.2.2[i]? = some (pc, .i2b, q)) (hq : pc + 1 = q) (kk : fw_R G M E d k n q lv (fw_i (fw_i2b x) :: st) h t) : fw_R G M E d k n pc lv (fw_i x :: st) h t := by
  subst hq
  intro r hr l p e R s m args below meth c H ls locs cells slots Q C X
  exact lv_i2b C.1 C.2.1 (C.dec hd (by omega)) rfl (kk r hr l p e R s m args below meth c H ls locs cells slots Q C X)
theorem r_ckS {x0 : Option Nat} {K : Unit → Option α} (kk : fw_R G M E d k n pc lv st h (K ())) : fw_R G M E d k n pc lv st h ((f_ckS h x0).bind K) := by
  intro r hr l p e R s m args below meth c H ls locs cells slots Q C X
  obtain ⟨x, hx, hK⟩ := fw_bd hr
  exact kk r hK l p e R s m args below meth c H ls locs cells slots Q C X
theorem fw_ckbS {v0 : Option Nat} {β : Type} {f : Unit → Option β} {x : β} (e : (f_ckS h v0).bind f = some x) : f_ckS h v0 = some () := by
  obtain ⟨y, hy, -⟩ := fw_bd e
  exact hy
theorem r_retY {x : Int32} {K : Int32 → Option α} (hE : ∀ y, x = y → ∃ x0, K y = some x0 ∧ E x0 = (some (fw_i y), h)) (hrn : M.2.2.2.1 = some .byte) (hd : M.2.2.2.2[i]? = some (pc, .ireturn, q)) (hq : pc + 1 = q) : fw_R G M E d k n pc lv [fw_i x] h ((f_toY x).bind K) := by
  unfold f_toY
  by_cases hx : x.toInt8.toInt32 = x
  · rw [if_pos hx]
    obtain ⟨x0, e1, e2⟩ := hE x rfl
    show fw_R G M E d k n pc lv [fw_i x] h (K x)
    rw [e1]
    exact r_ret e2 ⟨.byte, hrn, by rw [narrow_byte, hx]⟩ hd hq
  · rw [if_neg hx]
    exact r_none
theorem r_callT {β : Type} {M' : fw_M} {E' : β → Option fw_V × fw_H} {t' : Option β} {K : β → Option α} {np d' k' n' k2 n2 idx : Nat} {As rest : List fw_V} {v0 : Option Nat} (ok : fw_okT M' np) (hml : Cond.methodLink M.1.cls idx M'.1 ∈ fw_tb) (hc : fw_Call G M' E' d' k' n' (fw_r v0 :: As) h t') (hck : ∀ x, t' = some x → f_ckS h v0 = some ()) (hnp : As.length = np) (hdd : d' + 1 ≤ d) (hk : k' + k2 ≤ k) (hn : n' + n2 ≤ n) (hs : fw_sz rest ≤ 8) (hst : st = As.reverse ++ fw_r v0 :: rest)
    (hd : M.2.2.2.2[i]? = some (pc, .invokevirtual idx, q)) (hq : pc + 3 = q) (kk : ∀ x, fw_R G M E d k2 n2 q lv ((E' x).1.toList ++ rest) (E' x).2 (K x)) : fw_R G M E d k n pc lv st h (t'.bind K) := by
  subst hq
  subst hst
  intro r hr l p e R s m args below meth c H ls locs cells slots Q C X
  obtain ⟨x, hx, hK⟩ := fw_bd hr
  obtain ⟨j, ho, -⟩ := fw_bd (hck x hx)
  obtain ⟨hj, a, rfl, ho'⟩ := fw_str_at ho
  obtain ⟨⟨ok1, ok2, ok3, ok4, ok5, ok6, -⟩, okV, okW, okc⟩ := ok
  obtain ⟨ha, -, ea⟩ := X.2.2.2.2.1.2.2.2 a _ ho'
  obtain ⟨⟨cellB, g1, g2, g3, -⟩, -⟩ := fw_text X.2.2.2.2.1 C.2.2.2.2.2.2.2.2.1 hj
  have hts := C.2.2.2.2.2.2.2.1
  have cw := cwV (R := R) (rm := { frames := d - 1, cells := k', slots := n', locals := 60 * (d - 1) }) (mc := k') (ms := n') (bytes := M'.2.1) (maxL := M'.2.2.1) (ret := M'.2.2.2.1) (own := M.1.cls) (index := idx) (C := M'.1.cls) (y := M'.1) (ws := fw_ws M') (ws' := fw_tb) np hts (fw_GoodIn (fun w hw => by
      simp only [wsV, fw_ws, List.cons_append, List.nil_append, List.mem_cons] at hw
      rcases hw with rfl | rfl | rfl | rfl | rfl | hw
      · exact hml
      · exact okV
      · exact okW
      · exact ok6
      · exact ok5
      · exact hw)) rfl rfl rfl ⟨rfl, ok2.1, ok2.2, ok3⟩ (fw_rm hdd X.1 X.2.1 ok4)
  have hrun := va_runV (p := p) (l := l) (e := e) (R := R) (s := s) (m := m) (args := args) (below := below) (meth := meth) (c := c) (H := H) (locs := locs) (cells := cells) (slots := slots) (C := M'.1.cls) (b := fw_ad G a) (As := As.map (fw_tr G)) (rest := rest.map (fw_tr G)) (g := F0 m pc ls ((As.reverse ++ fw_r (some a) :: rest).map (fw_tr G))) ⟨C.1, C.2.1, C.2.2.1, C.2.2.2.2.2.1, hts⟩ (hc x hx l (d - 1) C.2.2.2.2.2.2.2.2.2.2.2 (by omega)) cw
    ⟨fw_Pre.blind, ⟨cellB, by rw [fw_ad_ext ha, ea]; exact g1, g2, by rw [okc]; exact g3⟩, fun U hU hW => ⟨rfl, by rw [hU]; exact X.2.2.2.2.1, C.2.2.2.2.2.2.2.2.1.warm hW, by rw [hU]; have h7 := C.2.2.2.2.2.2.2.2.2.1; have h8 := X.2.2.2.2.2.1; omega⟩⟩
    rfl (by rw [List.length_map]; exact hnp) X.2.2.2.2.2.2.1.1 (by rw [List.map_append, List.map_reverse]; rfl) (by rw [fw_sz_tr]; show 2 * 0 + _ ≤ 8; omega) (C.dec hd (by omega)) ⟨by have := X.2.2.1; omega, by have := X.2.2.2.1; omega⟩
  exact fw_after C X hk hn hrun hK (kk x)
theorem r_TI0 {M' : fw_M} {t' : Option Int32} {K : Int32 → Option α} {d' k' n' k2 n2 idx : Nat} {v0 : Option Nat} {rest : List fw_V} (ok : fw_okT M' 0) (hml : Cond.methodLink M.1.cls idx M'.1 ∈ fw_tb) (hc : fw_Call G M' (fw_eI h) d' k' n' [fw_r v0] h t') (hck : ∀ x, t' = some x → f_ckS h v0 = some ()) (hdd : d' + 1 ≤ d) (hk : k' + k2 ≤ k) (hn : n' + n2 ≤ n) (hs : fw_sz rest ≤ 8) (hd : M.2.2.2.2[i]? = some (pc, .invokevirtual idx, q)) (hq : pc + 3 = q) (kk : ∀ x, fw_R G M E d k2 n2 q lv (fw_i x :: rest) h (K x)) : fw_R G M E d k n pc lv (fw_r v0 :: rest) h (t'.bind K) :=
  r_callT (As := []) (rest := rest) ok hml hc hck rfl hdd hk hn hs rfl hd hq kk
theorem r_TB0 {M' : fw_M} {t' : Option Bool} {K : Bool → Option α} {d' k' n' k2 n2 idx : Nat} {v0 : Option Nat} {rest : List fw_V} (ok : fw_okT M' 0) (hml : Cond.methodLink M.1.cls idx M'.1 ∈ fw_tb) (hc : fw_Call G M' (fw_eB h) d' k' n' [fw_r v0] h t') (hck : ∀ x, t' = some x → f_ckS h v0 = some ()) (hdd : d' + 1 ≤ d) (hk : k' + k2 ≤ k) (hn : n' + n2 ≤ n) (hs : fw_sz rest ≤ 8) (hd : M.2.2.2.2[i]? = some (pc, .invokevirtual idx, q)) (hq : pc + 3 = q) (kk : ∀ x, fw_R G M E d k2 n2 q lv (fw_i (fw_b x) :: rest) h (K x)) : fw_R G M E d k n pc lv (fw_r v0 :: rest) h (t'.bind K) :=
  r_callT (As := []) (rest := rest) ok hml hc hck rfl hdd hk hn hs rfl hd hq kk
theorem r_TI1 {M' : fw_M} {t' : Option Int32} {K : Int32 → Option α} {d' k' n' k2 n2 idx : Nat} {v0 : Option Nat} {v1 : fw_V} {rest : List fw_V} (ok : fw_okT M' 1) (hml : Cond.methodLink M.1.cls idx M'.1 ∈ fw_tb) (hc : fw_Call G M' (fw_eI h) d' k' n' [fw_r v0, v1] h t') (hck : ∀ x, t' = some x → f_ckS h v0 = some ()) (hdd : d' + 1 ≤ d) (hk : k' + k2 ≤ k) (hn : n' + n2 ≤ n) (hs : fw_sz rest ≤ 8) (hd : M.2.2.2.2[i]? = some (pc, .invokevirtual idx, q)) (hq : pc + 3 = q) (kk : ∀ x, fw_R G M E d k2 n2 q lv (fw_i x :: rest) h (K x)) : fw_R G M E d k n pc lv (v1 :: fw_r v0 :: rest) h (t'.bind K) :=
  r_callT (As := [v1]) (rest := rest) ok hml hc hck rfl hdd hk hn hs rfl hd hq kk
theorem r_TI2 {M' : fw_M} {t' : Option Int32} {K : Int32 → Option α} {d' k' n' k2 n2 idx : Nat} {v0 : Option Nat} {v1 v2 : fw_V} {rest : List fw_V} (ok : fw_okT M' 2) (hml : Cond.methodLink M.1.cls idx M'.1 ∈ fw_tb) (hc : fw_Call G M' (fw_eI h) d' k' n' [fw_r v0, v1, v2] h t') (hck : ∀ x, t' = some x → f_ckS h v0 = some ()) (hdd : d' + 1 ≤ d) (hk : k' + k2 ≤ k) (hn : n' + n2 ≤ n) (hs : fw_sz rest ≤ 8) (hd : M.2.2.2.2[i]? = some (pc, .invokevirtual idx, q)) (hq : pc + 3 = q) (kk : ∀ x, fw_R G M E d k2 n2 q lv (fw_i x :: rest) h (K x)) : fw_R G M E d k n pc lv (v2 :: v1 :: fw_r v0 :: rest) h (t'.bind K) :=
  r_callT (As := [v1, v2]) (rest := rest) ok hml hc hck rfl hdd hk hn hs rfl hd hq kk
end TX
