-- AN HOUR GOES BY, the reference (2): pass
section JJ
variable {h g g' : fw_H} {n w i k t x a b l p m e F nn : Nat} {T Wd f f' A : Nat → Int32} {v y : Int32} {As : List Nat} {E : z_E} {lw : Option (List q_C)} {fog : Bool} {q : e_P}
/-- pass, from where it goes on -/
theorem z_passT (hF : 70000 ≤ F) (hS : z_Sh h) (hn : n ≤ 12) (hk : j_ok n f l) (h24 : z_I h 68 24 = nI n) (hT : ∀ j, j < 72 → z_A h 82 j = T j) (hf : ∀ j, j < 118 → z_A h 84 j = f j) (ha : a < n) (hb : b = if a = v_at f then v_be f else v_at f) :
    ∃ g', ((f_gR h (some 68) 12 26).bind fun x47 => (f_aI h x47 (54 : Int32)).bind fun x52 => (if nI a = x52 then ((f_gR h (some 68) 12 26).bind fun x79 => (f_aI h x79 ((24 : Int32) + nI a)).bind fun x87 => (f_sI h x79 ((24 : Int32) + nI a) (x87 + (1 : Int32))).bind fun h90 => l_Mod_pass_94 (some 68) (nI (v_hr f % 24)) (fun he140 => (f_gR he140 (some 68) 12 26).bind fun x141 => (f_aI he140 x141 (56 : Int32)).bind fun x147 => (f_sI he140 x141 (56 : Int32) (x147 + (1 : Int32))).bind fun h150 => (s_Mod_note F h150 (some 68)).bind fun h152 => some h152) F (0 : Int32) h90) else
      (f_gR h (some 68) 12 26).bind fun x57 => (f_gR h (some 68) 12 26).bind fun x63 => (f_aI h x63 (54 : Int32)).bind fun x68 => (f_sI h x57 (55 : Int32) x68).bind fun h69 => (f_gR h69 (some 68) 12 26).bind fun x71 => (f_sI h69 x71 (54 : Int32) (nI a)).bind fun h77 => ((f_gR h77 (some 68) 12 26).bind fun x79 => (f_aI h77 x79 ((24 : Int32) + nI a)).bind fun x87 => (f_sI h77 x79 ((24 : Int32) + nI a) (x87 + (1 : Int32))).bind fun h90 => l_Mod_pass_94 (some 68) (nI (v_hr f % 24)) (fun he140 => (f_gR he140 (some 68) 12 26).bind fun x141 => (f_aI he140 x141 (56 : Int32)).bind fun x147 => (f_sI he140 x141 (56 : Int32) (x147 + (1 : Int32))).bind fun h150 => (s_Mod_note F h150 (some 68)).bind fun h152 => some h152) F (0 : Int32) h90))) = some g' ∧ (z_fr [84] h g' ∧ ∀ j, j < 118 → z_A g' 84 j = j_h n T f a b l j) := by
  obtain ⟨k1, k2, k3, k4, k5, k6, k7⟩ := hk
  -- behind where it is now
  have main : ∀ g, z_Sh g → z_fr [84] h g → (∀ j, j < 118 → z_A g 84 j = if j = 54 then nI a else if j = 55 then z_b b else f j) → ∃ g', ((f_gR g (some 68) 12 26).bind fun x79 => (f_aI g x79 ((24 : Int32) + nI a)).bind fun x87 => (f_sI g x79 ((24 : Int32) + nI a) (x87 + (1 : Int32))).bind fun h90 => l_Mod_pass_94 (some 68) (nI (v_hr f % 24)) (fun he140 => (f_gR he140 (some 68) 12 26).bind fun x141 => (f_aI he140 x141 (56 : Int32)).bind fun x147 => (f_sI he140 x141 (56 : Int32) (x147 + (1 : Int32))).bind fun h150 => (s_Mod_note F h150 (some 68)).bind fun h152 => some h152) F (0 : Int32) h90) = some g' ∧ (z_fr [84] h g' ∧ ∀ j, j < 118 → z_A g' 84 j = j_h n T f a b l j) := by
    intro g hg hfr hA
    have e24 : (24 : Int32) + nI a = nI (24 + a) := nI_add 24 a
    have t24 : z_A g 84 (24 + a) = f (24 + a) := by rw [hA _ (by omega), if_neg (by omega), if_neg (by omega)]
    obtain ⟨g1, hg1⟩ : ∃ g1, g1 = z_sA g 84 (24 + a) (f (24 + a) + 1) := ⟨_, rfl⟩
    have S1 : z_Sh g1 := by rw [hg1]; exact z_Sh_sA hg
    have f1 : z_fr [84] g g1 := by rw [hg1]; exact z_fr.refl.sA (by simp)
    have A1 : ∀ j, z_A g1 84 j = if j = 24 + a then f (24 + a) + 1 else z_A g 84 j := fun j => by rw [hg1]; exact z_A_sA (z_ckT hg rfl)
    have F1 := hfr.trans f1
    rw [z_r68_26 hg, Option.bind_some, e24, z_a84 hg (by omega), Option.bind_some, t24, z_s84 hg (by omega), Option.bind_some, ← hg1]
    refine z_k (z_mlau (T := T) (t := v_hr f % 24) hn (Nat.mod_lt _ (by decide)) n 0 F g1 (by omega) (by omega) S1 (by rw [F1.I (by decide)]; exact h24) (fun j hj => by rw [F1.A (by decide)]; exact hT j hj)) fun g2 ⟨a2, a3⟩ => ?_
    have S2 := S1.fr a2 (by decide)
    have F2 := F1.trans a2
    have t56 : z_A g2 84 56 = nI (v_hr f) := by rw [a3, if_neg (by omega), A1, if_neg (by omega), hA 56 (by decide), if_neg (by decide), if_neg (by decide)]; exact k5
    obtain ⟨g3, hg3⟩ : ∃ g3, g3 = z_sA g2 84 56 (nI (v_hr f + 1)) := ⟨_, rfl⟩
    have S3 : z_Sh g3 := by rw [hg3]; exact z_Sh_sA S2
    have A3 : ∀ j, z_A g3 84 j = if j = 56 then nI (v_hr f + 1) else z_A g2 84 j := fun j => by rw [hg3]; exact z_A_sA (z_ckT S2 rfl)
    have F3 : z_fr [84] h g3 := by rw [hg3]; exact F2.sA (by simp)
    obtain ⟨g4, b1, b2, b3⟩ := z_note (a := a) (l := l) hF S3 (by rw [A3, if_neg (by decide), a3, if_neg (by omega), A1, if_neg (by omega), hA 54 (by decide), if_pos rfl]) (by rw [A3, if_neg (by decide), a3, if_neg (by omega), A1, if_neg (by omega), hA 57 (by decide), if_neg (by decide), if_neg (by decide)]; exact k7)
    rw [z_r68_26 S2, Option.bind_some, show (56 : Int32) = nI 56 from rfl, z_a84 S2 (by decide), Option.bind_some, t56, show nI (v_hr f) + (1 : Int32) = nI (v_hr f + 1) from nI_1 _, z_s84 S2 (by decide), Option.bind_some, ← hg3, b1]
    refine ⟨g4, rfl, F3.trans b2, fun j hj => ?_⟩
    rw [b3 j hj]
    -- what a place of the log is
    have hlog : ∀ j, 58 ≤ j → j < 118 → z_A g3 84 j = f j := fun j h1 h2 => by rw [A3, if_neg (by omega), a3, if_neg (by omega), A1, if_neg (by omega), hA j h2, if_neg (by omega), if_neg (by omega)]
    unfold j_note j_h
    by_cases c54 : j = 54
    · subst c54
      rw [if_neg (by decide), if_neg (by decide), if_pos rfl, A3, if_neg (by decide), a3, if_neg (by omega), A1, if_neg (by omega), hA 54 (by decide), if_pos rfl]
    · rw [if_neg c54]
      by_cases c55 : j = 55
      · subst c55
        rw [if_neg (by decide), if_neg (by decide), if_pos rfl, A3, if_neg (by decide), a3, if_neg (by omega), A1, if_neg (by omega), hA 55 (by decide), if_neg (by decide), if_pos rfl]
      · rw [if_neg c55]
        by_cases c56 : j = 56
        · subst c56
          rw [if_neg (by decide), if_neg (by decide), if_pos rfl, A3, if_pos rfl]
        · rw [if_neg c56]
          by_cases c57 : j = 57
          · rw [if_pos c57, if_pos c57]
          · rw [if_neg c57, if_neg c57]
            by_cases c58 : 58 ≤ j
            · rw [if_pos c58, if_neg (show ¬ (24 ≤ j ∧ j < 24 + n) by omega), if_pos c58]
              by_cases c1 : l < 60
              · rw [if_pos c1, if_pos c1]
                by_cases c2 : j = 58 + l
                · rw [if_pos c2, if_pos c2]
                · rw [if_neg c2, if_neg c2]; exact hlog j c58 hj
              · rw [if_neg c1, if_neg c1]
                by_cases c2 : j < 117
                · rw [if_pos c2, if_pos c2]; exact hlog (j + 1) (by omega) (by omega)
                · rw [if_neg c2, if_neg c2]
            · rw [if_neg c58, A3, if_neg c56, a3]
              by_cases c3 : 24 ≤ j ∧ j < 24 + n
              · rw [if_pos c3]
                have hAj : z_A g1 84 j = f j + (if j - 24 = a then (1 : Int32) else 0) := by
                  rw [A1]
                  by_cases c4 : j = 24 + a
                  · rw [if_pos c4, if_pos (by omega), ← c4]
                  · rw [if_neg c4, if_neg (by omega), hA j hj, if_neg c54, if_neg c55, Int32.add_zero]
                rw [hAj]
                by_cases c5 : v_hr f % 24 = 6
                · rw [if_pos (by omega), if_pos c5]
                · rw [if_neg (by omega), if_neg c5, Int32.add_zero]
              · rw [if_neg (by omega), if_neg c3, if_neg c58, A1, if_neg (by omega), hA j hj, if_neg c54, if_neg c55]
  rw [z_r68_26 hS, Option.bind_some, show (54 : Int32) = nI 54 from rfl, z_a84 hS (by decide), Option.bind_some, hf 54 (by decide), k1]
  by_cases hx : a = v_at f
  · rw [if_pos (by rw [hx])]
    rw [if_pos hx] at hb
    have := main h hS z_fr.refl (fun j hj => by
      by_cases c54 : j = 54
      · rw [if_pos c54, c54, hx, hf 54 (by decide)]; exact k1
      · rw [if_neg c54]
        by_cases c55 : j = 55
        · rw [if_pos c55, c55, hb, hf 55 (by decide)]; exact k3
        · rw [if_neg c55]; exact hf j hj)
    rw [z_r68_26 hS] at this
    exact this
  · rw [if_neg (fun z => hx ((nI_eq (by omega) (by omega)).mp z))]
    rw [if_neg hx] at hb
    have S1 : z_Sh (z_sA h 84 55 (nI (v_at f))) := z_Sh_sA hS
    have S2 : z_Sh (z_sA (z_sA h 84 55 (nI (v_at f))) 84 54 (nI a)) := z_Sh_sA S1
    rw [Option.bind_some, Option.bind_some, z_a84 hS (by decide), Option.bind_some, hf 54 (by decide), k1, show (55 : Int32) = nI 55 from rfl, z_s84 hS (by decide), Option.bind_some, z_r68_26 S1, Option.bind_some, z_s84 S1 (by decide), Option.bind_some]
    exact main _ S2 ((z_fr.refl.sA (by simp)).sA (by simp)) (fun j hj => by
      rw [z_A_sA (z_ckT S1 rfl), z_A_sA (z_ckT hS rfl)]
      by_cases c54 : j = 54
      · rw [if_pos c54, if_pos c54]
      · rw [if_neg c54, if_neg c54]
        by_cases c55 : j = 55
        · rw [if_pos c55, if_pos c55, hb, z_bn (by omega)]
        · rw [if_neg c55, if_neg c55]; exact hf j hj)
/-- the walk's numbers where only what walks don't read is otherwise -/
theorem e_go_cong {E E' : z_E} (h1 : E.1 = E'.1) (h2 : E.2.1 = E'.2.1) (h3 : E.2.2.1 = E'.2.2.1) (h4 : E.2.2.2.1 = E'.2.2.2.1) (h5 : ∀ x, x < E.1 → ∀ t, E.2.2.2.2 x t = E'.2.2.2.2 x t) (p : e_P) : e_go E p = e_go E' p := by
  have hd : ∀ a, e_ds E a = e_ds E' a := fun a => by unfold e_ds; rw [h1, h2]
  have hs : ∀ (l : List Nat) (s : Int32), e_sum E s l = e_sum E' s l := fun l s => by unfold e_sum; rw [h3]
  have hb : ∀ (b t : Nat) (l : List Nat) (c : Nat × Int32), (∀ x, x ∈ l → x < E.1) → List.foldl (e_st E b t) c l = List.foldl (e_st E' b t) c l := by
    intro b t l
    induction l with
    | nil => intro c _; rw [List.foldl_nil, List.foldl_nil]
    | cons y l ih =>
      intro c hl
      have e : e_st E b t c y = e_st E' b t c y := by unfold e_st; rw [h5 y (hl y (by simp)) t]
      rw [List.foldl_cons, List.foldl_cons, e]
      exact ih _ (fun x hx => hl x (by simp [hx]))
  have hn : ∀ a b t, e_next E a b t = e_next E' a b t := by
    intro a b t
    unfold e_next e_best
    rw [hs, hb b t (e_ds E a) (12, 0) (fun x hx => (e_ds_mem.mp hx).1), hd a, h4]
  unfold e_go
  rw [hn]
/-- f' is f as far as walks read it -/
def j_sm (f f' : Nat → Int32) : Prop := ∀ k, k < 24 ∨ (36 ≤ k ∧ k < 54) → f' k = f k
theorem j_sm.go (hs : j_sm f f') (hn : n ≤ 12) (hw : w ≤ 16) (q : e_P) : e_go (v_E n w T Wd f' lw (v_op f') e m) q = e_go (v_E n w T Wd f lw (v_op f) e m) q := by
  refine e_go_cong (E := v_E n w T Wd f' lw (v_op f') e m) (E' := v_E n w T Wd f lw (v_op f) e m) rfl ?_ rfl rfl (fun x hx t => ?_) q
  · show v_door w Wd (v_op f') = v_door w Wd (v_op f)
    refine funext fun a => funext fun x => v_door_cong fun j hj => ?_
    unfold v_op
    rw [hs (36 + j) (by omega)]
  · have hx' : x < n := hx
    show v_wish lw T f' x (fw_b (m.testBit x)) t = v_wish lw T f x (fw_b (m.testBit x)) t
    have e1 : f' x = f x := hs x (by omega)
    have e2 : f' 52 = f 52 := hs 52 (by omega)
    match lw with
    | none => show (if f' 52 = 1 then _ else _) = _; rw [e1, e2]; rfl
    | some cls =>
      show q_worth (v_let T f' x _ t) cls = q_worth (v_let T f x _ t) cls
      have e3 : v_let T f' x (fw_b (m.testBit x)) t = v_let T f x (fw_b (m.testBit x)) t := by
        unfold v_let
        rw [e1, e2]
      rw [e3]
/-- pass -/
theorem z_pass (hF : 70000 ≤ F) (hok : v_ok n w Wd) (h0 : 0 < n) (hE : E = v_E n w T Wd f lw (v_op f) (2 ^ n - 1) m) (hB : z_MB f n m) (hC : z_MC h n w T Wd f lw (2 ^ n - 1)) (hk : j_ok n f l) :
    ∃ g', s_Mod_pass F h (some 68) fog = some g' ∧ (z_fr [77, 78, 84] h g' ∧ ∀ j, j < 118 → z_A g' 84 j = j_h n T f (j_q E fog (v_pos f)).1 (j_q E fog (v_pos f)).2.1 l j) := by
  have hn12 := hok.1
  have hE1 : E.1 = n := by rw [hE]; rfl
  have hS := hC.1
  have hf := hC.2.1.2.1.2.2
  have hT := hC.2.1.2.2.1
  have h24 := hC.2.1.1
  have hk0 := hk
  obtain ⟨k1, k2, k3, k4, k5, k6, k7⟩ := hk0
  have ht24 : v_hr f % 24 < 24 := Nat.mod_lt _ (by decide)
  unfold s_Mod_pass
  simp only [fw_jn]
  rw [z_c68 hS, Option.bind_some, z_r68_26 hS, Option.bind_some, show (56 : Int32) = nI 56 from rfl, z_a84 hS (by decide), Option.bind_some, hf 56 (by decide), k5, show (24 : Int32) = nI 24 from rfl, z_irem (by omega) (by decide) (by decide), Option.bind_some]
  cases fog
  · rw [if_neg (by decide), Option.bind_some, show (54 : Int32) = nI 54 from rfl, z_a84 hS (by decide), Option.bind_some, hf 54 (by decide), k1, Option.bind_some, show (55 : Int32) = nI 55 from rfl, z_a84 hS (by decide), Option.bind_some, hf 55 (by decide), k3]
    obtain ⟨g1, a1, a2⟩ := z_nextOf hF hok hE hB k2 k4 ht24 hS hC.2.1 hC.2.2
    rw [a1, Option.bind_some]
    have S1 := hS.fr a2 (by decide)
    have hlt : e_next E (v_at f) (v_be f) (v_hr f % 24) < n := hE1 ▸ e_next_lt (hE1.symm ▸ k2)
    have hq : (j_q E false (v_pos f)).1 = e_next E (v_at f) (v_be f) (v_hr f % 24) ∧ (j_q E false (v_pos f)).2.1 = if e_next E (v_at f) (v_be f) (v_hr f % 24) = v_at f then v_be f else v_at f := by
      have gen : ∀ N, (e_tk (e_mv (v_pos f) N)).1 = N ∧ (e_tk (e_mv (v_pos f) N)).2.1 = if N = v_at f then v_be f else v_at f := by
        intro N
        unfold e_mv
        by_cases z : N = v_at f
        · rw [if_pos (show N = (v_pos f).1 from z), if_pos z]; exact ⟨z.symm, rfl⟩
        · rw [if_neg (show ¬ N = (v_pos f).1 from z), if_neg z]; exact ⟨rfl, rfl⟩
      unfold j_q e_go
      rw [if_neg (by decide)]
      exact gen _
    rw [hq.1]
    obtain ⟨g2, b1, b2, b3⟩ := z_passT (T := T) (l := l) hF S1 hn12 hk (by rw [a2.I (by decide)]; exact h24) (fun j hj => by rw [a2.A (by decide)]; exact hT j hj) (fun j hj => by rw [a2.A (by decide)]; exact hf j hj) hlt hq.2
    exact ⟨g2, b1, (a2.mono (by simp)).trans (b2.mono (by simp)), b3⟩
  · rw [if_pos rfl, Option.bind_some, show (54 : Int32) = nI 54 from rfl, z_a84 hS (by decide), Option.bind_some, hf 54 (by decide), k1]
    have hq : (j_q E true (v_pos f)).1 = v_at f ∧ (j_q E true (v_pos f)).2.1 = if v_at f = v_at f then v_be f else v_at f := by
      rw [if_pos rfl]
      exact ⟨rfl, rfl⟩
    rw [hq.1]
    obtain ⟨g2, b1, b2, b3⟩ := z_passT (T := T) (l := l) hF hS hn12 hk h24 hT hf k2 hq.2
    rw [z_r68_26 hS] at b1
    exact ⟨g2, b1, b2.mono (by simp), b3⟩
end JJ
