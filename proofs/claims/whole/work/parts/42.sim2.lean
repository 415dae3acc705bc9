section S2
variable {M : Mem} {a L : Nat} {ch N : Nat → Int32} {rec : Nat → Mem → Option (Int32 × Mem)} {pr : Nat → Nat → PR Int32}
theorem sim_term (T : Tx M a L ch) {s : Nat} (h1 : ∀ s', s ≤ s' → s' ≤ L → Sm M L rec (pr 2 s') 2 s') (hs : s ≤ L) : Sm M L (fun _ => F_Mo_term_94 rec) (pTerm ch biV pr s) 1 s := by
  have hF : FU = 999999999 + 1 := rfl
  have hL : L ≤ 120 := T.2.2.1
  unfold pTerm
  rcases (h1 s (Nat.le_refl _) hs).cases with ⟨e, g1, g2, w, g3⟩ | ⟨s', w, g1, g2, g3, g4⟩
  · refine Sm.err (v := w) (rb_inl g1) g2 ?_
    show F_Mo_term_94 rec (sp M s 0) = _
    unfold F_Mo_term_94
    rw [g3, Option.bind_some, hF, t_wrong]; rfl
  · have hb : F_Mo_term_94 rec (sp M s 0) = (itr (b_Mo_term_94_5 rec) FU (w, sp M s' 0)).bind fun q => some (q.1, q.2) := by
      unfold F_Mo_term_94
      rw [g4, Option.bind_some]
    rcases sim_lpT T s h1 121 s' w FU (by omega) ⟨g3, by omega⟩ (by unfold FU; omega) with ⟨e, k1, k2, v, k3⟩ | ⟨s'', v, k1, k2, k3, k4⟩
    · refine Sm.err (v := v) ((rb_inr g1).trans k1) k2 ?_
      show F_Mo_term_94 rec (sp M s 0) = _
      rw [hb, k3]; rfl
    · refine Sm.okk (v := v) ((rb_inr g1).trans k1) (by omega) k3 ?_
      show F_Mo_term_94 rec (sp M s 0) = _
      rw [hb, k4]; rfl
theorem sim_sum (T : Tx M a L ch) {s : Nat} (h1 : ∀ s', s ≤ s' → s' ≤ L → Sm M L rec (pr 1 s') 1 s') (hs : s ≤ L) : Sm M L (fun _ => F_Mo_sum_94 rec) (pSum ch biV pr s) 0 s := by
  have hF : FU = 999999999 + 1 := rfl
  have hL : L ≤ 120 := T.2.2.1
  unfold pSum
  rcases (h1 s (Nat.le_refl _) hs).cases with ⟨e, g1, g2, w, g3⟩ | ⟨s', w, g1, g2, g3, g4⟩
  · refine Sm.err (v := w) (rb_inl g1) g2 ?_
    show F_Mo_sum_94 rec (sp M s 0) = _
    unfold F_Mo_sum_94
    rw [g3, Option.bind_some, hF, u_wrong]; rfl
  · have hb : F_Mo_sum_94 rec (sp M s 0) = (itr (b_Mo_sum_94_5 rec) FU (w, sp M s' 0)).bind fun q => some (q.1, q.2) := by
      unfold F_Mo_sum_94
      rw [g4, Option.bind_some]
    rcases sim_lpS T s h1 121 s' w FU (by omega) ⟨g3, by omega⟩ (by unfold FU; omega) with ⟨e, k1, k2, v, k3⟩ | ⟨s'', v, k1, k2, k3, k4⟩
    · refine Sm.err (v := v) ((rb_inr g1).trans k1) k2 ?_
      show F_Mo_sum_94 rec (sp M s 0) = _
      rw [hb, k3]; rfl
    · refine Sm.okk (v := v) ((rb_inr g1).trans k1) (by omega) k3 ?_
      show F_Mo_sum_94 rec (sp M s 0) = _
      rw [hb, k4]; rfl
def stJ (u : Int32) (acc : List Int32) (A le ra : Int32) : Prop := (acc = [] ∧ A = 0 ∧ le = u) ∨ (acc ≠ [] ∧ ∀ t, A + stL le (ra :: t) = stL u (acc ++ t))
theorem stJ_step {u : Int32} {acc : List Int32} {A le ra x : Int32} (h : stJ u acc A le ra) : stJ u (acc ++ [x]) (if acc.length = 0 then A else A + jmin 10 le * ra) (if acc.length = 0 then le else le - jmin 10 le) x := by
  refine .inr ⟨by simp, fun t => ?_⟩
  rcases h with ⟨rfl, rfl, rfl⟩ | ⟨h1, h2⟩
  · show (0 : Int32) + stL le (x :: t) = stL le (x :: t)
    rw [Int32.zero_add]
  · have h3 : ¬ acc.length = 0 := fun h => h1 (List.length_eq_zero_iff.mp h)
    rw [if_neg h3, if_neg h3, Int32.add_assoc, ← stL_2, h2, List.append_assoc]; rfl
theorem st_exit (A le ra n : Int32) (m : Mem) (k : Nat) : itr (b_Mo_steps_94_32 rec) (k + 1) (A, le, ra, n, false, m) = some (A, le, ra, m) := itr_r rfl
theorem sim_lpP (T : Tx M a L ch) (s0 : Nat) (hr : ∀ s, s0 ≤ s → s ≤ L → Sm M L rec (pr 0 s) 0 s) (u : Int32) : ∀ (k s : Nat) (acc : List Int32) (A le ra : Int32) (n : Nat), acc.length = 4 - k → 1 ≤ k → k ≤ 4 → s ≤ L ∧ s0 ≤ s → k + 1 < n → stJ u acc A le ra → (∃ e, lpP ch pr k s acc = .inl e ∧ e ≤ L ∧ ∃ x y z, itr (b_Mo_steps_94_32 rec) n (A, le, ra, nI (4 - k), true, sp M s 0) = some (x, y, z, sp M e 1)) ∨ ∃ s' l, lpP ch pr k s acc = .inr (s', l) ∧ s < s' ∧ s' ≤ L ∧ ∃ x y z, itr (b_Mo_steps_94_32 rec) n (A, le, ra, nI (4 - k), true, sp M s 0) = some (x, y, z, sp M s' 0) ∧ x + y * z = stL u l
  | 0, s, acc, A, le, ra, n, _, h, _, _, _, _ => by omega
  | k + 1, s, acc, A, le, ra, n + 1, ha, h1k, hk, ⟨hs, hs0⟩, hn, hJ => by
    obtain ⟨n, rfl⟩ : ∃ q, n = q + 1 := ⟨n - 1, by omega⟩
    unfold lpP
    have hJ' := fun x => stJ_step (x := x) hJ
    have hu : ∀ q : Int32 × Mem, (if decide (nI (4 - (k + 1)) ≤ 0) = true then (A, le) else if decide (le < 10) = true then (A + le * ra, le - le) else (A + 10 * ra, le - 10)) = ((if acc.length = 0 then A else A + jmin 10 le * ra), (if acc.length = 0 then le else le - jmin 10 le)) := fun q => by
      rw [ha]
      by_cases c : 4 - (k + 1) = 0
      · rw [if_pos c, if_pos c, c]; rfl
      · rw [if_neg c, if_neg c, show (0 : Int32) = nI 0 from rfl, dle_f (by omega) (by omega), ite_ff]
        unfold jmin
        by_cases c2 : le < 10
        · rw [decide_eq_true c2, ite_tt, if_pos c2]
        · rw [decide_eq_false c2, ite_ff, if_neg c2]
    rcases (hr s hs0 hs).cases with ⟨e, g1, g2, w, g3⟩ | ⟨s', w, g1, g2, g3, g4⟩
    · left
      refine ⟨e, rb_inl g1, g2, (if acc.length = 0 then A else A + jmin 10 le * ra), (if acc.length = 0 then le else le - jmin 10 le), w, ?_⟩
      rw [itr_l (s' := ((if acc.length = 0 then A else A + jmin 10 le * ra), (if acc.length = 0 then le else le - jmin 10 le), w, nI (4 - (k + 1)) + 1, false, sp M e 1)), st_exit]
      unfold b_Mo_steps_94_32 jn_ jv_
      dsimp only
      rw [ite_tt, g3, Option.bind_some]
      dsimp only
      rw [hu (w, sp M e 1), sp_8, show isb 1 = true from rfl, ite_tt, show decide ((1 : Int32) = 1) = true from rfl, ite_tt, sp_7, show nI e + 0 = nI e from nI_addn e 0, sp_w7]; rfl
    · rw [rb_inr g1]
      have hh := s_here T g3 0
      by_cases c : 1 ≤ k ∧ ch s' = 44
      · rw [if_pos c]
        have hsL := ch_lt T c.2 (by decide)
        have hb : b_Mo_steps_94_32 rec (A, le, ra, nI (4 - (k + 1)), true, sp M s 0) = some (.inl ((if acc.length = 0 then A else A + jmin 10 le * ra), (if acc.length = 0 then le else le - jmin 10 le), w, nI (4 - k), true, sp M (s' + 1) 0)) := by
          unfold b_Mo_steps_94_32 jn_ jv_
          dsimp only
          rw [ite_tt, g4, Option.bind_some]
          dsimp only
          rw [hu (w, sp M s' 0), sp_8, show isb 0 = true from rfl, ite_tt, show decide ((0 : Int32) = 1) = false from rfl, ite_ff, nI_one, show (4 : Int32) = nI 4 from rfl, dlt_t (by omega) (by omega), ite_tt, hh, Option.bind_some, decide_eq_true c.2, ite_tt, ite_tt, sp_7, nI_one, sp_w7, show 4 - (k + 1) + 1 = 4 - k by omega]
        rw [itr_l hb]
        rcases sim_lpP T s0 hr u k (s' + 1) (acc ++ [w]) _ _ _ (n + 1) (by rw [List.length_append, ha]; show 4 - (k + 1) + 1 = _; omega) c.1 (by omega) ⟨by omega, by omega⟩ (by omega) (hJ' w) with h | ⟨s'', l, h2, h3, h4, h5⟩
        · exact .inl h
        · exact .inr ⟨s'', l, h2, by omega, h4, h5⟩
      · rw [if_neg c]
        right
        refine ⟨s', acc ++ [w], rfl, g2, g3, (if acc.length = 0 then A else A + jmin 10 le * ra), (if acc.length = 0 then le else le - jmin 10 le), w, ?_, ?_⟩
        · have hb : b_Mo_steps_94_32 rec (A, le, ra, nI (4 - (k + 1)), true, sp M s 0) = some (.inl ((if acc.length = 0 then A else A + jmin 10 le * ra), (if acc.length = 0 then le else le - jmin 10 le), w, nI (4 - (k + 1)) + 1, false, sp M s' 0)) := by
            unfold b_Mo_steps_94_32 jn_ jv_
            dsimp only
            rw [ite_tt, g4, Option.bind_some]
            dsimp only
            rw [hu (w, sp M s' 0), sp_8, show isb 0 = true from rfl, ite_tt, show decide ((0 : Int32) = 1) = false from rfl, ite_ff, sp_7, show nI s' + 0 = nI s' from nI_addn s' 0, sp_w7, nI_one]
            by_cases c1 : 1 ≤ k
            · have c2 : ¬ ch s' = 44 := fun h => c ⟨c1, h⟩
              rw [show (4 : Int32) = nI 4 from rfl, dlt_t (by omega) (by omega), ite_tt, hh, Option.bind_some, decide_eq_false c2]; rfl
            · rw [show (4 : Int32) = nI 4 from rfl, dlt_f (by omega) (by omega)]; rfl
          rw [itr_l hb, st_exit]
        · rcases hJ' w with ⟨h, -⟩ | ⟨-, h⟩
          · exact absurd h (by simp)
          · have h2 := h []
            rw [stL_1, List.append_nil] at h2
            exact h2
theorem sim_steps (T : Tx M a L ch) {s : Nat} (hr : ∀ s', s ≤ s' → s' ≤ L → Sm M L rec (pr 0 s') 0 s') (hw : ∀ s, rec 0 (sp M s 1) = some (0, sp M s 1)) (hs : s ≤ L) : Sm M L (fun _ => F_Mo_steps_94 rec) (pSteps ch stV pr s) 3 s := by
  have hF : FU = 999999998 + 1 + 1 := rfl
  have hL : L ≤ 120 := T.2.2.1
  have hwr : ∀ A le ra e, itr (b_Mo_steps_94_32 rec) FU (A, le, ra, 0, true, sp M e 1) = some (A, le, 0, sp M e 1) := fun A le ra e => by
    rw [hF, itr_l (s' := (A, le, 0, 0 + 1, false, sp M e 1)), st_exit]
    unfold b_Mo_steps_94_32 jn_ jv_
    dsimp only
    rw [ite_tt, hw, Option.bind_some]
    dsimp only
    rw [sp_8, show isb 1 = true from rfl, ite_tt, show decide ((1 : Int32) = 1) = true from rfl, ite_tt, sp_7, show nI e + 0 = nI e from nI_addn e 0, sp_w7]; rfl
  unfold pSteps
  rcases (hr s (Nat.le_refl _) hs).cases with ⟨e, g1, g2, w, g3⟩ | ⟨s1, w, g1, g2, g3, g4⟩
  · refine Sm.err (v := 0 + (if w < 0 then 0 else w) * 0) (rb_inl g1) g2 ?_
    show F_Mo_steps_94 rec (sp M s 0) = _
    unfold F_Mo_steps_94 jv_
    rw [g3, Option.bind_some]
    dsimp only
    rw [s_must1, Option.bind_some, hwr, Option.bind_some]
    dsimp only
    rw [s_must1, Option.bind_some]
    by_cases c : w < 0
    · rw [decide_eq_true c, if_pos c]; rfl
    · rw [decide_eq_false c, if_neg c]; rfl
  · rw [rb_inr g1]
    have hm := s_must0 T g3 58
    by_cases c : ch s1 = 58
    · rw [if_pos c] at hm ⊢
      have hsL := ch_lt T c (by decide)
      have hu : (if decide (w < 0) = true then (0 : Int32) else w) = if w < 0 then 0 else w := by
        by_cases c : w < 0
        · rw [decide_eq_true c, if_pos c]; rfl
        · rw [decide_eq_false c, if_neg c]; rfl
      have hb : F_Mo_steps_94 rec (sp M s 0) = (itr (b_Mo_steps_94_32 rec) FU (0, (if w < 0 then 0 else w), 0, nI (4 - 4), true, sp M (s1 + 1) 0)).bind fun q25 => (f_Mo_must_94 93 q25.2.2.2).bind fun q26 => some (q25.1 + (q25.2.1 * q25.2.2.1), q26) := by
        unfold F_Mo_steps_94 jv_
        rw [g4, Option.bind_some]
        dsimp only
        rw [hm, Option.bind_some, hu]; rfl
      rcases sim_lpP T s hr (if w < 0 then 0 else w) 4 (s1 + 1) [] 0 (if w < 0 then 0 else w) 0 FU rfl (by omega) (by omega) ⟨by omega, by omega⟩ (by unfold FU; omega) (.inl ⟨rfl, rfl, rfl⟩) with ⟨e, k1, k2, x, y, z, k3⟩ | ⟨s2, l, k1, k2, k3, x, y, z, k4, k5⟩
      · refine Sm.err (v := x + y * z) (rb_inl k1) k2 ?_
        show F_Mo_steps_94 rec (sp M s 0) = _
        rw [hb, k3, Option.bind_some]
        dsimp only
        rw [s_must1]; rfl
      · rw [rb_inr k1]
        have hm2 := s_must0 T k3 93
        by_cases c2 : ch s2 = 93
        · have := ch_lt T c2 (by decide)
          rw [if_pos c2] at hm2
          refine Sm.okk (s' := s2 + 1) (v := stV w l) (if_pos c2) (by omega) (by omega) ?_
          show F_Mo_steps_94 rec (sp M s 0) = _
          rw [hb, k4, Option.bind_some]
          dsimp only
          rw [hm2, Option.bind_some, k5]; rfl
        · rw [if_neg c2] at hm2
          refine Sm.err (v := x + y * z) (if_neg c2) k3 ?_
          show F_Mo_steps_94 rec (sp M s 0) = _
          rw [hb, k4, Option.bind_some]
          dsimp only
          rw [hm2]; rfl
    · rw [if_neg c] at hm ⊢
      refine Sm.err (v := 0 + (if w < 0 then 0 else w) * 0) rfl g3 ?_
      show F_Mo_steps_94 rec (sp M s 0) = _
      unfold F_Mo_steps_94 jv_
      rw [g4, Option.bind_some]
      dsimp only
      rw [hm, Option.bind_some, hwr, Option.bind_some]
      dsimp only
      rw [s_must1, Option.bind_some]
      by_cases c : w < 0
      · rw [decide_eq_true c, if_pos c]; rfl
      · rw [decide_eq_false c, if_neg c]; rfl
end S2
theorem p_wrong (M : Mem) (s : Nat) : ∀ d t, t < 3 → 3 ≤ d + t → f_parse d t (sp M s 1) = some (0, sp M s 1)
  | 0, t, h1, h2 => by omega
  | d + 1, t, h1, h2 => by
    have hF : FU = 999999999 + 1 := rfl
    have ih := p_wrong M s d
    have ht : t = 0 ∨ t = 1 ∨ t = 2 := by omega
    rcases ht with rfl | rfl | rfl
    · show F_Mo_sum_94 (f_parse d) (sp M s 1) = _
      unfold F_Mo_sum_94
      rw [ih 1 (by omega) (by omega), Option.bind_some, hF, u_wrong]; rfl
    · show F_Mo_term_94 (f_parse d) (sp M s 1) = _
      unfold F_Mo_term_94
      rw [ih 2 (by omega) (by omega), Option.bind_some, hF, t_wrong]; rfl
    · rfl
def need (t x : Nat) : Nat := 4 * x + (if t = 0 then 3 else if t = 1 then 2 else if t = 2 then 1 else 4)
theorem sim_all {M : Mem} {a L : Nat} {ch N : Nat → Int32} (T : Tx M a L ch) (hN : ∀ i, i < 5 → M.1 99 i = N i) : ∀ d t s, t < 4 → s ≤ L → need t (L - s) ≤ d → Sm M L (f_parse d) (PP ch (fun x => x) N biV stV d t s) t s
  | 0, t, s, ht, hs, hd => by
    unfold need at hd
    have ht : t = 0 ∨ t = 1 ∨ t = 2 ∨ t = 3 := by omega
    rcases ht with rfl | rfl | rfl | rfl <;> simp at hd
  | d + 1, t, s, ht, hs, hd => by
    have ih := sim_all T hN d
    have ht : t = 0 ∨ t = 1 ∨ t = 2 ∨ t = 3 := by omega
    rcases ht with rfl | rfl | rfl | rfl
    · have hd : 4 * (L - s) + 3 ≤ d + 1 := hd
      exact sim_sum T (fun s' h1 h2 => ih 1 s' (by omega) h2 (show 4 * (L - s') + 2 ≤ d by omega)) hs
    · have hd : 4 * (L - s) + 2 ≤ d + 1 := hd
      exact sim_term T (fun s' h1 h2 => ih 2 s' (by omega) h2 (show 4 * (L - s') + 1 ≤ d by omega)) hs
    · have hd : 4 * (L - s) + 1 ≤ d + 1 := hd
      exact sim_one T hN (fun h => ih 0 (s + 1) (by omega) (by omega) (show 4 * (L - (s + 1)) + 3 ≤ d by omega)) (fun h => ih 3 (s + 1) (by omega) (by omega) (show 4 * (L - (s + 1)) + 4 ≤ d by omega)) hs
    · have hd : 4 * (L - s) + 4 ≤ d + 1 := hd
      exact sim_steps T (fun s' h1 h2 => ih 0 s' (by omega) h2 (show 4 * (L - s') + 3 ≤ d by omega)) (fun s' => p_wrong M s' d 0 (by omega) (by omega)) hs
/-- worth: a sum's value, from its spot -/
theorem e_worth {M : Mem} {a L : Nat} {ch N : Nat → Int32} (T : Tx (wI M 94 6 (nI a)) a L ch) (hN : ∀ i, i < 5 → M.1 99 i = N i) {s s' : Nat} {v : Int32} (hs : s ≤ L) (h : PP ch (fun x => x) N biV stV 500 0 s = .inr (s', v)) : f_Mo_worth_94 (nI a) (nI s) M = some (v, sp (wI M 94 6 (nI a)) s' 0) := by
  have hL : L ≤ 120 := T.2.2.1
  have h1 := (sim_all T hN 500 0 s (by omega) hs (show 4 * (L - s) + 3 ≤ 500 by omega)).2 s' v h
  unfold f_Mo_worth_94 jv_
  dsimp only
  have e : wI (wI (wI M 94 6 (nI a)) 94 7 (nI s)) 94 8 0 = sp (wI M 94 6 (nI a)) s 0 := by
    have h2 := sp_w8 (wI M 94 6 (nI a)) s ((wI M 94 6 (nI a)).1 94 8) 0
    rw [← h2]
    congr 1
    unfold sp
    rw [wI_eq (wI M 94 6 (nI a)) 94 7]
    congr 1
    funext j
    unfold upd
    by_cases c : j = 7
    · rw [if_pos c, if_pos c]
    · rw [if_neg c, if_neg c]
      by_cases c2 : j = 8
      · rw [if_pos c2, c2]
      · rw [if_neg c2]
  rw [e, h1.2.2]; rfl
