/-- the model's parser does what the pure one does -/
def Sm (M : Mem) (L : Nat) (rec : Nat → Mem → Option (Int32 × Mem)) (r : PR Int32) (t s : Nat) : Prop :=
  (∀ e, r = .inl e → e ≤ L ∧ ∃ v, rec t (sp M s 0) = some (v, sp M e 1)) ∧ ∀ s' v, r = .inr (s', v) → s < s' ∧ s' ≤ L ∧ rec t (sp M s 0) = some (v, sp M s' 0)
section SM
variable {M : Mem} {a L : Nat} {ch N : Nat → Int32} {rec : Nat → Mem → Option (Int32 × Mem)} {pr : Nat → Nat → PR Int32}
theorem rb_inl {V W : Type} {r : PR V} {f : Nat → V → PR W} {e : Nat} (h : r = .inl e) : rb r f = .inl e := by rw [h]; rfl
theorem rb_inr {V W : Type} {r : PR V} {f : Nat → V → PR W} {s : Nat} {v : V} (h : r = .inr (s, v)) : rb r f = f s v := by rw [h]; rfl
theorem Sm.cases {r : PR Int32} {t s : Nat} (h : Sm M L rec r t s) : (∃ e, r = .inl e ∧ e ≤ L ∧ ∃ v, rec t (sp M s 0) = some (v, sp M e 1)) ∨ ∃ s' v, r = .inr (s', v) ∧ s < s' ∧ s' ≤ L ∧ rec t (sp M s 0) = some (v, sp M s' 0) := by
  cases hr : r with
  | inl e => exact .inl ⟨e, rfl, h.1 e hr⟩
  | inr q => exact .inr ⟨q.1, q.2, rfl, h.2 q.1 q.2 hr⟩
theorem Sm.err {r : PR Int32} {t s e : Nat} {v : Int32} (hr : r = .inl e) (he : e ≤ L) (h : rec t (sp M s 0) = some (v, sp M e 1)) : Sm M L rec r t s := by
  refine ⟨fun e' h2 => ?_, fun s' v' h2 => ?_⟩
  · rw [hr] at h2; cases h2; exact ⟨he, v, h⟩
  · rw [hr] at h2; cases h2
theorem Sm.okk {r : PR Int32} {t s s' : Nat} {v : Int32} (hr : r = .inr (s', v)) (h1 : s < s') (h2 : s' ≤ L) (h : rec t (sp M s 0) = some (v, sp M s' 0)) : Sm M L rec r t s := by
  refine ⟨fun e' h3 => ?_, fun s'' v' h3 => ?_⟩
  · rw [hr] at h3; cases h3
  · rw [hr] at h3; cases h3; exact ⟨h1, h2, h⟩
/-- loops -/
def Sl (M : Mem) (L s : Nat) (o : Option (Int32 × Mem)) (r : PR Int32) : Prop :=
  (∃ e, r = .inl e ∧ e ≤ L ∧ ∃ v, o = some (v, sp M e 1)) ∨ ∃ s' v, r = .inr (s', v) ∧ s ≤ s' ∧ s' ≤ L ∧ o = some (v, sp M s' 0)
theorem t_wrong (v : Int32) (s n : Nat) : itr (b_Mo_term_94_5 rec) (n + 1) (v, sp M s 1) = some (v, sp M s 1) := itr_r rfl
theorem u_wrong (v : Int32) (s n : Nat) : itr (b_Mo_sum_94_5 rec) (n + 1) (v, sp M s 1) = some (v, sp M s 1) := itr_r rfl
theorem sim_lpT (T : Tx M a L ch) (s0 : Nat) (hr : ∀ s, s0 ≤ s → s ≤ L → Sm M L rec (pr 2 s) 2 s) : ∀ (g s : Nat) (v : Int32) (n : Nat), L - s < g → s ≤ L ∧ s0 ≤ s → g < n → Sl M L s (itr (b_Mo_term_94_5 rec) n (v, sp M s 0)) (lpT ch biV pr g s v)
  | 0, s, v, n, h, _, _ => by omega
  | g + 1, s, v, n + 1, hg, ⟨hs, hs0⟩, hn => by
    unfold lpT
    have hh := s_here T hs 0
    by_cases c : ch s = 42 ∨ ch s = 47
    · have hsL : s < L := by
        rcases c with c | c
        · exact ch_lt T c (by decide)
        · exact ch_lt T c (by decide)
      rw [if_pos c]
      have hb : ∀ q, rec 2 (sp M (s + 1) 0) = some q → b_Mo_term_94_5 rec (v, sp M s 0) = some (.inl (biV (if ch s = 42 then -8 else -9) v q.1, q.2)) := fun q hq => by
        unfold b_Mo_term_94_5 jn_ jv_
        dsimp only
        rw [sp_8, show isb 0 = true from rfl, ite_tt, show decide ((0 : Int32) = 1) = false from rfl, ite_ff, hh, Option.bind_some, sp_7, nI_one, sp_w7]
        simp only [Option.bind_some, hq]
        by_cases c1 : ch s = 42
        · rw [decide_eq_true c1, if_pos c1]; rfl
        · rw [decide_eq_false c1, if_neg c1]
          have c2 : ch s = 47 := by rcases c with c | c; exact absurd c c1; exact c
          rw [decide_eq_true c2]
          by_cases c3 : q.1 = 0
          · rw [decide_eq_true c3]
            show some (Sum.inl (0, q.2)) = some (Sum.inl (prt v q.1, q.2))
            unfold prt; rw [if_pos c3]
          · rw [decide_eq_false c3]
            show some (Sum.inl (v / q.1, q.2)) = some (Sum.inl (prt v q.1, q.2))
            unfold prt; rw [if_neg c3]
      rcases (hr (s + 1) (by omega) (by omega)).cases with ⟨e, h1, h2, w, h3⟩ | ⟨s', w, h1, h2, h3, h4⟩
      · rw [rb_inl h1, itr_l (hb _ h3)]
        obtain ⟨n, rfl⟩ : ∃ q, n = q + 1 := ⟨n - 1, by omega⟩
        exact .inl ⟨e, rfl, h2, _, t_wrong _ _ _⟩
      · rw [rb_inr h1, itr_l (hb _ h4)]
        rcases sim_lpT T s0 hr g s' _ n (by omega) ⟨h3, by omega⟩ (by omega) with h | ⟨s'', v', h5, h6, h7, h8⟩
        · exact .inl h
        · exact .inr ⟨s'', v', h5, by omega, h7, h8⟩
    · rw [if_neg c]
      right
      refine ⟨s, v, rfl, Nat.le_refl _, hs, itr_r ?_⟩
      unfold b_Mo_term_94_5 jn_ jv_
      dsimp only
      rw [sp_8, show isb 0 = true from rfl, ite_tt, show decide ((0 : Int32) = 1) = false from rfl, ite_ff, hh, Option.bind_some, decide_eq_false (fun h => c (.inl h)), ite_ff, Option.bind_some, decide_eq_false (fun h => c (.inr h)), ite_ff]
theorem sim_lpS (T : Tx M a L ch) (s0 : Nat) (hr : ∀ s, s0 ≤ s → s ≤ L → Sm M L rec (pr 1 s) 1 s) : ∀ (g s : Nat) (v : Int32) (n : Nat), L - s < g → s ≤ L ∧ s0 ≤ s → g < n → Sl M L s (itr (b_Mo_sum_94_5 rec) n (v, sp M s 0)) (lpS ch biV pr g s v)
  | 0, s, v, n, h, _, _ => by omega
  | g + 1, s, v, n + 1, hg, ⟨hs, hs0⟩, hn => by
    unfold lpS
    have hh := s_here T hs 0
    by_cases c : ch s = 43 ∨ ch s = 45
    · have hsL : s < L := by
        rcases c with c | c
        · exact ch_lt T c (by decide)
        · exact ch_lt T c (by decide)
      rw [if_pos c]
      have hb : ∀ q, rec 1 (sp M (s + 1) 0) = some q → b_Mo_sum_94_5 rec (v, sp M s 0) = some (.inl (biV (if ch s = 43 then -6 else -7) v q.1, q.2)) := fun q hq => by
        unfold b_Mo_sum_94_5 jn_ jv_
        dsimp only
        rw [sp_8, show isb 0 = true from rfl, ite_tt, show decide ((0 : Int32) = 1) = false from rfl, ite_ff, hh, Option.bind_some, sp_7, nI_one, sp_w7]
        simp only [Option.bind_some, hq]
        by_cases c1 : ch s = 43
        · rw [decide_eq_true c1, if_pos c1]; rfl
        · rw [decide_eq_false c1, if_neg c1]
          have c2 : ch s = 45 := by rcases c with c | c; exact absurd c c1; exact c
          rw [decide_eq_true c2]; rfl
      rcases (hr (s + 1) (by omega) (by omega)).cases with ⟨e, h1, h2, w, h3⟩ | ⟨s', w, h1, h2, h3, h4⟩
      · rw [rb_inl h1, itr_l (hb _ h3)]
        obtain ⟨n, rfl⟩ : ∃ q, n = q + 1 := ⟨n - 1, by omega⟩
        exact .inl ⟨e, rfl, h2, _, u_wrong _ _ _⟩
      · rw [rb_inr h1, itr_l (hb _ h4)]
        rcases sim_lpS T s0 hr g s' _ n (by omega) ⟨h3, by omega⟩ (by omega) with h | ⟨s'', v', h5, h6, h7, h8⟩
        · exact .inl h
        · exact .inr ⟨s'', v', h5, by omega, h7, h8⟩
    · rw [if_neg c]
      right
      refine ⟨s, v, rfl, Nat.le_refl _, hs, itr_r ?_⟩
      unfold b_Mo_sum_94_5 jn_ jv_
      dsimp only
      rw [sp_8, show isb 0 = true from rfl, ite_tt, show decide ((0 : Int32) = 1) = false from rfl, ite_ff, hh, Option.bind_some, decide_eq_false (fun h => c (.inl h)), ite_ff, Option.bind_some, decide_eq_false (fun h => c (.inr h)), ite_ff]
/-- the model's numbers by names -/
theorem sim_one (T : Tx M a L ch) (hN : ∀ i, i < 5 → M.1 99 i = N i) {s : Nat} (hr0 : s < L → Sm M L rec (pr 0 (s + 1)) 0 (s + 1)) (hr3 : s < L → Sm M L rec (pr 3 (s + 1)) 3 (s + 1)) (hs : s ≤ L) : Sm M L (fun _ => F_Mo_one_94 rec) (pOne ch (fun x => x) N pr s) 2 s := by
  have hh := s_here T hs 0
  have hbeg : F_Mo_one_94 rec (sp M s 0) = (if wthn (ch s) 48 57 = true then ((f_Mo_number_94 (sp M s 0)).bind fun q6 => some (q6.1, q6.2)) else (if decide (ch s = 40) = true then ((rec 0 (sp M (s + 1) 0)).bind fun q9 => (f_Mo_must_94 41 q9.2).bind fun q10 => some (q9.1, q10)) else (if decide (ch s = 91) = true then ((rec 3 (sp M (s + 1) 0)).bind fun q13 => some (q13.1, q13.2)) else (if decide (ch s = 107) = true then ((f_Mo_name_94 2 16 (sp M s 0)).bind fun q15 => some (q15.1, q15.2)) else (if decide (ch s = 108) = true then ((f_Mo_name_94 1 15 (sp M s 0)).bind fun q17 => some (q17.1, q17.2)) else (if decide (ch s = 109) = true then ((f_Mo_name_94 4 18 (sp M s 0)).bind fun q19 => some (q19.1, q19.2)) else (if decide (ch s = 111) = true then ((f_Mo_name_94 3 17 (sp M s 0)).bind fun q21 => some (q21.1, q21.2)) else (if decide (ch s = 117) = true then ((f_Mo_name_94 0 14 (sp M s 0)).bind fun q23 => some (q23.1, q23.2)) else (some (0, sp M s 1)))))))))) := by
    unfold F_Mo_one_94 jv_
    dsimp only
    rw [sp_8, show isb 0 = true from rfl, ite_tt, show decide ((0 : Int32) = 1) = false from rfl, ite_ff, hh, Option.bind_some, e_Mo_in, Option.bind_some, sp_7, nI_one, sp_w7, sp_w8]
  have hname : ∀ i, i < 5 → nmOf (ch s) = i → (f_Mo_name_94 (nI i) (14 + i) (sp M s 0)).bind (fun q => some (q.1, q.2)) = Sum.elim (fun e => some (N i, sp M e 1)) (fun s' => some (N i, sp M s' 0)) (lit ch (nmS (nmOf (ch s))) s) := fun i hi hnm => by
    unfold f_Mo_name_94
    have e1 : sr_byt.getD (14 + i) [] = nmS i := by
      have : ∀ i, i < 5 → sr_byt.getD (14 + i) [] = nmS i := by decide +kernel
      exact this i hi
    rw [s_spells T (by omega) hs, Option.bind_some, inb_t hi (by omega), ite_tt, Option.bind_some, nI_cl (by omega), e1, hnm]
    cases lit ch (nmS i) s with
    | inl e => exact congrArg (fun x => some (x, sp M e 1)) (hN i hi)
    | inr s' => exact congrArg (fun x => some (x, sp M s' 0)) (hN i hi)
  have hlit : ∀ i, i < 5 → nmOf (ch s) = i → F_Mo_one_94 rec (sp M s 0) = Sum.elim (fun e => some (N i, sp M e 1)) (fun s' => some (N i, sp M s' 0)) (lit ch (nmS (nmOf (ch s))) s) → ¬ wthn (ch s) 48 57 = true → ¬ ch s = 40 → ¬ ch s = 91 → Sm M L (fun _ => F_Mo_one_94 rec) (pOne ch (fun x => x) N pr s) 2 s := fun i hi hnm h0 c1 c2 c3 => by
    have e1 : pOne ch (fun x => x) N pr s = Sum.elim (fun e => .inl e) (fun s' => .inr (s', N (nmOf (ch s)))) (lit ch (nmS (nmOf (ch s))) s) := by
      unfold pOne
      rw [if_neg c1, if_neg c2, if_neg c3, if_pos (by omega)]
    have hne : ∀ c ∈ nmS (nmOf (ch s)), c ≠ -1 := sr_nm1 (6 + nmOf (ch s)) (by omega)
    have hpos : 0 < (nmS (nmOf (ch s))).length := by
      have : ∀ i, i < 5 → 0 < (nmS i).length := by decide +kernel
      exact this _ (by omega)
    have hle := lit_le T (nmS (nmOf (ch s))) s hne hs
    rw [e1]
    cases hl : lit ch (nmS (nmOf (ch s))) s with
    | inl e =>
      rw [hl] at hle h0
      exact Sm.err (v := N i) rfl hle h0
    | inr s' =>
      rw [hl] at hle h0
      dsimp only at hle
      refine Sm.okk (v := N (nmOf (ch s))) rfl (by omega) hle.2 ?_
      rw [hnm]; exact h0
  by_cases c1 : wthn (ch s) 48 57 = true
  · have hsL : s < L := ch_lt T rfl (fun h => by rw [h] at c1; exact absurd c1 (by decide))
    have hle := nmb_le T 3 (s + 1) (ch s - 48) (by omega)
    refine Sm.okk (s' := (nmb ch 3 (s + 1) (ch s - 48)).1) (v := (nmb ch 3 (s + 1) (ch s - 48)).2) ?_ (by omega) hle.2 ?_
    · unfold pOne; rw [if_pos c1]
    · rw [hbeg, if_pos c1, s_number T hs c1]; rfl
  · rw [if_neg c1] at hbeg
    by_cases c2 : ch s = 40
    · rw [decide_eq_true c2, ite_tt] at hbeg
      have hsL : s < L := ch_lt T c2 (by decide)
      have e1 : pOne ch (fun x => x) N pr s = rb (pr 0 (s + 1)) (fun s' v => if ch s' = 41 then .inr (s' + 1, v) else .inl s') := by
        unfold pOne
        rw [if_neg c1, if_pos c2]
      rw [e1]
      rcases (hr0 hsL).cases with ⟨e, h1, h2, w, h3⟩ | ⟨s', w, h1, h2, h3, h4⟩
      · refine Sm.err (v := w) (rb_inl h1) h2 ?_
        rw [hbeg, h3, Option.bind_some]
        dsimp only
        rw [s_must1]; rfl
      · rw [rb_inr h1]
        have hm := s_must0 T h3 41
        by_cases c3 : ch s' = 41
        · have := ch_lt T c3 (by decide)
          rw [if_pos c3] at hm
          refine Sm.okk (s' := s' + 1) (v := w) (if_pos c3) (by omega) (by omega) ?_
          rw [hbeg, h4, Option.bind_some]
          dsimp only
          rw [hm]; rfl
        · rw [if_neg c3] at hm
          refine Sm.err (v := w) (if_neg c3) h3 ?_
          rw [hbeg, h4, Option.bind_some]
          dsimp only
          rw [hm]; rfl
    · rw [decide_eq_false c2, ite_ff] at hbeg
      by_cases c3 : ch s = 91
      · rw [decide_eq_true c3, ite_tt] at hbeg
        have hsL : s < L := ch_lt T c3 (by decide)
        have e1 : pOne ch (fun x => x) N pr s = pr 3 (s + 1) := by
          unfold pOne
          rw [if_neg c1, if_neg c2, if_pos c3]
        rw [e1]
        rcases (hr3 hsL).cases with ⟨e, h1, h2, w, h3⟩ | ⟨s', w, h1, h2, h3, h4⟩
        · refine Sm.err (v := w) h1 h2 ?_
          rw [hbeg, h3]; rfl
        · refine Sm.okk (v := w) h1 (by omega) h3 ?_
          rw [hbeg, h4]; rfl
      · rw [decide_eq_false c3, ite_ff] at hbeg
        by_cases d2 : ch s = 107
        · have hi : nmOf (ch s) = 2 := by rw [d2]; decide
          refine hlit 2 (by omega) hi ?_ c1 c2 c3
          rw [hbeg, decide_eq_true d2, ite_tt]; exact hname 2 (by omega) hi
        · rw [decide_eq_false d2, ite_ff] at hbeg
          by_cases d1 : ch s = 108
          · have hi : nmOf (ch s) = 1 := by rw [d1]; decide
            refine hlit 1 (by omega) hi ?_ c1 c2 c3
            rw [hbeg, decide_eq_true d1, ite_tt]; exact hname 1 (by omega) hi
          · rw [decide_eq_false d1, ite_ff] at hbeg
            by_cases d4 : ch s = 109
            · have hi : nmOf (ch s) = 4 := by rw [d4]; decide
              refine hlit 4 (by omega) hi ?_ c1 c2 c3
              rw [hbeg, decide_eq_true d4, ite_tt]; exact hname 4 (by omega) hi
            · rw [decide_eq_false d4, ite_ff] at hbeg
              by_cases d3 : ch s = 111
              · have hi : nmOf (ch s) = 3 := by rw [d3]; decide
                refine hlit 3 (by omega) hi ?_ c1 c2 c3
                rw [hbeg, decide_eq_true d3, ite_tt]; exact hname 3 (by omega) hi
              · rw [decide_eq_false d3, ite_ff] at hbeg
                by_cases d0 : ch s = 117
                · have hi : nmOf (ch s) = 0 := by rw [d0]; decide
                  refine hlit 0 (by omega) hi ?_ c1 c2 c3
                  rw [hbeg, decide_eq_true d0, ite_tt]; exact hname 0 (by omega) hi
                · rw [decide_eq_false d0, ite_ff] at hbeg
                  refine Sm.err (v := 0) ?_ hs hbeg
                  unfold pOne
                  rw [if_neg c1, if_neg c2, if_neg c3, if_neg]
                  unfold nmOf
                  rw [if_neg d0, if_neg d1, if_neg d2, if_neg d3, if_neg d4]; omega
end SM
