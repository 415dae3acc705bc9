def pK (g : Nat → Int32) (f : Nat) : Bool := decide (g f = 1) || decide (g f = 3)
theorem lk_count {M : Mem} {F : Nat} (hF : F ≤ 10) (e1 : M.1 95 1 = nI F) (y : Int32 × Mem) (hy : y.2 = M) : itr (b_Mo_looks_94_171 y) FU (0, 0) = some (nI (cnt (pK (M.1 97)) F)) := by
  refine itr_for' (fun k => (nI (cnt (pK (M.1 97)) k), nI k)) F (by omega) (fun k hk => ?_) ?_
  · unfold b_Mo_looks_94_171 jn_
    dsimp only
    rw [hy, e1, dlt_t hk (by omega), if_pos rfl, inb_t (show k < 10 by omega) (by omega), nI_cl (by omega), nI_one]
    show _ = some (Sum.inl (nI (cnt (pK (M.1 97)) k + if pK (M.1 97) k = true then 1 else 0), nI (k + 1)))
    unfold pK
    by_cases c1 : M.1 97 k = 1
    · rw [c1]
      exact congrArg (fun x => some (Sum.inl (x, nI (k + 1)))) (nI_one _)
    · rw [decide_eq_false c1]
      by_cases c3 : M.1 97 k = 3
      · rw [c3]
        exact congrArg (fun x => some (Sum.inl (x, nI (k + 1)))) (nI_one _)
      · rw [decide_eq_false c3]
        exact congrArg (fun x => some (Sum.inl (x, nI (k + 1)))) (nI_addn _ 0)
  · unfold b_Mo_looks_94_171
    dsimp only
    rw [hy, e1, dlt_f (Nat.le_refl _) (by omega)]; rfl
theorem lk_find {M : Mem} {F : Nat} (hF : F ≤ 10) (e1 : M.1 95 1 = nI F) (q : Int32) : ∃ r : Int32 × Mem, itr (b_Mo_looks_94_223 q) FU (0, 0, M) = some r ∧ ((r = (0, M) ∧ ∀ f, f < F → M.1 97 f = 2 → ¬ M.1 98 f ≤ q) ∨ ∃ f, f < F ∧ M.1 97 f = 2 ∧ M.1 98 f ≤ q ∧ r = (1, wI M 97 f 1)) := by
  refine itr_cnt (fun k s => (s = (0, nI k, M) ∧ ∀ f, f < k → M.1 97 f = 2 → ¬ M.1 98 f ≤ q) ∨ ∃ f, f < F ∧ M.1 97 f = 2 ∧ M.1 98 f ≤ q ∧ s.1 = 1 ∧ s.2.2 = wI M 97 f 1 ∧ s.2.1 = nI k) _ F (by omega) (.inl ⟨rfl, fun f h => absurd h (by omega)⟩) ?_ ?_
  · rintro k s hk (⟨rfl, h⟩ | ⟨f, h1, h2, h3, h4, h5, h6⟩)
    · left
      unfold b_Mo_looks_94_223 jv_
      dsimp only
      rw [e1, dlt_t hk (by omega), if_pos rfl, inb_t (show k < 10 by omega) (by omega), nI_cl (by omega), nI_one]
      by_cases c2 : M.1 97 k = 2
      · by_cases c3 : M.1 98 k ≤ q
        · refine ⟨(1, nI (k + 1), wI M 97 k 1), ?_, .inr ⟨k, hk, c2, c3, rfl, rfl, rfl⟩⟩
          rw [decide_eq_true c2, decide_eq_true c3]; rfl
        · refine ⟨(0, nI (k + 1), M), ?_, .inl ⟨rfl, fun f hf => ?_⟩⟩
          · rw [decide_eq_true c2, decide_eq_false c3]; rfl
          · by_cases hfk : f = k
            · rw [hfk]; exact fun _ => c3
            · exact h f (by omega)
      · refine ⟨(0, nI (k + 1), M), ?_, .inl ⟨rfl, fun f hf => ?_⟩⟩
        · rw [decide_eq_false c2]; rfl
        · by_cases hfk : f = k
          · rw [hfk]; exact fun h => absurd h c2
          · exact h f (by omega)
    · right
      obtain ⟨a, b, M'⟩ := s
      dsimp only at h4 h5 h6
      subst h4 h5 h6
      refine ⟨(1, wI M 97 f 1), ?_, .inr ⟨f, h1, h2, h3, rfl⟩⟩
      unfold b_Mo_looks_94_223
      dsimp only
      rw [show (wI M 97 f 1).1 95 1 = M.1 95 1 from rfl, e1, dlt_t hk (by omega)]; rfl
  · rintro s (⟨rfl, h⟩ | ⟨f, h1, h2, h3, h4, h5, h6⟩)
    · refine ⟨(0, M), ?_, .inl ⟨rfl, h⟩⟩
      unfold b_Mo_looks_94_223
      dsimp only
      rw [e1, dlt_f (Nat.le_refl _) (by omega)]; rfl
    · obtain ⟨a, b, M'⟩ := s
      dsimp only at h4 h5 h6
      subst h4 h5 h6
      refine ⟨(1, wI M 97 f 1), ?_, .inr ⟨f, h1, h2, h3, rfl⟩⟩
      unfold b_Mo_looks_94_223
      dsimp only
      rw [show (wI M 97 f 1).1 95 1 = M.1 95 1 from rfl, e1, dlt_f (Nat.le_refl _) (by omega)]; rfl
section LK
variable {σ : Nat → Int32} {m : Int32} {n : Nat} {sg tk : Nat → Bool}
theorem k0_mem (hn : n ≤ nt σ 2) (hE : nt σ 2 ≤ 120) (W : wBook σ) {f : Nat} (h : k0 σ m n sg tk f = 1 ∨ k0 σ m n sg tk f = 3) : p0 σ m n sg tk f = true := by
  unfold k0 at h
  unfold p0 pm
  cases ht : tk f
  · cases hs : sg f
    · rw [ht, hs] at h
      have hc := wh_cases (m := m) (f := f) hn hE W
      rcases hc with c | c | c | c | c | c <;> rw [c] at h ⊢ <;> revert h <;> decide
    · rfl
  · rw [ht, ite_tt] at h; rcases h with h | h <;> exact absurd h (by decide)
theorem k0_2 {f : Nat} (h : k0 σ m n sg tk f = 2) : tk f = false ∧ sg f = false ∧ wh σ m n f = 1 := by
  unfold k0 at h
  cases ht : tk f
  · cases hs : sg f
    · rw [ht, hs, if_neg (by decide), if_neg (by decide)] at h
      refine ⟨rfl, rfl, ?_⟩
      by_cases c1 : wh σ m n f = -1
      · rw [if_pos c1] at h; exact absurd h (by decide)
      · rw [if_neg c1] at h
        by_cases c2 : wh σ m n f = 1
        · exact c2
        · rw [if_neg c2] at h
          by_cases c3 : wh σ m n f = 2
          · rw [if_pos c3] at h; exact absurd h (by decide)
          · rw [if_neg c3] at h
            by_cases c4 : wh σ m n f = 4
            · rw [if_pos c4] at h; exact absurd h (by decide)
            · rw [if_neg c4] at h; exact absurd h (by decide)
    · rw [ht, hs, ite_ff, ite_tt] at h; exact absurd h (by decide)
  · rw [ht, ite_tt] at h; exact absurd h (by decide)
theorem p0_mem (hn : n ≤ nt σ 2) (hE : nt σ 2 ≤ 120) (hF : nt σ 1 ≤ 10) (W : wBook σ) (hsg : ∀ f, sg f = true → f < nt σ 1) {f : Nat} (hf : f < 2147483648) (h : p0 σ m n sg tk f = true) : f < nt σ 1 ∧ (k0 σ m n sg tk f = 1 ∨ k0 σ m n sg tk f = 3) := by
  unfold p0 pm at h
  simp only [Bool.and_eq_true, Bool.or_eq_true, decide_eq_true_eq, Bool.not_eq_true'] at h
  obtain ⟨h1, h2⟩ := h
  refine ⟨?_, ?_⟩
  · rcases Nat.lt_or_ge f (nt σ 1) with h3 | h3
    · exact h3
    · have := wh_out (m := m) hn hE W h3 hf hF
      rcases h1 with h1 | h1
      · exact hsg f h1
      · rw [this] at h1; rcases h1 with h1 | h1 | h1 <;> exact absurd h1 (by decide)
  · unfold k0
    rw [h2]
    cases hs : sg f
    · rw [hs] at h1
      rcases h1 with h1 | h1 | h1 | h1
      · exact absurd h1 (by decide)
      · rw [h1]; decide
      · rw [h1]; decide
      · rw [h1]; decide
    · exact .inl (by rw [ite_ff, ite_tt])
theorem wav_lt (hn : n ≤ nt σ 2) (hE : nt σ 2 ≤ 120) (hF : nt σ 1 ≤ 10) (W : wBook σ) {f : Nat} (hf : f < 2147483648) (h : wav σ m n f = true) : f < nt σ 1 := by
  rcases Nat.lt_or_ge f (nt σ 1) with h3 | h3
  · exact h3
  · have := wh_out (m := m) hn hE W h3 hf hF
    unfold wav at h
    rw [this] at h; exact absurd h (by decide)
theorem mb_lt (hn : n ≤ nt σ 2) (hE : nt σ 2 ≤ 120) (hF : nt σ 1 ≤ 10) (W : wBook σ) (hsg : ∀ f, sg f = true → f < nt σ 1) {f : Nat} (hf : f < 10) (h : mb σ m n sg tk f = true) : f < nt σ 1 := by
  have := rnds_least (w := wav σ m n) (nd := nd σ m n) (tk := tk) (p := p0 σ m n sg tk) (q := fun f => decide (f < nt σ 1)) (fun f h1 h2 => decide_eq_true (p0_mem hn hE hF W hsg (by omega) h2).1) (fun f h1 h2 _ _ => decide_eq_true (wav_lt hn hE hF W (by omega) h2)) 10 f hf h
  exact of_decide_eq_true this
/-- members by kinds -/
theorem kf_mem (hn : n ≤ nt σ 2) (hE : nt σ 2 ≤ 120) (hF : nt σ 1 ≤ 10) (W : wBook σ) (hsg : ∀ f, sg f = true → f < nt σ 1) {f : Nat} (hf : f < 10) (hfF : f < nt σ 1) : (decide (kf σ m n sg tk f = 1) || decide (kf σ m n sg tk f = 3)) = mb σ m n sg tk f := by
  unfold kf
  by_cases c : k0 σ m n sg tk f = 2
  · rw [if_pos c]
    cases mb σ m n sg tk f <;> rfl
  · rw [if_neg c]
    cases hm : mb σ m n sg tk f
    · apply Bool.eq_false_iff.mpr
      intro h
      simp only [Bool.or_eq_true, decide_eq_true_eq] at h
      have h1 := rnds_ge (w := wav σ m n) (nd := nd σ m n) (tk := tk) (k0_mem hn hE W h) 10
      unfold mb at hm
      rw [hm] at h1; exact absurd h1 (by decide)
    · have h1 := rnds_least (w := wav σ m n) (nd := nd σ m n) (tk := tk) (p := p0 σ m n sg tk) (q := fun f => decide (k0 σ m n sg tk f = 2 ∨ k0 σ m n sg tk f = 1 ∨ k0 σ m n sg tk f = 3)) (fun g h1 h2 => decide_eq_true (.inr (p0_mem hn hE hF W hsg (by omega) h2).2)) (fun g h1 h2 _ h3 => by
        apply decide_eq_true
        unfold wav at h2
        have h2 := of_decide_eq_true h2
        unfold k0
        rw [h3, h2]
        cases sg g <;> decide) 10 f hf hm
      have h2 := of_decide_eq_true h1
      rcases h2 with h2 | h2 | h2
      · exact absurd h2 c
      · rw [h2]; rfl
      · rw [h2]; rfl
end LK
theorem e_looks {M : Mem} {m e sgn : Int32} {sg tk : Nat → Bool} (he : e = -1 ∨ inb e (nt (M.1 95) 2 + 1) = true) (N : wNum (M.1 95)) (W : wBook (M.1 95)) (hs : ∀ k, k < 10 → decide (nI k = sgn) = sg k) (hsg : ∀ f, sg f = true → f < nt (M.1 95) 1) : ∃ M', f_Mo_looks_94 m e sgn (msk tk 10) M = some M' ∧ Fr sLk M M' ∧ ∀ f, f < nt (M.1 95) 1 → M'.1 97 f = kf (M.1 95) m (kn (M.1 95) e) sg tk f := by
  have hN := N
  obtain ⟨-, n1, n2, -⟩ := hN
  obtain ⟨e1, l1⟩ := nt_inb n1
  obtain ⟨e2, l2⟩ := nt_inb n2
  have hn : kn (M.1 95) e ≤ nt (M.1 95) 2 := by
    unfold kn
    rcases he with he | he
    · rw [if_pos he]; omega
    · have := (nI_of_inb he).2
      split <;> omega
  generalize hσ : M.1 95 = σ at *
  generalize hnn : kn σ e = n at *
  have r95 : ∀ M', Fr sLk M M' → M'.1 95 = σ := fun M' h => (h.row (fun i => rfl)).trans hσ
  unfold f_Mo_looks_94
  obtain ⟨M1, h1, F1, h1b⟩ := itr_cnt (body := b_Mo_looks_94_3 m e sgn (msk tk 10)) (s0 := (0, M)) (fun k s => s.1 = nI k ∧ Fr sLk M s.2 ∧ ∀ j, j < k → s.2.1 97 j = k0 σ m n sg tk j ∧ s.2.1 98 j = w0 σ m n sg tk j) (fun M1 => Fr sLk M M1 ∧ ∀ j, j < nt σ 1 → M1.1 97 j = k0 σ m n sg tk j ∧ M1.1 98 j = w0 σ m n sg tk j) (nt σ 1) (by omega) ⟨rfl, Fr.refl M, fun j h => absurd h (by omega)⟩ (by
    rintro k ⟨a, M'⟩ hk ⟨rfl, hF, hj⟩
    left
    refine ⟨_, lk1_step (r95 M' hF) hk hnn.symm he N W (hs k (by omega)), rfl, (hF.wI rfl).wI rfl, fun j hjk => ?_⟩
    dsimp only at hj ⊢
    by_cases c : j = k
    · subst c
      exact ⟨(congrFun (rdk (by decide)) j).trans rde, rde⟩
    · rw [show (wI (wI M' 97 k (k0 σ m n sg tk k)) 98 k (w0 σ m n sg tk k)).1 97 j = (wI M' 97 k (k0 σ m n sg tk k)).1 97 j from congrFun (rdk (by decide)) j, rdi c, rdi c, show (wI M' 97 k (k0 σ m n sg tk k)).1 98 j = M'.1 98 j from congrFun (rdk (by decide)) j]
      exact hj j (by omega)) (by
    rintro ⟨a, M'⟩ ⟨rfl, hF, hj⟩
    refine ⟨M', ?_, hF, hj⟩
    unfold b_Mo_looks_94_3
    dsimp only
    rw [r95 M' hF, e1, dlt_f (Nat.le_refl _) (by omega)]; rfl)
  rw [h1, Option.bind_some]
  have hloop := itr_inv' (body := b_Mo_looks_94_157) (s := (1, M1)) (fun s => (s.1 = 0 ∨ s.1 = 1) ∧ Fr sLk M s.2 ∧ (∀ f, f < nt σ 1 → s.2.1 98 f = w0 σ m n sg tk f) ∧ (∀ f, f < nt σ 1 → s.2.1 97 f = k0 σ m n sg tk f ∨ (k0 σ m n sg tk f = 2 ∧ s.2.1 97 f = 1 ∧ mb σ m n sg tk f = true)) ∧ (s.1 = 0 → ∀ f, f < nt σ 1 → s.2.1 97 f = 2 → ¬ s.2.1 98 f ≤ nI (cnt (pK (s.2.1 97)) (nt σ 1)))) (fun s => 2 * cnt (fun f => decide (s.2.1 97 f = 2)) (nt σ 1) + (if s.1 = 0 then 0 else 1)) (fun M' => Fr sLk M M' ∧ ∀ f, f < nt σ 1 → M'.1 97 f = kf σ m n sg tk f) ?_ ⟨.inr rfl, F1, fun f hf => (h1b f hf).2, fun f hf => .inl (h1b f hf).1, fun h => absurd (show (1 : Int32) = 0 from h) (by decide)⟩ (by
      have := cnt_le (fun f => decide (M1.1 97 f = 2)) (nt σ 1)
      show 2 * cnt (fun f => decide (M1.1 97 f = 2)) (nt σ 1) + (if (1 : Int32) = 0 then 0 else 1) < _
      rw [if_neg (by decide)]; omega)
  · obtain ⟨M2, h2, F2, h2b⟩ := hloop
    exact ⟨M2, by rw [h2]; rfl, F2, h2b⟩
  · rintro ⟨a, M'⟩ ⟨ha, hF, hw, hk, hc⟩
    dsimp only at ha hF hw hk hc ⊢
    rcases ha with rfl | rfl
    · right
      refine ⟨M', rfl, hF, fun f hf => ?_⟩
      rcases hk f hf with h3 | ⟨h3, h4, h5⟩
      · unfold kf
        rw [h3]
        by_cases c : k0 σ m n sg tk f = 2
        · rw [if_pos c, c]
          cases hm : mb σ m n sg tk f
          · rfl
          · exfalso
            have hq := rnds_least (w := wav σ m n) (nd := nd σ m n) (tk := tk) (p := p0 σ m n sg tk) (q := fun f => decide (f < nt σ 1) && pK (M'.1 97) f) (fun g g1 g2 => by
              obtain ⟨g3, g4⟩ := p0_mem hn (by omega) (by omega) W hsg (by omega) g2
              have g5 : M'.1 97 g = k0 σ m n sg tk g := by
                rcases hk g g3 with h | ⟨h, -, -⟩
                · exact h
                · rw [h] at g4; rcases g4 with g4 | g4 <;> exact absurd g4 (by decide)
              rw [decide_eq_true g3]
              unfold pK
              rw [g5]
              rcases g4 with g4 | g4 <;> rw [g4] <;> rfl) (fun g g1 g2 g3 g4 => by
              have g5 := wav_lt hn (by omega) (by omega) W (by omega) g2
              rw [decide_eq_true g5, Bool.true_and]
              unfold pK
              unfold wav at g2
              have g2 := of_decide_eq_true g2
              cases hsg' : sg g
              · have g6 : k0 σ m n sg tk g = 2 := by unfold k0; rw [g4, hsg', g2]; decide
                rcases hk g g5 with h | ⟨-, h, -⟩
                · exfalso
                  have g7 := hc rfl g g5 (h.trans g6)
                  apply g7
                  rw [hw g g5]
                  unfold w0
                  rw [if_pos ⟨g4, hsg', g2⟩]
                  have g8 : cnt (fun f => decide (f < nt σ 1) && pK (M'.1 97) f) 10 = cnt (pK (M'.1 97)) (nt σ 1) := by
                    have := cnt_more (p := fun f => decide (f < nt σ 1) && pK (M'.1 97) f) (n := nt σ 1) (10 - nt σ 1) (fun i i1 i2 => by rw [decide_eq_false (by omega)]; rfl)
                    rw [show nt σ 1 + (10 - nt σ 1) = 10 by omega] at this
                    rw [this]
                    exact cnt_congr _ (fun i hi => by rw [decide_eq_true hi]; rfl)
                  rw [g8] at g3
                  exact g3
                · rw [h]; rfl
              · have g6 : k0 σ m n sg tk g = 1 := by unfold k0; rw [g4, hsg', ite_ff, ite_tt]
                rcases hk g g5 with h | ⟨h, -, -⟩
                · rw [h, g6]; rfl
                · rw [g6] at h; exact absurd h (by decide)) 10 f (by omega) hm
            simp only [Bool.and_eq_true] at hq
            have h6 := hq.2
            unfold pK at h6
            rw [h3, c] at h6
            exact absurd h6 (by decide)
        · rw [if_neg c]
      · unfold kf
        rw [if_pos h3, if_pos h5, h4]
    · left
      have hx := r95 M' hF
      have e1' : M'.1 95 1 = nI (nt σ 1) := by rw [hx]; exact e1
      have h3 := lk_count (by omega) e1' (1, M') rfl
      obtain ⟨r, h4, h5⟩ := lk_find (by omega) e1' (nI (cnt (pK (M'.1 97)) (nt σ 1)))
      refine ⟨r, ?_, ?_⟩
      · unfold b_Mo_looks_94_157
        dsimp only
        rw [show decide ((1 : Int32) = 0) = false from by decide, ite_ff, h3, Option.bind_some, h4]; rfl
      · rcases h5 with ⟨rfl, h5⟩ | ⟨f, f1, f2, f3, rfl⟩
        · refine ⟨⟨.inl rfl, hF, hw, hk, fun _ => h5⟩, ?_⟩
          dsimp only
          rw [if_pos rfl, if_neg (by decide)]; omega
        · have hkf : k0 σ m n sg tk f = 2 := by
            rcases hk f f1 with h | ⟨h, -, -⟩
            · rw [← h]; exact f2
            · exact h
          obtain ⟨t1, t2, t3⟩ := k0_2 hkf
          have hmb : mb σ m n sg tk f = true := by
            have hcl := rnds_closed (wav σ m n) (nd σ m n) tk (p0 σ m n sg tk) (f := f) (by omega)
            unfold mb
            rw [← hcl]
            unfold rnd
            have a1 : wav σ m n f = true := by unfold wav; rw [t3]; rfl
            have a2 : nd σ m n f ≤ nI (cnt (rnds (wav σ m n) (nd σ m n) tk (p0 σ m n sg tk) 10) 10) := by
              rw [hw f f1] at f3
              unfold w0 at f3
              rw [if_pos ⟨t1, t2, t3⟩] at f3
              have b1 : cnt (pK (M'.1 97)) (nt σ 1) ≤ cnt (mb σ m n sg tk) (nt σ 1) := cnt_mono _ (fun g g1 g2 => by
                rcases hk g g1 with h | ⟨-, -, h⟩
                · unfold pK at g2
                  rw [h] at g2
                  simp only [Bool.or_eq_true, decide_eq_true_eq] at g2
                  exact rnds_ge (k0_mem hn (by omega) W g2) 10
                · exact h)
              have b2 : cnt (mb σ m n sg tk) 10 = cnt (mb σ m n sg tk) (nt σ 1) := by
                have := cnt_more (p := mb σ m n sg tk) (n := nt σ 1) (10 - nt σ 1) (fun i i1 i2 => by
                  cases hh : mb σ m n sg tk i
                  · rfl
                  · have := mb_lt hn (by omega) (by omega) W hsg (by omega) hh
                    omega)
                rw [show nt σ 1 + (10 - nt σ 1) = 10 by omega] at this
                exact this
              have b3 : cnt (rnds (wav σ m n) (nd σ m n) tk (p0 σ m n sg tk) 10) 10 = cnt (mb σ m n sg tk) (nt σ 1) := b2
              have b4 := cnt_le (mb σ m n sg tk) (nt σ 1)
              rw [b3]
              rw [i_le] at f3 ⊢
              rw [nI_toI (by omega)] at f3 ⊢
              omega
            rw [a1, decide_eq_true a2, t1]
            simp
          refine ⟨⟨.inr rfl, hF.wI rfl, fun g hg => ?_, fun g hg => ?_, fun h => absurd (show (1 : Int32) = 0 from h) (by decide)⟩, ?_⟩
          · exact hw g hg
          · dsimp only
            by_cases c : g = f
            · subst c
              exact .inr ⟨hkf, rde, hmb⟩
            · rw [rdi c]; exact hk g hg
          · dsimp only
            have := cnt_lt (p := fun g => decide ((wI M' 97 f 1).1 97 g = 2)) (q := fun g => decide (M'.1 97 g = 2)) (nt σ 1) (fun g g1 g2 => by
              by_cases c : g = f
              · subst c; rw [rde] at g2; exact absurd g2 (by decide)
              · rw [rdi c] at g2; exact g2) ⟨f, f1, by rw [rde]; decide, by rw [f2]; decide⟩
            omega
/-- the members that were looked at last -/
theorem e_Mo_members {M : Mem} {p : Nat → Bool} (N : wNum (M.1 95)) (hp : ∀ f, f < nt (M.1 95) 1 → pK (M.1 97) f = p f) (hq : ∀ f, nt (M.1 95) 1 ≤ f → f < 10 → p f = false) : f_Mo_members_94 M = some (msk p 10) := by
  obtain ⟨-, n1, -⟩ := N
  obtain ⟨e1, l1⟩ := nt_inb n1
  have e3 : msk p 10 = msk p (nt (M.1 95) 1) := by
    have := msk_more (p := p) (n := nt (M.1 95) 1) (10 - nt (M.1 95) 1) (fun i h1 h2 => hq i h1 (by omega))
    rw [show nt (M.1 95) 1 + (10 - nt (M.1 95) 1) = 10 by omega] at this
    exact this
  unfold f_Mo_members_94
  have key := itr_for' (body := b_Mo_members_94_4 M) (fun k => (msk p k, nI k)) (nt (M.1 95) 1) (by omega) (e := msk p (nt (M.1 95) 1)) (fun k hk => by
    unfold b_Mo_members_94_4 jn_
    dsimp only
    rw [e1, dlt_t hk (by omega), if_pos rfl, inb_t (show k < 10 by omega) (by omega), nI_cl (by omega), msk_s (k := k), ← hp k hk, nI_one]
    unfold pK
    by_cases c1 : M.1 97 k = 1
    · rw [decide_eq_true c1]; rfl
    · rw [decide_eq_false c1]
      by_cases c3 : M.1 97 k = 3
      · rw [decide_eq_true c3]; rfl
      · rw [decide_eq_false c3]
        exact congrArg (fun x => some (Sum.inl (x, nI (k + 1)))) (or_0 _)) (by
    unfold b_Mo_members_94_4
    dsimp only
    rw [e1, dlt_f (Nat.le_refl _) (by omega)]; rfl)
  show (itr _ FU (msk p 0, nI 0)).bind _ = _
  rw [key, e3]; rfl
theorem e_count1 (p : Nat → Bool) : f_Mo_count1 (msk p 10) = some (nI (cnt p 10)) := by
  unfold f_Mo_count1
  have e3 : cnt (bt (msk p 10)) 20 = cnt p 10 := by
    rw [cnt_more (p := bt (msk p 10)) (n := 10) 10 (fun i h1 h2 => b_msk_hi p h1 (by omega))]
    exact cnt_congr 10 (fun i hi => b_msk_lo p hi)
  have key := itr_for' (body := b_Mo_count1_4 (msk p 10)) (fun k => (nI (cnt (bt (msk p 10)) k), nI k)) 20 (by omega) (e := nI (cnt (bt (msk p 10)) 20)) (fun k hk => by
    unfold b_Mo_count1_4
    dsimp only
    rw [show (20 : Int32) = nI 20 from rfl, dlt_t hk (by omega), if_pos rfl, shr_and _ (by omega), nI_one]
    show _ = some (Sum.inl (nI (cnt (bt (msk p 10)) k + if bt (msk p 10) k = true then 1 else 0), nI (k + 1)))
    cases bt (msk p 10) k
    · exact congrArg (fun x => some (Sum.inl (x, nI (k + 1)))) (nI_addn _ 0)
    · exact congrArg (fun x => some (Sum.inl (x, nI (k + 1)))) (nI_addn _ 1)) (by
    unfold b_Mo_count1_4
    dsimp only
    rw [show (20 : Int32) = nI 20 from rfl, dlt_f (Nat.le_refl _) (by omega)]; rfl)
  show (itr _ FU (nI (cnt (bt (msk p 10)) 0), nI 0)).bind _ = _
  rw [key, e3]; rfl
