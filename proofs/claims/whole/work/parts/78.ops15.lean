section O15
theorem pigeon : ∀ (m N : Nat) (f : Nat → Nat), (∀ i, i < N → f i < m) → (∀ i j, i < N → j < N → f i = f j → i = j) → N ≤ m
  | 0, 0, _, _, _ => Nat.le_refl 0
  | 0, N + 1, f, h, _ => absurd (h 0 (by omega)) (by omega)
  | m + 1, 0, _, _, _ => Nat.zero_le _
  | m + 1, N + 1, f, h, hi => by
    refine Nat.succ_le_succ (pigeon m N (fun i => if f i = m then f N else f i) (fun i hiN => ?_) (fun i j hiN hj e => ?_))
    · by_cases g : f i = m
      · rw [if_pos g]
        have := h N (by omega)
        have h2 : f N ≠ m := fun e => by
          have := hi i N (by omega) (by omega) (g.trans e.symm); omega
        omega
      · rw [if_neg g]
        have := h i (by omega); omega
    · by_cases g1 : f i = m
      · by_cases g2 : f j = m
        · exact hi i j (by omega) (by omega) (g1.trans g2.symm)
        · rw [if_pos g1, if_neg g2] at e
          have := hi N j (by omega) (by omega) e; omega
      · by_cases g2 : f j = m
        · rw [if_neg g1, if_pos g2] at e
          have := hi i N (by omega) (by omega) e; omega
        · rw [if_neg g1, if_neg g2] at e
          exact hi i j (by omega) (by omega) e

theorem jm1 (x : Int32) : 1 ≤ (jmax 1 x).toInt := by
  unfold jmax
  have h1 : (1 : Int32).toInt = 1 := rfl
  by_cases h : x < 1
  · first
    | (rw [if_pos h]; omega)
    | (rw [if_neg (by rw [i_lt] at *; omega)]; omega)
  · rw [i_lt] at h
    split <;> omega
theorem cst_neg (σ : Nat → Int32) (a b : Nat) : decide (cst σ a b < 0) = decide (cst σ a b = -5) := by
  unfold cst cG
  split
  · rfl
  · split
    · rfl
    · have := jm1 (((10 + 2 * jabs (σ (20 + a) - σ (20 + b))) + 6 * (bI (decide (σ (68 + a) = 1)) + bI (decide (σ (68 + b) = 1)))) - 4 * (bI (decide (σ (68 + a) = 2)) + bI (decide (σ (68 + b) = 2))))
      generalize jmax 1 _ = z at *
      have h5 : (-5 : Int32).toInt = -5 := rfl
      rw [decide_eq_false (by rw [i_lt, i_0]; omega), decide_eq_false (fun e => by rw [e] at this; omega)]
/-- room for one more -/
theorem tree_room {σ τ : Nat → Int32} (T : Tree σ τ) (h9 : inb (σ 9) 48 = true) {d : Nat} (hd : d < 48) (h1 : nI d ≠ σ 9) (h2 : σ (116 + d) = -1) : nt σ 5 ≤ 46 := by
  obtain ⟨t1, t2, t3⟩ := T
  obtain ⟨e9, l9⟩ := nt_inb h9
  have hc : ∀ i, i < nt σ 5 → ∃ c, c < 48 ∧ τ i = nI c ∧ c ≠ nt σ 9 ∧ c ≠ d := by
    intro i hi
    obtain ⟨c, c1, c2, c3, -⟩ := t1 i hi
    refine ⟨c, c1, c2, fun e => c3 (by rw [e, ← e9]), fun e => ?_⟩
    have := (t3 c c1).mpr ⟨i, hi, c2⟩
    rw [e] at this; exact this h2
  have hne : d ≠ nt σ 9 := fun e => h1 (by rw [e, ← e9])
  have hcl : ∀ i, i < nt σ 5 → (τ i).toNatClampNeg < 48 ∧ τ i = nI (τ i).toNatClampNeg ∧ (τ i).toNatClampNeg ≠ nt σ 9 ∧ (τ i).toNatClampNeg ≠ d := by
    intro i hi
    obtain ⟨c, c1, c2, c3, c4⟩ := hc i hi
    rw [c2, nI_cl (by omega)]
    exact ⟨c1, rfl, c3, c4⟩
  have := pigeon 48 (nt σ 5 + 2) (fun i => if i < nt σ 5 then (τ i).toNatClampNeg else if i = nt σ 5 then d else nt σ 9) (fun i hi => by
    split
    · exact (hcl i (by assumption)).1
    · split <;> omega) (fun i j hi hj e => by
    by_cases g1 : i < nt σ 5
    · rw [if_pos g1] at e
      obtain ⟨a1, a2, a3, a4⟩ := hcl i g1
      by_cases g2 : j < nt σ 5
      · rw [if_pos g2] at e
        refine t2 i j g1 g2 ?_
        rw [a2, (hcl j g2).2.1, e]
      · rw [if_neg g2] at e
        by_cases g3 : j = nt σ 5
        · rw [if_pos g3] at e; exact absurd e a4
        · rw [if_neg g3] at e; exact absurd e a3
    · rw [if_neg g1] at e
      by_cases g2 : j < nt σ 5
      · rw [if_pos g2] at e
        obtain ⟨a1, a2, a3, a4⟩ := hcl j g2
        by_cases g3 : i = nt σ 5
        · rw [if_pos g3] at e; exact absurd e.symm a4
        · rw [if_neg g3] at e; exact absurd e.symm a3
      · rw [if_neg g2] at e
        by_cases g3 : i = nt σ 5
        · by_cases g4 : j = nt σ 5
          · omega
          · rw [if_pos g3, if_neg g4] at e; exact absurd e hne
        · by_cases g4 : j = nt σ 5
          · rw [if_neg g3, if_pos g4] at e; exact absurd e.symm hne
          · omega)
  omega
theorem tree_add {σ σ' τ τ' : Nat → Int32} (T : Tree σ τ) (h9 : inb (σ 9) 48 = true) {c d : Nat} (hc : c < 48) (hd : d < 48) (hcd : c ≠ d) (h0 : onL σ c = true) (h1 : onL σ d = false) (e9 : σ' 9 = σ 9) (e5 : σ' 5 = nI (nt σ 5 + 1)) (ed : σ' (116 + d) = nI c) (eo : ∀ j, j < 48 → j ≠ d → σ' (116 + j) = σ (116 + j)) (eτ : ∀ i, i < nt σ 5 → τ' i = τ i) (en : τ' (nt σ 5) = nI d) : Tree σ' τ' := by
  have hr : nt σ 5 ≤ 46 := tree_room T h9 hd (fun e => by
    unfold onL at h1; rw [decide_eq_true e] at h1; cases h1) (by
    unfold onL at h1
    rw [Bool.or_eq_false_iff] at h1
    have := h1.2
    rw [Bool.not_eq_false'] at this
    exact of_decide_eq_true this)
  have hd9 : nI d ≠ σ 9 := fun e => by
    unfold onL at h1; rw [decide_eq_true e] at h1; cases h1
  have hdm : σ (116 + d) = -1 := by
    unfold onL at h1
    rw [Bool.or_eq_false_iff] at h1
    have := h1.2
    rw [Bool.not_eq_false'] at this
    exact of_decide_eq_true this
  obtain ⟨t1, t2, t3⟩ := T
  have n5 : nt σ' 5 = nt σ 5 + 1 := by
    unfold nt; rw [e5]; exact nI_cl (by omega)
  have hdo : ∀ i, i < nt σ 5 → τ i ≠ nI d := fun i hi e => (t3 d hd).mpr ⟨i, hi, e⟩ hdm
  refine ⟨fun i hi => ?_, fun i j hi hj e => ?_, fun x hx => ?_⟩
  · rw [n5] at hi
    by_cases g : i < nt σ 5
    · obtain ⟨x, x1, x2, x3, x4⟩ := t1 i g
      have hxd : x ≠ d := fun e => hdo i g (by rw [x2, e])
      refine ⟨x, x1, (eτ i g).trans x2, by rw [e9]; exact x3, ?_⟩
      rw [eo x x1 hxd, e9]
      rcases x4 with h | ⟨j, j1, j2⟩
      · exact .inl h
      · exact .inr ⟨j, j1, by rw [eτ j (by omega)]; exact j2⟩
    · have : i = nt σ 5 := by omega
      subst this
      refine ⟨d, hd, en, by rw [e9]; exact hd9, ?_⟩
      rw [ed, e9]
      unfold onL at h0
      rw [Bool.or_eq_true] at h0
      rcases h0 with h | h
      · exact .inl (of_decide_eq_true h)
      · have h' : σ (116 + c) ≠ -1 := by
          rw [Bool.not_eq_true'] at h
          exact of_decide_eq_false h
        obtain ⟨j, j1, j2⟩ := (t3 c hc).mp h'
        exact .inr ⟨j, j1, by rw [eτ j j1]; exact j2.symm⟩
  · rw [n5] at hi hj
    by_cases g1 : i < nt σ 5
    · rw [eτ i g1] at e
      by_cases g2 : j < nt σ 5
      · rw [eτ j g2] at e; exact t2 i j g1 g2 e
      · rw [show j = nt σ 5 by omega, en] at e; exact absurd e (hdo i g1)
    · by_cases g2 : j < nt σ 5
      · rw [eτ j g2, show i = nt σ 5 by omega, en] at e; exact absurd e.symm (hdo j g2)
      · omega
  · by_cases g : x = d
    · subst g
      rw [ed]
      exact ⟨fun _ => ⟨nt σ 5, by omega, en⟩, fun _ => nI_ne_m1 (by omega)⟩
    · rw [eo x hx g, t3 x hx, n5]
      constructor
      · rintro ⟨i, i1, i2⟩; exact ⟨i, by omega, by rw [eτ i i1]; exact i2⟩
      · rintro ⟨i, i1, i2⟩
        by_cases g1 : i < nt σ 5
        · exact ⟨i, g1, by rw [← eτ i g1]; exact i2⟩
        · rw [show i = nt σ 5 by omega, en] at i2
          exact absurd ((nI_inj (by omega) (by omega)).mp i2).symm g
theorem op_line : Op_line Rel := by
  intro n M v0 v1 hn H
  have W := Rel_W hn H
  obtain ⟨b1, b2, b3, b6⟩ := Rel_b H
  obtain ⟨gB, gL, gI, gR, gP, gT, gK, gO, gN⟩ := RS1_gs H.1
  have hno : ∀ x, f_CF_line_0 v0 v1 M = some (x, M) → f_Mo_line_94 v0 v1 M = some (x, M) → ∃ r M1 M2, f_CF_line_0 v0 v1 M = some (r, M1) ∧ f_Mo_line_94 v0 v1 M1 = some (r, M2) ∧ Rel (n + 1) M2 := fun x h1 h2 => ⟨x, M, M, h1, h2, Rel_mono H (by omega)⟩
  by_cases c0 : wthn v0 0 47 = true
  rotate_left
  · exact hno (-1) (by unfold f_CF_line_0; rw [if_neg c0]) (by unfold f_Mo_line_94; rw [e_Mo_isCell, Option.bind_some, if_neg c0])
  by_cases c1 : wthn v1 0 47 = true
  rotate_left
  · exact hno (-1) (by unfold f_CF_line_0; rw [if_pos c0, if_neg c1]) (by unfold f_Mo_line_94; rw [e_Mo_isCell, Option.bind_some, if_pos c0, e_Mo_isCell, Option.bind_some, if_neg c1])
  obtain ⟨ec, lc⟩ := nI_of_inb (w_inb (a := 0) (b := 47) (by omega) (by omega) c0).1
  obtain ⟨ed, ld⟩ := nI_of_inb (w_inb (a := 0) (b := 47) (by omega) (by omega) c1).1
  generalize v0.toNatClampNeg = c at *
  generalize v1.toNatClampNeg = d at *
  subst ec ed
  have hC0 : ∀ X, X = f_CF_line_0 (nI c) (nI d) M → X = if bsd (nI c) (nI d) then (if decide (cst (M.1 95) c d = -5) then some (-3, M) else if onL (M.1 95) c then (if onL (M.1 95) d then some (-3, M) else (f_Line_add_24 (nI c) (nI d) M).bind fun q10 => some (q10.1 24 2, q10)) else some (-3, M)) else some (-2, M) := by
    intro X hX
    rw [hX]
    unfold f_CF_line_0
    rw [if_pos c0, if_pos c1, e_stretch gL.1 lc ld, Option.bind_some, cst_neg, e_CF_isOnLine gI gL.1.2.1 lc, Option.bind_some, e_CF_isOnLine gI gL.1.2.1 ld, Option.bind_some]
  have hC := hC0 _ rfl
  have hM0 : ∀ X : Mem, X.1 95 = M.1 95 → f_Mo_line_94 (nI c) (nI d) X = if bsd (nI c) (nI d) then (if decide (cst (M.1 95) c d = -5) then some (-3, X) else if onL (M.1 95) c then (if onL (M.1 95) d then some (-3, X) else (jv_ (wI X 95 (116 + d) (nI c)) fun M14 => jv_ (wI M14 95 5 ((M14.1 95 5) + 1)) fun M15 => jv_ (wI M15 94 21 ((M15.1 94 21) + 1)) fun M16 => some (M16.1 95 5, M16))) else some (-3, X)) else some (-2, X) := by
    intro X hX
    unfold f_Mo_line_94
    rw [e_Mo_isCell, Option.bind_some, if_pos c0, e_Mo_isCell, Option.bind_some, if_pos c1, bs_fin c lc d ld, Option.bind_some, e_Mo_costOf lc ld (by rw [hX]; exact gL.2.1), Option.bind_some, e_Mo_isOnLine lc, Option.bind_some, e_Mo_isOnLine ld, Option.bind_some, hX, q116, nI_addn, inb_t (by omega) (by omega), ite_tt, nI_cl (by omega)]
  by_cases c2 : bsd (nI c) (nI d) = true
  rotate_left
  · exact hno (-2) (by rw [hC, if_neg c2]) (by rw [hM0 M rfl, if_neg c2])
  by_cases c3 : decide (cst (M.1 95) c d = -5) = true
  · exact hno (-3) (by rw [hC, if_pos c2, if_pos c3]) (by rw [hM0 M rfl, if_pos c2, if_pos c3])
  by_cases c4 : onL (M.1 95) c = true
  rotate_left
  · exact hno (-3) (by rw [hC, if_pos c2, if_neg c3, if_neg c4]) (by rw [hM0 M rfl, if_pos c2, if_neg c3, if_neg c4])
  by_cases c5 : onL (M.1 95) d = true
  · exact hno (-3) (by rw [hC, if_pos c2, if_neg c3, if_pos c4, if_pos c5]) (by rw [hM0 M rfl, if_pos c2, if_neg c3, if_pos c4, if_pos c5])
  have c5' : onL (M.1 95) d = false := by rcases h : onL (M.1 95) d with _ | _; rfl; exact absurd h c5
  have hcd : c ≠ d := fun e => by rw [e, c5'] at c4; cases c4
  have h9 : inb (M.1 95 9) 48 = true := gN.2.1.2.2.2.2.2.2.2.2.2
  obtain ⟨e5, l5⟩ := nt_inb gN.2.1.2.2.2.2.2.1
  have hd9 : nI d ≠ M.1 95 9 := fun e => by
    unfold onL at c5'; rw [decide_eq_true e] at c5'; cases c5'
  have hdm : M.1 95 (116 + d) = -1 := by
    unfold onL at c5'
    rw [Bool.or_eq_false_iff] at c5'
    have := c5'.2
    rw [Bool.not_eq_false'] at this
    exact of_decide_eq_true this
  have hr := tree_room gI.2.2.2.2 h9 ld hd9 hdm
  have hT := fun σ' τ' => tree_add (σ' := σ') (τ' := τ') gI.2.2.2.2 h9 lc ld hcd c4 c5'
  generalize hN : nt (M.1 95) 5 = N at *
  have eC : ∀ a, (a ≠ 24 ∧ a ≠ 25 ∧ a ≠ 26 ∧ a ≠ 95 ∧ a ≠ 94) → (wI (wI (wI (wI (wI (wI M 25 d (nI c)) 26 N (nI d)) 24 2 (nI (N + 1))) 95 (116 + d) (nI c)) 95 5 (nI (N + 1))) 94 21 (M.1 94 21 + 1)).1 a = M.1 a := fun a ha => by
    simp (disch := omega) only [rdk]
  have eσ : ∀ j, (j ≠ 5 ∧ j ≠ 116 + d) → (wI (wI (wI (wI (wI (wI M 25 d (nI c)) 26 N (nI d)) 24 2 (nI (N + 1))) 95 (116 + d) (nI c)) 95 5 (nI (N + 1))) 94 21 (M.1 94 21 + 1)).1 95 j = M.1 95 j := fun j hj => by
    simp (disch := omega) only [rdi, rdk]
  have eD : (wI (wI (wI (wI (wI (wI M 25 d (nI c)) 26 N (nI d)) 24 2 (nI (N + 1))) 95 (116 + d) (nI c)) 95 5 (nI (N + 1))) 94 21 (M.1 94 21 + 1)).1 95 (116 + d) = nI c := by
    simp (disch := omega) only [rdi, rdk, rde]
  have w5 : (wI (wI (wI (wI (wI (wI M 25 d (nI c)) 26 N (nI d)) 24 2 (nI (N + 1))) 95 (116 + d) (nI c)) 95 5 (nI (N + 1))) 94 21 (M.1 94 21 + 1)).1 95 5 = nI (N + 1) := by simp (disch := omega) only [rdi, rde, rdk]
  refine ⟨nI (N + 1), wI (wI (wI M 25 d (nI c)) 26 N (nI d)) 24 2 (nI (N + 1)), wI (wI (wI (wI (wI (wI M 25 d (nI c)) 26 N (nI d)) 24 2 (nI (N + 1))) 95 (116 + d) (nI c)) 95 5 (nI (N + 1))) 94 21 (M.1 94 21 + 1), ?_, ?_, Rel_new hn H ?_ (d := 1) (by omega) (by omega) ?_ ?_ ?_⟩
  · rw [hC, if_pos c2, if_neg c3, if_pos c4, if_neg c5]
    unfold f_Line_add_24 jv_
    dsimp only
    rw [putv_nI (by omega) (by omega), rdk (by omega), gI.1, e5, putv_nI (by omega) (by omega), rdk (by omega), rdk (by omega), gI.1, e5, nI_one, Option.bind_some, rde]
  · rw [hM0 _ (by simp (disch := omega) only [rdk]), if_pos c2, if_neg c3, if_pos c4, if_neg c5]
    unfold jv_
    dsimp only
    simp (disch := omega) only [rdk, rdi, rde]
    rw [e5, nI_one]
  · refine RS1_mk ?_ ?_ ?_ ?_ ?_ ?_ ?_ ?_ ?_
    · exact GB_s (fun a h1 h2 => eC a (by omega)) (eσ 1 (by omega)) (eσ 2 (by omega)) (fun j h1 h2 => eσ j (by omega)) b2 gB
    · obtain ⟨⟨x1, x2, x3, x4⟩, y1, y2, y3⟩ := gL
      refine ⟨⟨?_, ?_, fun d hd => ?_, fun f hf => ?_⟩, fun d hd => ?_, fun f hf => ?_, fun x hx => ?_⟩
      · rw [eC 2 (by omega), eσ 1 (by omega)]; exact x1
      · rw [eC 2 (by omega), eσ 9 (by omega)]; exact x2
      · rw [eC 3 (by omega), eC 4 (by omega), eσ (20 + d) (by omega), eσ (68 + d) (by omega)]; exact x3 d hd
      · rw [eC 5 (by omega), eC 6 (by omega), eσ _ (by omega), eσ _ (by omega)]; exact x4 f hf
      · rw [eσ (20 + d) (by omega), eσ (68 + d) (by omega)]; exact y1 d hd
      · rw [nt_eq (eσ 1 (by omega))] at hf
        rw [eσ _ (by omega), eσ _ (by omega)]; exact y2 f hf
      · by_cases g : x = d
        · rw [g, eD]; exact Or.inr (inb_t lc (by omega))
        · rw [eσ _ (by omega)]; exact y3 x hx
    · obtain ⟨x1, x2, x3, x4, x5⟩ := gI
      refine ⟨?_, ?_, ?_, fun c hc => ?_, ?_⟩
      · rw [w5]; simp (disch := omega) only [rdi, rde, rdk]
      · rw [eσ 7 (by omega), ← x2]; simp (disch := omega) only [rdi, rde, rdk]
      · rw [eσ 8 (by omega), ← x3]; simp (disch := omega) only [rdi, rde, rdk]
      · by_cases g : c = d
        · subst g; rw [eD]; simp (disch := omega) only [rdi, rde, rdk]
        · rw [eσ _ (by omega)]; simp (disch := omega) only [rdi, rde, rdk]; exact x4 c hc
      · refine hT _ _ (eσ 9 (by omega)) w5 eD (fun j hj hjd => eσ _ (by omega)) (fun i hi => ?_) ?_
        · simp (disch := omega) only [rdi, rde, rdk]
        · simp (disch := omega) only [rdi, rde, rdk]
    · exact Rrule_s (by rw [eC 14 (by omega)]) (fun a h1 h2 => eC a (by omega)) (eσ 3 (by omega)) (fun j h1 h2 => eσ j (by omega)) b3 gR
    · exact GP_s (eC 37 (by omega)) (eC 38 (by omega)) (eσ 1 (by omega)) (fun j h1 h2 => eσ j (by omega)) gP
    · exact GT_s (by rw [eC 14 (by omega)]) (eC 15 (by omega)) (eσ 4 (by omega)) (fun j h1 h2 => eσ j (by omega)) gT
    · obtain ⟨⟨x1, x2⟩, y1, y2⟩ := gK
      refine ⟨⟨?_, fun i hi => ?_⟩, fun i hi => ?_, fun i j hi hj => ?_⟩
      · rw [eC 29 (by omega), eσ 6 (by omega)]; exact x1
      · rw [eC 30 (by omega), eC 31 (by omega), eσ _ (by omega), eσ _ (by omega)]; exact x2 i hi
      · rw [nt_eq (eσ 6 (by omega))] at hi
        have e := eσ (2260 + i) (by omega)
        obtain ⟨z1, z2, z3, z4⟩ := y1 i hi
        have hlt := (nI_of_inb z1).2
        rw [e, eσ (2270 + i) (by omega), nt_eq e]
        refine ⟨z1, z2, z3, ?_⟩
        by_cases g : nt (M.1 95) (2260 + i) = d
        · rw [g, eD]; exact nI_ne_m1 (by omega)
        · rw [eσ _ (by omega)]; exact z4
      · rw [nt_eq (eσ 6 (by omega))] at hi hj
        rw [eσ _ (by omega), eσ _ (by omega)]; exact y2 i j hi hj
    · exact GO_s (eC 36 (by omega)) (fun j h1 h2 => eσ j (by omega)) gO
    · obtain ⟨x1, ⟨z0, z1, z2, z3, z4, z5, z6, z7, z8, z9⟩, x3⟩ := gN
      refine ⟨?_, ⟨?_, ?_, ?_, ?_, ?_, ?_, ?_, ?_, ?_, ?_⟩, ?_⟩
      · rw [eC 1 (by omega), eσ 0 (by omega)]; exact x1
      · rw [eσ 0 (by omega)]; exact z0
      · rw [eσ 1 (by omega)]; exact z1
      · rw [eσ 2 (by omega)]; exact z2
      · rw [eσ 3 (by omega)]; exact z3
      · rw [eσ 4 (by omega)]; exact z4
      · rw [w5]; exact inb_t (by omega) (by omega)
      · rw [eσ 6 (by omega)]; exact z6
      · rw [eσ 7 (by omega)]; exact z7
      · rw [eσ 8 (by omega)]; exact z8
      · rw [eσ 9 (by omega)]; exact z9
      · rw [eσ 3 (by omega)]; exact x3
  · simp (disch := omega) only [rde, rdi, rdk]; rfl
  · simp (disch := omega) only [rdi, rdk]
  · intro a ha; exact eC a (by omega)

end O15
