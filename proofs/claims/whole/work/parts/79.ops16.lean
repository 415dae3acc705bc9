section O16
def bkH (σ : Nat → Int32) (c : Nat) : Nat → Bool
  | 0 => false
  | k + 1 => bkH σ c k || decide (σ (2260 + k) = nI c)
theorem bkH_t {σ : Nat → Int32} {c k : Nat} : ∀ n, k < n → σ (2260 + k) = nI c → bkH σ c n = true
  | 0, h, _ => absurd h (by omega)
  | n + 1, h, e => by
    unfold bkH
    by_cases g : k = n
    · rw [← g, decide_eq_true e, Bool.or_true]
    · rw [bkH_t n (by omega) e, Bool.true_or]
theorem bkH_of {σ : Nat → Int32} {c : Nat} : ∀ n, bkH σ c n = true → ∃ k, k < n ∧ σ (2260 + k) = nI c
  | 0, h => by cases h
  | n + 1, h => by
    unfold bkH at h
    rw [Bool.or_eq_true] at h
    rcases h with h | h
    · obtain ⟨k, h1, h2⟩ := bkH_of n h; exact ⟨k, by omega, h2⟩
    · exact ⟨n, by omega, of_decide_eq_true h⟩
theorem e_placeOf {M : Mem} {σ : Nat → Int32} {c : Nat} (K : Rbrk M.1 σ) (h6 : inb (σ 6) 7 = true) : ∃ x, f_Breaks_placeOf_29 (nI c) M = some x ∧ ((x = -1 ∧ bkH σ c (nt σ 6) = false) ∨ ∃ i, i < nt σ 6 ∧ x = nI i ∧ σ (2260 + i) = nI c ∧ bkH σ c (nt σ 6) = true) := by
  obtain ⟨e6, l6⟩ := nt_inb h6
  unfold f_Breaks_placeOf_29
  obtain ⟨e, h1, h2⟩ := itr_cnt (body := b_Breaks_placeOf_29_2 (nI c) M) (s0 := (0 : Int32)) (fun k s => s = nI k ∧ bkH σ c k = false) (fun e => (e = .inl () ∧ bkH σ c (nt σ 6) = false) ∨ ∃ i, i < nt σ 6 ∧ e = .inr (nI i) ∧ σ (2260 + i) = nI c ∧ bkH σ c (nt σ 6) = true) (nt σ 6) (by omega) ⟨rfl, rfl⟩ (by
    rintro k s hk ⟨i1, i2⟩
    subst i1
    unfold b_Breaks_placeOf_29_2
    rw [K.1, e6, dlt_t hk (by omega), ite_tt, atv_nI (by omega) (by omega), (K.2 k (by omega)).1]
    by_cases g : σ (2260 + k) = nI c
    · right
      rw [decide_eq_true g, ite_tt]
      exact ⟨_, rfl, Or.inr ⟨k, hk, rfl, g, bkH_t _ hk g⟩⟩
    · left
      rw [decide_eq_false g, ite_ff, nI_one]
      refine ⟨_, rfl, rfl, ?_⟩
      unfold bkH; rw [i2, decide_eq_false g]; rfl) (by
    rintro s ⟨i1, i2⟩
    subst i1
    unfold b_Breaks_placeOf_29_2
    rw [K.1, e6, dlt_f (by omega) (by omega), ite_ff]
    exact ⟨_, rfl, Or.inl ⟨rfl, i2⟩⟩)
  rw [h1, Option.bind_some]
  rcases h2 with ⟨h2, h3⟩ | ⟨i, h2, h3, h4, h5⟩
  · rw [h2]; exact ⟨-1, rfl, Or.inl ⟨rfl, h3⟩⟩
  · rw [h3]; exact ⟨nI i, rfl, Or.inr ⟨i, h2, rfl, h4, h5⟩⟩
theorem e_MoBrk {M : Mem} {c : Nat} (h6 : inb (M.1 95 6) 7 = true) (b : Bool) : itr (b_Mo_storm_94_44 (nI c) M) FU (b, 0) = some (b && !bkH (M.1 95) c (nt (M.1 95) 6)) := by
  obtain ⟨e6, l6⟩ := nt_inb h6
  obtain ⟨e, h1, h2⟩ := itr_cnt (body := b_Mo_storm_94_44 (nI c) M) (s0 := (b, (0 : Int32))) (fun k s => s = (b && !bkH (M.1 95) c k, nI k)) (fun e => e = (b && !bkH (M.1 95) c (nt (M.1 95) 6))) (nt (M.1 95) 6) (by omega) (by
    show (b, (0 : Int32)) = (b && !false, nI 0)
    rw [Bool.not_false, Bool.and_true]; rfl) (by
    rintro k s hk i1
    subst i1
    left
    refine ⟨_, ?_, rfl⟩
    unfold b_Mo_storm_94_44
    dsimp only
    rw [e6, dlt_t hk (by omega), ite_tt, nI_one, show (2260 : Int32) = nI 2260 from rfl, nI_addn, inb_t (by omega) (by omega), ite_tt, nI_cl (by omega)]
    show _ = some (Sum.inl (b && !(bkH (M.1 95) c k || decide ((M.1 95) (2260 + k) = nI c)), nI (k + 1)))
    cases b <;> cases bkH (M.1 95) c k <;> cases decide ((M.1 95) (2260 + k) = nI c) <;> rfl) (by
    rintro s i1
    subst i1
    refine ⟨_, ?_, rfl⟩
    unfold b_Mo_storm_94_44
    dsimp only
    rw [e6, dlt_f (by omega) (by omega), ite_ff])
  rw [h1, h2]
theorem op_storm : Op_storm Rel := by
  intro n M v0 v1 hn H
  have W := Rel_W hn H
  obtain ⟨b1, b2, b3, b6⟩ := Rel_b H
  obtain ⟨gB, gL, gI, gR, gP, gT, gK, gO, gN⟩ := RS1_gs H.1
  have hno : ∀ x, f_CF_storm_0 v0 v1 M = some (x, M) → f_Mo_storm_94 v0 v1 M = some (x, M) → ∃ r M1 M2, f_CF_storm_0 v0 v1 M = some (r, M1) ∧ f_Mo_storm_94 v0 v1 M1 = some (r, M2) ∧ Rel (n + 1) M2 := fun x h1 h2 => ⟨x, M, M, h1, h2, Rel_mono H (by omega)⟩
  by_cases c0 : wthn v0 0 47 = true
  rotate_left
  · exact hno (-1) (by unfold f_CF_storm_0; rw [if_neg c0]) (by unfold f_Mo_storm_94; rw [e_Mo_isCell, Option.bind_some, if_neg c0])
  by_cases c1 : wthn v1 1 20 = true
  rotate_left
  · exact hno (-2) (by unfold f_CF_storm_0; rw [if_pos c0, if_neg c1]) (by unfold f_Mo_storm_94; rw [e_Mo_isCell, Option.bind_some, if_pos c0, e_Mo_in, Option.bind_some, if_neg c1])
  obtain ⟨ec, lc⟩ := nI_of_inb (w_inb (a := 0) (b := 47) (by omega) (by omega) c0).1
  generalize v0.toNatClampNeg = c at *
  subst ec
  have h6 : inb (M.1 95 6) 7 = true := gN.2.1.2.2.2.2.2.2.1
  obtain ⟨x, p1, p2⟩ := e_placeOf (c := c) gK.1 h6
  have hneg : decide (x < 0) = !bkH (M.1 95) c (nt (M.1 95) 6) := by
    rcases p2 with ⟨a, b⟩ | ⟨i, a, b, -, d⟩
    · rw [a, b]; rfl
    · rw [b, d, nI_nneg (by omega)]; rfl
  obtain ⟨e6, l6⟩ := nt_inb h6
  have hC0 : ∀ X, X = f_CF_storm_0 (nI c) v1 M → X = if decide (M.1 95 (116 + c) = -1) then some (-3, M) else if !bkH (M.1 95) c (nt (M.1 95) 6) then (if decide (nt (M.1 95) 6 < 6) then ((f_Breaks_add_29 (nI c) v1 M).bind fun q8 => some (q8.1 29 2, q8)) else some (-4, M)) else some (-3, M) := by
    intro X hX
    rw [hX]
    unfold f_CF_storm_0
    rw [if_pos c0, if_pos c1, e_ahead (σ := M.1 95) lc (gI.2.2.2.1 c lc), Option.bind_some, p1, Option.bind_some, hneg, gK.1.1, e6, show (6 : Int32) = nI 6 from rfl, d_lt (by omega) (by omega)]
  have hC := hC0 _ rfl
  have hM0 : ∀ X : Mem, X.1 95 = M.1 95 → f_Mo_storm_94 (nI c) v1 X = if (!decide (M.1 95 (116 + c) = -1)) && !bkH (M.1 95) c (nt (M.1 95) 6) then (if decide (nt (M.1 95) 6 = 6) then some (-4, X) else (jv_ (wI X 95 (2260 + nt (M.1 95) 6) (nI c)) fun M18 => if inb (2270 + (M18.1 95 6)) 4700 then jv_ (wI M18 95 (2270 + (M18.1 95 6)).toNatClampNeg v1) fun M20 => jv_ (wI M20 95 6 ((M20.1 95 6) + 1)) fun M21 => some (M21.1 95 6, M21) else none)) else some (-3, X) := by
    intro X hX
    unfold f_Mo_storm_94
    rw [e_Mo_isCell, Option.bind_some, if_pos c0, e_Mo_in, Option.bind_some, if_pos c1, q116, nI_addn, inb_t (by omega) (by omega), ite_tt, nI_cl (by omega)]
    unfold jv_
    dsimp only
    rw [e_MoBrk (by rw [hX]; exact h6), Option.bind_some, hX, show decide (M.1 95 6 = 6) = decide (nt (M.1 95) 6 = 6) by rw [e6, show (6 : Int32) = nI 6 from rfl, d_eq (by omega) (by omega)], e6, show (2260 : Int32) = nI 2260 from rfl, nI_addn, inb_t (by omega) (by omega), ite_tt, nI_cl (by omega)]
  by_cases c2 : decide (M.1 95 (116 + c) = -1) = true
  · exact hno (-3) (by rw [hC, if_pos c2]) (by rw [hM0 M rfl, c2]; rfl)
  have c2' : decide (M.1 95 (116 + c) = -1) = false := by rcases h : decide (M.1 95 (116 + c) = -1) with _ | _; rfl; exact absurd h c2
  rw [c2', ite_ff] at hC
  rw [c2', Bool.not_false, Bool.true_and] at hM0
  by_cases c3 : bkH (M.1 95) c (nt (M.1 95) 6) = true
  · exact hno (-3) (by rw [hC, c3]; rfl) (by rw [hM0 M rfl, c3]; rfl)
  have c3' : bkH (M.1 95) c (nt (M.1 95) 6) = false := by rcases h : bkH (M.1 95) c (nt (M.1 95) 6) with _ | _; rfl; exact absurd h c3
  rw [c3', Bool.not_false, ite_tt] at hC
  by_cases c4 : nt (M.1 95) 6 = 6
  · exact hno (-4) (by rw [hC, if_neg (by rw [decide_eq_true_eq]; omega)]) (by rw [hM0 M rfl, c3', Bool.not_false, ite_tt, if_pos (decide_eq_true c4)])
  rw [if_pos (decide_eq_true (by omega))] at hC
  have hv := w_inb (a := 1) (b := 20) (by omega) (by omega) c1
  have hfree : ∀ i, i < nt (M.1 95) 6 → M.1 95 (2260 + i) ≠ nI c := fun i hi e => by rw [bkH_t _ hi e] at c3'; cases c3'
  have hcm : M.1 95 (116 + c) ≠ -1 := of_decide_eq_false c2'
  generalize hN : nt (M.1 95) 6 = N at *
  have l6' : N < 6 := by omega
  have eC : ∀ a, (a ≠ 29 ∧ a ≠ 30 ∧ a ≠ 31 ∧ a ≠ 95) → (wI (wI (wI (wI (wI (wI M 30 N (nI c)) 31 N v1) 29 2 (nI (N + 1))) 95 (2260 + N) (nI c)) 95 (2270 + N) v1) 95 6 (nI (N + 1))).1 a = M.1 a := fun a ha => by
    simp (disch := omega) only [rdk]
  have eσ : ∀ j, (j ≠ 6 ∧ j ≠ 2260 + N ∧ j ≠ 2270 + N) → (wI (wI (wI (wI (wI (wI M 30 N (nI c)) 31 N v1) 29 2 (nI (N + 1))) 95 (2260 + N) (nI c)) 95 (2270 + N) v1) 95 6 (nI (N + 1))).1 95 j = M.1 95 j := fun j hj => by
    simp (disch := omega) only [rdi, rdk]
  have w6 : (wI (wI (wI (wI (wI (wI M 30 N (nI c)) 31 N v1) 29 2 (nI (N + 1))) 95 (2260 + N) (nI c)) 95 (2270 + N) v1) 95 6 (nI (N + 1))).1 95 6 = nI (N + 1) := by simp (disch := omega) only [rdi, rde, rdk]
  have wa : (wI (wI (wI (wI (wI (wI M 30 N (nI c)) 31 N v1) 29 2 (nI (N + 1))) 95 (2260 + N) (nI c)) 95 (2270 + N) v1) 95 6 (nI (N + 1))).1 95 (2260 + N) = nI c := by simp (disch := omega) only [rdi, rde, rdk]
  have wb : (wI (wI (wI (wI (wI (wI M 30 N (nI c)) 31 N v1) 29 2 (nI (N + 1))) 95 (2260 + N) (nI c)) 95 (2270 + N) v1) 95 6 (nI (N + 1))).1 95 (2270 + N) = v1 := by simp (disch := omega) only [rdi, rde, rdk]
  refine ⟨nI (N + 1), wI (wI (wI M 30 N (nI c)) 31 N v1) 29 2 (nI (N + 1)), wI (wI (wI (wI (wI (wI M 30 N (nI c)) 31 N v1) 29 2 (nI (N + 1))) 95 (2260 + N) (nI c)) 95 (2270 + N) v1) 95 6 (nI (N + 1)), ?_, ?_, Rel_same hn H ?_ ?_ ?_ ?_⟩
  · rw [hC]
    unfold f_Breaks_add_29 jv_
    dsimp only
    rw [gK.1.1, e6, putv_nI (by omega) (by omega), rdk (by omega), gK.1.1, e6, putv_nI (by omega) (by omega), rdk (by omega), rdk (by omega), gK.1.1, e6, nI_one, Option.bind_some, rde]
  · rw [hM0 _ (by simp (disch := omega) only [rdk]), c3', Bool.not_false, ite_tt, if_neg (by rw [decide_eq_true_eq]; omega)]
    unfold jv_
    dsimp only
    simp (disch := omega) only [rdk, rdi, rde]
    rw [e6, show (2270 : Int32) = nI 2270 from rfl, nI_addn, inb_t (by omega) (by omega), ite_tt, nI_cl (by omega)]
    simp (disch := omega) only [rdk, rdi, rde]
    rw [e6, nI_one]
  · refine RS1_mk ?_ ?_ ?_ ?_ ?_ ?_ ?_ ?_ ?_
    · exact GB_s (fun a h1 h2 => eC a (by omega)) (eσ 1 (by omega)) (eσ 2 (by omega)) (fun j h1 h2 => eσ j (by omega)) b2 gB
    · exact GL_s (fun a h1 h2 => eC a (by omega)) (eσ 1 (by omega)) (eσ 9 (by omega)) (fun j h1 h2 => eσ j (by omega)) b1 gL
    · exact Rline_s (fun a h1 h2 => eC a (by omega)) (eσ 5 (by omega)) (eσ 7 (by omega)) (eσ 8 (by omega)) (eσ 9 (by omega)) (fun j h1 h2 => eσ j (by omega)) gI
    · exact Rrule_s (by rw [eC 14 (by omega)]) (fun a h1 h2 => eC a (by omega)) (eσ 3 (by omega)) (fun j h1 h2 => eσ j (by omega)) b3 gR
    · exact GP_s (eC 37 (by omega)) (eC 38 (by omega)) (eσ 1 (by omega)) (fun j h1 h2 => eσ j (by omega)) gP
    · exact GT_s (by rw [eC 14 (by omega)]) (eC 15 (by omega)) (eσ 4 (by omega)) (fun j h1 h2 => eσ j (by omega)) gT
    · obtain ⟨⟨x1, x2⟩, y1, y2⟩ := gK
      have n6 : nt ((wI (wI (wI (wI (wI (wI M 30 N (nI c)) 31 N v1) 29 2 (nI (N + 1))) 95 (2260 + N) (nI c)) 95 (2270 + N) v1) 95 6 (nI (N + 1))).1 95) 6 = N + 1 := by unfold nt; rw [w6]; exact nI_cl (by omega)
      refine ⟨⟨?_, fun i hi => ?_⟩, fun i hi => ?_, fun i j hi hj => ?_⟩
      · rw [w6]; simp (disch := omega) only [rdi, rde, rdk]
      · by_cases g : i = N
        · subst g
          rw [wa, wb]; simp (disch := omega) only [rdi, rde, rdk]; exact ⟨trivial, trivial⟩
        · rw [eσ _ (by omega), eσ _ (by omega)]; simp (disch := omega) only [rdi, rde, rdk]; exact x2 i hi
      · rw [n6] at hi
        by_cases g : i = N
        · subst g
          unfold nt
          rw [wa, wb, nI_cl (by omega), eσ _ (by omega)]
          exact ⟨inb_t lc (by omega), hv.1, hv.2 (by omega), hcm⟩
        · have e := eσ (2260 + i) (by omega)
          obtain ⟨z1, z2, z3, z4⟩ := y1 i (by omega)
          have hlt := (nI_of_inb z1).2
          rw [e, eσ (2270 + i) (by omega), nt_eq e, eσ _ (by unfold nt; omega)]
          exact ⟨z1, z2, z3, z4⟩
      · rw [n6] at hi hj
        intro e
        by_cases g1 : i = N
        · by_cases g2 : j = N
          · omega
          · rw [g1, wa, eσ _ (by omega)] at e; exact absurd e.symm (hfree j (by omega))
        · by_cases g2 : j = N
          · rw [g2, wa, eσ _ (by omega)] at e; exact absurd e (hfree i (by omega))
          · rw [eσ _ (by omega), eσ _ (by omega)] at e; exact y2 i j (by omega) (by omega) e
    · exact GO_s (eC 36 (by omega)) (fun j h1 h2 => eσ j (by omega)) gO
    · obtain ⟨x1, ⟨z0, z1, z2, z3, z4, z5, z6, z7, z8, z9⟩, x3⟩ := gN
      refine ⟨?_, ⟨?_, ?_, ?_, ?_, ?_, ?_, ?_, ?_, ?_, ?_⟩, ?_⟩
      · rw [eC 1 (by omega), eσ 0 (by omega)]; exact x1
      · rw [eσ 0 (by omega)]; exact z0
      · rw [eσ 1 (by omega)]; exact z1
      · rw [eσ 2 (by omega)]; exact z2
      · rw [eσ 3 (by omega)]; exact z3
      · rw [eσ 4 (by omega)]; exact z4
      · rw [eσ 5 (by omega)]; exact z5
      · rw [w6]; exact inb_t (by omega) (by omega)
      · rw [eσ 7 (by omega)]; exact z7
      · rw [eσ 8 (by omega)]; exact z8
      · rw [eσ 9 (by omega)]; exact z9
      · rw [eσ 3 (by omega)]; exact x3
  · exact ⟨⟨eσ 2 (by omega), eσ 3 (by omega), eσ 9 (by omega)⟩, fun j h1 h2 => eσ j (by omega), fun r hr => ⟨eσ _ (by omega), eσ _ (by omega), eσ _ (by omega), fun s hs => eσ _ (by omega), fun k hk => ⟨eσ _ (by omega), eσ _ (by omega), eσ _ (by omega)⟩⟩, fun j h => eσ j (by omega)⟩
  · exact eσ 1 (by omega)
  · intro a ha; exact eC a (by omega)

end O16
