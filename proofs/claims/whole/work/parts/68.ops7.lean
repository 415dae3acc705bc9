section O7
theorem op_cost : Op_cost Rel := by
  intro n M v0 v1 hn H
  have W := Rel_W hn H
  by_cases c0 : wthn v0 0 47 = true
  · by_cases c1 : wthn v1 0 47 = true
    · obtain ⟨a, ha, rfl⟩ := wthn_nI (b := 47) (by omega) c0
      obtain ⟨b, hb, rfl⟩ := wthn_nI (b := 47) (by omega) c1
      have hbs := bs_fin a (by omega) b (by omega)
      by_cases c2 : bsd (nI a) (nI b) = true
      · refine ⟨cst (M.1 95) a b, ?_, ?_, Rel_mono H (by omega)⟩
        · unfold f_CF_cost_0
          rw [if_pos c0, if_pos c1, if_pos c2, e_stretch H.1.1.2.1 (by omega) (by omega)]; rfl
        · unfold f_Mo_cost_94
          rw [e_Mo_isCell, Option.bind_some, if_pos c0, e_Mo_isCell, Option.bind_some, if_pos c1, hbs, Option.bind_some, if_pos c2, e_Mo_costOf (by omega) (by omega) W.2.2.1.1]; rfl
      · refine ⟨-2, ?_, ?_, Rel_mono H (by omega)⟩
        · unfold f_CF_cost_0
          rw [if_pos c0, if_pos c1, if_neg c2]
        · unfold f_Mo_cost_94
          rw [e_Mo_isCell, Option.bind_some, if_pos c0, e_Mo_isCell, Option.bind_some, if_pos c1, hbs, Option.bind_some, if_neg c2]
    · refine ⟨-1, ?_, ?_, Rel_mono H (by omega)⟩
      · unfold f_CF_cost_0
        rw [if_pos c0, if_neg c1]
      · unfold f_Mo_cost_94
        rw [e_Mo_isCell, Option.bind_some, if_pos c0, e_Mo_isCell, Option.bind_some, if_neg c1]
  · refine ⟨-1, ?_, ?_, Rel_mono H (by omega)⟩
    · unfold f_CF_cost_0
      rw [if_neg c0]
    · unfold f_Mo_cost_94
      rw [e_Mo_isCell, Option.bind_some, if_neg c0]
theorem wh_fin {σ N : Nat → Int32} {w m : Int32} {C : Nat → Nat → Int32} (R : Rrule C σ) (h3 : nt σ 3 ≤ 9) (X : Mem) : (if decide (clA σ N w m (nt σ 3) = -1) = true then some ((-5 : Int32), X) else some (100 * (clA σ N w m (nt σ 3) / 8) + (clA σ N w m (nt σ 3) - clA σ N w m (nt σ 3) / 8 * 8), X)) = some (whV σ N w m, X) := by
  have hh : ∀ r, r < nt σ 3 → nt σ (1890 + r) ≤ 8 := fun r hr => by
    obtain ⟨-, -, -, l, -, l2, -, l3, -⟩ := R.2 r hr
    unfold nt
    rw [l3, nI_cl (by omega)]; exact l2
  unfold whV
  rcases clA_rng (N := N) (w := w) (m := m) hh (nt σ 3) (Nat.le_refl _) with h | ⟨c, c1, c2, -⟩
  · rw [h, if_pos rfl]; rfl
  · rw [c2, nI_eqm1 (by omega), ite_ff, if_neg (nI_ne_m1 (by omega)), nI_cl (by omega), nI_why c (by omega)]
theorem op_why : Op_why Rel := by
  intro n M v0 v1 v2 v3 hn H
  have W := Rel_W hn H
  obtain ⟨x, x1, x2, x3⟩ := e_refuse H v0 v1 v2 v3 M rfl
  have hR9 : nt (M.1 95) 3 ≤ 9 := by have := (nt_inb W.1.2.2.2.1).2; omega
  have hc : f_CF_why_0 v0 v1 v2 v3 M = if decide (x < 0) = true then some (x, M) else ((f_Account_ruled_79 v0 v1 v2 v3 M).bind fun q3 => some (q3.2.1 14 11, q3.2)) := by
    unfold f_CF_why_0; rw [x1, Option.bind_some]
  rcases x3 with ⟨rfl, h1, h2⟩ | rfl | rfl
  · obtain ⟨m, hm, rfl⟩ := wthn_nI (b := 120) (by omega) h2
    have hm' : ∀ X : Mem, X.1 95 1 = M.1 95 1 → f_Mo_why_94 v0 v1 (nI m) v3 X = jn_ (fun (u6 : Int32 × Mem) => (f_Mo_names_94 v1 (nI m) v3 u6.1 u6.2).bind fun q7 => (f_Mo_clauseOf_94 v0 (nI m) q7).bind fun q8 => if decide (q8.1 = (-1)) = true then (some ((-5), q8.2)) else (some ((100 * (q8.1 / 8)) + (q8.1 - q8.1 / 8 * 8), q8.2))) fun k10 => if decide (v1 = (-1)) = true then (k10 (0, X)) else (if decide (nI m = 0) = true then (k10 (0, X)) else ((f_Mo_arrears_94 v1 (nI m - 1) X).bind fun q12 => k10 (q12.1, q12.2))) := fun X hX => by
      obtain ⟨y, y1, y2, -⟩ := e_refuse H v0 v1 (nI m) v3 X hX
      have : y = 0 := Option.some.inj (y1.symm.trans x1)
      subst this
      unfold f_Mo_why_94; rw [y2, Option.bind_some]; rfl
    by_cases hm1 : v1 = -1
    · subst hm1
      obtain ⟨M1, k1, k2, k3⟩ := e_ruled0 (M := M) (m := nI m) (u := v3) (w := v0) W H.1.1
      have F1 : Fr sCs M M1 := k2.mono sAc_sCs
      have e2 : M1.1 95 = M.1 95 := F1.row (fun i => sCs_lo (by omega) i)
      have H2 := RelC H F1
      obtain ⟨M2, g1, g2, g3⟩ := e_names0 (M := M1) (nI m) v3 0
      have e3 : M2.1 95 = M.1 95 := (g2.row (fun i => rfl)).trans e2
      obtain ⟨M3, l1, l2⟩ := e_clauseOf (M := M2) (C := M.1) (w := v0) (m := nI m) (N := zN) (by rw [e3]; exact H.1.1.2.2.2.1) (by rw [e3]; exact hR9) (by rw [e3]; exact (nt_inb W.1.2.2.2.1).1) g3
      rw [e3] at l1
      refine ⟨whV (M.1 95) zN v0 (nI m), M1, M3, ?_, ?_, Rel_mono (RelMs H2 ((g2.trans (l2.mono sW_sNm)).mono sNm_sMs)) (by omega)⟩
      · rw [hc, show decide ((0 : Int32) < 0) = false from rfl, ite_ff, k1, Option.bind_some, k3]
      · rw [hm' M1 (by rw [e2])]
        unfold jn_
        dsimp only
        rw [show decide ((-1 : Int32) = -1) = true from rfl, ite_tt, g1, Option.bind_some, l1, Option.bind_some]
        exact wh_fin H.1.1.2.2.2.1 hR9 M3
    · have hf1 : wthn v1 0 (M.1 95 1 - 1) = true := by rcases h1 with h | h; exact absurd h hm1; exact h
      obtain ⟨f, hf, rfl⟩ := farm_of W.1.2.1 hf1
      obtain ⟨M1, k1, k2, k3⟩ := e_ruled (M := M) (m := m) (u := v3) (w := v0) W H.1.1 hf (by omega)
      have F1 : Fr sCs M M1 := k2.mono sAc_sCs
      have e2 : M1.1 95 = M.1 95 := F1.row (fun i => sCs_lo (by omega) i)
      have H2 := RelC H F1
      obtain ⟨k, q1, q2, q3, q4⟩ := Rel_k H2
      obtain ⟨Ma, t1, t2, t3, t4⟩ := e_owed (M := M1) (m := m) (f := f) (k := k) (by rw [e2]; exact hf) (by omega) (by rw [e2]; exact W) ⟨q2, by omega⟩ q3 q4 (fun (u6 : Int32 × Mem) => (f_Mo_names_94 (nI f) (nI m) v3 u6.1 u6.2).bind fun q7 => (f_Mo_clauseOf_94 v0 (nI m) q7).bind fun q8 => if decide (q8.1 = (-1)) = true then (some ((-5), q8.2)) else (some ((100 * (q8.1 / 8)) + (q8.1 - q8.1 / 8 * 8), q8.2)))
      rw [e2] at t1
      have ea : Ma.1 95 = M.1 95 := (t2.row (fun i => rfl)).trans e2
      obtain ⟨M2, g1, g2, g3⟩ := e_names (M := Ma) (m := m) (f := f) (u := v3) (o := (arS (M.1 95) f m).toInt32) (by rw [ea]; exact hf) (by rw [ea]; exact W)
      rw [ea] at g3
      have e3 : M2.1 95 = M.1 95 := (g2.row (fun i => rfl)).trans ea
      obtain ⟨M3, l1, l2⟩ := e_clauseOf (M := M2) (C := M.1) (w := v0) (m := nI m) (by rw [e3]; exact H.1.1.2.2.2.1) (by rw [e3]; exact hR9) (by rw [e3]; exact (nt_inb W.1.2.2.2.1).1) g3
      rw [e3] at l1
      have F3 : Fr sNm Ma M3 := g2.trans (l2.mono sW_sNm)
      refine ⟨whV (M.1 95) (Nm (M.1 95) f v3 (kd (M.1 95) f m) (arS (M.1 95) f m).toInt32) v0 (nI m), M1, M3, ?_, ?_, Rel_mono (RelA hn H2 ((t2.trans (F3.mono sNm_sAr)).mono sAr_sMc) q1 q2 (t3.fr F3) (t4.fr F3)) (by omega)⟩
      · rw [hc, show decide ((0 : Int32) < 0) = false from rfl, ite_ff, k1, Option.bind_some, k3]
      · rw [hm' M1 (by rw [e2]), t1]
        dsimp only
        rw [g1, Option.bind_some, l1, Option.bind_some]
        exact wh_fin H.1.1.2.2.2.1 hR9 M3
  · refine ⟨-1, M, M, ?_, ?_, Rel_mono H (by omega)⟩
    · rw [hc]; rfl
    · unfold f_Mo_why_94; rw [x2, Option.bind_some]; rfl
  · refine ⟨-2, M, M, ?_, ?_, Rel_mono H (by omega)⟩
    · rw [hc]; rfl
    · unfold f_Mo_why_94; rw [x2, Option.bind_some]; rfl
theorem op_sign : Op_sign Rel := by
  intro n M v0 v1 v2 v3 hn H
  have W := Rel_W hn H
  obtain ⟨b1, b2, b3, b6⟩ := Rel_b H
  obtain ⟨gB, gL, gI, gR, gP, gT, gK, gO, gN⟩ := RS1_gs H.1
  have hno : ∀ x, f_CF_sign_0 v0 v1 v2 v3 M = some (x, M) → f_Mo_sign_94 v0 v1 v2 v3 M = some (x, M) → ∃ r M1 M2, f_CF_sign_0 v0 v1 v2 v3 M = some (r, M1) ∧ f_Mo_sign_94 v0 v1 v2 v3 M1 = some (r, M2) ∧ Rel (n + 1) M2 := fun x h1 h2 => ⟨x, M, M, h1, h2, Rel_mono H (by omega)⟩
  have hc : f_CF_sign_0 v0 v1 v2 v3 M = if wthn v0 0 (M.1 95 1 - 1) = true then (if wthn v1 0 4 = true then (if wthn v2 0 (M.1 95 0) = true then (if (!decide (v1 = 1) || wthn v3 1 10) = true then (if decide (M.1 7 5 < 120) = true then ((f_Book_enter_7 v0 v1 v2 v3 M).bind fun q9 => some (q9.1, q9.2)) else some (-4, M)) else some (-2, M)) else some (-2, M)) else some (-1, M)) else some (-1, M) := by
    unfold f_CF_sign_0 jn_
    rw [cf_farm H, Option.bind_some, cf_past H, Option.bind_some]
    cases decide (v1 = 1) <;> cases wthn v3 1 10 <;> rfl
  have hm : ∀ X : Mem, X.1 95 = M.1 95 → f_Mo_sign_94 v0 v1 v2 v3 X = if wthn v0 0 (M.1 95 1 - 1) = true then (if wthn v1 0 4 = true then (if wthn v2 0 (M.1 95 0) = true then (if (!decide (v1 = 1) || wthn v3 1 10) = true then (if decide (M.1 95 2 = 120) = true then some (-4, X) else ((f_Mo_enters_94 v0 v1 v2 v3 X).bind fun q10 => some (q10.1, q10.2))) else some (-2, X)) else some (-2, X)) else some (-1, X)) else some (-1, X) := fun X hX => by
    unfold f_Mo_sign_94 jn_
    rw [mo_farm, Option.bind_some, hX, e_Mo_in, Option.bind_some, e_Mo_in, Option.bind_some, e_Mo_in]
    cases decide (v1 = 1) <;> cases wthn v3 1 10 <;> rfl
  by_cases c0 : wthn v0 0 (M.1 95 1 - 1) = true
  · by_cases c1 : wthn v1 0 4 = true
    · by_cases c2 : wthn v2 0 (M.1 95 0) = true
      · by_cases c3 : (!decide (v1 = 1) || wthn v3 1 10) = true
        · rw [if_pos c0, if_pos c1, if_pos c2, if_pos c3] at hc
          have hm := fun X hX => (hm X hX).trans (by rw [if_pos c0, if_pos c1, if_pos c2, if_pos c3])
          obtain ⟨e2, l2⟩ := nt_inb W.1.2.2.1
          have hC2 : M.1 7 5 = nI (nt (M.1 95) 2) := gB.1.1.trans e2
          obtain ⟨f, hf, rfl⟩ := farm_of W.1.2.1 c0
          obtain ⟨e0, l0⟩ := nt_inb W.1.1
          have c2' := c2
          rw [e0] at c2'
          obtain ⟨m, hm0, rfl⟩ := wthn_nI (by omega) c2'
          have hw := w_inb (a := 0) (b := 4) (by omega) (by omega) c1
          generalize hE : nt (M.1 95) 2 = E at *
          by_cases cE : E = 120
          · exact hno (-4) (by rw [hc, hC2, cE]; rfl) (by rw [hm M rfl, e2, cE]; rfl)
          · have eC : ∀ a, (a ≠ 7 ∧ a ≠ 8 ∧ a ≠ 9 ∧ a ≠ 10 ∧ a ≠ 11 ∧ a ≠ 12 ∧ a ≠ 95 ∧ a ≠ 94) → (wI (wI (wI (wI (wI (wI (wI (wI (wI (wI (wI (wI (wI M 8 E (nI f)) 9 E v1) 10 E (nI m)) 11 E v3) 12 E 0) 7 5 (nI (E + 1))) 95 (190 + E) v1) 95 (310 + E) (nI f)) 95 (430 + E) (nI m)) 95 (550 + E) v3) 95 (670 + E) 999) 95 2 (nI (E + 1))) 94 21 (M.1 94 21 + 1)).1 a = M.1 a := fun a ha => by
              simp (disch := omega) only [rdk]
            have eσ : ∀ j, (j ≠ 2 ∧ j ≠ 190 + E ∧ j ≠ 310 + E ∧ j ≠ 430 + E ∧ j ≠ 550 + E ∧ j ≠ 670 + E) → (wI (wI (wI (wI (wI (wI (wI (wI (wI (wI (wI (wI (wI M 8 E (nI f)) 9 E v1) 10 E (nI m)) 11 E v3) 12 E 0) 7 5 (nI (E + 1))) 95 (190 + E) v1) 95 (310 + E) (nI f)) 95 (430 + E) (nI m)) 95 (550 + E) v3) 95 (670 + E) 999) 95 2 (nI (E + 1))) 94 21 (M.1 94 21 + 1)).1 95 j = M.1 95 j := fun j hj => by
              simp (disch := omega) only [rdi, rdk]
            have hE9 : E < 120 := by omega
            have v2' : ((wI (wI (wI (wI (wI (wI (wI (wI (wI (wI (wI (wI (wI M 8 E (nI f)) 9 E v1) 10 E (nI m)) 11 E v3) 12 E 0) 7 5 (nI (E + 1))) 95 (190 + E) v1) 95 (310 + E) (nI f)) 95 (430 + E) (nI m)) 95 (550 + E) v3) 95 (670 + E) 999) 95 2 (nI (E + 1))) 94 21 (M.1 94 21 + 1)).1 95) 2 = nI (E + 1) := by simp (disch := omega) only [rde, rdk]
            have n2' : nt ((wI (wI (wI (wI (wI (wI (wI (wI (wI (wI (wI (wI (wI M 8 E (nI f)) 9 E v1) 10 E (nI m)) 11 E v3) 12 E 0) 7 5 (nI (E + 1))) 95 (190 + E) v1) 95 (310 + E) (nI f)) 95 (430 + E) (nI m)) 95 (550 + E) v3) 95 (670 + E) 999) 95 2 (nI (E + 1))) 94 21 (M.1 94 21 + 1)).1 95) 2 = E + 1 := by unfold nt; rw [v2', nI_cl (by omega)]
            have w190 : ((wI (wI (wI (wI (wI (wI (wI (wI (wI (wI (wI (wI (wI M 8 E (nI f)) 9 E v1) 10 E (nI m)) 11 E v3) 12 E 0) 7 5 (nI (E + 1))) 95 (190 + E) v1) 95 (310 + E) (nI f)) 95 (430 + E) (nI m)) 95 (550 + E) v3) 95 (670 + E) 999) 95 2 (nI (E + 1))) 94 21 (M.1 94 21 + 1)).1 95) (190 + E) = v1 := by simp (disch := omega) only [rde, rdi, rdk]
            have w310 : ((wI (wI (wI (wI (wI (wI (wI (wI (wI (wI (wI (wI (wI M 8 E (nI f)) 9 E v1) 10 E (nI m)) 11 E v3) 12 E 0) 7 5 (nI (E + 1))) 95 (190 + E) v1) 95 (310 + E) (nI f)) 95 (430 + E) (nI m)) 95 (550 + E) v3) 95 (670 + E) 999) 95 2 (nI (E + 1))) 94 21 (M.1 94 21 + 1)).1 95) (310 + E) = nI f := by simp (disch := omega) only [rde, rdi, rdk]
            have w430 : ((wI (wI (wI (wI (wI (wI (wI (wI (wI (wI (wI (wI (wI M 8 E (nI f)) 9 E v1) 10 E (nI m)) 11 E v3) 12 E 0) 7 5 (nI (E + 1))) 95 (190 + E) v1) 95 (310 + E) (nI f)) 95 (430 + E) (nI m)) 95 (550 + E) v3) 95 (670 + E) 999) 95 2 (nI (E + 1))) 94 21 (M.1 94 21 + 1)).1 95) (430 + E) = nI m := by simp (disch := omega) only [rde, rdi, rdk]
            have w550 : ((wI (wI (wI (wI (wI (wI (wI (wI (wI (wI (wI (wI (wI M 8 E (nI f)) 9 E v1) 10 E (nI m)) 11 E v3) 12 E 0) 7 5 (nI (E + 1))) 95 (190 + E) v1) 95 (310 + E) (nI f)) 95 (430 + E) (nI m)) 95 (550 + E) v3) 95 (670 + E) 999) 95 2 (nI (E + 1))) 94 21 (M.1 94 21 + 1)).1 95) (550 + E) = v3 := by simp (disch := omega) only [rde, rdi, rdk]
            have w670 : ((wI (wI (wI (wI (wI (wI (wI (wI (wI (wI (wI (wI (wI M 8 E (nI f)) 9 E v1) 10 E (nI m)) 11 E v3) 12 E 0) 7 5 (nI (E + 1))) 95 (190 + E) v1) 95 (310 + E) (nI f)) 95 (430 + E) (nI m)) 95 (550 + E) v3) 95 (670 + E) 999) 95 2 (nI (E + 1))) 94 21 (M.1 94 21 + 1)).1 95) (670 + E) = 999 := by simp (disch := omega) only [rde, rdi, rdk]
            have eX : ∀ a i, (a = 8 ∨ a = 9 ∨ a = 10 ∨ a = 11 ∨ a = 12) → i ≠ E → ((wI (wI (wI (wI (wI (wI (wI (wI (wI (wI (wI (wI (wI M 8 E (nI f)) 9 E v1) 10 E (nI m)) 11 E v3) 12 E 0) 7 5 (nI (E + 1))) 95 (190 + E) v1) 95 (310 + E) (nI f)) 95 (430 + E) (nI m)) 95 (550 + E) v3) 95 (670 + E) 999) 95 2 (nI (E + 1))) 94 21 (M.1 94 21 + 1))).1 a i = M.1 a i := fun a i ha hi => by
              rcases ha with rfl | rfl | rfl | rfl | rfl <;> simp (disch := omega) only [rdi, rdk]
            have v15 : v1 ≠ 5 := fun h => by
              rw [h] at c1; exact absurd c1 (by decide)
            refine ⟨nI E, wI (wI (wI (wI (wI (wI M 8 E (nI f)) 9 E v1) 10 E (nI m)) 11 E v3) 12 E 0) 7 5 (nI (E + 1)), wI (wI (wI (wI (wI (wI (wI (wI (wI (wI (wI (wI (wI M 8 E (nI f)) 9 E v1) 10 E (nI m)) 11 E v3) 12 E 0) 7 5 (nI (E + 1))) 95 (190 + E) v1) 95 (310 + E) (nI f)) 95 (430 + E) (nI m)) 95 (550 + E) v3) 95 (670 + E) 999) 95 2 (nI (E + 1))) 94 21 (M.1 94 21 + 1), ?_, ?_, Rel_new hn H ?_ (d := 1) (by omega) (by omega) ?_ ?_ ?_⟩
            · rw [hc, hC2, show (120 : Int32) = nI 120 from rfl, dlt_t hE9 (by omega), ite_tt]
              unfold f_Book_enter_7 jv_
              dsimp only
              rw [hC2, putv_nI (by omega) (by omega), show (wI M 8 E (nI f)).1 7 5 = M.1 7 5 from rfl, hC2, putv_nI (by omega) (by omega), show (wI (wI M 8 E (nI f)) 9 E v1).1 7 5 = M.1 7 5 from rfl, hC2, putv_nI (by omega) (by omega), show (wI (wI (wI M 8 E (nI f)) 9 E v1) 10 E (nI m)).1 7 5 = M.1 7 5 from rfl, hC2, putv_nI (by omega) (by omega), show (wI (wI (wI (wI M 8 E (nI f)) 9 E v1) 10 E (nI m)) 11 E v3).1 7 5 = M.1 7 5 from rfl, hC2, putv_nI (by omega) (by omega), show (wI (wI (wI (wI (wI M 8 E (nI f)) 9 E v1) 10 E (nI m)) 11 E v3) 12 E 0).1 7 5 = M.1 7 5 from rfl, hC2, nI_one, rde, show nI (E + 1) - 1 = nI E from nI_subn (a := E + 1) (b := 1) (by omega) (by omega)]; rfl
            · have q2 : ∀ X : Mem, X.1 95 2 = M.1 95 2 → X.1 95 2 = nI E := fun X h => h.trans e2
              rw [hm (wI (wI (wI (wI (wI (wI M 8 E (nI f)) 9 E v1) 10 E (nI m)) 11 E v3) 12 E 0) 7 5 (nI (E + 1))) rfl, e2, show (120 : Int32) = nI 120 from rfl, d_eq (by omega) (by omega), decide_eq_false cE, ite_ff]
              unfold f_Mo_enters_94 jv_
              have p0 : (wI (wI (wI (wI (wI (wI M 8 E (nI f)) 9 E v1) 10 E (nI m)) 11 E v3) 12 E 0) 7 5 (nI (E + 1))).1 95 2 = nI E := e2
              rw [p0, q190, q310, q430, q550, q670, nI_addn, nI_addn, nI_addn, nI_addn, nI_addn, inb_t (show 190 + E < 4700 by omega) (by omega), inb_t (show 310 + E < 4700 by omega) (by omega), inb_t (show 430 + E < 4700 by omega) (by omega), inb_t (show 550 + E < 4700 by omega) (by omega), inb_t (show 670 + E < 4700 by omega) (by omega), nI_cl (by omega), nI_cl (by omega), nI_cl (by omega), nI_cl (by omega), nI_cl (by omega)]
              simp only [↓reduceIte]
              have p1 : (wI (wI (wI (wI (wI (wI (wI (wI (wI (wI (wI M 8 E (nI f)) 9 E v1) 10 E (nI m)) 11 E v3) 12 E 0) 7 5 (nI (E + 1))) 95 (190 + E) v1) 95 (310 + E) (nI f)) 95 (430 + E) (nI m)) 95 (550 + E) v3) 95 (670 + E) 999).1 95 2 = nI E := by
                simp (disch := omega) only [rdi]; exact p0
              rw [p1, nI_one]; rfl
            · refine RS1_mk ?_ ?_ ?_ ?_ ?_ ?_ ?_ ?_ ?_
              · obtain ⟨⟨x1, x2⟩, y1⟩ := gB
                rw [hE] at x2
                refine ⟨⟨?_, fun e he => ?_⟩, fun e he => ?_⟩
                · rw [v2']; simp (disch := omega) only [rde, rdk]
                · rw [n2'] at he
                  by_cases d : e = E
                  · subst d
                    rw [w190, w310, w430, w550, w670]
                    refine ⟨?_, fun _ => ⟨?_, ?_⟩, ?_, ?_⟩ <;> simp (disch := omega) only [rde, rdi, rdk]; rfl
                  · rw [eX 8 e (by omega) d, eX 9 e (by omega) d, eX 10 e (by omega) d, eX 11 e (by omega) d, eX 12 e (by omega) d, eσ _ (by omega), eσ _ (by omega), eσ _ (by omega), eσ _ (by omega), eσ _ (by omega)]
                    exact x2 e (by omega)
                · rw [n2'] at he
                  rw [n2', nt_eq (eσ 1 (by omega))]
                  by_cases d : e = E
                  · subst d
                    rw [w190, w310, w430, w550, w670]
                    refine ⟨inb_mono hw.1 (by omega), fun _ => ⟨inb_t (by omega) (by omega), inb_t (by omega) (by omega)⟩, fun h => ?_, .inl rfl⟩
                    rw [h] at c3
                    have := w_inb (a := 1) (b := 10) (by omega) (by omega) (show wthn v3 (nI 1) (nI 10) = true from c3)
                    exact ⟨this.1, this.2 (by omega)⟩
                  · rw [eσ _ (by omega), eσ _ (by omega), eσ _ (by omega), eσ _ (by omega), eσ _ (by omega)]
                    obtain ⟨w1, w2, w3, w4⟩ := y1 e (by omega)
                    refine ⟨w1, w2, w3, ?_⟩
                    rcases w4 with h | ⟨h, h'⟩
                    · exact .inl h
                    · exact .inr ⟨inb_mono h (by omega), h'⟩
              · exact GL_s (fun a h1 h2 => eC a (by omega)) (eσ 1 (by omega)) (eσ 9 (by omega)) (fun j h1 h2 => eσ j (by omega)) b1 gL
              · exact Rline_s (fun a h1 h2 => eC a (by omega)) (eσ 5 (by omega)) (eσ 7 (by omega)) (eσ 8 (by omega)) (eσ 9 (by omega)) (fun j h1 h2 => eσ j (by omega)) gI
              · exact Rrule_s (by rw [eC 14 (by omega)]) (fun a h1 h2 => eC a (by omega)) (eσ 3 (by omega)) (fun j h1 h2 => eσ j (by omega)) b3 gR
              · exact GP_s (eC 37 (by omega)) (eC 38 (by omega)) (eσ 1 (by omega)) (fun j h1 h2 => eσ j (by omega)) gP
              · exact GT_s (by rw [eC 14 (by omega)]) (eC 15 (by omega)) (eσ 4 (by omega)) (fun j h1 h2 => eσ j (by omega)) gT
              · exact GK_s (by rw [eC 29 (by omega)]) (eC 30 (by omega)) (eC 31 (by omega)) (eσ 6 (by omega)) (fun j h1 h2 => eσ j (by omega)) (fun j h1 h2 => eσ j (by omega)) b6 gK
              · exact GO_s (eC 36 (by omega)) (fun j h1 h2 => eσ j (by omega)) gO
              · obtain ⟨y1, ⟨y2, y3, y4, y5, y6, y7, y8, y9, y10, y11⟩, y12⟩ := gN
                refine ⟨by rw [eC 1 (by omega), eσ 0 (by omega)]; exact y1, ⟨by rw [eσ 0 (by omega)]; exact y2, by rw [eσ 1 (by omega)]; exact y3, by rw [v2']; exact inb_t (by omega) (by omega), by rw [eσ 3 (by omega)]; exact y5, by rw [eσ 4 (by omega)]; exact y6, by rw [eσ 5 (by omega)]; exact y7, by rw [eσ 6 (by omega)]; exact y8, by rw [eσ 7 (by omega)]; exact y9, by rw [eσ 8 (by omega)]; exact y10, by rw [eσ 9 (by omega)]; exact y11⟩, by rw [eσ 3 (by omega)]; exact y12⟩
            · simp (disch := omega) only [rde, rdi, rdk]; rfl
            · simp (disch := omega) only [rdi, rdk]
            · intro a ha; exact eC a (by omega)
        · exact hno (-2) (by rw [hc, if_pos c0, if_pos c1, if_pos c2, if_neg c3]) (by rw [hm M rfl, if_pos c0, if_pos c1, if_pos c2, if_neg c3])
      · exact hno (-2) (by rw [hc, if_pos c0, if_pos c1, if_neg c2]) (by rw [hm M rfl, if_pos c0, if_pos c1, if_neg c2])
    · exact hno (-1) (by rw [hc, if_pos c0, if_neg c1]) (by rw [hm M rfl, if_pos c0, if_neg c1])
  · exact hno (-1) (by rw [hc, if_neg c0]) (by rw [hm M rfl, if_neg c0])

end O7
