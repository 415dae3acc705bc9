section O5
theorem op_house : Op_house Rel := by
  intro n M v0 hn H
  have W := Rel_W hn H
  obtain ⟨b1, b2, b3, b6⟩ := Rel_b H
  obtain ⟨gB, gL, gI, gR, gP, gT, gK, gO, gN⟩ := RS1_gs H.1
  have hno : ∀ x, f_CF_house_0 v0 M = some (x, M) → f_Mo_house_94 v0 M = some (x, M) → ∃ r M1 M2, f_CF_house_0 v0 M = some (r, M1) ∧ f_Mo_house_94 v0 M1 = some (r, M2) ∧ Rel (n + 1) M2 := fun x h1 h2 => ⟨x, M, M, h1, h2, Rel_mono H (by omega)⟩
  by_cases c0 : wthn v0 0 47 = true
  · obtain ⟨c, hc, rfl⟩ := wthn_nI (b := 47) (by omega) c0
    have hcls : f_CF_house_0 (nI c) M = if decide (M.1 95 (68 + c) = 3) = true then some (-3, M) else (if decide (M.1 95 5 ≤ 0) = true then some (M.1 95 9, wI M 2 5 (nI c)) else some (-3, M)) := by
      unfold f_CF_house_0 f_Land_isWater_2 jv_
      rw [if_pos c0, atv_nI (by omega) (by omega), (gL.1.2.2.1 c (by omega)).2, gI.1, gL.1.2.1]
      cases decide (M.1 95 (68 + c) = 3) <;> rfl
    have hmo : ∀ X : Mem, X.1 95 = M.1 95 → f_Mo_house_94 (nI c) X = if decide (M.1 95 (68 + c) = 3) = true then some (-3, X) else (if decide (M.1 95 5 ≤ 0) = true then some (M.1 95 9, wI (wI X 95 9 (nI c)) 94 21 ((wI X 95 9 (nI c)).1 94 21 + 1)) else some (-3, X)) := fun X hX => by
      unfold f_Mo_house_94 jv_
      rw [e_Mo_isCell, Option.bind_some, if_pos c0, q68, nI_addn, inb_t (by omega) (by omega), ite_tt, nI_cl (by omega), hX]
    by_cases cw : M.1 95 (68 + c) = 3
    · exact hno (-3) (by rw [hcls, decide_eq_true cw]; rfl) (by rw [hmo M rfl, decide_eq_true cw]; rfl)
    · by_cases c5 : M.1 95 5 ≤ 0
      · have eC : ∀ a, (a ≠ 2 ∧ a ≠ 95 ∧ a ≠ 94) → (wI (wI (wI M 2 5 (nI c)) 95 9 (nI c)) 94 21 ((wI (wI M 2 5 (nI c)) 95 9 (nI c)).1 94 21 + 1)).1 a = M.1 a := fun a ha => by
          simp (disch := omega) only [rdk]
        have eσ : ∀ j, (j ≠ 9) → (wI (wI (wI M 2 5 (nI c)) 95 9 (nI c)) 94 21 ((wI (wI M 2 5 (nI c)) 95 9 (nI c)).1 94 21 + 1)).1 95 j = M.1 95 j := fun j hj => by
          simp (disch := omega) only [rdi, rdk]
        have h50 : nt (M.1 95) 5 = 0 := by
          obtain ⟨e5, l5⟩ := nt_inb W.1.2.2.2.2.2.1
          rw [e5, i_le, i_0, nI_toI (by omega)] at c5
          omega
        refine ⟨M.1 95 9, wI M 2 5 (nI c), wI (wI (wI M 2 5 (nI c)) 95 9 (nI c)) 94 21 ((wI (wI M 2 5 (nI c)) 95 9 (nI c)).1 94 21 + 1), ?_, ?_, Rel_new hn H ?_ (d := 1) (by omega) (by omega) ?_ ?_ ?_⟩
        · rw [hcls, decide_eq_false cw, ite_ff, decide_eq_true c5]; rfl
        · rw [hmo (wI M 2 5 (nI c)) rfl, decide_eq_false cw, ite_ff, decide_eq_true c5]; rfl
        · refine RS1_mk ?_ ?_ ?_ ?_ ?_ ?_ ?_ ?_ ?_
          · exact GB_s (fun a h1 h2 => eC a (by omega)) (eσ 1 (by omega)) (eσ 2 (by omega)) (fun j h1 h2 => eσ j (by omega)) b2 gB
          · obtain ⟨⟨x1, x2, x3, x4⟩, y1, y2, y3⟩ := gL
            refine ⟨⟨?_, rfl, fun d hd => ?_, fun f hf => ?_⟩, fun d hd => ?_, fun f hf => ?_, fun d hd => ?_⟩
            · rw [eσ 1 (by omega)]; exact x1
            · rw [eC 3 (by omega), eC 4 (by omega), eσ _ (by omega), eσ _ (by omega)]; exact x3 d hd
            · rw [eC 5 (by omega), eC 6 (by omega), eσ _ (by omega), eσ _ (by omega)]; exact x4 f hf
            · rw [eσ _ (by omega), eσ _ (by omega)]; exact y1 d hd
            · rw [nt_eq (eσ 1 (by omega))] at hf
              rw [eσ _ (by omega), eσ _ (by omega)]; exact y2 f hf
            · rw [eσ _ (by omega)]; exact y3 d hd
          · obtain ⟨x1, x2, x3, x4, t1, t2, t3⟩ := gI
            refine ⟨by rw [eC 24 (by omega), eσ 5 (by omega)]; exact x1, by rw [eC 24 (by omega), eσ 7 (by omega)]; exact x2, by rw [eC 24 (by omega), eσ 8 (by omega)]; exact x3, fun d hd => by rw [eC 25 (by omega), eσ _ (by omega)]; exact x4 d hd, fun i hi => ?_, fun i j hi => ?_, fun d hd => ?_⟩
            · rw [nt_eq (eσ 5 (by omega)), h50] at hi; omega
            · rw [nt_eq (eσ 5 (by omega)), h50] at hi; omega
            · rw [eσ _ (by omega), nt_eq (eσ 5 (by omega)), eC 26 (by omega)]; exact t3 d hd
          · exact Rrule_s (by rw [eC 14 (by omega)]) (fun a h1 h2 => eC a (by omega)) (eσ 3 (by omega)) (fun j h1 h2 => eσ j (by omega)) b3 gR
          · exact GP_s (eC 37 (by omega)) (eC 38 (by omega)) (eσ 1 (by omega)) (fun j h1 h2 => eσ j (by omega)) gP
          · exact GT_s (by rw [eC 14 (by omega)]) (eC 15 (by omega)) (eσ 4 (by omega)) (fun j h1 h2 => eσ j (by omega)) gT
          · exact GK_s (by rw [eC 29 (by omega)]) (eC 30 (by omega)) (eC 31 (by omega)) (eσ 6 (by omega)) (fun j h1 h2 => eσ j (by omega)) (fun j h1 h2 => eσ j (by omega)) b6 gK
          · exact GO_s (eC 36 (by omega)) (fun j h1 h2 => eσ j (by omega)) gO
          · obtain ⟨y1, ⟨y2, y3, y4, y5, y6, y7, y8, y9, y10, y11⟩, y12⟩ := gN
            refine ⟨by rw [eC 1 (by omega), eσ 0 (by omega)]; exact y1, ⟨by rw [eσ 0 (by omega)]; exact y2, by rw [eσ 1 (by omega)]; exact y3, by rw [eσ 2 (by omega)]; exact y4, by rw [eσ 3 (by omega)]; exact y5, by rw [eσ 4 (by omega)]; exact y6, by rw [eσ 5 (by omega)]; exact y7, by rw [eσ 6 (by omega)]; exact y8, by rw [eσ 7 (by omega)]; exact y9, by rw [eσ 8 (by omega)]; exact y10, inb_t (show c < 48 by omega) (by omega)⟩, by rw [eσ 3 (by omega)]; exact y12⟩
        · simp (disch := omega) only [rde, rdi, rdk]; rfl
        · simp (disch := omega) only [rdi, rdk]
        · intro a ha; exact eC a (by omega)
      · exact hno (-3) (by rw [hcls, decide_eq_false cw, ite_ff, decide_eq_false c5]; rfl) (by rw [hmo M rfl, decide_eq_false cw, ite_ff, decide_eq_false c5]; rfl)
  · exact hno (-1) (by unfold f_CF_house_0; rw [if_neg c0]) (by unfold f_Mo_house_94; rw [e_Mo_isCell, Option.bind_some, if_neg c0])

theorem op_pay : Op_pay Rel := by
  intro n M v0 v1 v2 hn H
  have W := Rel_W hn H
  obtain ⟨b1, b2, b3, b6⟩ := Rel_b H
  obtain ⟨gB, gL, gI, gR, gP, gT, gK, gO, gN⟩ := RS1_gs H.1
  have hno : ∀ x, f_CF_pay_0 v0 v1 v2 M = some (x, M) → f_Mo_pay_94 v0 v1 v2 M = some (x, M) → ∃ r M1 M2, f_CF_pay_0 v0 v1 v2 M = some (r, M1) ∧ f_Mo_pay_94 v0 v1 v2 M1 = some (r, M2) ∧ Rel (n + 1) M2 := fun x h1 h2 => ⟨x, M, M, h1, h2, Rel_mono H (by omega)⟩
  by_cases c0 : wthn v0 0 (M.1 95 1 - 1) = true
  · by_cases c1 : wthn v1 0 (M.1 95 0) = true
    · by_cases c2 : wthn v2 1 9999 = true
      · obtain ⟨f, hf, rfl⟩ := farm_of W.1.2.1 c0
        obtain ⟨e0, l0⟩ := nt_inb W.1.1
        have c1' := c1
        rw [e0] at c1'
        obtain ⟨m, hm, rfl⟩ := wthn_nI (by omega) c1'
        have hi : (3490 : Int32) + 121 * nI f + nI m = nI (3490 + (121 * f + m)) := by rw [show (121 : Int32) = nI 121 from rfl, show (3490 : Int32) = nI 3490 from rfl, nI_muln, nI_addn, nI_addn, Nat.add_assoc]
        have hF10 : f < 10 := by omega
        have eC : ∀ a, (a ≠ 38 ∧ a ≠ 95 ∧ a ≠ 94) → (wI (wI (wI M 38 (121 * f + m) (M.1 95 (3490 + (121 * f + m)) + v2)) 95 (3490 + (121 * f + m)) (M.1 95 (3490 + (121 * f + m)) + v2)) 94 21 ((wI (wI M 38 (121 * f + m) (M.1 95 (3490 + (121 * f + m)) + v2)) 95 (3490 + (121 * f + m)) (M.1 95 (3490 + (121 * f + m)) + v2)).1 94 21 + 1)).1 a = M.1 a := fun a ha => by
          simp (disch := omega) only [rdk]
        have eσ : ∀ j, (j ≠ 3490 + (121 * f + m)) → (wI (wI (wI M 38 (121 * f + m) (M.1 95 (3490 + (121 * f + m)) + v2)) 95 (3490 + (121 * f + m)) (M.1 95 (3490 + (121 * f + m)) + v2)) 94 21 ((wI (wI M 38 (121 * f + m) (M.1 95 (3490 + (121 * f + m)) + v2)) 95 (3490 + (121 * f + m)) (M.1 95 (3490 + (121 * f + m)) + v2)).1 94 21 + 1)).1 95 j = M.1 95 j := fun j hj => by
          simp (disch := omega) only [rdi, rdk]
        refine ⟨M.1 95 (3490 + (121 * f + m)) + v2, wI M 38 (121 * f + m) (M.1 95 (3490 + (121 * f + m)) + v2), wI (wI (wI M 38 (121 * f + m) (M.1 95 (3490 + (121 * f + m)) + v2)) 95 (3490 + (121 * f + m)) (M.1 95 (3490 + (121 * f + m)) + v2)) 94 21 ((wI (wI M 38 (121 * f + m) (M.1 95 (3490 + (121 * f + m)) + v2)) 95 (3490 + (121 * f + m)) (M.1 95 (3490 + (121 * f + m)) + v2)).1 94 21 + 1), ?_, ?_, Rel_new hn H ?_ (d := 1) (by omega) (by omega) ?_ ?_ ?_⟩
        · unfold f_CF_pay_0 f_Coins_paidOf_36 jv_
          rw [cf_farm H, Option.bind_some, if_pos c0, cf_past H, Option.bind_some, if_pos c1, if_pos c2, slt_nI (by omega) (by omega), Option.bind_some, atv_nI (by omega) (by omega), (gP.1 _ (by omega)).2, putv_nI (by omega) (by omega)]
        · unfold f_Mo_pay_94 jv_
          rw [mo_farm, Option.bind_some, show (wI M 38 (121 * f + m) (M.1 95 (3490 + (121 * f + m)) + v2)).1 95 = M.1 95 from rfl, if_pos c0, mo_gone, Option.bind_some, show (wI M 38 (121 * f + m) (M.1 95 (3490 + (121 * f + m)) + v2)).1 95 = M.1 95 from rfl, if_pos c1, e_Mo_in, Option.bind_some, if_pos c2, hi, inb_t (by omega) (by omega), ite_tt, ite_tt]
          dsimp only
          rw [ite_tt, nI_cl (by omega)]
          refine congrArg (fun x => some (x, _)) ?_
          simp (disch := omega) only [rdk, rde]
        · refine RS1_mk ?_ ?_ ?_ ?_ ?_ ?_ ?_ ?_ ?_
          · exact GB_s (fun a h1 h2 => eC a (by omega)) (eσ 1 (by omega)) (eσ 2 (by omega)) (fun j h1 h2 => eσ j (by omega)) b2 gB
          · exact GL_s (fun a h1 h2 => eC a (by omega)) (eσ 1 (by omega)) (eσ 9 (by omega)) (fun j h1 h2 => eσ j (by omega)) b1 gL
          · exact Rline_s (fun a h1 h2 => eC a (by omega)) (eσ 5 (by omega)) (eσ 7 (by omega)) (eσ 8 (by omega)) (eσ 9 (by omega)) (fun j h1 h2 => eσ j (by omega)) gI
          · exact Rrule_s (by rw [eC 14 (by omega)]) (fun a h1 h2 => eC a (by omega)) (eσ 3 (by omega)) (fun j h1 h2 => eσ j (by omega)) b3 gR
          · obtain ⟨x1, x2, x3⟩ := gP
            refine ⟨fun k hk => ?_, fun k hk => ?_, fun g q ha hb hq => ?_⟩
            · rw [eC 37 (by omega), eσ _ (by omega)]
              refine ⟨(x1 k hk).1, ?_⟩
              by_cases d : k = 121 * f + m
              · subst d
                simp (disch := omega) only [rdk, rde]
              · rw [eσ _ (by omega)]
                have := (x1 k hk).2
                simp (disch := omega) only [rdk, rdi]
                exact this
            · rw [eσ _ (by omega)]
              refine ⟨(x2 k hk).1, ?_⟩
              by_cases d : k = 121 * f + m
              · subst d
                have h1 := inb_iff.mp (x2 _ hk).2
                have h2 := wthn_iff.mp c2
                rw [show (1 : Int32).toInt = 1 from rfl, show (9999 : Int32).toInt = 9999 from rfl] at h2
                simp (disch := omega) only [rdk, rde]
                refine inb_iff.mpr ?_
                rw [Int32.toInt_add, b_eq _ (by omega) (by omega)]
                omega
              · rw [eσ _ (by omega)]
                exact inb_mono (x2 k hk).2 (by omega)
            · rw [nt_eq (eσ 1 (by omega))] at ha
              rw [eσ _ (by omega)]; exact x3 g q ha hb hq
          · exact GT_s (by rw [eC 14 (by omega)]) (eC 15 (by omega)) (eσ 4 (by omega)) (fun j h1 h2 => eσ j (by omega)) gT
          · exact GK_s (by rw [eC 29 (by omega)]) (eC 30 (by omega)) (eC 31 (by omega)) (eσ 6 (by omega)) (fun j h1 h2 => eσ j (by omega)) (fun j h1 h2 => eσ j (by omega)) b6 gK
          · exact GO_s (eC 36 (by omega)) (fun j h1 h2 => eσ j (by omega)) gO
          · exact GN_s (by rw [eC 1 (by omega)]) (fun j h => eσ j (by omega)) gN
        · simp (disch := omega) only [rde, rdi, rdk]; rfl
        · simp (disch := omega) only [rdi, rdk]
        · intro a ha; exact eC a (by omega)
      · exact hno (-2) (by unfold f_CF_pay_0; rw [cf_farm H, Option.bind_some, if_pos c0, cf_past H, Option.bind_some, if_pos c1, if_neg c2]) (by unfold f_Mo_pay_94; rw [mo_farm, Option.bind_some, if_pos c0, mo_gone, Option.bind_some, if_pos c1, e_Mo_in, Option.bind_some, if_neg c2])
    · exact hno (-1) (by unfold f_CF_pay_0; rw [cf_farm H, Option.bind_some, if_pos c0, cf_past H, Option.bind_some, if_neg c1]) (by unfold f_Mo_pay_94; rw [mo_farm, Option.bind_some, if_pos c0, mo_gone, Option.bind_some, if_neg c1])
  · exact hno (-1) (by unfold f_CF_pay_0; rw [cf_farm H, Option.bind_some, if_neg c0]) (by unfold f_Mo_pay_94; rw [mo_farm, Option.bind_some, if_neg c0])

end O5
