section O6
theorem op_farm : Op_farm Rel := by
  intro n M v0 v1 hn H
  have W := Rel_W hn H
  obtain ⟨b1, b2, b3, b6⟩ := Rel_b H
  obtain ⟨gB, gL, gI, gR, gP, gT, gK, gO, gN⟩ := RS1_gs H.1
  have hno : ∀ x, f_CF_farm_0 v0 v1 M = some (x, M) → f_Mo_farm_94 v0 v1 M = some (x, M) → ∃ r M1 M2, f_CF_farm_0 v0 v1 M = some (r, M1) ∧ f_Mo_farm_94 v0 v1 M1 = some (r, M2) ∧ Rel (n + 1) M2 := fun x h1 h2 => ⟨x, M, M, h1, h2, Rel_mono H (by omega)⟩
  by_cases c0 : wthn v0 0 47 = true
  · by_cases c1 : wthn v1 1 50 = true
    · obtain ⟨c, hc, rfl⟩ := wthn_nI (b := 47) (by omega) c0
      obtain ⟨e1, l1⟩ := nt_inb W.1.2.1
      have hv := w_inb (a := 1) (b := 50) (by omega) (by omega) c1
      have hC1 : M.1 2 4 = nI (nt (M.1 95) 1) := gL.1.1.trans e1
      generalize hF : nt (M.1 95) 1 = F at *
      have hcls : f_CF_farm_0 (nI c) v1 M = if decide (M.1 95 (68 + c) = 3) = true then some (-3, M) else (if decide (nI F < 10) = true then ((f_Land_settle_2 (nI c) v1 M).bind fun q6 => some (q6.1, q6.2)) else some (-4, M)) := by
        unfold f_CF_farm_0 f_Land_isWater_2
        rw [if_pos c0, if_pos c1, atv_nI (by omega) (by omega), (gL.1.2.2.1 c (by omega)).2, hC1]
        cases decide (M.1 95 (68 + c) = 3) <;> rfl
      by_cases cw : M.1 95 (68 + c) = 3
      · exact hno (-3) (by rw [hcls, decide_eq_true cw]; rfl) (by unfold f_Mo_farm_94; rw [e_Mo_isCell, Option.bind_some, if_pos c0, e_Mo_in, Option.bind_some, if_pos c1, q68, nI_addn, inb_t (by omega) (by omega), ite_tt, nI_cl (by omega), decide_eq_true cw, ite_tt])
      · by_cases cF : F = 10
        · exact hno (-4) (by rw [hcls, decide_eq_false cw, ite_ff, cF]; rfl) (by unfold f_Mo_farm_94; rw [e_Mo_isCell, Option.bind_some, if_pos c0, e_Mo_in, Option.bind_some, if_pos c1, q68, nI_addn, inb_t (by omega) (by omega), ite_tt, nI_cl (by omega), decide_eq_false cw, ite_ff, e1, cF]; rfl)
        · have eC : ∀ a, (a ≠ 2 ∧ a ≠ 5 ∧ a ≠ 6 ∧ a ≠ 95 ∧ a ≠ 94) → (wI (wI (wI (wI (wI (wI (wI M 5 F (nI c)) 6 F v1) 2 4 (nI (F + 1))) 95 (164 + F) (nI c)) 95 (174 + F) v1) 95 1 (nI (F + 1))) 94 21 (M.1 94 21 + 1)).1 a = M.1 a := fun a ha => by
            simp (disch := omega) only [rdk]
          have eσ : ∀ j, (j ≠ 1 ∧ j ≠ 164 + F ∧ j ≠ 174 + F) → (wI (wI (wI (wI (wI (wI (wI M 5 F (nI c)) 6 F v1) 2 4 (nI (F + 1))) 95 (164 + F) (nI c)) 95 (174 + F) v1) 95 1 (nI (F + 1))) 94 21 (M.1 94 21 + 1)).1 95 j = M.1 95 j := fun j hj => by
            simp (disch := omega) only [rdi, rdk]
          have hF9 : F < 10 := by omega
          have n1' : nt ((wI (wI (wI (wI (wI (wI (wI M 5 F (nI c)) 6 F v1) 2 4 (nI (F + 1))) 95 (164 + F) (nI c)) 95 (174 + F) v1) 95 1 (nI (F + 1))) 94 21 (M.1 94 21 + 1)).1 95) 1 = F + 1 := by
            have : ((wI (wI (wI (wI (wI (wI (wI M 5 F (nI c)) 6 F v1) 2 4 (nI (F + 1))) 95 (164 + F) (nI c)) 95 (174 + F) v1) 95 1 (nI (F + 1))) 94 21 (M.1 94 21 + 1)).1 95) 1 = nI (F + 1) := by simp (disch := omega) only [rde, rdk]
            unfold nt; rw [this, nI_cl (by omega)]
          have v1' : ((wI (wI (wI (wI (wI (wI (wI M 5 F (nI c)) 6 F v1) 2 4 (nI (F + 1))) 95 (164 + F) (nI c)) 95 (174 + F) v1) 95 1 (nI (F + 1))) 94 21 (M.1 94 21 + 1)).1 95) 1 = nI (F + 1) := by simp (disch := omega) only [rde, rdk]
          refine ⟨nI F, wI (wI (wI M 5 F (nI c)) 6 F v1) 2 4 (nI (F + 1)), wI (wI (wI (wI (wI (wI (wI M 5 F (nI c)) 6 F v1) 2 4 (nI (F + 1))) 95 (164 + F) (nI c)) 95 (174 + F) v1) 95 1 (nI (F + 1))) 94 21 (M.1 94 21 + 1), ?_, ?_, Rel_new hn H ?_ (d := 1) (by omega) (by omega) ?_ ?_ ?_⟩
          · rw [hcls, decide_eq_false cw, ite_ff, show (10 : Int32) = nI 10 from rfl, dlt_t hF9 (by omega), ite_tt]
            unfold f_Land_settle_2 jv_
            dsimp only
            rw [hC1, putv_nI (by omega) (by omega), show (wI M 5 F (nI c)).1 2 4 = M.1 2 4 from rfl, hC1, putv_nI (by omega) (by omega), show (wI (wI M 5 F (nI c)) 6 F v1).1 2 4 = M.1 2 4 from rfl, hC1, nI_one, rde, show nI (F + 1) - 1 = nI F from nI_subn (a := F + 1) (b := 1) (by omega) (by omega)]; rfl
          · unfold f_Mo_farm_94 jv_
            have q95 : (wI (wI (wI M 5 F (nI c)) 6 F v1) 2 4 (nI (F + 1))).1 95 = M.1 95 := rfl
            have q1 : M.1 95 1 = nI F := e1
            rw [e_Mo_isCell, Option.bind_some, if_pos c0, e_Mo_in, Option.bind_some, if_pos c1, q68, nI_addn, inb_t (by omega) (by omega), ite_tt, nI_cl (by omega), q95, decide_eq_false cw, ite_ff, q1, show (10 : Int32) = nI 10 from rfl, d_eq (by omega) (by omega), decide_eq_false cF, ite_ff, q164, nI_addn, inb_t (by omega) (by omega), ite_tt, nI_cl (by omega)]
            dsimp only
            rw [show (wI (wI (wI (wI M 5 F (nI c)) 6 F v1) 2 4 (nI (F + 1))) 95 (164 + F) (nI c)).1 95 1 = nI F from by rw [rdi (by omega)]; exact q1, q174, nI_addn, inb_t (by omega) (by omega), ite_tt, nI_cl (by omega), show (wI (wI (wI (wI (wI M 5 F (nI c)) 6 F v1) 2 4 (nI (F + 1))) 95 (164 + F) (nI c)) 95 (174 + F) v1).1 95 1 = nI F from by rw [rdi (by omega), rdi (by omega)]; exact q1, nI_one]
            have q2 : ∀ X : Mem, ∀ v, (wI (wI X 95 1 (nI (F + 1))) 94 21 v).1 95 1 = nI (F + 1) := fun X v => rfl
            rw [q2, show nI (F + 1) - 1 = nI F from nI_subn (a := F + 1) (b := 1) (by omega) (by omega)]; rfl
          · refine RS1_mk ?_ ?_ ?_ ?_ ?_ ?_ ?_ ?_ ?_
            · obtain ⟨x1, x2⟩ := gB
              refine ⟨Rbook_c ⟨by rw [eC 7 (by omega)], fun a h1 h2 => eC a (by omega)⟩ (eσ 2 (by omega)) (fun j h1 h2 => eσ j (by omega)) b2 x1, fun e he => ?_⟩
              rw [nt_eq (eσ 2 (by omega))] at he
              rw [n1', nt_eq (eσ 2 (by omega)), eσ _ (by omega), eσ _ (by omega), eσ _ (by omega), eσ _ (by omega), eσ _ (by omega)]
              obtain ⟨w1, w2, w3, w4⟩ := x2 e he
              rw [hF] at w2
              exact ⟨w1, fun h => ⟨inb_mono (w2 h).1 (by omega), (w2 h).2⟩, w3, w4⟩
            · obtain ⟨⟨x1, x2, x3, x4⟩, y1, y2, y3⟩ := gL
              refine ⟨⟨?_, ?_, fun d hd => ?_, fun f hf => ?_⟩, fun d hd => ?_, fun f hf => ?_, fun d hd => ?_⟩
              · rw [v1']; simp (disch := omega) only [rde, rdk]
              · rw [eσ 9 (by omega)]
                have : M.1 2 5 = M.1 95 9 := x2
                simp (disch := omega) only [rdi, rdk]; exact this
              · rw [eC 3 (by omega), eC 4 (by omega), eσ _ (by omega), eσ _ (by omega)]; exact x3 d hd
              · obtain ⟨z1, z2⟩ := x4 f hf
                by_cases d : f = F
                · subst d
                  refine ⟨?_, ?_⟩ <;> simp (disch := omega) only [rde, rdi, rdk]
                · rw [eσ _ (by omega), eσ _ (by omega)]
                  refine ⟨?_, ?_⟩ <;> simp (disch := omega) only [rdi, rdk] <;> assumption
              · rw [eσ _ (by omega), eσ _ (by omega)]; exact y1 d hd
              · rw [n1'] at hf
                by_cases d : f = F
                · subst d
                  have h4 : ((wI (wI (wI (wI (wI (wI (wI M 5 f (nI c)) 6 f v1) 2 4 (nI (f + 1))) 95 (164 + f) (nI c)) 95 (174 + f) v1) 95 1 (nI (f + 1))) 94 21 (M.1 94 21 + 1)).1 95) (164 + f) = nI c := by simp (disch := omega) only [rde, rdi, rdk]
                  have h5 : ((wI (wI (wI (wI (wI (wI (wI M 5 f (nI c)) 6 f v1) 2 4 (nI (f + 1))) 95 (164 + f) (nI c)) 95 (174 + f) v1) 95 1 (nI (f + 1))) 94 21 (M.1 94 21 + 1)).1 95) (174 + f) = v1 := by simp (disch := omega) only [rde, rdi, rdk]
                  rw [h4, h5]
                  exact ⟨inb_t (by omega) (by omega), hv.1, hv.2 (by omega)⟩
                · rw [eσ _ (by omega), eσ _ (by omega)]; exact y2 f (by omega)
              · rw [eσ _ (by omega)]; exact y3 d hd
            · exact Rline_s (fun a h1 h2 => eC a (by omega)) (eσ 5 (by omega)) (eσ 7 (by omega)) (eσ 8 (by omega)) (eσ 9 (by omega)) (fun j h1 h2 => eσ j (by omega)) gI
            · exact Rrule_s (by rw [eC 14 (by omega)]) (fun a h1 h2 => eC a (by omega)) (eσ 3 (by omega)) (fun j h1 h2 => eσ j (by omega)) b3 gR
            · obtain ⟨x1, x2, x3⟩ := gP
              refine ⟨fun k hk => ?_, fun k hk => ?_, fun g q ha hb hq => ?_⟩
              · rw [eC 37 (by omega), eC 38 (by omega), eσ _ (by omega), eσ _ (by omega)]; exact x1 k hk
              · rw [eσ _ (by omega), eσ _ (by omega)]
                exact ⟨(x2 k hk).1, inb_mono (x2 k hk).2 (by omega)⟩
              · rw [n1'] at ha
                rw [eσ _ (by omega)]; exact x3 g q (by omega) hb hq
            · exact GT_s (by rw [eC 14 (by omega)]) (eC 15 (by omega)) (eσ 4 (by omega)) (fun j h1 h2 => eσ j (by omega)) gT
            · exact GK_s (by rw [eC 29 (by omega)]) (eC 30 (by omega)) (eC 31 (by omega)) (eσ 6 (by omega)) (fun j h1 h2 => eσ j (by omega)) (fun j h1 h2 => eσ j (by omega)) b6 gK
            · exact GO_s (eC 36 (by omega)) (fun j h1 h2 => eσ j (by omega)) gO
            · obtain ⟨y1, ⟨y2, y3, y4, y5, y6, y7, y8, y9, y10, y11⟩, y12⟩ := gN
              refine ⟨by rw [eC 1 (by omega), eσ 0 (by omega)]; exact y1, ⟨by rw [eσ 0 (by omega)]; exact y2, by rw [v1']; exact inb_t (by omega) (by omega), by rw [eσ 2 (by omega)]; exact y4, by rw [eσ 3 (by omega)]; exact y5, by rw [eσ 4 (by omega)]; exact y6, by rw [eσ 5 (by omega)]; exact y7, by rw [eσ 6 (by omega)]; exact y8, by rw [eσ 7 (by omega)]; exact y9, by rw [eσ 8 (by omega)]; exact y10, by rw [eσ 9 (by omega)]; exact y11⟩, by rw [eσ 3 (by omega)]; exact y12⟩
          · simp (disch := omega) only [rde, rdi, rdk]; rfl
          · simp (disch := omega) only [rdi, rdk]
          · intro a ha; exact eC a (by omega)
    · exact hno (-2) (by unfold f_CF_farm_0; rw [if_pos c0, if_neg c1]) (by unfold f_Mo_farm_94; rw [e_Mo_isCell, Option.bind_some, if_pos c0, e_Mo_in, Option.bind_some, if_neg c1])
  · exact hno (-1) (by unfold f_CF_farm_0; rw [if_neg c0]) (by unfold f_Mo_farm_94; rw [e_Mo_isCell, Option.bind_some, if_neg c0])

theorem e_refuse {n : Nat} {M : Mem} (H : Rel n M) (v0 v1 v2 v3 : Int32) (X : Mem) (hX : X.1 95 1 = M.1 95 1) : ∃ x, f_CF_refusedOfWord_0 v0 v1 v2 v3 M = some x ∧ f_Mo_refuses_94 v0 v1 v2 v3 X = some x ∧ ((x = 0 ∧ (v1 = -1 ∨ wthn v1 0 (M.1 95 1 - 1) = true) ∧ wthn v2 0 120 = true) ∨ x = -1 ∨ x = -2) := by
  unfold f_CF_refusedOfWord_0 f_Mo_refuses_94 jn_
  dsimp only
  rw [e_Mo_in, Option.bind_some, cf_farm H, mo_farm, hX, mo_month, e_Mo_in]
  simp only [Option.bind_some]
  by_cases c0 : wthn v0 0 5 = true
  · rw [if_pos c0]
    by_cases c1 : v1 = -1
    · rw [decide_eq_true c1, ite_tt]
      by_cases c2 : wthn v2 0 120 = true
      · rw [if_pos c2]
        by_cases c3 : wthn v3 0 9999 = true
        · exact ⟨0, by rw [if_pos c3], by rw [if_pos c3], .inl ⟨rfl, .inl c1, c2⟩⟩
        · exact ⟨-2, by rw [if_neg c3], by rw [if_neg c3], .inr (.inr rfl)⟩
      · exact ⟨-2, by rw [if_neg c2], by rw [if_neg c2], .inr (.inr rfl)⟩
    · rw [decide_eq_false c1, ite_ff]
      by_cases c4 : wthn v1 0 (M.1 95 1 - 1) = true
      · rw [if_pos c4]
        by_cases c2 : wthn v2 0 120 = true
        · rw [if_pos c2]
          by_cases c3 : wthn v3 0 9999 = true
          · exact ⟨0, by rw [if_pos c3], by rw [if_pos c3], .inl ⟨rfl, .inr c4, c2⟩⟩
          · exact ⟨-2, by rw [if_neg c3], by rw [if_neg c3], .inr (.inr rfl)⟩
        · exact ⟨-2, by rw [if_neg c2], by rw [if_neg c2], .inr (.inr rfl)⟩
      · exact ⟨-1, by rw [if_neg c4], by rw [if_neg c4], .inr (.inl rfl)⟩
  · exact ⟨-1, by rw [if_neg c0], by rw [if_neg c0], .inr (.inl rfl)⟩
theorem op_force : Op_force Rel := by
  intro n M v0 v1 v2 v3 hn H
  have W := Rel_W hn H
  obtain ⟨x, x1, x2, x3⟩ := e_refuse H v0 v1 v2 v3 M rfl
  have hc : f_CF_force_0 v0 v1 v2 v3 M = if decide (x < 0) = true then some (x, M) else ((f_Account_ruled_79 v0 v1 v2 v3 M).bind fun q3 => some (q3.1, q3.2)) := by
    unfold f_CF_force_0; rw [x1, Option.bind_some]
  rcases x3 with ⟨rfl, h1, h2⟩ | rfl | rfl
  · obtain ⟨m, hm, rfl⟩ := wthn_nI (b := 120) (by omega) h2
    have hm' : ∀ X : Mem, X.1 95 1 = M.1 95 1 → f_Mo_force_94 v0 v1 (nI m) v3 X = ((f_Mo_ruleFor_94 v0 v1 (nI m) v3 X).bind fun q3 => some (q3.1, q3.2)) := fun X hX => by
      obtain ⟨y, y1, y2, -⟩ := e_refuse H v0 v1 (nI m) v3 X hX
      have : y = 0 := Option.some.inj (y1.symm.trans x1)
      subst this
      unfold f_Mo_force_94; rw [y2, Option.bind_some]; rfl
    by_cases hm1 : v1 = -1
    · subst hm1
      obtain ⟨M1, k1, k2, -⟩ := e_ruled0 (M := M) (m := nI m) (u := v3) (w := v0) W H.1.1
      have F1 : Fr sCs M M1 := k2.mono sAc_sCs
      have e2 : M1.1 95 = M.1 95 := F1.row (fun i => sCs_lo (by omega) i)
      have H2 := RelC H F1
      obtain ⟨M2, g1, g2⟩ := e_ruleFor0 (M := M1) (w := v0) (m := nI m) (u := v3) (by rw [e2]; exact W)
      rw [e2] at g1
      refine ⟨ruV (M.1 95) zN v0 (nI m), M1, M2, ?_, ?_, Rel_mono (RelMs H2 (g2.mono sNm_sMs)) (by omega)⟩
      · rw [hc, show decide ((0 : Int32) < 0) = false from rfl, ite_ff, k1]; rfl
      · rw [hm' M1 (by rw [e2]), g1]; rfl
    · have hf1 : wthn v1 0 (M.1 95 1 - 1) = true := by rcases h1 with h | h; exact absurd h hm1; exact h
      obtain ⟨f, hf, rfl⟩ := farm_of W.1.2.1 hf1
      obtain ⟨M1, k1, k2, -⟩ := e_ruled (M := M) (m := m) (u := v3) (w := v0) W H.1.1 hf (by omega)
      have F1 : Fr sCs M M1 := k2.mono sAc_sCs
      have e2 : M1.1 95 = M.1 95 := F1.row (fun i => sCs_lo (by omega) i)
      have H2 := RelC H F1
      obtain ⟨k, q1, q2, q3, q4⟩ := Rel_k H2
      obtain ⟨M2, g1, g2, g3, g4⟩ := e_ruleFor (M := M1) (w := v0) (m := m) (u := v3) (f := f) (k := k) (by rw [e2]; exact hf) (by omega) (by rw [e2]; exact W) ⟨q2, by omega⟩ q3 q4
      rw [e2] at g1
      refine ⟨rlS (M.1 95) v0 f m v3, M1, M2, ?_, ?_, Rel_mono (RelA hn H2 (g2.mono sAr_sMc) q1 q2 g3 g4) (by omega)⟩
      · rw [hc, show decide ((0 : Int32) < 0) = false from rfl, ite_ff, k1, Option.bind_some]
      · rw [hm' M1 (by rw [e2]), g1, Option.bind_some]
  · refine ⟨-1, M, M, ?_, ?_, Rel_mono H (by omega)⟩
    · rw [hc]; rfl
    · unfold f_Mo_force_94; rw [x2, Option.bind_some]; rfl
  · refine ⟨-2, M, M, ?_, ?_, Rel_mono H (by omega)⟩
    · rw [hc]; rfl
    · unfold f_Mo_force_94; rw [x2, Option.bind_some]; rfl
end O6
