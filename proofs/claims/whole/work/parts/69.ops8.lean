section O8
theorem op_strike : Op_strike Rel := by
  intro n M v0 hn H
  have W := Rel_W hn H
  obtain ⟨b1, b2, b3, b6⟩ := Rel_b H
  obtain ⟨gB, gL, gI, gR, gP, gT, gK, gO, gN⟩ := RS1_gs H.1
  have hno : ∀ x, f_CF_strike_0 v0 M = some (x, M) → f_Mo_strike_94 v0 M = some (x, M) → ∃ r M1 M2, f_CF_strike_0 v0 M = some (r, M1) ∧ f_Mo_strike_94 v0 M1 = some (r, M2) ∧ Rel (n + 1) M2 := fun x h1 h2 => ⟨x, M, M, h1, h2, Rel_mono H (by omega)⟩
  obtain ⟨e2, l2⟩ := nt_inb W.1.2.2.1
  by_cases c0 : wthn v0 0 (M.1 95 2 - 1) = true
  · have hC2 : M.1 7 5 = nI (nt (M.1 95) 2) := gB.1.1.trans e2
    have hC2' : M.1 7 5 = M.1 95 2 := gB.1.1
    obtain ⟨e, he, rfl⟩ : ∃ e, e < nt (M.1 95) 2 ∧ v0 = nI e := by
      have c0' := c0
      rw [e2] at c0'
      cases hF : nt (M.1 95) 2 with
      | zero =>
        rw [hF, show nI 0 - 1 = -1 from rfl] at c0'
        have := wthn_iff.mp c0'
        rw [i_0, m1_toI] at this; omega
      | succ k =>
        rw [hF, show nI (k + 1) - 1 = nI k from nI_subn (a := k + 1) (b := 1) (by omega) (by omega)] at c0'
        obtain ⟨c, c1, c2⟩ := wthn_nI (by omega) c0'
        exact ⟨c, by omega, c2⟩
    obtain ⟨z9, z8, z11, z12⟩ := gB.1.2 e he
    obtain ⟨u1, u2, u3, u4⟩ := gB.2 e he
    generalize hE : nt (M.1 95) 2 = E at *
    have hst : f_Book_isStanding_7 (nI e) M = some (!decide (M.1 95 (190 + e) = 5) && decide (M.1 95 (670 + e) = 999)) := by
      unfold f_Book_isStanding_7
      rw [atv_nI (by omega) (by omega), atv_nI (by omega) (by omega), z9, z12]
      cases decide (M.1 95 (190 + e) = 5)
      · rw [ite_ff]
        by_cases d : M.1 95 (670 + e) = 999
        · rw [if_pos d, decide_eq_true d]; rfl
        · rw [if_neg d, decide_eq_false d]
          rcases u4 with h | ⟨-, h⟩
          · exact absurd h d
          · rw [decide_eq_false h]; rfl
      · rfl
    have hc : f_CF_strike_0 (nI e) M = if (!decide (M.1 95 (190 + e) = 5) && decide (M.1 95 (670 + e) = 999)) = true then (if decide (nI E < nI 120) = true then ((f_Book_cross_7 (nI e) M).bind fun q5 => some (q5.1, q5.2)) else some (-4, M)) else some (-3, M) := by
      unfold f_CF_strike_0
      rw [hC2', if_pos c0, hst, Option.bind_some, e2]; rfl
    have hm : ∀ X : Mem, X.1 95 = M.1 95 → f_Mo_strike_94 (nI e) X = if (!decide (M.1 95 (190 + e) = 5) && decide (M.1 95 (670 + e) = 999)) = true then (if decide (nI E = nI 120) = true then some (-4, X) else ((f_Mo_enters_94 (-1) 5 (M.1 95 0) 0 X).bind fun q8 => jv_ (wI q8.2 95 (670 + e) q8.1) fun M10 => jv_ (wI M10 94 21 ((M10.1 94 21) + 1)) fun M11 => some (q8.1, M11))) else some (-3, X) := fun X hX => by
      unfold f_Mo_strike_94
      rw [e_Mo_in, Option.bind_some, hX, if_pos c0, q190, q670, nI_addn, nI_addn, inb_t (show 190 + e < 4700 by omega) (by omega), inb_t (show 670 + e < 4700 by omega) (by omega), ite_tt, nI_cl (by omega), nI_cl (by omega), e2]
      cases decide (M.1 95 (190 + e) = 5) <;> cases decide (M.1 95 (670 + e) = 999) <;> rfl
    by_cases cs : (!decide (M.1 95 (190 + e) = 5) && decide (M.1 95 (670 + e) = 999)) = true
    · rw [if_pos cs] at hc
      have hm := fun X hX => (hm X hX).trans (by rw [if_pos cs])
      by_cases cE : E = 120
      · exact hno (-4) (by rw [hc, cE]; rfl) (by rw [hm M rfl, cE]; rfl)
      · have eC : ∀ a, (a ≠ 7 ∧ a ≠ 8 ∧ a ≠ 9 ∧ a ≠ 10 ∧ a ≠ 11 ∧ a ≠ 12 ∧ a ≠ 95 ∧ a ≠ 94) → (wI (wI (wI (wI (wI (wI (wI (wI (wI (wI (wI (wI (wI (wI (wI (wI M 12 e (nI E)) 8 E (M.1 8 e)) 9 E 5) 10 E (M.1 10 e)) 11 E 0) 12 E 0) 7 5 (nI (E + 1))) 95 (190 + E) 5) 95 (310 + E) (-1)) 95 (430 + E) (M.1 95 0)) 95 (550 + E) 0) 95 (670 + E) 999) 95 2 (nI (E + 1))) 94 21 (M.1 94 21 + 1)) 95 (670 + e) (nI E)) 94 21 (M.1 94 21 + 1 + 1)).1 a = M.1 a := fun a ha => by
          simp (disch := omega) only [rdk]
        have eσ : ∀ j, (j ≠ 2 ∧ j ≠ 190 + E ∧ j ≠ 310 + E ∧ j ≠ 430 + E ∧ j ≠ 550 + E ∧ j ≠ 670 + E ∧ j ≠ 670 + e) → (wI (wI (wI (wI (wI (wI (wI (wI (wI (wI (wI (wI (wI (wI (wI (wI M 12 e (nI E)) 8 E (M.1 8 e)) 9 E 5) 10 E (M.1 10 e)) 11 E 0) 12 E 0) 7 5 (nI (E + 1))) 95 (190 + E) 5) 95 (310 + E) (-1)) 95 (430 + E) (M.1 95 0)) 95 (550 + E) 0) 95 (670 + E) 999) 95 2 (nI (E + 1))) 94 21 (M.1 94 21 + 1)) 95 (670 + e) (nI E)) 94 21 (M.1 94 21 + 1 + 1)).1 95 j = M.1 95 j := fun j hj => by
          simp (disch := omega) only [rdi, rdk]
        have hE9 : E < 120 := by omega
        have v2' : ((wI (wI (wI (wI (wI (wI (wI (wI (wI (wI (wI (wI (wI (wI (wI (wI M 12 e (nI E)) 8 E (M.1 8 e)) 9 E 5) 10 E (M.1 10 e)) 11 E 0) 12 E 0) 7 5 (nI (E + 1))) 95 (190 + E) 5) 95 (310 + E) (-1)) 95 (430 + E) (M.1 95 0)) 95 (550 + E) 0) 95 (670 + E) 999) 95 2 (nI (E + 1))) 94 21 (M.1 94 21 + 1)) 95 (670 + e) (nI E)) 94 21 (M.1 94 21 + 1 + 1)).1 95) 2 = nI (E + 1) := by simp (disch := omega) only [rde, rdi, rdk]
        have n2' : nt ((wI (wI (wI (wI (wI (wI (wI (wI (wI (wI (wI (wI (wI (wI (wI (wI M 12 e (nI E)) 8 E (M.1 8 e)) 9 E 5) 10 E (M.1 10 e)) 11 E 0) 12 E 0) 7 5 (nI (E + 1))) 95 (190 + E) 5) 95 (310 + E) (-1)) 95 (430 + E) (M.1 95 0)) 95 (550 + E) 0) 95 (670 + E) 999) 95 2 (nI (E + 1))) 94 21 (M.1 94 21 + 1)) 95 (670 + e) (nI E)) 94 21 (M.1 94 21 + 1 + 1)).1 95) 2 = E + 1 := by unfold nt; rw [v2', nI_cl (by omega)]
        have w190 : ((wI (wI (wI (wI (wI (wI (wI (wI (wI (wI (wI (wI (wI (wI (wI (wI M 12 e (nI E)) 8 E (M.1 8 e)) 9 E 5) 10 E (M.1 10 e)) 11 E 0) 12 E 0) 7 5 (nI (E + 1))) 95 (190 + E) 5) 95 (310 + E) (-1)) 95 (430 + E) (M.1 95 0)) 95 (550 + E) 0) 95 (670 + E) 999) 95 2 (nI (E + 1))) 94 21 (M.1 94 21 + 1)) 95 (670 + e) (nI E)) 94 21 (M.1 94 21 + 1 + 1)).1 95) (190 + E) = 5 := by simp (disch := omega) only [rde, rdi, rdk]
        have w550 : ((wI (wI (wI (wI (wI (wI (wI (wI (wI (wI (wI (wI (wI (wI (wI (wI M 12 e (nI E)) 8 E (M.1 8 e)) 9 E 5) 10 E (M.1 10 e)) 11 E 0) 12 E 0) 7 5 (nI (E + 1))) 95 (190 + E) 5) 95 (310 + E) (-1)) 95 (430 + E) (M.1 95 0)) 95 (550 + E) 0) 95 (670 + E) 999) 95 2 (nI (E + 1))) 94 21 (M.1 94 21 + 1)) 95 (670 + e) (nI E)) 94 21 (M.1 94 21 + 1 + 1)).1 95) (550 + E) = 0 := by simp (disch := omega) only [rde, rdi, rdk]
        have w670 : ((wI (wI (wI (wI (wI (wI (wI (wI (wI (wI (wI (wI (wI (wI (wI (wI M 12 e (nI E)) 8 E (M.1 8 e)) 9 E 5) 10 E (M.1 10 e)) 11 E 0) 12 E 0) 7 5 (nI (E + 1))) 95 (190 + E) 5) 95 (310 + E) (-1)) 95 (430 + E) (M.1 95 0)) 95 (550 + E) 0) 95 (670 + E) 999) 95 2 (nI (E + 1))) 94 21 (M.1 94 21 + 1)) 95 (670 + e) (nI E)) 94 21 (M.1 94 21 + 1 + 1)).1 95) (670 + E) = 999 := by simp (disch := omega) only [rde, rdi, rdk]
        have y670 : ((wI (wI (wI (wI (wI (wI (wI (wI (wI (wI (wI (wI (wI (wI (wI (wI M 12 e (nI E)) 8 E (M.1 8 e)) 9 E 5) 10 E (M.1 10 e)) 11 E 0) 12 E 0) 7 5 (nI (E + 1))) 95 (190 + E) 5) 95 (310 + E) (-1)) 95 (430 + E) (M.1 95 0)) 95 (550 + E) 0) 95 (670 + E) 999) 95 2 (nI (E + 1))) 94 21 (M.1 94 21 + 1)) 95 (670 + e) (nI E)) 94 21 (M.1 94 21 + 1 + 1)).1 95) (670 + e) = nI E := by simp (disch := omega) only [rde, rdi, rdk]
        have eX : ∀ a i, (a = 8 ∨ a = 9 ∨ a = 10 ∨ a = 11 ∨ a = 12) → i ≠ E → (a = 12 → i ≠ e) → ((wI (wI (wI (wI (wI (wI (wI (wI (wI (wI (wI (wI (wI (wI (wI (wI M 12 e (nI E)) 8 E (M.1 8 e)) 9 E 5) 10 E (M.1 10 e)) 11 E 0) 12 E 0) 7 5 (nI (E + 1))) 95 (190 + E) 5) 95 (310 + E) (-1)) 95 (430 + E) (M.1 95 0)) 95 (550 + E) 0) 95 (670 + E) 999) 95 2 (nI (E + 1))) 94 21 (M.1 94 21 + 1)) 95 (670 + e) (nI E)) 94 21 (M.1 94 21 + 1 + 1))).1 a i = M.1 a i := fun a i ha hi hi2 => by
          rcases ha with rfl | rfl | rfl | rfl | rfl <;> simp (disch := omega) only [rdi, rdk]
        refine ⟨nI E, wI (wI (wI (wI (wI (wI (wI M 12 e (nI E)) 8 E (M.1 8 e)) 9 E 5) 10 E (M.1 10 e)) 11 E 0) 12 E 0) 7 5 (nI (E + 1)), wI (wI (wI (wI (wI (wI (wI (wI (wI (wI (wI (wI (wI (wI (wI (wI M 12 e (nI E)) 8 E (M.1 8 e)) 9 E 5) 10 E (M.1 10 e)) 11 E 0) 12 E 0) 7 5 (nI (E + 1))) 95 (190 + E) 5) 95 (310 + E) (-1)) 95 (430 + E) (M.1 95 0)) 95 (550 + E) 0) 95 (670 + E) 999) 95 2 (nI (E + 1))) 94 21 (M.1 94 21 + 1)) 95 (670 + e) (nI E)) 94 21 (M.1 94 21 + 1 + 1), ?_, ?_, Rel_new hn H ?_ (d := 2) (by omega) (by omega) ?_ ?_ ?_⟩
        · rw [hc, dlt_t hE9 (by omega), ite_tt]
          unfold f_Book_cross_7 f_Book_enter_7 jv_
          dsimp only
          rw [hC2, putv_nI (m := M) (by omega) (by omega), atv_nI (by omega) (by omega), atv_nI (by omega) (by omega)]
          have q : ∀ X : Mem, X.1 7 5 = M.1 7 5 → X.1 7 5 = nI E := fun X h => h.trans hC2
          rw [q (wI M 12 e (nI E)) rfl, putv_nI (by omega) (by omega), q (wI (wI M 12 e (nI E)) 8 E ((wI M 12 e (nI E)).1 8 e)) rfl, putv_nI (by omega) (by omega), q (wI (wI (wI M 12 e (nI E)) 8 E ((wI M 12 e (nI E)).1 8 e)) 9 E 5) rfl, putv_nI (by omega) (by omega), q (wI (wI (wI (wI M 12 e (nI E)) 8 E ((wI M 12 e (nI E)).1 8 e)) 9 E 5) 10 E ((wI M 12 e (nI E)).1 10 e)) rfl, putv_nI (by omega) (by omega), q (wI (wI (wI (wI (wI M 12 e (nI E)) 8 E ((wI M 12 e (nI E)).1 8 e)) 9 E 5) 10 E ((wI M 12 e (nI E)).1 10 e)) 11 E 0) rfl, putv_nI (by omega) (by omega), q (wI (wI (wI (wI (wI (wI M 12 e (nI E)) 8 E ((wI M 12 e (nI E)).1 8 e)) 9 E 5) 10 E ((wI M 12 e (nI E)).1 10 e)) 11 E 0) 12 E 0) rfl, nI_one, rde, show nI (E + 1) - 1 = nI E from nI_subn (a := E + 1) (b := 1) (by omega) (by omega)]; rfl
        · rw [hm (wI (wI (wI (wI (wI (wI (wI M 12 e (nI E)) 8 E (M.1 8 e)) 9 E 5) 10 E (M.1 10 e)) 11 E 0) 12 E 0) 7 5 (nI (E + 1))) rfl, d_eq (by omega) (by omega), decide_eq_false cE, ite_ff]
          unfold f_Mo_enters_94 jv_
          have p0 : (wI (wI (wI (wI (wI (wI (wI M 12 e (nI E)) 8 E (M.1 8 e)) 9 E 5) 10 E (M.1 10 e)) 11 E 0) 12 E 0) 7 5 (nI (E + 1))).1 95 2 = nI E := e2
          rw [p0, q190, q310, q430, q550, q670, nI_addn, nI_addn, nI_addn, nI_addn, nI_addn, inb_t (show 190 + E < 4700 by omega) (by omega), inb_t (show 310 + E < 4700 by omega) (by omega), inb_t (show 430 + E < 4700 by omega) (by omega), inb_t (show 550 + E < 4700 by omega) (by omega), inb_t (show 670 + E < 4700 by omega) (by omega), nI_cl (by omega), nI_cl (by omega), nI_cl (by omega), nI_cl (by omega), nI_cl (by omega)]
          simp only [↓reduceIte]
          have p1 : (wI (wI (wI (wI (wI (wI (wI (wI (wI (wI (wI (wI M 12 e (nI E)) 8 E (M.1 8 e)) 9 E 5) 10 E (M.1 10 e)) 11 E 0) 12 E 0) 7 5 (nI (E + 1))) 95 (190 + E) 5) 95 (310 + E) (-1)) 95 (430 + E) (M.1 95 0)) 95 (550 + E) 0) 95 (670 + E) 999).1 95 2 = nI E := by
            simp (disch := omega) only [rdi]; exact p0
          rw [p1, nI_one]; rfl
        · refine RS1_mk ?_ ?_ ?_ ?_ ?_ ?_ ?_ ?_ ?_
          · obtain ⟨⟨x1, x2⟩, y1⟩ := gB
            rw [hE] at x2
            refine ⟨⟨?_, fun g hg => ?_⟩, fun g hg => ?_⟩
            · rw [v2']; simp (disch := omega) only [rde, rdk]
            · rw [n2'] at hg
              by_cases d : g = E
              · subst d
                rw [w190, w550, w670]
                refine ⟨?_, fun h => absurd rfl h, ?_, ?_⟩ <;> simp (disch := omega) only [rde, rdi, rdk]; rfl
              · by_cases d2 : g = e
                · subst d2
                  rw [eX 8 g (by omega) d (by omega), eX 9 g (by omega) d (by omega), eX 10 g (by omega) d (by omega), eX 11 g (by omega) d (by omega), eσ _ (by omega), eσ _ (by omega), eσ _ (by omega), eσ _ (by omega), y670]
                  obtain ⟨a1, a2, a3, -⟩ := x2 g (by omega)
                  refine ⟨a1, a2, a3, ?_⟩
                  rw [if_neg (show nI E ≠ 999 from fun h => by have := (nI_inj (a := E) (b := 999) (by omega) (by omega)).mp h; omega)]
                  simp (disch := omega) only [rde, rdi, rdk]
                · rw [eX 8 g (by omega) d (by omega), eX 9 g (by omega) d (by omega), eX 10 g (by omega) d (by omega), eX 11 g (by omega) d (by omega), eX 12 g (by omega) d (fun _ => d2), eσ _ (by omega), eσ _ (by omega), eσ _ (by omega), eσ _ (by omega), eσ _ (by omega)]
                  exact x2 g (by omega)
            · rw [n2'] at hg
              rw [n2', nt_eq (eσ 1 (by omega))]
              by_cases d : g = E
              · subst d
                rw [w190, w670]
                exact ⟨rfl, fun h => absurd rfl h, fun h => absurd h (by decide), .inl rfl⟩
              · obtain ⟨w1, w2, w3, w4⟩ := y1 g (by omega)
                by_cases d2 : g = e
                · subst d2
                  rw [eσ _ (by omega), eσ _ (by omega), eσ _ (by omega), eσ _ (by omega), y670]
                  refine ⟨w1, w2, w3, .inr ⟨inb_t (by omega) (by omega), fun h => ?_⟩⟩
                  have := nI_eq0 (k := E) (by omega) (by omega)
                  rw [h] at this; exact absurd this (by decide)
                · rw [eσ _ (by omega), eσ _ (by omega), eσ _ (by omega), eσ _ (by omega), eσ _ (by omega)]
                  refine ⟨w1, w2, w3, ?_⟩
                  rcases w4 with h | ⟨h, h'⟩
                  · exact .inl h
                  · exact .inr ⟨inb_mono h (by omega), h'⟩
          · exact GL_s (fun a h1 h2 => eC a (by omega)) (eσ 1 (by omega)) (eσ 9 (by omega)) (fun j h1 h2 => eσ j (by omega)) b1 gL
          · exact Rline_s (fun a h1 h2 => eC a (by omega)) (eσ 5 (by omega)) (eσ 7 (by omega)) (eσ 8 (by omega)) (eσ 9 (by omega)) (fun j h1 h2 => eσ j (by omega)) gI
          · exact Rrule_s (by rw [eC 14 (by omega)]) (fun a h1 h2 => eC a (by omega)) (eσ 3 (by omega)) (fun j h1 h2 => eσ j (by omega)) b3 gR
          · exact GP_s (eC 37 (by omega)) (eC 38 (by omega)) (eσ 1 (by omega)) (fun j h1 h2 => eσ j (by omega)) gP
          · exact GT_s (by rw [eC 14 (by omega)]) (eC 15 (by omega)) (eσ 4 (by omega)) (fun j h1 h2 => eσ j (by omega)) gT
          · exact GK_s (by rw [eC 29 (by omega)]) (eC 30 (by omega)) (eC 31 (by omega)) (eσ 6 (by omega)) (fun j h1 h2 => eσ j (by omega)) (fun j h1 h2 => eσ j (by omega)) b6 gK
          · exact GO_s (eC 36 (by omega)) (fun j h1 h2 => eσ j (by omega)) gO
          · obtain ⟨y1, ⟨y2, y3, y4, y5, y6, y7, y8, y9, y10, y11⟩, y12⟩ := gN
            refine ⟨by rw [eC 1 (by omega), eσ 0 (by omega)]; exact y1, ⟨by rw [eσ 0 (by omega)]; exact y2, by rw [eσ 1 (by omega)]; exact y3, by rw [v2']; exact inb_t (by omega) (by omega), by rw [eσ 3 (by omega)]; exact y5, by rw [eσ 4 (by omega)]; exact y6, by rw [eσ 5 (by omega)]; exact y7, by rw [eσ 6 (by omega)]; exact y8, by rw [eσ 7 (by omega)]; exact y9, by rw [eσ 8 (by omega)]; exact y10, by rw [eσ 9 (by omega)]; exact y11⟩, by rw [eσ 3 (by omega)]; exact y12⟩
        · rw [rde, Int32.add_assoc]; rfl
        · simp (disch := omega) only [rdi, rdk]
        · intro a ha; exact eC a (by omega)
    · exact hno (-3) (by rw [hc, if_neg cs]) (by rw [hm M rfl, if_neg cs])
  · exact hno (-1) (by unfold f_CF_strike_0; rw [gB.1.1, if_neg c0]) (by unfold f_Mo_strike_94; rw [e_Mo_in, Option.bind_some, if_neg c0])

theorem rd_ch {n : Nat} {M : Mem} (hn : n < 512) (H : Rel n M) {f m : Nat} {v : Int32} (hf : f < nt (M.1 95) 1) (hm : m < 121) (c0 : wthn (nI f) 0 (M.1 95 1 - 1) = true) (c1 : wthn (nI m) 0 (M.1 95 0) = true) (c2 : wthn v 0 9999 = true) (hs : svd (M.1 95) f m = true) : ∃ r M1 M2, (r = (if M.1 95 (2280 + (121 * f + m)) = -1 then -5 else M.1 95 (2280 + (121 * f + m))) ∧ M1 = wI M 37 (121 * f + m) v) ∧ f_Mo_read_94 (nI f) (nI m) v M1 = some (r, M2) ∧ Rel (n + 1) M2 := by
  have W := Rel_W hn H
  obtain ⟨b1, b2, b3, b6⟩ := Rel_b H
  obtain ⟨gB, gL, gI, gR, gP, gT, gK, gO, gN⟩ := RS1_gs H.1
  have hF10 : f < 10 := by omega
  have hi : (2280 : Int32) + 121 * nI f + nI m = nI (2280 + (121 * f + m)) := by rw [show (121 : Int32) = nI 121 from rfl, show (2280 : Int32) = nI 2280 from rfl, nI_muln, nI_addn, nI_addn, Nat.add_assoc]
  have eC : ∀ a, (a ≠ 37 ∧ a ≠ 95 ∧ a ≠ 94) → (wI (wI (wI M 37 (121 * f + m) v) 95 (2280 + (121 * f + m)) v) 94 21 (M.1 94 21 + 1)).1 a = M.1 a := fun a ha => by
    simp (disch := omega) only [rdk]
  have eσ : ∀ j, (j ≠ 2280 + (121 * f + m)) → (wI (wI (wI M 37 (121 * f + m) v) 95 (2280 + (121 * f + m)) v) 94 21 (M.1 94 21 + 1)).1 95 j = M.1 95 j := fun j hj => by
    simp (disch := omega) only [rdi, rdk]
  refine ⟨(if M.1 95 (2280 + (121 * f + m)) = -1 then -5 else M.1 95 (2280 + (121 * f + m))), wI M 37 (121 * f + m) v, wI (wI (wI M 37 (121 * f + m) v) 95 (2280 + (121 * f + m)) v) 94 21 (M.1 94 21 + 1), ?_, ?_, Rel_new hn H ?_ (d := 1) (by omega) (by omega) ?_ ?_ ?_⟩
  · exact ⟨rfl, rfl⟩
  · unfold f_Mo_read_94 jv_
    have q95 : (wI M 37 (121 * f + m) v).1 95 = M.1 95 := rfl
    have hsv : f_Mo_isServed_94 (nI f) (nI m) (wI M 37 (121 * f + m) v) = some true := by
      have := e_isServed (M := wI M 37 (121 * f + m) v) (m := nI m) (f := f) hF10 W.1 W.2.1
      rw [this]
      exact congrArg some hs
    rw [mo_farm, Option.bind_some, q95, if_pos c0, mo_gone, Option.bind_some, q95, if_pos c1, e_Mo_in, Option.bind_some, if_pos c2, hsv, Option.bind_some, ite_tt, hi, inb_t (by omega) (by omega), ite_tt, ite_tt, nI_cl (by omega)]
    dsimp only
    by_cases d : M.1 95 (2280 + (121 * f + m)) = -1
    · rw [decide_eq_true d, if_pos d]; rfl
    · rw [decide_eq_false d, if_neg d]; rfl
  · refine RS1_mk ?_ ?_ ?_ ?_ ?_ ?_ ?_ ?_ ?_
    · exact GB_s (fun a h1 h2 => eC a (by omega)) (eσ 1 (by omega)) (eσ 2 (by omega)) (fun j h1 h2 => eσ j (by omega)) b2 gB
    · exact GL_s (fun a h1 h2 => eC a (by omega)) (eσ 1 (by omega)) (eσ 9 (by omega)) (fun j h1 h2 => eσ j (by omega)) b1 gL
    · exact Rline_s (fun a h1 h2 => eC a (by omega)) (eσ 5 (by omega)) (eσ 7 (by omega)) (eσ 8 (by omega)) (eσ 9 (by omega)) (fun j h1 h2 => eσ j (by omega)) gI
    · exact Rrule_s (by rw [eC 14 (by omega)]) (fun a h1 h2 => eC a (by omega)) (eσ 3 (by omega)) (fun j h1 h2 => eσ j (by omega)) b3 gR
    · obtain ⟨x1, x2, x3⟩ := gP
      have hv := w_inb (a := 0) (b := 9999) (by omega) (by omega) c2
      have hvm : v ≠ -1 := fun h => by
        rw [h] at c2; exact absurd c2 (by decide)
      refine ⟨fun k hk => ?_, fun k hk => ?_, fun g q ha hb hq => ?_⟩
      · rw [eC 38 (by omega), eσ (3490 + k) (by omega)]
        refine ⟨?_, (x1 k hk).2⟩
        by_cases d : k = 121 * f + m
        · subst d
          simp (disch := omega) only [rdk, rde]
          rw [if_neg hvm]
        · rw [eσ _ (by omega)]
          have := (x1 k hk).1
          simp (disch := omega) only [rdk, rdi]
          exact this
      · rw [eσ (3490 + k) (by omega)]
        refine ⟨?_, inb_mono (x2 k hk).2 (by omega)⟩
        by_cases d : k = 121 * f + m
        · subst d
          simp (disch := omega) only [rdk, rde]
          exact .inr hv.1
        · rw [eσ _ (by omega)]
          exact (x2 k hk).1
      · rw [nt_eq (eσ 1 (by omega))] at ha
        rw [eσ _ (by omega)]; exact x3 g q ha hb hq
    · exact GT_s (by rw [eC 14 (by omega)]) (eC 15 (by omega)) (eσ 4 (by omega)) (fun j h1 h2 => eσ j (by omega)) gT
    · exact GK_s (by rw [eC 29 (by omega)]) (eC 30 (by omega)) (eC 31 (by omega)) (eσ 6 (by omega)) (fun j h1 h2 => eσ j (by omega)) (fun j h1 h2 => eσ j (by omega)) b6 gK
    · exact GO_s (eC 36 (by omega)) (fun j h1 h2 => eσ j (by omega)) gO
    · exact GN_s (by rw [eC 1 (by omega)]) (fun j h => eσ j (by omega)) gN
  · simp (disch := omega) only [rde, rdi, rdk]; rfl
  · simp (disch := omega) only [rdi, rdk]
  · intro a ha; exact eC a (by omega)
theorem op_read : Op_read Rel := by
  intro n M v0 v1 v2 hn H
  have W := Rel_W hn H
  have hno : ∀ x, f_CF_read_0 v0 v1 v2 M = some (x, M) → f_Mo_read_94 v0 v1 v2 M = some (x, M) → ∃ r M1 M2, f_CF_read_0 v0 v1 v2 M = some (r, M1) ∧ f_Mo_read_94 v0 v1 v2 M1 = some (r, M2) ∧ Rel (n + 1) M2 := fun x h1 h2 => ⟨x, M, M, h1, h2, Rel_mono H (by omega)⟩
  by_cases c0 : wthn v0 0 (M.1 95 1 - 1) = true
  · by_cases c1 : wthn v1 0 (M.1 95 0) = true
    · by_cases c2 : wthn v2 0 9999 = true
      · obtain ⟨f, hf, rfl⟩ := farm_of W.1.2.1 c0
        have hF10 : f < 10 := by have := (nt_inb W.1.2.1).2; omega
        obtain ⟨e0, l0⟩ := nt_inb W.1.1
        have c1' := c1
        rw [e0] at c1'
        obtain ⟨m, hm, rfl⟩ := wthn_nI (by omega) c1'
        obtain ⟨Mk, k1, k2⟩ := e_kindIn (M := M) (m := nI m) (f := f) (e := -1) hF10 (.inl rfl) H.1.1.1 W.1 W.2.1
        rw [show km (M.1 95) (nI m) (kn (M.1 95) (-1)) f = kd (M.1 95) f m from rfl] at k1
        have F1 : Fr sCs M Mk := k2.mono s13_sCs
        have Hk := RelC H F1
        have ek : Mk.1 95 = M.1 95 := F1.row (fun i => sCs_lo (by omega) i)
        have hc : f_CF_read_0 (nI f) (nI m) v2 M = if svd (M.1 95) f m = true then ((f_Coins_readOf_36 (nI f) (nI m) Mk).bind fun q8 => some (q8, putv Mk 37 1210 (slt (nI f) (nI m)) v2)) else some (-3, Mk) := by
          unfold f_CF_read_0 jv_
          rw [cf_farm H, Option.bind_some, if_pos c0, cf_past H, Option.bind_some, if_pos c1, if_pos c2, k1, Option.bind_some]
          dsimp only
          rw [kd_svd]
        by_cases cs : svd (M.1 95) f m = true
        · obtain ⟨r, M1, M2, ⟨h1, h2⟩, h3, h4⟩ := rd_ch (M := Mk) (v := v2) hn Hk (by rw [ek]; exact hf) (show m < 121 by omega) (by rw [ek]; exact c0) (by rw [ek]; exact c1) c2 (by rw [ek]; exact cs)
          refine ⟨r, M1, M2, ?_, h3, h4⟩
          rw [hc, if_pos cs]
          unfold f_Coins_readOf_36
          rw [slt_nI hF10 (by omega), nI_nneg (by omega), ite_ff, Option.bind_some, atv_nI (by omega) (by omega), (Hk.1.1.2.2.2.2 _ (by omega)).1, putv_nI (by omega) (by omega), h1, h2]
        · refine ⟨-3, Mk, Mk, by rw [hc, if_neg cs], ?_, Rel_mono Hk (by omega)⟩
          unfold f_Mo_read_94
          have hsv := e_isServed (M := Mk) (m := nI m) (f := f) hF10 (by rw [ek]; exact W.1) (by rw [ek]; exact W.2.1)
          have hsv2 : f_Mo_isServed_94 (nI f) (nI m) Mk = some false := by
            rw [hsv, ek]
            exact congrArg some (Bool.eq_false_iff.mpr cs)
          rw [mo_farm, Option.bind_some, ek, if_pos c0, mo_gone, Option.bind_some, ek, if_pos c1, e_Mo_in, Option.bind_some, if_pos c2, hsv2, Option.bind_some, ite_ff]
      · exact hno (-2) (by unfold f_CF_read_0; rw [cf_farm H, Option.bind_some, if_pos c0, cf_past H, Option.bind_some, if_pos c1, if_neg c2]) (by unfold f_Mo_read_94; rw [mo_farm, Option.bind_some, if_pos c0, mo_gone, Option.bind_some, if_pos c1, e_Mo_in, Option.bind_some, if_neg c2])
    · exact hno (-1) (by unfold f_CF_read_0; rw [cf_farm H, Option.bind_some, if_pos c0, cf_past H, Option.bind_some, if_neg c1]) (by unfold f_Mo_read_94; rw [mo_farm, Option.bind_some, if_pos c0, mo_gone, Option.bind_some, if_neg c1])
  · exact hno (-1) (by unfold f_CF_read_0; rw [cf_farm H, Option.bind_some, if_neg c0]) (by unfold f_Mo_read_94; rw [mo_farm, Option.bind_some, if_neg c0])

end O8
