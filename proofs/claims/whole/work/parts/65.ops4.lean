section O4
variable {σ : Nat → Int32}
theorem op_loan : Op_loan Rel := by
  intro n M v0 v1 v2 v3 v4 hn H
  have W := Rel_W hn H
  obtain ⟨b1, b2, b3, b6⟩ := Rel_b H
  obtain ⟨gB, gL, gI, gR, gP, gT, gK, gO, gN⟩ := RS1_gs H.1
  have hno : f_CF_loan_0 v0 v1 v2 v3 v4 M = some (-2, M) → f_Mo_loan_94 v0 v1 v2 v3 v4 M = some (-2, M) → ∃ r M1 M2, f_CF_loan_0 v0 v1 v2 v3 v4 M = some (r, M1) ∧ f_Mo_loan_94 v0 v1 v2 v3 v4 M1 = some (r, M2) ∧ Rel (n + 1) M2 := fun h1 h2 => ⟨-2, M, M, h1, h2, Rel_mono H (by omega)⟩
  by_cases c0 : wthn v0 0 99999 = true
  · by_cases c1 : wthn v1 0 120 = true
    · by_cases c2 : wthn v2 0 20 = true
      · by_cases c3 : wthn v3 1 60 = true
        · by_cases c4 : wthn v4 0 99999 = true
          · have eC : ∀ a, (a ≠ 36 ∧ a ≠ 95) → (wI (wI (wI (wI (wI (wI (wI (wI (wI (wI (wI M 36 2 v0) 36 3 v1) 36 4 v2) 36 5 v3) 36 6 v4) 95 10 1) 95 11 v0) 95 12 v1) 95 13 v2) 95 14 v3) 95 15 v4).1 a = M.1 a := fun a ha => by
              simp (disch := omega) only [rdk]
            have eσ : ∀ j, (j < 10 ∨ 15 < j) → (wI (wI (wI (wI (wI (wI (wI (wI (wI (wI (wI M 36 2 v0) 36 3 v1) 36 4 v2) 36 5 v3) 36 6 v4) 95 10 1) 95 11 v0) 95 12 v1) 95 13 v2) 95 14 v3) 95 15 v4).1 95 j = M.1 95 j := fun j hj => by
              simp (disch := omega) only [rdi, rdk]
            refine ⟨1, wI (wI (wI (wI (wI M 36 2 v0) 36 3 v1) 36 4 v2) 36 5 v3) 36 6 v4, wI (wI (wI (wI (wI (wI (wI (wI (wI (wI (wI M 36 2 v0) 36 3 v1) 36 4 v2) 36 5 v3) 36 6 v4) 95 10 1) 95 11 v0) 95 12 v1) 95 13 v2) 95 14 v3) 95 15 v4, ?_, ?_, Rel_same hn H ?_ ?_ ?_ ?_⟩
            · unfold f_CF_loan_0
              rw [if_pos c0, if_pos c1, if_pos c2, if_pos c3, if_pos c4]; rfl
            · unfold f_Mo_loan_94
              rw [e_Mo_in, Option.bind_some, if_pos c0, mo_month, Option.bind_some, if_pos c1, e_Mo_in, Option.bind_some, if_pos c2, e_Mo_in, Option.bind_some, if_pos c3, e_Mo_in, Option.bind_some, if_pos c4]; rfl
            · refine RS1_mk ?_ ?_ ?_ ?_ ?_ ?_ ?_ ?_ ?_
              · exact GB_s (fun a h1 h2 => eC a (by omega)) (eσ 1 (by omega)) (eσ 2 (by omega)) (fun j h1 h2 => eσ j (by omega)) b2 gB
              · exact GL_s (fun a h1 h2 => eC a (by omega)) (eσ 1 (by omega)) (eσ 9 (by omega)) (fun j h1 h2 => eσ j (by omega)) b1 gL
              · exact Rline_s (fun a h1 h2 => eC a (by omega)) (eσ 5 (by omega)) (eσ 7 (by omega)) (eσ 8 (by omega)) (eσ 9 (by omega)) (fun j h1 h2 => eσ j (by omega)) gI
              · exact Rrule_s (by rw [eC 14 (by omega)]) (fun a h1 h2 => eC a (by omega)) (eσ 3 (by omega)) (fun j h1 h2 => eσ j (by omega)) b3 gR
              · exact GP_s (eC 37 (by omega)) (eC 38 (by omega)) (eσ 1 (by omega)) (fun j h1 h2 => eσ j (by omega)) gP
              · exact GT_s (by rw [eC 14 (by omega)]) (eC 15 (by omega)) (eσ 4 (by omega)) (fun j h1 h2 => eσ j (by omega)) gT
              · exact GK_s (by rw [eC 29 (by omega)]) (eC 30 (by omega)) (eC 31 (by omega)) (eσ 6 (by omega)) (fun j h1 h2 => eσ j (by omega)) (fun j h1 h2 => eσ j (by omega)) b6 gK
              · refine ⟨⟨fun h => absurd ?_ (show (1 : Int32) ≠ 0 by decide), fun _ => ⟨rfl, rfl, rfl, rfl, rfl⟩⟩, .inr ⟨rfl, (w_inb (a := 0) (b := 99999) (by omega) (by omega) c0).1, (w_inb (a := 0) (b := 120) (by omega) (by omega) c1).1, (w_inb (a := 0) (b := 20) (by omega) (by omega) c2).1, ⟨(w_inb (a := 1) (b := 60) (by omega) (by omega) c3).1, (w_inb (a := 1) (b := 60) (by omega) (by omega) c3).2 (by omega)⟩, (w_inb (a := 0) (b := 99999) (by omega) (by omega) c4).1⟩⟩
                exact h
              · exact GN_s (by rw [eC 1 (by omega)]) (fun j h => eσ j (by omega)) gN
            · exact ⟨⟨eσ 2 (by omega), eσ 3 (by omega), eσ 9 (by omega)⟩, fun j h1 h2 => eσ j (by omega), fun r hr => ⟨eσ _ (by omega), eσ _ (by omega), eσ _ (by omega), fun s hs => eσ _ (by omega), fun k hk => ⟨eσ _ (by omega), eσ _ (by omega), eσ _ (by omega)⟩⟩, fun j h => eσ j (by omega)⟩
            · exact eσ 1 (by omega)
            · intro a ha; exact eC a (by omega)
          · exact hno (by unfold f_CF_loan_0; rw [if_pos c0, if_pos c1, if_pos c2, if_pos c3, if_neg c4]) (by unfold f_Mo_loan_94; rw [e_Mo_in, Option.bind_some, if_pos c0, mo_month, Option.bind_some, if_pos c1, e_Mo_in, Option.bind_some, if_pos c2, e_Mo_in, Option.bind_some, if_pos c3, e_Mo_in, Option.bind_some, if_neg c4])
        · exact hno (by unfold f_CF_loan_0; rw [if_pos c0, if_pos c1, if_pos c2, if_neg c3]) (by unfold f_Mo_loan_94; rw [e_Mo_in, Option.bind_some, if_pos c0, mo_month, Option.bind_some, if_pos c1, e_Mo_in, Option.bind_some, if_pos c2, e_Mo_in, Option.bind_some, if_neg c3])
      · exact hno (by unfold f_CF_loan_0; rw [if_pos c0, if_pos c1, if_neg c2]) (by unfold f_Mo_loan_94; rw [e_Mo_in, Option.bind_some, if_pos c0, mo_month, Option.bind_some, if_pos c1, e_Mo_in, Option.bind_some, if_neg c2])
    · exact hno (by unfold f_CF_loan_0; rw [if_pos c0, if_neg c1]) (by unfold f_Mo_loan_94; rw [e_Mo_in, Option.bind_some, if_pos c0, mo_month, Option.bind_some, if_neg c1])
  · exact hno (by unfold f_CF_loan_0; rw [if_neg c0]) (by unfold f_Mo_loan_94; rw [e_Mo_in, Option.bind_some, if_neg c0])

end O4
