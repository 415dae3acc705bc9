section O3
theorem op_span : Op_span Rel := by
  intro n M v hn H
  obtain ⟨b1, b2, b3, b6⟩ := Rel_b H
  obtain ⟨gB, gL, gI, gR, gP, gT, gK, gO, gN⟩ := RS1_gs H.1
  by_cases c : wthn v 1 5 = true
  · have hrow : (wI (wI M 24 3 v) 95 7 v).1 95 = upd (M.1 95) 7 v := wI_at _ _ _ _
    have eC : ∀ a, a ≠ 24 → a ≠ 95 → (wI (wI M 24 3 v) 95 7 v).1 a = M.1 a := fun a ha hb => by rw [rdk hb, rdk ha]
    have eσ : ∀ j, j ≠ 7 → upd (M.1 95) 7 v j = M.1 95 j := fun j hj => if_neg hj
    have hv := w_inb (a := 1) (b := 5) (by omega) (by omega) c
    refine ⟨M.1 95 7, wI M 24 3 v, wI (wI M 24 3 v) 95 7 v, ?_, ?_, Rel_same hn H ?_ ?_ ?_ ?_⟩
    · unfold f_CF_span_0 jv_
      rw [if_pos c, gI.2.1]
    · unfold f_Mo_span_94 jv_
      rw [e_Mo_in, Option.bind_some, if_pos c]; rfl
    · rw [hrow]
      refine RS1_mk ?_ ?_ ?_ ?_ ?_ ?_ ?_ ?_ ?_
      · exact GB_s (fun a h1 h2 => eC a (by omega) (by omega)) (eσ 1 (by decide)) (eσ 2 (by decide)) (fun j h1 h2 => eσ j (by omega)) b2 gB
      · exact GL_s (fun a h1 h2 => eC a (by omega) (by omega)) (eσ 1 (by decide)) (eσ 9 (by decide)) (fun j h1 h2 => eσ j (by omega)) b1 gL
      · obtain ⟨x1, x2, x3, x4, x5⟩ := gI
        refine ⟨x1, ?_, x3, fun c hc => by rw [eσ _ (by omega)]; exact x4 c hc, Tree_c (eσ 5 (by decide)) (eσ 9 (by decide)) (fun j h1 h2 => eσ j (by omega)) x5⟩
        show v = upd (M.1 95) 7 v 7
        exact (if_pos rfl).symm
      · exact Rrule_s (by rw [eC 14 (by decide) (by decide)]) (fun a h1 h2 => eC a (by omega) (by omega)) (eσ 3 (by decide)) (fun j h1 h2 => eσ j (by omega)) b3 gR
      · exact GP_s (eC 37 (by decide) (by decide)) (eC 38 (by decide) (by decide)) (eσ 1 (by decide)) (fun j h1 h2 => eσ j (by omega)) gP
      · exact GT_s (by rw [eC 14 (by decide) (by decide)]) (eC 15 (by decide) (by decide)) (eσ 4 (by decide)) (fun j h1 h2 => eσ j (by omega)) gT
      · exact GK_s (by rw [eC 29 (by decide) (by decide)]) (eC 30 (by decide) (by decide)) (eC 31 (by decide) (by decide)) (eσ 6 (by decide)) (fun j h1 h2 => eσ j (by omega)) (fun j h1 h2 => eσ j (by omega)) b6 gK
      · exact GO_s (eC 36 (by decide) (by decide)) (fun j h1 h2 => eσ j (by omega)) gO
      · obtain ⟨y1, ⟨y2, y3, y4, y5, y6, y7, y8, y9, y10, y11⟩, y12⟩ := gN
        refine ⟨y1, ⟨y2, y3, y4, y5, y6, y7, y8, ?_, y10, y11⟩, y12⟩
        rw [show upd (M.1 95) 7 v 7 = v from if_pos rfl]
        exact ⟨hv.1, hv.2 (by omega)⟩
    · rw [hrow]; exact Ag_head (by omega) b3
    · rw [hrow]; exact eσ 1 (by decide)
    · intro a ha; exact eC a (by omega) (by omega)
  · refine ⟨-2, M, M, ?_, ?_, Rel_mono H (by omega)⟩
    · unfold f_CF_span_0 jv_
      rw [if_neg c]
    · unfold f_Mo_span_94 jv_
      rw [e_Mo_in, Option.bind_some, if_neg c]
theorem op_wire : Op_wire Rel := by
  intro n M v hn H
  obtain ⟨b1, b2, b3, b6⟩ := Rel_b H
  obtain ⟨gB, gL, gI, gR, gP, gT, gK, gO, gN⟩ := RS1_gs H.1
  by_cases c : wthn v 1 9 = true
  · have hrow : (wI (wI M 24 4 v) 95 8 v).1 95 = upd (M.1 95) 8 v := wI_at _ _ _ _
    have eC : ∀ a, a ≠ 24 → a ≠ 95 → (wI (wI M 24 4 v) 95 8 v).1 a = M.1 a := fun a ha hb => by rw [rdk hb, rdk ha]
    have eσ : ∀ j, j ≠ 8 → upd (M.1 95) 8 v j = M.1 95 j := fun j hj => if_neg hj
    have hv := w_inb (a := 1) (b := 9) (by omega) (by omega) c
    refine ⟨M.1 95 8, wI M 24 4 v, wI (wI M 24 4 v) 95 8 v, ?_, ?_, Rel_same hn H ?_ ?_ ?_ ?_⟩
    · unfold f_CF_wire_0 jv_
      rw [if_pos c, gI.2.2.1]
    · unfold f_Mo_wire_94 jv_
      rw [e_Mo_in, Option.bind_some, if_pos c]; rfl
    · rw [hrow]
      refine RS1_mk ?_ ?_ ?_ ?_ ?_ ?_ ?_ ?_ ?_
      · exact GB_s (fun a h1 h2 => eC a (by omega) (by omega)) (eσ 1 (by decide)) (eσ 2 (by decide)) (fun j h1 h2 => eσ j (by omega)) b2 gB
      · exact GL_s (fun a h1 h2 => eC a (by omega) (by omega)) (eσ 1 (by decide)) (eσ 9 (by decide)) (fun j h1 h2 => eσ j (by omega)) b1 gL
      · obtain ⟨x1, x2, x3, x4, x5⟩ := gI
        refine ⟨x1, x2, ?_, fun c hc => by rw [eσ _ (by omega)]; exact x4 c hc, Tree_c (eσ 5 (by decide)) (eσ 9 (by decide)) (fun j h1 h2 => eσ j (by omega)) x5⟩
        show v = upd (M.1 95) 8 v 8
        exact (if_pos rfl).symm
      · exact Rrule_s (by rw [eC 14 (by decide) (by decide)]) (fun a h1 h2 => eC a (by omega) (by omega)) (eσ 3 (by decide)) (fun j h1 h2 => eσ j (by omega)) b3 gR
      · exact GP_s (eC 37 (by decide) (by decide)) (eC 38 (by decide) (by decide)) (eσ 1 (by decide)) (fun j h1 h2 => eσ j (by omega)) gP
      · exact GT_s (by rw [eC 14 (by decide) (by decide)]) (eC 15 (by decide) (by decide)) (eσ 4 (by decide)) (fun j h1 h2 => eσ j (by omega)) gT
      · exact GK_s (by rw [eC 29 (by decide) (by decide)]) (eC 30 (by decide) (by decide)) (eC 31 (by decide) (by decide)) (eσ 6 (by decide)) (fun j h1 h2 => eσ j (by omega)) (fun j h1 h2 => eσ j (by omega)) b6 gK
      · exact GO_s (eC 36 (by decide) (by decide)) (fun j h1 h2 => eσ j (by omega)) gO
      · obtain ⟨y1, ⟨y2, y3, y4, y5, y6, y7, y8, y9, y10, y11⟩, y12⟩ := gN
        refine ⟨y1, ⟨y2, y3, y4, y5, y6, y7, y8, y9, ?_, y11⟩, y12⟩
        rw [show upd (M.1 95) 8 v 8 = v from if_pos rfl]
        exact hv.1
    · rw [hrow]; exact Ag_head (by omega) b3
    · rw [hrow]; exact eσ 1 (by decide)
    · intro a ha; exact eC a (by omega) (by omega)
  · refine ⟨-2, M, M, ?_, ?_, Rel_mono H (by omega)⟩
    · unfold f_CF_wire_0 jv_
      rw [if_neg c]
    · unfold f_Mo_wire_94 jv_
      rw [e_Mo_in, Option.bind_some, if_neg c]
theorem op_fix : Op_fix Rel := by
  intro n M hn H
  obtain ⟨b1, b2, b3, b6⟩ := Rel_b H
  obtain ⟨gB, gL, gI, gR, gP, gT, gK, gO, gN⟩ := RS1_gs H.1
  have hrow : (wI (wI M 29 2 0) 95 6 0).1 95 = upd (M.1 95) 6 0 := wI_at _ _ _ _
  have eC : ∀ a, a ≠ 29 → a ≠ 95 → (wI (wI M 29 2 0) 95 6 0).1 a = M.1 a := fun a ha hb => by rw [rdk hb, rdk ha]
  have eσ : ∀ j, j ≠ 6 → upd (M.1 95) 6 0 j = M.1 95 j := fun j hj => if_neg hj
  refine ⟨M.1 95 6, wI M 29 2 0, wI (wI M 29 2 0) 95 6 0, ?_, rfl, Rel_same hn H ?_ ?_ ?_ ?_⟩
  · unfold f_CF_fix_0 jv_
    rw [gK.1.1]
  · rw [hrow]
    refine RS1_mk ?_ ?_ ?_ ?_ ?_ ?_ ?_ ?_ ?_
    · exact GB_s (fun a h1 h2 => eC a (by omega) (by omega)) (eσ 1 (by decide)) (eσ 2 (by decide)) (fun j h1 h2 => eσ j (by omega)) b2 gB
    · exact GL_s (fun a h1 h2 => eC a (by omega) (by omega)) (eσ 1 (by decide)) (eσ 9 (by decide)) (fun j h1 h2 => eσ j (by omega)) b1 gL
    · exact Rline_s (fun a h1 h2 => eC a (by omega) (by omega)) (eσ 5 (by decide)) (eσ 7 (by decide)) (eσ 8 (by decide)) (eσ 9 (by decide)) (fun j h1 h2 => eσ j (by omega)) gI
    · exact Rrule_s (by rw [eC 14 (by decide) (by decide)]) (fun a h1 h2 => eC a (by omega) (by omega)) (eσ 3 (by decide)) (fun j h1 h2 => eσ j (by omega)) b3 gR
    · exact GP_s (eC 37 (by decide) (by decide)) (eC 38 (by decide) (by decide)) (eσ 1 (by decide)) (fun j h1 h2 => eσ j (by omega)) gP
    · exact GT_s (by rw [eC 14 (by decide) (by decide)]) (eC 15 (by decide) (by decide)) (eσ 4 (by decide)) (fun j h1 h2 => eσ j (by omega)) gT
    · obtain ⟨⟨x1, x2⟩, x3, x4⟩ := gK
      have h6 : nt (upd (M.1 95) 6 0) 6 = 0 := by unfold nt; rw [show upd (M.1 95) 6 0 6 = 0 from if_pos rfl]; rfl
      refine ⟨⟨?_, fun i hi => ?_⟩, fun i hi => ?_, fun i j hi hj => ?_⟩
      · show (0 : Int32) = upd (M.1 95) 6 0 6
        exact (if_pos rfl).symm
      · rw [eC 30 (by decide) (by decide), eC 31 (by decide) (by decide), eσ _ (by omega), eσ _ (by omega)]; exact x2 i hi
      · rw [h6] at hi; omega
      · rw [h6] at hi; omega
    · exact GO_s (eC 36 (by decide) (by decide)) (fun j h1 h2 => eσ j (by omega)) gO
    · obtain ⟨y1, ⟨y2, y3, y4, y5, y6, y7, y8, y9, y10, y11⟩, y12⟩ := gN
      refine ⟨y1, ⟨y2, y3, y4, y5, y6, y7, ?_, y9, y10, y11⟩, y12⟩
      rw [show upd (M.1 95) 6 0 6 = 0 from if_pos rfl]; rfl
  · rw [hrow]; exact Ag_head (by omega) b3
  · rw [hrow]; exact eσ 1 (by decide)
  · intro a ha; exact eC a (by omega) (by omega)
end O3
