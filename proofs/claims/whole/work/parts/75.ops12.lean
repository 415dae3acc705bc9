section O12
def clg (f : Nat → Int32) (k : Nat) : Nat → Int32 := fun j => if 116 ≤ j ∧ j < 116 + k then -1 else f j
theorem clg_in {f : Nat → Int32} {k j : Nat} (h : 116 ≤ j ∧ j < 116 + k) : clg f k j = -1 := if_pos h
theorem clg_out {f : Nat → Int32} {k j : Nat} (h : ¬ (116 ≤ j ∧ j < 116 + k)) : clg f k j = f j := if_neg h
theorem e_Mo_clr (X : Mem) : itr b_Mo_clear_94_9 FU (0, X) = some (wR X 95 (clg (X.1 95) 48)) := by
  obtain ⟨r, h1, h2⟩ := itr_cnt (body := b_Mo_clear_94_9) (s0 := (0, X)) (fun k s => s = (nI k, wR X 95 (clg (X.1 95) k))) (fun r => r = wR X 95 (clg (X.1 95) 48)) 48 (by omega) (by
    have : clg (X.1 95) 0 = X.1 95 := by
      funext j
      exact clg_out (by omega)
    rw [this, wR_same]; rfl) (by
    rintro k s hk rfl
    left
    refine ⟨(nI (k + 1), wR X 95 (clg (X.1 95) (k + 1))), ?_, rfl⟩
    have : upd (clg (X.1 95) k) (116 + k) (-1) = clg (X.1 95) (k + 1) := by
      funext j
      show (if j = 116 + k then (-1 : Int32) else clg (X.1 95) k j) = _
      by_cases h : j = 116 + k
      · rw [if_pos h, clg_in (by omega)]
      · rw [if_neg h]
        by_cases g : 116 ≤ j ∧ j < 116 + k
        · rw [clg_in g, clg_in (by omega)]
        · rw [clg_out g, clg_out (by omega)]
    unfold b_Mo_clear_94_9 jv_
    dsimp only
    rw [show (48 : Int32) = nI 48 from rfl, dlt_t hk (by omega), ite_tt, q116, nI_addn, inb_t (by omega) (by omega), ite_tt, nI_cl (by omega), wI_wR, this, nI_one]) (by
    rintro s rfl
    refine ⟨_, ?_, rfl⟩
    unfold b_Mo_clear_94_9
    dsimp only
    rw [show (48 : Int32) = nI 48 from rfl, dlt_f (Nat.le_refl _) (by omega), ite_ff])
  rw [h1, h2]
theorem op_clear : Op_clear Rel := by
  intro n M hn H
  have W := Rel_W hn H
  obtain ⟨b1, b2, b3, b6⟩ := Rel_b H
  obtain ⟨gB, gL, gI, gR, gP, gT, gK, gO, gN⟩ := RS1_gs H.1
  have eC : ∀ a, (a ≠ 24 ∧ a ≠ 25 ∧ a ≠ 29 ∧ a ≠ 95 ∧ a ≠ 94) → (wI (wI (wI (wR (wI (wI (wR M 25 (filv (M.1 25) 48 (-1))) 24 2 0) 29 2 0) 95 (clg (M.1 95) 48)) 95 5 0) 95 6 0) 94 21 (M.1 94 21 + 1)).1 a = M.1 a := fun a ha => by
    simp (disch := omega) only [rdk, rRk]
  have eσ : ∀ j, (j ≠ 5 ∧ j ≠ 6 ∧ ¬ (116 ≤ j ∧ j < 164)) → (wI (wI (wI (wR (wI (wI (wR M 25 (filv (M.1 25) 48 (-1))) 24 2 0) 29 2 0) 95 (clg (M.1 95) 48)) 95 5 0) 95 6 0) 94 21 (M.1 94 21 + 1)).1 95 j = M.1 95 j := fun j hj => by
    simp (disch := omega) only [rdi, rdk, rRe]
    exact clg_out (by omega)
  have eL : ∀ c, c < 48 → (wI (wI (wI (wR (wI (wI (wR M 25 (filv (M.1 25) 48 (-1))) 24 2 0) 29 2 0) 95 (clg (M.1 95) 48)) 95 5 0) 95 6 0) 94 21 (M.1 94 21 + 1)).1 95 (116 + c) = -1 := fun c hc => by
    simp (disch := omega) only [rdi, rdk, rRe]
    exact clg_in (by omega)
  have w5 : (wI (wI (wI (wR (wI (wI (wR M 25 (filv (M.1 25) 48 (-1))) 24 2 0) 29 2 0) 95 (clg (M.1 95) 48)) 95 5 0) 95 6 0) 94 21 (M.1 94 21 + 1)).1 95 5 = 0 := by simp (disch := omega) only [rdi, rde, rdk, rRe]
  have w6 : (wI (wI (wI (wR (wI (wI (wR M 25 (filv (M.1 25) 48 (-1))) 24 2 0) 29 2 0) 95 (clg (M.1 95) 48)) 95 5 0) 95 6 0) 94 21 (M.1 94 21 + 1)).1 95 6 = 0 := by simp (disch := omega) only [rdi, rde, rdk, rRe]
  refine ⟨M.1 24 2, wI (wI (wR M 25 (filv (M.1 25) 48 (-1))) 24 2 0) 29 2 0, wI (wI (wI (wR (wI (wI (wR M 25 (filv (M.1 25) 48 (-1))) 24 2 0) 29 2 0) 95 (clg (M.1 95) 48)) 95 5 0) 95 6 0) 94 21 (M.1 94 21 + 1), ?_, ?_, Rel_new hn H ?_ (d := 1) (by omega) (by omega) ?_ ?_ ?_⟩
  · unfold f_CF_clear_0 f_Line_empty_24 jv_
    rfl
  · unfold f_Mo_clear_94 jv_
    rw [e_Mo_clr, Option.bind_some]
    refine congr (congrArg (fun (x : Int32) y => some (x, y)) ?_) ?_
    · simp (disch := omega) only [rdk, rRk]
      exact gI.1.symm
    · rfl
  · refine RS1_mk ?_ ?_ ?_ ?_ ?_ ?_ ?_ ?_ ?_
    · exact GB_s (fun a h1 h2 => eC a (by omega)) (eσ 1 (by omega)) (eσ 2 (by omega)) (fun j h1 h2 => eσ j (by omega)) b2 gB
    · obtain ⟨⟨x1, x2, x3, x4⟩, y1, y2, y3⟩ := gL
      refine ⟨⟨?_, ?_, fun d hd => ?_, fun f hf => ?_⟩, fun d hd => ?_, fun f hf => ?_, fun d hd => ?_⟩
      · rw [eC 2 (by omega), eσ 1 (by omega)]; exact x1
      · rw [eC 2 (by omega), eσ 9 (by omega)]; exact x2
      · rw [eC 3 (by omega), eC 4 (by omega), eσ (20 + d) (by omega), eσ (68 + d) (by omega)]; exact x3 d hd
      · rw [eC 5 (by omega), eC 6 (by omega), eσ _ (by omega), eσ _ (by omega)]; exact x4 f hf
      · rw [eσ (20 + d) (by omega), eσ (68 + d) (by omega)]; exact y1 d hd
      · rw [nt_eq (eσ 1 (by omega))] at hf
        rw [eσ _ (by omega), eσ _ (by omega)]; exact y2 f hf
      · exact Or.inl (eL d hd)
    · obtain ⟨x1, x2, x3, x4, x5⟩ := gI
      have n5 : nt ((wI (wI (wI (wR (wI (wI (wR M 25 (filv (M.1 25) 48 (-1))) 24 2 0) 29 2 0) 95 (clg (M.1 95) 48)) 95 5 0) 95 6 0) 94 21 (M.1 94 21 + 1)).1 95) 5 = 0 := by unfold nt; rw [w5]; rfl
      refine ⟨?_, ?_, ?_, fun c hc => ?_, ?_, ?_, ?_⟩
      · rw [w5]; simp (disch := omega) only [rdi, rde, rdk, rRe, rRk]
      · rw [eσ 7 (by omega), ← x2]; simp (disch := omega) only [rdi, rde, rdk, rRe, rRk]
      · rw [eσ 8 (by omega), ← x3]; simp (disch := omega) only [rdi, rde, rdk, rRe, rRk]
      · rw [eL c hc]; simp (disch := omega) only [rdi, rde, rdk, rRe, rRk]
        exact if_pos hc
      · intro i hi; rw [n5] at hi; omega
      · intro i j hi; rw [n5] at hi; omega
      · intro c hc
        rw [eL c hc]
        constructor
        · intro h; exact absurd rfl h
        · rintro ⟨i, hi, -⟩; rw [n5] at hi; omega
    · exact Rrule_s (by rw [eC 14 (by omega)]) (fun a h1 h2 => eC a (by omega)) (eσ 3 (by omega)) (fun j h1 h2 => eσ j (by omega)) b3 gR
    · exact GP_s (eC 37 (by omega)) (eC 38 (by omega)) (eσ 1 (by omega)) (fun j h1 h2 => eσ j (by omega)) gP
    · exact GT_s (by rw [eC 14 (by omega)]) (eC 15 (by omega)) (eσ 4 (by omega)) (fun j h1 h2 => eσ j (by omega)) gT
    · obtain ⟨⟨x1, x2⟩, y1, y2⟩ := gK
      have n6 : nt ((wI (wI (wI (wR (wI (wI (wR M 25 (filv (M.1 25) 48 (-1))) 24 2 0) 29 2 0) 95 (clg (M.1 95) 48)) 95 5 0) 95 6 0) 94 21 (M.1 94 21 + 1)).1 95) 6 = 0 := by unfold nt; rw [w6]; rfl
      refine ⟨⟨?_, fun i hi => ?_⟩, ?_, ?_⟩
      · rw [w6]; simp (disch := omega) only [rdi, rde, rdk, rRe, rRk]
      · rw [eC 30 (by omega), eC 31 (by omega), eσ _ (by omega), eσ _ (by omega)]; exact x2 i hi
      · intro i hi; rw [n6] at hi; omega
      · intro i j hi; rw [n6] at hi; omega
    · exact GO_s (eC 36 (by omega)) (fun j h1 h2 => eσ j (by omega)) gO
    · obtain ⟨x1, ⟨z0, z1, z2, z3, z4, z5, z6, z7, z8, z9⟩, x3⟩ := gN
      refine ⟨?_, ⟨?_, ?_, ?_, ?_, ?_, ?_, ?_, ?_, ?_, ?_⟩, ?_⟩
      · rw [eC 1 (by omega), eσ 0 (by omega)]; exact x1
      · rw [eσ 0 (by omega)]; exact z0
      · rw [eσ 1 (by omega)]; exact z1
      · rw [eσ 2 (by omega)]; exact z2
      · rw [eσ 3 (by omega)]; exact z3
      · rw [eσ 4 (by omega)]; exact z4
      · rw [w5]; rfl
      · rw [w6]; rfl
      · rw [eσ 7 (by omega)]; exact z7
      · rw [eσ 8 (by omega)]; exact z8
      · rw [eσ 9 (by omega)]; exact z9
      · rw [eσ 3 (by omega)]; exact x3
  · simp (disch := omega) only [rde, rdi, rdk, rRk]; rfl
  · simp (disch := omega) only [rdi, rdk, rRk]
  · intro a ha; exact eC a (by omega)

end O12
