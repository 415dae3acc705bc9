/-- ENOUGH, members being a set -/
def enS (σ : Nat → Int32) (p : Nat → Bool) : Bool := !decide (nI (cnt (fun f => p f && onF σ f) 10) < (σ 5 * ruV σ zN 0 (σ 0)) / 10)
/-- members of now -/
def mbN (σ : Nat → Int32) : Nat → Bool := mb σ (σ 0) (nt σ 2) no no
section EN
variable {M : Mem} {σ : Nat → Int32}
theorem e_CF_isEnough (R : Rc0 M.1 σ) (W : Wm σ) (h0 : M.1 1 6 = σ 0) (p : Nat → Bool) : ∃ M', f_CF_isEnough_0 (msk p 10) M = some (enS σ p, M') ∧ Fr sAc M M' := by
  obtain ⟨M1, h1, h2, -⟩ := e_ruled0 (M := M) (m := σ 0) (u := 0) (w := 0) W R
  have R1 := R.fr h2
  refine ⟨M1, ?_, h2⟩
  unfold f_CF_isEnough_0
  rw [h0, h1, Option.bind_some, e_farmsOnLine R1 W, Option.bind_some, msk_and, bcnt_msk]
  dsimp only
  rw [R.2.2.1.1]
  unfold enS
  cases decide (nI (cnt (fun i => p i && onF σ i) 10) < σ 5 * ruV σ zN 0 (σ 0) / 10) <;> rfl
theorem e_Mo_onLine {p : Nat → Bool} (W : Wm (M.1 95)) (hp : ∀ f, f < nt (M.1 95) 1 → pK (M.1 97) f = p f) (hq : ∀ f, nt (M.1 95) 1 ≤ f → f < 10 → p f = false) : f_Mo_onLine_94 M = some (nI (cnt (fun f => p f && onF (M.1 95) f) 10)) := by
  obtain ⟨e1, l1⟩ := nt_inb W.1.2.1
  have hmem := e_Mo_members (M := M) W.1 hp hq
  have e3 : cnt (fun f => p f && onF (M.1 95) f) 10 = cnt (fun f => p f && onF (M.1 95) f) (nt (M.1 95) 1) := by
    have := cnt_more (p := fun f => p f && onF (M.1 95) f) (n := nt (M.1 95) 1) (10 - nt (M.1 95) 1) (fun i h1 h2 => by rw [hq i h1 (by omega)]; rfl)
    rw [show nt (M.1 95) 1 + (10 - nt (M.1 95) 1) = 10 by omega] at this
    exact this
  unfold f_Mo_onLine_94
  have key := itr_for' (body := b_Mo_onLine_94_4 M) (fun k => (nI (cnt (fun f => p f && onF (M.1 95) f) k), nI k)) (nt (M.1 95) 1) (by omega) (e := nI (cnt (fun f => p f && onF (M.1 95) f) (nt (M.1 95) 1))) (fun k hk => by
    unfold b_Mo_onLine_94_4 jn_
    dsimp only
    obtain ⟨ec, lc⟩ := nI_of_inb (W.2.2.1.2.1 k hk).1
    have ec : M.1 95 (164 + k) = nI (cel (M.1 95) k) := ec
    have lc : cel (M.1 95) k < 48 := lc
    rw [e1, dlt_t hk (by omega), ite_tt, hmem, Option.bind_some, shr_1 _ (by omega), b_msk_lo p (by omega), q164, nI_addn, inb_t (by omega) (by omega), nI_cl (by omega), ec, e_Mo_isOnLine lc, Option.bind_some, nI_one]
    show _ = some (Sum.inl (nI (cnt (fun f => p f && onF (M.1 95) f) k + if (p k && onF (M.1 95) k) = true then 1 else 0), nI (k + 1)))
    have ho : onF (M.1 95) k = onL (M.1 95) (cel (M.1 95) k) := by unfold onF; rw [decide_eq_true hk]; rfl
    rw [ho]
    cases p k
    · exact congrArg (fun x => some (Sum.inl (x, nI (k + 1)))) (nI_addn _ 0)
    · cases onL (M.1 95) (cel (M.1 95) k)
      · exact congrArg (fun x => some (Sum.inl (x, nI (k + 1)))) (nI_addn _ 0)
      · exact congrArg (fun x => some (Sum.inl (x, nI (k + 1)))) (nI_addn _ 1)) (by
    unfold b_Mo_onLine_94_4
    dsimp only
    rw [e1, dlt_f (Nat.le_refl _) (by omega), ite_ff])
  show (itr _ FU (nI (cnt (fun f => p f && onF (M.1 95) f) 0), nI 0)).bind _ = _
  rw [key, e3]; rfl
theorem e_leftOut {p : Nat → Bool} (W : Wm (M.1 95)) (hp : ∀ f, f < nt (M.1 95) 1 → pK (M.1 97) f = p f) (hq : ∀ f, nt (M.1 95) 1 ≤ f → f < 10 → p f = false) : f_Mo_leftOut_94 M = some (msk (fun f => p f && !onF (M.1 95) f) 10) := by
  obtain ⟨e1, l1⟩ := nt_inb W.1.2.1
  have hmem := e_Mo_members (M := M) W.1 hp hq
  have e3 : msk (fun f => p f && !onF (M.1 95) f) 10 = msk (fun f => p f && !onF (M.1 95) f) (nt (M.1 95) 1) := by
    have := msk_more (p := fun f => p f && !onF (M.1 95) f) (n := nt (M.1 95) 1) (10 - nt (M.1 95) 1) (fun i h1 h2 => by rw [hq i h1 (by omega)]; rfl)
    rw [show nt (M.1 95) 1 + (10 - nt (M.1 95) 1) = 10 by omega] at this
    exact this
  unfold f_Mo_leftOut_94
  have key := itr_for' (body := b_Mo_leftOut_94_4 M) (fun k => (msk (fun f => p f && !onF (M.1 95) f) k, nI k)) (nt (M.1 95) 1) (by omega) (e := msk (fun f => p f && !onF (M.1 95) f) (nt (M.1 95) 1)) (fun k hk => by
    unfold b_Mo_leftOut_94_4 jn_
    dsimp only
    obtain ⟨ec, lc⟩ := nI_of_inb (W.2.2.1.2.1 k hk).1
    have ec : M.1 95 (164 + k) = nI (cel (M.1 95) k) := ec
    have lc : cel (M.1 95) k < 48 := lc
    have ho : onF (M.1 95) k = onL (M.1 95) (cel (M.1 95) k) := by unfold onF; rw [decide_eq_true hk]; rfl
    rw [e1, dlt_t hk (by omega), ite_tt, hmem, Option.bind_some, shr_1 _ (by omega), b_msk_lo p (by omega), q164, nI_addn, inb_t (by omega) (by omega), nI_cl (by omega), ec, e_Mo_isOnLine lc, Option.bind_some, nI_one, msk_s (k := k), ho]
    cases p k
    · exact congrArg (fun x => some (Sum.inl (x, nI (k + 1)))) (or_0 _)
    · cases onL (M.1 95) (cel (M.1 95) k)
      · rfl
      · exact congrArg (fun x => some (Sum.inl (x, nI (k + 1)))) (or_0 _)) (by
    unfold b_Mo_leftOut_94_4
    dsimp only
    rw [e1, dlt_f (Nat.le_refl _) (by omega), ite_ff])
  show (itr _ FU (msk (fun f => p f && !onF (M.1 95) f) 0, nI 0)).bind _ = _
  rw [key, e3]; rfl
theorem e_Mo_isEnough {p : Nat → Bool} (W : Wm (M.1 95)) (hp : ∀ f, f < nt (M.1 95) 1 → pK (M.1 97) f = p f) (hq : ∀ f, nt (M.1 95) 1 ≤ f → f < 10 → p f = false) : ∃ M', f_Mo_isEnough_94 M = some (enS (M.1 95) p, M') ∧ Fr sNm M M' := by
  obtain ⟨M1, h1, h2⟩ := e_ruleFor0 (M := M) (w := 0) (m := M.1 95 0) (u := 0) W
  refine ⟨M1, ?_, h2⟩
  unfold f_Mo_isEnough_94
  rw [e_Mo_onLine W hp hq, Option.bind_some, h1, Option.bind_some]
  unfold enS
  dsimp only
  cases decide (nI (cnt (fun f => p f && onF (M.1 95) f) 10) < M.1 95 5 * ruV (M.1 95) zN 0 (M.1 95 0) / 10) <;> rfl
/-- the model looks at now -/
theorem e_lookNow (W : Wm (M.1 95)) : ∃ M', f_Mo_looks_94 (M.1 95 0) (-1) (-1) 0 M = some M' ∧ Fr sLk M M' ∧ (∀ f, f < nt (M.1 95) 1 → pK (M'.1 97) f = mbN (M.1 95) f) ∧ ∀ f, nt (M.1 95) 1 ≤ f → f < 10 → mbN (M.1 95) f = false := by
  have hF : nt (M.1 95) 1 ≤ 10 := by have := (nt_inb W.1.2.1).2; omega
  have hE : nt (M.1 95) 2 ≤ 120 := by have := (nt_inb W.1.2.2.1).2; omega
  obtain ⟨M1, h1, h2, h3⟩ := e_looks (M := M) (m := M.1 95 0) (e := -1) (sgn := -1) (sg := no) (tk := no) (.inl rfl) W.1 W.2.1 (fun k hk => nI_eqm1 (by omega)) (fun f h => by (cases h))
  rw [msk_no] at h1
  refine ⟨M1, h1, h2, fun f hf => ?_, fun f h4 h5 => ?_⟩
  · unfold pK
    rw [h3 f hf]
    exact kf_mem (Nat.le_refl _) hE hF W.2.1 (fun f h => by (cases h)) (by omega) hf
  · cases hm : mbN (M.1 95) f
    · rfl
    · have := mb_lt (sg := no) (tk := no) (Nat.le_refl _) hE hF W.2.1 (fun f h => by (cases h)) h5 hm
      omega
end EN
theorem op_left : Op_left Rel := by
  intro n M hn H
  have W := Rel_W hn H
  obtain ⟨M1, h1, h2⟩ := e_membersIn (M := M) (σ := M.1 95) (m := M.1 95 0) no no H.1.1.1 W.1 W.2.1
  rw [msk_no] at h1
  have F1 : Fr sCs M M1 := h2.mono s13_sCs
  have H1 := RelC H F1
  have e1 : M1.1 95 = M.1 95 := F1.row (fun i => sCs_lo (by omega) i)
  obtain ⟨M2, g1, g2, g3, g4⟩ := e_lookNow (M := M1) (by rw [e1]; exact W)
  have e2 : M2.1 95 = M.1 95 := (g2.row (fun i => rfl)).trans e1
  rw [e1] at g1 g3 g4
  refine ⟨msk (fun f => mbN (M.1 95) f && !onF (M.1 95) f) 10, M1, M2, ?_, ?_, Rel_mono (RelMs H1 (g2.mono sLk_sMs)) (by omega)⟩
  · have hR1 := H1.1.1
    rw [e1] at hR1
    unfold f_CF_left_0
    rw [H.1.2.2.2.2.1, h1, Option.bind_some]
    dsimp only
    rw [e_farmsOnLine hR1 W, Option.bind_some, msk_andn]; rfl
  · unfold f_Mo_left_94
    have hl := e_leftOut (M := M2) (p := mbN (M.1 95)) (by rw [e2]; exact W) (by rw [e2]; exact g3) (by rw [e2]; exact g4)
    rw [e2] at hl
    rw [e1, g1, Option.bind_some, hl]; rfl
