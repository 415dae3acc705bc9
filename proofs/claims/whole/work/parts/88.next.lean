section NX
variable {M : Mem} {D : Nat → Nat} {σ : Nat → Int32}
/-- farms on the way, ahead of the line -/
def onW (σ : Nat → Int32) (D : Nat → Nat) (c K f : Nat) : Bool := decide (f < nt σ 1) && pmem σ D c (cel σ f) K
theorem e_onWay {p : Nat → Bool} {c K : Nat} (W : Wm (M.1 95)) (hp : ∀ f, f < nt (M.1 95) 1 → pK (M.1 97) f = p f) (hq : ∀ f, nt (M.1 95) 1 ≤ f → f < 10 → p f = false) (hK : K ≤ 47) (h15 : M.1 94 15 = nI (K + 1)) (h104 : ∀ k, k < K → M.1 104 k = nI (pth (M.1 95) D c k) ∧ pth (M.1 95) D c k < 48) (b : Bool) : f_Mo_onWay_94 b M = some (nI (cnt (fun f => onW (M.1 95) D c K f && (p f == b)) 10)) := by
  obtain ⟨e1, l1⟩ := nt_inb W.1.2.1
  have hmem := e_Mo_members (M := M) W.1 hp hq
  have hidx : (M.1 94 15) - 1 = nI K := by rw [h15]; exact nI_subn (a := K + 1) (b := 1) (by omega) (by omega)
  have e3 : cnt (fun f => onW (M.1 95) D c K f && (p f == b)) 10 = cnt (fun f => onW (M.1 95) D c K f && (p f == b)) (nt (M.1 95) 1) := by
    have := cnt_more (p := fun f => onW (M.1 95) D c K f && (p f == b)) (n := nt (M.1 95) 1) (10 - nt (M.1 95) 1) (fun i h1 h2 => by unfold onW; rw [decide_eq_false (by omega)]; rfl)
    rw [show nt (M.1 95) 1 + (10 - nt (M.1 95) 1) = 10 by omega] at this
    exact this
  have hin : ∀ f, f < nt (M.1 95) 1 → ∀ x, itr (b_Mo_onWay_94_27 M (x, nI f)) FU (0, 0) = some (bI (pmem (M.1 95) D c (cel (M.1 95) f) K)) := by
    intro f hf x
    obtain ⟨ec, lc⟩ := nI_of_inb (W.2.2.1.2.1 f hf).1
    have ec : M.1 95 (164 + f) = nI (cel (M.1 95) f) := ec
    have lc : cel (M.1 95) f < 48 := lc
    obtain ⟨e, h1, h2⟩ := itr_cnt (body := b_Mo_onWay_94_27 M (x, nI f)) (s0 := ((0 : Int32), (0 : Int32))) (fun k s => s.1 = bI (pmem (M.1 95) D c (cel (M.1 95) f) k) ∧ s.2 = nI k) (fun e => e = bI (pmem (M.1 95) D c (cel (M.1 95) f) K)) K (by omega) ⟨rfl, rfl⟩ (by
      rintro k ⟨y, z⟩ hk ⟨hy, rfl⟩
      dsimp only at hy
      left
      obtain ⟨q1, q2⟩ := h104 k hk
      refine ⟨(bI (pmem (M.1 95) D c (cel (M.1 95) f) (k + 1)), nI (k + 1)), ?_, rfl, rfl⟩
      unfold b_Mo_onWay_94_27
      dsimp only
      rw [hidx, dlt_t hk (by omega), ite_tt, hy, inb_t (by omega) (by omega), ite_tt, q164, nI_addn, inb_t (by omega) (by omega), ite_tt, nI_cl (by omega), nI_cl (by omega), q1, ec, d_eq (by omega) (by omega), nI_one]
      show _ = some (Sum.inl (bI (pmem (M.1 95) D c (cel (M.1 95) f) k || decide (cel (M.1 95) f = pth (M.1 95) D c k)), nI (k + 1)))
      by_cases g : pth (M.1 95) D c k = cel (M.1 95) f
      · rw [decide_eq_true g, decide_eq_true g.symm]
        cases pmem (M.1 95) D c (cel (M.1 95) f) k <;> rfl
      · rw [decide_eq_false g, decide_eq_false (show ¬ (cel (M.1 95) f = pth (M.1 95) D c k) from fun h => g h.symm)]
        cases pmem (M.1 95) D c (cel (M.1 95) f) k <;> rfl) (by
      rintro ⟨y, z⟩ ⟨hy, rfl⟩
      dsimp only at hy
      refine ⟨y, ?_, hy⟩
      unfold b_Mo_onWay_94_27
      dsimp only
      rw [hidx, dlt_f (by omega) (by omega), ite_ff])
    rw [h1, h2]
  unfold f_Mo_onWay_94
  rw [hmem, Option.bind_some]
  obtain ⟨e, h1, h2⟩ := itr_cnt (body := b_Mo_onWay_94_10 b M (msk p 10)) (s0 := ((0 : Int32), (0 : Int32))) (fun k s => s = (nI (cnt (fun f => onW (M.1 95) D c K f && (p f == b)) k), nI k)) (fun e => e = nI (cnt (fun f => onW (M.1 95) D c K f && (p f == b)) 10)) (nt (M.1 95) 1) (by omega) rfl (by
    rintro k s hk rfl
    left
    refine ⟨_, ?_, rfl⟩
    unfold b_Mo_onWay_94_10 jv_
    dsimp only
    rw [e1, dlt_t hk (by omega), ite_tt, hin k hk, Option.bind_some, shr_1 _ (by omega), shr_0 _ (by omega), b_msk_lo p (by omega), nI_one]
    show _ = some (Sum.inl (nI (cnt (fun f => onW (M.1 95) D c K f && (p f == b)) k + if (onW (M.1 95) D c K k && (p k == b)) = true then 1 else 0), nI (k + 1)))
    have ho : onW (M.1 95) D c K k = pmem (M.1 95) D c (cel (M.1 95) k) K := by unfold onW; rw [decide_eq_true hk]; rfl
    rw [ho]
    cases pmem (M.1 95) D c (cel (M.1 95) k) K
    · exact congrArg (fun x => some (Sum.inl (x, nI (k + 1)))) (nI_addn _ 0)
    · cases b
      · cases p k
        · exact congrArg (fun x => some (Sum.inl (x, nI (k + 1)))) (nI_addn _ 1)
        · exact congrArg (fun x => some (Sum.inl (x, nI (k + 1)))) (nI_addn _ 0)
      · cases p k
        · exact congrArg (fun x => some (Sum.inl (x, nI (k + 1)))) (nI_addn _ 0)
        · exact congrArg (fun x => some (Sum.inl (x, nI (k + 1)))) (nI_addn _ 1)) (by
    rintro s rfl
    refine ⟨_, ?_, by rw [e3]⟩
    unfold b_Mo_onWay_94_10
    dsimp only
    rw [e1, dlt_f (Nat.le_refl _) (by omega), ite_ff])
  rw [h1, h2]; rfl
/-- signs that are wanting -/
def lkS (x s : Int32) (n : Nat) : Int32 := if decide ((x - s) - 20 * nI n ≤ 0) then 0 else (((x - s) - 20 * nI n) + 19) / 20
theorem e_signsFor {p : Nat → Bool} {c K : Nat} {s : Int32} (L : Rland M.1 σ) (n1 : inb (σ 1) 11 = true) (wl : wLand σ) (h6 : M.1 81 6 = nI (D c)) (hf : ∀ i, i < 48 → btL (M.2 81 7) i = pmem σ D c i K) : f_CF_signsFor_0 (msk p 10) s M = some (if decide (lkS (nI (D c)) s (cnt (fun f => onW σ D c K f && p f) 10) ≤ nI (cnt (fun f => onW σ D c K f && !p f) 10)) then lkS (nI (D c)) s (cnt (fun f => onW σ D c K f && p f) 10) else -5) := by
  have hon : msk (fun f => decide (f < nt σ 1) && btL (M.2 81 7) (cel σ f)) 10 = msk (onW σ D c K) 10 := by
    apply msk_congr
    intro f hf10
    unfold onW
    by_cases g : f < nt σ 1
    · rw [hf (cel σ f) (nI_of_inb (wl.2.1 f g).1).2]
    · rw [decide_eq_false g]; rfl
  unfold f_CF_signsFor_0 jv_
  rw [e_farmsOn L n1 wl, Option.bind_some, hon, msk_and, bcnt_msk, msk_andn, bcnt_msk, h6]
  dsimp only
  rw [show (if decide (nI (D c) - s - 20 * nI (cnt (fun i => onW σ D c K i && p i) 10) ≤ 0) = true then (0 : Int32) else (nI (D c) - s - 20 * nI (cnt (fun i => onW σ D c K i && p i) 10) + 19) / 20) = lkS (nI (D c)) s (cnt (fun f => onW σ D c K f && p f) 10) from rfl]
  cases decide (lkS (nI (D c)) s (cnt (fun f => onW σ D c K f && p f) 10) ≤ nI (cnt (fun f => onW σ D c K f && !p f) 10)) <;> rfl
theorem e_lacks {n k f c K : Nat} (hn : n < 512) (W : Wm (M.1 95)) (hf : f < nt (M.1 95) 1) (hc : cel (M.1 95) f = c) (hK : K ≤ 47) (hr : rowM M D) (hDc : D c < 1000000) (h15 : M.1 94 15 = nI (K + 1)) (h104 : ∀ k, k < K → M.1 104 k = nI (pth (M.1 95) D c k) ∧ pth (M.1 95) D c k < 48) (S : stK M k) (U : CvU M k) (A : CvA M k) : ∃ M', f_Mo_lacks_94 (nI f) M = some (lkS (nI (D c)) (rlS (M.1 95) 4 f (nt (M.1 95) 0) 0) (cnt (fun g => onW (M.1 95) D c K g && mbN (M.1 95) g) 10), M') ∧ Fr sAr M M' ∧ CvU M' k ∧ CvA M' k ∧ (∀ g, g < nt (M.1 95) 1 → pK (M'.1 97) g = mbN (M.1 95) g) := by
  obtain ⟨e0, l0⟩ := nt_inb W.1.1
  have hF : nt (M.1 95) 1 ≤ 10 := by have := (nt_inb W.1.2.1).2; omega
  obtain ⟨M1, a1, a2, a3, a4⟩ := e_ruleFor (M := M) (w := 4) (m := nt (M.1 95) 0) (u := 0) (f := f) (k := k) hf (by omega) W S U A
  have e1 : M1.1 95 = M.1 95 := a2.row (fun _ => rfl)
  obtain ⟨M2, b1, b2, b3, b4⟩ := e_lookNow (M := M1) (by rw [e1]; exact W)
  have e2 : M2.1 95 = M.1 95 := (b2.row (fun _ => rfl)).trans e1
  rw [e1] at b1 b3 b4
  obtain ⟨ec, lc⟩ := nI_of_inb (W.2.2.1.2.1 f hf).1
  have ec : M.1 95 (164 + f) = nI (cel (M.1 95) f) := ec
  have lc : cel (M.1 95) f < 48 := lc
  rw [hc] at ec lc
  have h103 : M2.1 103 c = nI (D c) := by
    rw [b2.row (a := 103) (fun _ => rfl), a2.row (a := 103) (fun _ => rfl), hr c lc, if_pos hDc]
  have how := e_onWay (M := M2) (D := D) (c := c) (K := K) (p := mbN (M.1 95)) (by rw [e2]; exact W) (by rw [e2]; exact b3) (by rw [e2]; exact b4) hK (by rw [b2.at_ (a := 94) rfl, a2.at_ (a := 94) rfl]; exact h15) (fun j hj => by rw [e2, b2.row (a := 104) (fun _ => rfl), a2.row (a := 104) (fun _ => rfl)]; exact h104 j hj) true
  rw [e2] at how
  have hcn : cnt (fun g => onW (M.1 95) D c K g && (mbN (M.1 95) g == true)) 10 = cnt (fun g => onW (M.1 95) D c K g && mbN (M.1 95) g) 10 := cnt_congr 10 (fun i _ => by cases mbN (M.1 95) i <;> rfl)
  rw [hcn] at how
  refine ⟨M2, ?_, a2.trans (b2.mono (fun a i h => sNm_sAr a i (sLk_sNm a i h))), ⟨?_, ?_⟩, ⟨?_, ?_⟩, b3⟩
  · unfold f_Mo_lacks_94 jv_
    rw [e0, a1, Option.bind_some]
    dsimp only
    rw [e1, b1, Option.bind_some, q164, nI_addn, inb_t (by omega) (by omega), ite_tt, nI_cl (by omega), e2, ec, inb_t lc (by omega), ite_tt, how, Option.bind_some, nI_cl (by omega), h103]
    show (if decide ((nI (D c) - rlS (M.1 95) 4 f (nt (M.1 95) 0) 0) - 20 * nI (cnt (fun g => onW (M.1 95) D c K g && mbN (M.1 95) g) 10) ≤ 0) = true then some ((0 : Int32), M2) else some _) = _
    unfold lkS
    split <;> rfl
  · intro g hg
    rw [b2.row (a := 109) (fun _ => rfl)]; exact a3.1 g hg
  · intro g hg
    rw [e2, b2.row (a := 109) (fun _ => rfl), b2.row (a := 108) (fun _ => rfl), ← e1]
    exact a3.2 g (by rw [e1]; rw [e2] at hg; exact hg)
  · intro g hg
    rw [b2.row (a := 111) (fun _ => rfl)]; exact a4.1 g hg
  · intro g hg
    rw [e2, b2.row (a := 111) (fun _ => rfl), b2.row (a := 110) (fun _ => rfl), ← e1]
    exact a4.2 g (by rw [e1]; rw [e2] at hg; exact hg)
theorem op_next : Op_next Rel := by
  intro n M v0 v1 hn H
  have W := Rel_W hn H
  obtain ⟨gB, gL, gI, gR, gP, gT, gK, gO, gN⟩ := RS1_gs H.1
  by_cases c0 : wthn v0 0 (M.1 95 1 - 1) = true
  rotate_left
  · refine ⟨-1, M, M, ?_, ?_, Rel_mono H (by omega)⟩
    · unfold f_CF_next_0; rw [cf_farm H, Option.bind_some, if_neg c0]
    · unfold f_Mo_next_94; rw [mo_farm, Option.bind_some, if_neg c0]
  by_cases c1 : wthn v1 0 2 = true
  rotate_left
  · refine ⟨-1, M, M, ?_, ?_, Rel_mono H (by omega)⟩
    · unfold f_CF_next_0; rw [cf_farm H, Option.bind_some, if_pos c0, if_neg c1]
    · unfold f_Mo_next_94; rw [mo_farm, Option.bind_some, if_pos c0, e_Mo_in, Option.bind_some, if_neg c1]
  obtain ⟨f, hf, rfl⟩ := farm_of W.1.2.1 c0
  have hF : nt (M.1 95) 1 ≤ 10 := by have := (nt_inb W.1.2.1).2; omega
  obtain ⟨e0, l0⟩ := nt_inb W.1.1
  have e16 : M.1 1 6 = M.1 95 0 := H.1.2.2.2.2.1
  obtain ⟨ec, lc⟩ := nI_of_inb (gL.2.2.1 f hf).1
  have ec : M.1 95 (164 + f) = nI (cel (M.1 95) f) := ec
  have lc : cel (M.1 95) f < 48 := lc
  -- class
  obtain ⟨M1, h1, h2⟩ := e_membersIn (M := M) (σ := M.1 95) (m := M.1 95 0) no no H.1.1.1 W.1 W.2.1
  rw [msk_no] at h1
  have F1 : Fr sCs M M1 := h2.mono s13_sCs
  have H1 := RelC H F1
  have e1 : M1.1 95 = M.1 95 := F1.row (fun i => sCs_lo (by omega) i)
  have hR1 := H1.1.1
  rw [e1] at hR1
  have hC0 : f_CF_next_0 (nI f) v1 M = if (mbN (M.1 95) f && !onF (M.1 95) f) = true then ((f_Ways_reach_81_24 (nI (cel (M.1 95) f)) M1).bind fun q8 => if q8.1 then (if decide (v1 = 0) then (some (q8.2.1 81 6, q8.2)) else ((f_Account_ruled_79 4 (nI f) (q8.2.1 1 6) 0 q8.2).bind fun q12 => (f_CF_signsFor_0 (msk (mbN (M.1 95)) 10) q12.1 q12.2).bind fun q13 => if decide (v1 = 1) then (jv_ ((decide (q13 = 0)) : Bool) fun u17 => some (bI u17, q12.2)) else (some (q13, q12.2)))) else (if decide (v1 = 1) then (some (0, q8.2)) else (some ((-5), q8.2)))) else some (-3, M1) := by
    unfold f_CF_next_0
    rw [cf_farm H, Option.bind_some, if_pos c0, if_pos c1, e16, h1, Option.bind_some]
    dsimp only
    rw [e_farmsOnLine hR1 W, Option.bind_some]
    have hcel : f_Land_cellOf_2 (nI f) M1 = some (nI (cel (M.1 95) f)) := by
      unfold f_Land_cellOf_2
      rw [atv_nI (by omega) (by omega), (hR1.2.1.2.2.2 f (by omega)).1, ec]
    show (if hld (msk (mbN (M.1 95)) 10 &&& (msk (onF (M.1 95)) 10 ^^^ (-1))) (nI f) = true then _ else _) = _
    rw [msk_andn, hld_msk _ (by omega), hcel, Option.bind_some]
    rfl
  -- the model
  have hM0 : ∀ X : Mem, Rel n X → X.1 95 = M.1 95 → ∃ Y, Rel n Y ∧ Y.1 95 = M.1 95 ∧ (∀ g, g < nt (M.1 95) 1 → pK (Y.1 97) g = mbN (M.1 95) g) ∧ (∀ g, nt (M.1 95) 1 ≤ g → g < 10 → mbN (M.1 95) g = false) ∧ f_Mo_next_94 (nI f) v1 X = if (mbN (M.1 95) f && !onF (M.1 95) f) = true then ((f_Mo_leads_94 (nI (cel (M.1 95) f)) Y).bind fun q9 => if inb (164 + nI f) 4700 then if inb (q9.1 95 (164 + nI f).toNatClampNeg) 48 then if decide ((q9.1 103 (q9.1 95 (164 + nI f).toNatClampNeg).toNatClampNeg) = (-1)) then (if decide (v1 = 1) then (some (0, q9)) else (some ((-5), q9))) else (if decide (v1 = 0) then (some (q9.1 103 (q9.1 95 (164 + nI f).toNatClampNeg).toNatClampNeg, q9)) else ((f_Mo_lacks_94 (nI f) q9).bind fun q15 => if decide (v1 = 1) then (if decide (q15.1 = 0) then (some (1, q15.2)) else (some (0, q15.2))) else ((f_Mo_onWay_94 false q15.2).bind fun q18 => if decide (q15.1 ≤ q18) then (some (q15.1, q15.2)) else (some ((-5), q15.2))))) else none else none) else some (-3, Y) := by
    intro X hX e
    obtain ⟨Y, g1, g2, g3, g4⟩ := e_lookNow (M := X) (by rw [e]; exact W)
    rw [e] at g1 g3 g4
    have eY : Y.1 95 = M.1 95 := (g2.row (fun i => rfl)).trans e
    have hl := e_leftOut (M := Y) (p := mbN (M.1 95)) (by rw [eY]; exact W) (by rw [eY]; exact g3) (by rw [eY]; exact g4)
    rw [eY] at hl
    refine ⟨Y, RelMs hX (g2.mono sLk_sMs), eY, g3, g4, ?_⟩
    unfold f_Mo_next_94
    rw [mo_farm, Option.bind_some, e, if_pos c0, e_Mo_in, Option.bind_some, if_pos c1, g1, Option.bind_some, hl, Option.bind_some, shr_0 _ (by omega), b_msk_lo _ (by omega), q164, nI_addn, inb_t (by omega) (by omega), ite_tt, nI_cl (by omega), eY, ec]
    cases (mbN (M.1 95) f && !onF (M.1 95) f) <;> rfl
  by_cases c2 : (mbN (M.1 95) f && !onF (M.1 95) f) = true
  rotate_left
  · obtain ⟨Y, y1, y2, y3, y4, y5⟩ := hM0 M1 H1 e1
    refine ⟨-3, M1, Y, by rw [hC0, if_neg c2], by rw [y5, if_neg c2], Rel_mono y1 (by omega)⟩
  rw [if_pos c2] at hC0
  obtain ⟨D, hD⟩ := isD_ex (ok := okW (M.1 95)) (w := wW (M.1 95)) okW_lt (lsum (iniF (M.1 95)) 48) (iniF (M.1 95)) (Nat.le_refl _)
  generalize hcd : cel (M.1 95) f = c at *
  have hbD := Nat.le_trans (hD.1 c lc) (ini_le c)
  have h9 := W.1.2.2.2.2.2.2.2.2.2
  have h5 := W.1.2.2.2.2.2.1
  obtain ⟨x, x1, x2⟩ := e_cells (M := M1) hR1.2.2.1 h9 h5
  obtain ⟨M2, r1, r2, r3, r4⟩ := e_RSf (M := M1) (σ := M.1 95) (τ := M.1 95) hR1.2.1 gL.2 x2 hD lc
  have F2 : Fr sCs M1 M2 := r2.mono sWy_sCs
  have H2 := RelC H1 F2
  have e2 : M2.1 95 = M.1 95 := (F2.row (fun i => sCs_lo (by omega) i)).trans e1
  have hreach : f_Ways_reach_81_24 (nI c) M1 = some (decide (D c < 1000000), M2) := by
    unfold f_Ways_reach_81_24
    rw [hR1.2.1.2.1, x1, Option.bind_some]
    exact r1
  rw [hreach, Option.bind_some] at hC0
  dsimp only at hC0
  by_cases g : D c < 1000000
  rotate_left
  · rw [decide_eq_false g, ite_ff] at hC0
    obtain ⟨Y, y1, y2, y3, y4, y5⟩ := hM0 M2 H2 e2
    rw [if_pos c2] at y5
    obtain ⟨Z, z1, z2, z3, z4⟩ := e_leads (M := Y) (D := D) (by rw [y2]; exact gL.2) (by rw [y2]; exact hD) lc
    have eZ : Z.1 95 = M.1 95 := (z2.row (fun _ => rfl)).trans y2
    have hmo : f_Mo_next_94 (nI f) v1 M2 = if decide (v1 = 1) then (some (0, Z)) else (some ((-5), Z)) := by
      rw [y5, z1, Option.bind_some, q164, nI_addn, inb_t (by omega) (by omega), ite_tt, nI_cl (by omega), eZ, ec, inb_t lc (by omega), ite_tt, nI_cl (by omega), z3 c lc, if_neg g]
      rfl
    refine ⟨if decide (v1 = 1) then 0 else -5, M2, Z, ?_, ?_, Rel_mono (RelMs y1 (z2.mono sLd_sMs)) (by omega)⟩
    · rw [hC0]; cases decide (v1 = 1) <;> rfl
    · rw [hmo]; cases decide (v1 = 1) <;> rfl
  obtain ⟨K, hK⟩ := way_ex gL.2 hD lc g
  obtain ⟨r5, r6, r7⟩ := r4 K g hK
  rw [decide_eq_true g, ite_tt] at hC0
  by_cases w0 : decide (v1 = 0) = true
  · rw [if_pos w0] at hC0
    obtain ⟨Y, y1, y2, y3, y4, y5⟩ := hM0 M2 H2 e2
    rw [if_pos c2] at y5
    obtain ⟨Z, z1, z2, z3, z4⟩ := e_leads (M := Y) (D := D) (by rw [y2]; exact gL.2) (by rw [y2]; exact hD) lc
    have eZ : Z.1 95 = M.1 95 := (z2.row (fun _ => rfl)).trans y2
    refine ⟨nI (D c), M2, Z, by rw [hC0, r3], ?_, Rel_mono (RelMs y1 (z2.mono sLd_sMs)) (by omega)⟩
    rw [y5, z1, Option.bind_some, q164, nI_addn, inb_t (by omega) (by omega), ite_tt, nI_cl (by omega), eZ, ec, inb_t lc (by omega), ite_tt, nI_cl (by omega), z3 c lc, if_pos g, nI_eqm1 (by omega), ite_ff, if_pos w0]
  · rw [if_neg w0] at hC0
    have hR2 := H2.1.1
    rw [e2] at hR2
    obtain ⟨M3, s1, s2, -⟩ := e_ruled (M := M2) (σ := M.1 95) (m := nt (M.1 95) 0) (u := 0) (w := 4) W hR2 hf (by omega)
    have F3 : Fr sCs M2 M3 := s2.mono sAc_sCs
    have H3 := RelC H2 F3
    have e3 : M3.1 95 = M.1 95 := (F3.row (fun i => sCs_lo (by omega) i)).trans e2
    have hR3 := H3.1.1
    rw [e3] at hR3
    have hsg := e_signsFor (M := M3) (σ := M.1 95) (D := D) (p := mbN (M.1 95)) (c := c) (K := K) (s := rlS (M.1 95) 4 f (nt (M.1 95) 0) 0) hR3.2.1 W.1.2.1 gL.2 (by rw [s2.at_ rfl]; exact r3) (fun i hi => by rw [s2.atL rfl]; exact r7 i hi)
    have e16' : M2.1 1 6 = nI (nt (M.1 95) 0) := by rw [F2.at_ rfl, F1.at_ rfl, e16]; exact e0
    rw [e16', s1, Option.bind_some] at hC0
    dsimp only at hC0
    rw [hsg, Option.bind_some] at hC0
    obtain ⟨Y, y1, y2, y3, y4, y5⟩ := hM0 M3 H3 e3
    rw [if_pos c2] at y5
    obtain ⟨Z, z1, z2, z3, z4⟩ := e_leads (M := Y) (D := D) (by rw [y2]; exact gL.2) (by rw [y2]; exact hD) lc
    have eZ : Z.1 95 = M.1 95 := (z2.row (fun _ => rfl)).trans y2
    have HZ := RelMs y1 (z2.mono sLd_sMs)
    rw [y2] at z4
    obtain ⟨z5, z6⟩ := z4 K g hK
    obtain ⟨k, q1, q2, q3, q4⟩ := Rel_k HZ
    have hw104 : ∀ k, k < K → Z.1 104 k = nI (pth (Z.1 95) D c k) ∧ pth (Z.1 95) D c k < 48 := fun k hk => by
      rw [eZ]; exact ⟨z6 k (by omega), hK.2.2.2 k (by omega)⟩
    obtain ⟨V, v1', v2', v3', v4', v5'⟩ := e_lacks (M := Z) (D := D) (n := n) (k := k) (f := f) (c := c) (K := K) hn (by rw [eZ]; exact W) (by rw [eZ]; exact hf) (by rw [eZ]; exact hcd) hK.1 z3 g z5 hw104 ⟨q2, by omega⟩ q3 q4
    have eV : V.1 95 = M.1 95 := (v2'.row (fun _ => rfl)).trans eZ
    rw [eZ] at v1' v5'
    have HV := RelA hn HZ (v2'.mono sAr_sMc) q1 q2 v3' v4'
    have how := e_onWay (M := V) (D := D) (c := c) (K := K) (p := mbN (M.1 95)) (by rw [eV]; exact W) (by rw [eV]; exact v5') (by rw [eV]; exact y4) hK.1 (by rw [v2'.at_ (a := 94) rfl]; exact z5) (fun j hj => by rw [eV, v2'.row (a := 104) (fun _ => rfl)]; exact ⟨z6 j (by omega), hK.2.2.2 j (by omega)⟩) false
    rw [eV] at how
    have hcn : cnt (fun g => onW (M.1 95) D c K g && (mbN (M.1 95) g == false)) 10 = cnt (fun g => onW (M.1 95) D c K g && !mbN (M.1 95) g) 10 := cnt_congr 10 (fun i _ => by cases mbN (M.1 95) i <;> rfl)
    rw [hcn] at how
    have hmo : f_Mo_next_94 (nI f) v1 M3 = if decide (v1 = 1) then (if decide (lkS (nI (D c)) (rlS (M.1 95) 4 f (nt (M.1 95) 0) 0) (cnt (fun g => onW (M.1 95) D c K g && mbN (M.1 95) g) 10) = 0) then (some (1, V)) else (some (0, V))) else (if decide (lkS (nI (D c)) (rlS (M.1 95) 4 f (nt (M.1 95) 0) 0) (cnt (fun g => onW (M.1 95) D c K g && mbN (M.1 95) g) 10) ≤ nI (cnt (fun g => onW (M.1 95) D c K g && !mbN (M.1 95) g) 10)) then some (lkS (nI (D c)) (rlS (M.1 95) 4 f (nt (M.1 95) 0) 0) (cnt (fun g => onW (M.1 95) D c K g && mbN (M.1 95) g) 10), V) else some (-5, V)) := by
      rw [y5, z1, Option.bind_some, q164, nI_addn, inb_t (by omega) (by omega), ite_tt, nI_cl (by omega), eZ, ec, inb_t lc (by omega), ite_tt, nI_cl (by omega), z3 c lc, if_pos g, nI_eqm1 (by omega), ite_ff, if_neg w0, v1', Option.bind_some]
      dsimp only
      rw [how, Option.bind_some]
    have hle := cnt_le (fun g => onW (M.1 95) D c K g && !mbN (M.1 95) g) 10
    generalize lkS (nI (D c)) (rlS (M.1 95) 4 f (nt (M.1 95) 0) 0) (cnt (fun g => onW (M.1 95) D c K g && mbN (M.1 95) g) 10) = S at *
    generalize cnt (fun g => onW (M.1 95) D c K g && !mbN (M.1 95) g) 10 = N at *
    by_cases w1 : decide (v1 = 1) = true
    · rw [if_pos w1] at hC0 hmo
      have hz : decide ((if decide (S ≤ nI N) = true then S else -5) = 0) = decide (S = 0) := by
        by_cases hS : S = 0
        · rw [hS, show decide ((0 : Int32) ≤ nI N) = true from nI_ge0 (by omega)]; rfl
        · rw [decide_eq_false hS]
          split
          · exact decide_eq_false hS
          · rfl
      refine ⟨bI (decide (S = 0)), M3, V, ?_, ?_, Rel_mono HV (by omega)⟩
      · rw [hC0]
        unfold jv_
        dsimp only
        rw [hz]
      · rw [hmo]; cases decide (S = 0) <;> rfl
    · rw [if_neg w1] at hC0 hmo
      refine ⟨if decide (S ≤ nI N) = true then S else -5, M3, V, hC0, ?_, Rel_mono HV (by omega)⟩
      rw [hmo]; cases decide (S ≤ nI N) <;> rfl
end NX
