section
section TD
variable {M : Mem} {σ : Nat → Int32}
/-- what the model does with the rule that is tried -/
def midM (a1 : Int32) (M6 : Mem) : Option (Int32 × Mem) := if decide (a1 = 0) then f_Mo_mile_94 0 M6 else (if decide (a1 = 1) then f_Mo_brings_94 M6 else (itr (b_Mo_tried_94_88) FU (0, 0, M6)))
def valT (σ : Nat → Int32) (a1 : Int32) : Int32 := if decide (a1 = 0) then bI (enS σ (mbN σ)) else (if decide (a1 = 1) then nI (bri σ (nt σ 1)).1 else blN σ (nt σ 1))
theorem e_Mo_brings {k : Nat} (W : Wm (M.1 95)) (S : stK M k) (U : CvU M k) (A : CvA M k) (hk : k < 800000) : ∃ M' k', f_Mo_brings_94 M = some (nI (bri (M.1 95) (nt (M.1 95) 1)).1, M') ∧ M'.1 95 = M.1 95 ∧ Fr sBr M M' ∧ k ≤ k' ∧ k' ≤ k + 12 ∧ stK M' k' ∧ CvU M' k' ∧ CvA M' k' := by
  obtain ⟨e1, l1⟩ := nt_inb W.1.2.1
  obtain ⟨M1, a1, a2, a3⟩ := itr_cnt (body := b_Mo_brings_94_11) (s0 := ((0 : Int32), M)) (fun k z => z.1 = nI k ∧ Fr (fun a _ => a == 116) M z.2 ∧ ∀ c, c < k → z.2.1 116 c = M.1 95 (116 + c)) (fun X => Fr (fun a _ => a == 116) M X ∧ ∀ c, c < 48 → X.1 116 c = M.1 95 (116 + c)) 48 (by omega) ⟨rfl, Fr.refl _, fun c hc => by omega⟩ (by
    rintro k ⟨x, X⟩ hk ⟨rfl, hF, hr⟩
    dsimp only at hF hr
    left
    refine ⟨(nI (k + 1), wI X 116 k (M.1 95 (116 + k))), ?_, rfl, hF.wI rfl, fun c hc => ?_⟩
    · unfold b_Mo_brings_94_11 jv_
      dsimp only
      rw [show (48 : Int32) = nI 48 from rfl, dlt_t hk (by omega), ite_tt, show (116 : Int32) = nI 116 from rfl, nI_addn, inb_t (by omega) (by omega), ite_tt, inb_t (by omega) (by omega), ite_tt, nI_cl (by omega), nI_cl (by omega), hF.at_ rfl, nI_one]
    · dsimp only
      by_cases g : c = k
      · rw [g]; exact rde
      · rw [rdi g]; exact hr c (by omega)) (by
    rintro ⟨x, X⟩ ⟨rfl, hF, hr⟩
    dsimp only at hF hr
    refine ⟨X, ?_, hF, hr⟩
    unfold b_Mo_brings_94_11
    dsimp only
    rw [show (48 : Int32) = nI 48 from rfl, dlt_f (Nat.le_refl _) (by omega), ite_ff])
  have e95 : M1.1 95 = M.1 95 := a2.row (fun _ => rfl)
  obtain ⟨U1, A1⟩ := Cv_fr (M := M) (M' := M1) (k := k) W (fun a ha => a2.row (fun _ => by rw [beq_eq_false_iff_ne]; omega)) U A
  have FB : Fr sBr M M1 := a2.mono (fun a i h => by rw [beq_iff_eq] at h; subst h; rfl)
  obtain ⟨e, b1, b2⟩ := itr_cnt (body := b_Mo_brings_94_40) (s0 := ((0 : Int32), (0 : Int32), M1)) (fun f z => z.1 = nI (bri (M.1 95) f).1 ∧ z.2.1 = nI f ∧ z.2.2.1 95 = (bri (M.1 95) f).2 ∧ Fr sBr M1 z.2.2 ∧ z.2.2.1 116 = M1.1 116 ∧ ∃ k', k ≤ k' ∧ k' ≤ k + f ∧ stK z.2.2 k' ∧ CvU z.2.2 k' ∧ CvA z.2.2 k') (fun e => e.1 = nI (bri (M.1 95) (nt (M.1 95) 1)).1 ∧ e.2.1 95 = (bri (M.1 95) (nt (M.1 95) 1)).2 ∧ Fr sBr M1 e.2 ∧ e.2.1 116 = M1.1 116 ∧ ∃ k', k ≤ k' ∧ k' ≤ k + nt (M.1 95) 1 ∧ stK e.2 k' ∧ CvU e.2 k' ∧ CvA e.2 k') (nt (M.1 95) 1) (by omega) ⟨rfl, rfl, e95, Fr.refl _, rfl, k, Nat.le_refl _, by omega, ⟨by rw [a2.at_ rfl]; exact S.1, S.2⟩, U1, A1⟩ (by
    rintro f ⟨s, y, X⟩ hf ⟨hs, hy, hrow, hF, h116, k', q1, q2, q3, q4, q5⟩
    dsimp only at hs hy hrow hF h116 q3 q4 q5
    rw [hs, hy]
    left
    obtain ⟨Y, k2, y1, y2, y3, y4, y5, y6, y7, y8, y9⟩ := e_brStep (M := X) (σ := M.1 95) (s := 0) W hf hrow q3 q4 q5 (by omega)
    exact ⟨_, y1, rfl, rfl, y2, hF.trans y3, y4.trans h116, k2, by omega, by omega, y7, y8, y9⟩) (by
    rintro ⟨s, y, X⟩ ⟨hs, hy, hrow, hF, h116, k', q1, q2, q3, q4, q5⟩
    dsimp only at hs hy hrow hF h116 q3 q4 q5
    rw [hs, hy]
    refine ⟨(nI (bri (M.1 95) (nt (M.1 95) 1)).1, X), ?_, rfl, hrow, hF, h116, k', q1, q2, q3, q4, q5⟩
    have e1X : X.1 95 1 = nI (nt (M.1 95) 1) := by
      rw [hrow, (bri_ok W (nt (M.1 95) 1) (Nat.le_refl _)).1 1 (by omega) (by omega)]; exact e1
    unfold b_Mo_brings_94_40
    dsimp only
    rw [e1X, dlt_f (Nat.le_refl _) (by omega), ite_ff])
  obtain ⟨v, M2⟩ := e
  obtain ⟨rfl, c1, c2, c3, k', c4, c5, c6, c7, c8⟩ : v = nI (bri (M.1 95) (nt (M.1 95) 1)).1 ∧ M2.1 95 = (bri (M.1 95) (nt (M.1 95) 1)).2 ∧ Fr sBr M1 M2 ∧ M2.1 116 = M1.1 116 ∧ ∃ k', k ≤ k' ∧ k' ≤ k + nt (M.1 95) 1 ∧ stK M2 k' ∧ CvU M2 k' ∧ CvA M2 k' := b2
  have hAl := (bri_ok W (nt (M.1 95) 1) (Nat.le_refl _)).1
  obtain ⟨M3, d1, d2, d3, d4⟩ := itr_cnt (body := b_Mo_brings_94_206) (s0 := ((0 : Int32), M2)) (fun k z => z.1 = nI k ∧ Fr (fun a _ => a == 95) M2 z.2 ∧ (∀ c, c < k → z.2.1 95 (116 + c) = M.1 95 (116 + c)) ∧ ∀ j, ¬ (116 ≤ j ∧ j < 164) → z.2.1 95 j = M2.1 95 j) (fun X => Fr (fun a _ => a == 95) M2 X ∧ (∀ c, c < 48 → X.1 95 (116 + c) = M.1 95 (116 + c)) ∧ ∀ j, ¬ (116 ≤ j ∧ j < 164) → X.1 95 j = M2.1 95 j) 48 (by omega) ⟨rfl, Fr.refl _, fun c hc => by omega, fun _ _ => rfl⟩ (by
    rintro k ⟨x, X⟩ hk ⟨rfl, hF, hr, ho⟩
    dsimp only at hF hr ho
    left
    refine ⟨(nI (k + 1), wI X 95 (116 + k) (M.1 95 (116 + k))), ?_, rfl, hF.wI rfl, fun c hc => ?_, fun j hj => ?_⟩
    · unfold b_Mo_brings_94_206 jv_
      dsimp only
      rw [show (48 : Int32) = nI 48 from rfl, dlt_t hk (by omega), ite_tt, inb_t (by omega) (by omega), ite_tt, show (116 : Int32) = nI 116 from rfl, nI_addn, inb_t (by omega) (by omega), ite_tt, nI_cl (by omega), nI_cl (by omega), hF.at_ rfl, c3, a3 k hk, nI_one]
    · dsimp only
      by_cases g : c = k
      · rw [g]; exact rde
      · rw [rdi (by omega)]; exact hr c (by omega)
    · dsimp only
      rw [rdi (by omega)]; exact ho j hj) (by
    rintro ⟨x, X⟩ ⟨rfl, hF, hr, ho⟩
    dsimp only at hF hr ho
    refine ⟨X, ?_, hF, hr, ho⟩
    unfold b_Mo_brings_94_206
    dsimp only
    rw [show (48 : Int32) = nI 48 from rfl, dlt_f (Nat.le_refl _) (by omega), ite_ff])
  have hrow : (wI M3 95 5 (M.1 95 5)).1 95 = M.1 95 := by
    funext j
    by_cases g : j = 5
    · rw [g, rde]
    · rw [rdi g]
      by_cases g2 : 116 ≤ j ∧ j < 164
      · have := d3 (j - 116) (by omega)
        rw [show 116 + (j - 116) = j by omega] at this; exact this
      · rw [d4 j g2, c1]; exact hAl j g g2
  have e21 : (wI M3 95 5 (M.1 95 5)).1 94 21 = nI k' := by rw [rdk (by omega), d2.at_ rfl]; exact c6.1
  obtain ⟨U4, A4⟩ := Cv_new (M := M2) (M' := wI (wI M3 95 5 (M.1 95 5)) 94 21 (nI (k' + 1))) (k := k') (by omega) (by rw [rdk (by omega), rdk (by omega)]; exact d2.row (fun _ => rfl)) (by rw [rdk (by omega), rdk (by omega)]; exact d2.row (fun _ => rfl)) (by rw [rdk (by omega), hrow]; omega) c7 c8 (show k' < k' + 1 by omega) (by omega)
  refine ⟨wI (wI M3 95 5 (M.1 95 5)) 94 21 (nI (k' + 1)), k' + 1, ?_, by rw [rdk (by omega)]; exact hrow, (((FB.trans c2).trans (d2.mono (fun a i h => by rw [beq_iff_eq] at h; subst h; unfold sBr; simp))).wI (by unfold sBr; simp)).wI (by unfold sBr; simp), by omega, by omega, ⟨rde, by omega⟩, U4, A4⟩
  unfold f_Mo_brings_94 jv_
  rw [a1, Option.bind_some, b1, Option.bind_some]
  dsimp only
  rw [d1, Option.bind_some, e21, nI_one]
theorem e_midM {k : Nat} {a : Int32} (W : Wm (M.1 95)) (S : stK M k) (U : CvU M k) (A : CvA M k) (hk : k < 800000) : ∃ M' k', midM a M = some (valT (M.1 95) a, M') ∧ M'.1 95 = M.1 95 ∧ Fr sBr M M' ∧ k ≤ k' ∧ k' ≤ k + 12 ∧ stK M' k' ∧ CvU M' k' ∧ CvA M' k' := by
  obtain ⟨e1, l1⟩ := nt_inb W.1.2.1
  obtain ⟨e0, l0⟩ := nt_inb W.1.1
  unfold midM valT
  by_cases c0 : decide (a = 0) = true
  · rw [if_pos c0, if_pos c0]
    obtain ⟨Y, y1, y2, y3, y4⟩ := e_lookNow (M := M) W
    have eY : Y.1 95 = M.1 95 := y2.row (fun i => rfl)
    obtain ⟨V, v1, v2⟩ := e_Mo_isEnough (M := Y) (p := mbN (M.1 95)) (by rw [eY]; exact W) (by rw [eY]; exact y3) (by rw [eY]; exact y4)
    rw [eY] at v1
    have hrow : ∀ a, a = 95 ∨ (108 ≤ a ∧ a ≤ 111) → V.1 a = M.1 a := fun a ha => (v2.row (fun i => by
      unfold sNm
      simp only [Bool.or_eq_false_iff, Bool.and_eq_false_iff, beq_eq_false_iff_ne]
      omega)).trans (y2.row (fun i => by
      unfold sLk
      simp only [Bool.or_eq_false_iff, beq_eq_false_iff_ne]
      omega))
    obtain ⟨U1, A1⟩ := Cv_fr (M := M) (M' := V) (k := k) W hrow U A
    refine ⟨V, k, ?_, hrow 95 (by omega), (y2.mono (fun a i h => sMs_sBr a i (sLk_sMs a i h))).trans (v2.mono (fun a i h => sMs_sBr a i (sNm_sMs a i h))), Nat.le_refl _, by omega, ⟨by rw [v2.at_ rfl, y2.at_ rfl]; exact S.1, S.2⟩, U1, A1⟩
    unfold f_Mo_mile_94
    rw [y1, Option.bind_some, if_pos (show decide ((0 : Int32) = 0) = true from rfl), v1, Option.bind_some]
    cases enS (M.1 95) (mbN (M.1 95)) <;> rfl
  rw [if_neg c0, if_neg c0]
  by_cases c1 : decide (a = 1) = true
  · rw [if_pos c1, if_pos c1]
    exact e_Mo_brings W S U A hk
  rw [if_neg c1, if_neg c1]
  obtain ⟨e, b1, b2⟩ := itr_cnt (body := b_Mo_tried_94_88) (s0 := ((0 : Int32), (0 : Int32), M)) (fun f z => z.1 = blN (M.1 95) f ∧ z.2.1 = nI f ∧ z.2.2.1 95 = M.1 95 ∧ Fr sAr M z.2.2 ∧ CvU z.2.2 k ∧ CvA z.2.2 k) (fun e => e.1 = blN (M.1 95) (nt (M.1 95) 1) ∧ e.2.1 95 = M.1 95 ∧ Fr sAr M e.2 ∧ CvU e.2 k ∧ CvA e.2 k) (nt (M.1 95) 1) (by omega) ⟨rfl, rfl, rfl, Fr.refl _, U, A⟩ (by
    rintro f ⟨s, y, X⟩ hf ⟨hs, hy, eX, hF, q1, q2⟩
    dsimp only at hs hy eX hF q1 q2
    rw [hs, hy]
    left
    obtain ⟨Y, y1, y2, y3, y4⟩ := e_billIn (M := X) (k := k) (f := f) (m := nt (M.1 95) 0) (by rw [eX]; exact hf) l0 (by rw [eX]; exact W) ⟨by rw [hF.at_ rfl]; exact S.1, S.2⟩ q1 q2
    rw [eX, ← e0] at y1
    refine ⟨(blN (M.1 95) (f + 1), nI (f + 1), Y), ?_, rfl, rfl, (y2.row (fun _ => rfl)).trans eX, hF.trans y2, y3, y4⟩
    unfold b_Mo_tried_94_88
    dsimp only
    rw [eX, e1, dlt_t hf (by omega), ite_tt, y1, Option.bind_some, nI_one]
    rfl) (by
    rintro ⟨s, y, X⟩ ⟨hs, hy, eX, hF, q1, q2⟩
    dsimp only at hs hy eX hF q1 q2
    rw [hs, hy]
    refine ⟨(blN (M.1 95) (nt (M.1 95) 1), X), ?_, rfl, eX, hF, q1, q2⟩
    unfold b_Mo_tried_94_88
    dsimp only
    rw [eX, e1, dlt_f (Nat.le_refl _) (by omega), ite_ff])
  obtain ⟨v, M'⟩ := e
  obtain ⟨rfl, r1, r2, r3, r4⟩ : v = blN (M.1 95) (nt (M.1 95) 1) ∧ M'.1 95 = M.1 95 ∧ Fr sAr M M' ∧ CvU M' k ∧ CvA M' k := b2
  exact ⟨M', k, b1, r1, r2.mono (fun a i h => sMc_sBr a i (sAr_sMc a i h)), Nat.le_refl _, by omega, ⟨by rw [r2.at_ rfl]; exact S.1, S.2⟩, r3, r4⟩
/-- what the class does -/
theorem e_midC {M4 : Mem} {a : Int32} (R : Rc0 M4.1 σ) (W : Wm σ) (e16 : M4.1 1 6 = σ 0) : ∃ V, ((f_Book_membersIn_7 (M4.1 1 6) 0 0 M4).bind fun q5 => if decide (a = 0) then ((f_CF_isEnough_0 q5.1 q5.2).bind fun q12 => some (bI q12.1, q12.2)) else (if decide (a = 1) then ((f_CF_costToBringIn_0 q5.1 q5.2).bind fun q14 => some (q14.1, q14.2)) else ((f_CF_billsOfNow_0 q5.2).bind fun q15 => some (q15.1, q15.2)))) = some (valT σ a, V) ∧ Fr sCs M4 V := by
  obtain ⟨M5, h1, h2⟩ := e_membersIn (M := M4) (σ := σ) (m := σ 0) no no R.1 W.1 W.2.1
  rw [msk_no] at h1
  have F5 : Fr sCs M4 M5 := h2.mono s13_sCs
  have R5 := Rc0_C R F5
  have e16' : M5.1 1 6 = σ 0 := by rw [h2.at_ rfl]; exact e16
  rw [e16, h1, Option.bind_some]
  dsimp only
  unfold valT
  rw [show mb σ (σ 0) (nt σ 2) no no = mbN σ from rfl]
  by_cases c0 : decide (a = 0) = true
  · rw [if_pos c0, if_pos c0]
    obtain ⟨M6, u1, u2⟩ := e_CF_isEnough (M := M5) (σ := σ) R5 W e16' (mbN σ)
    exact ⟨M6, by rw [u1]; rfl, F5.trans (u2.mono sAc_sCs)⟩
  rw [if_neg c0, if_neg c0]
  by_cases c1 : decide (a = 1) = true
  · rw [if_pos c1, if_pos c1]
    obtain ⟨M6, u1, u2⟩ := e_costTo (M := M5) R5 W e16'
    exact ⟨M6, by rw [u1]; rfl, F5.trans u2⟩
  rw [if_neg c1, if_neg c1]
  obtain ⟨M6, u1, u2⟩ := e_bills (M := M5) R5 W e16'
  exact ⟨M6, by rw [u1]; rfl, F5.trans u2⟩
theorem op_tried : Op_tried Rel := by
  intro n M v0 hn H
  have W := Rel_W hn H
  obtain ⟨gB, gL, gI, gR, gP, gT, gK, gO, gN⟩ := RS1_gs H.1
  by_cases c0 : wthn v0 0 2 = true
  rotate_left
  · refine ⟨-1, M, M, ?_, ?_, Rel_mono H (by omega)⟩
    · unfold f_CF_tried_0; rw [if_neg c0]
    · unfold f_Mo_tried_94; rw [e_Mo_in, Option.bind_some, if_neg c0]
  obtain ⟨e3, l3⟩ := nt_inb gN.2.2
  have e16 : M.1 1 6 = M.1 95 0 := gN.1
  have e149 : M.1 14 9 = nI (nt (M.1 95) 3) := gR.1.trans e3
  have hMk : ∀ {X : Mem} {a i : Nat}, Fr (sMk (nt (M.1 95) 3)) M X → ¬ (a = 77 ∨ a = 78 ∨ (16 ≤ a ∧ a ≤ 22) ∨ (a = 14 ∧ i = 1)) → X.1 a i = M.1 a i := fun {X a i} F h => F.at_ (by
    unfold sMk sMj
    simp only [Bool.or_eq_false_iff, Bool.and_eq_false_iff, beq_eq_false_iff_ne, decide_eq_false_iff_not]
    omega)
  have hRl : ∀ {X X' : Mem} {a i : Nat}, Fr (sRl (nt (M.1 95) 3)) X X' → ¬ (a = 94 ∧ (i = 6 ∨ i = 7 ∨ i = 8)) → a ≠ 95 → X'.1 a i = X.1 a i := fun {X X' a i} F h h2 => F.at_ (by
    unfold sRl sRj
    simp only [Bool.or_eq_false_iff, Bool.and_eq_false_iff, beq_eq_false_iff_ne, decide_eq_false_iff_not]
    omega)
  have hRz : ∀ {X X' : Mem} {j : Nat}, Fr (sRl (nt (M.1 95) 3)) X X' → rlZ (nt (M.1 95) 3) j = false → X'.1 95 j = X.1 95 j := fun {X X' j} F hj => F.at_ (by
    unfold rlZ at hj
    unfold sRl sRj
    simp only [Bool.or_eq_false_iff, Bool.and_eq_false_iff, beq_eq_false_iff_ne, decide_eq_false_iff_not] at hj ⊢
    omega)
  have her : ∀ {X : Mem}, Fr (sMk (nt (M.1 95) 3)) M X → ∀ a i, ((16 ≤ a ∧ a ≤ 22) ∧ (a = 16 → i < 120 * nt (M.1 95) 3) ∧ (19 ≤ a → i < 8 * nt (M.1 95) 3) ∧ i ≠ nt (M.1 95) 3 ∨ (19 ≤ a ∧ a ≤ 22 ∧ i < 8 * nt (M.1 95) 3) ∨ (a = 16 ∧ i < 120 * nt (M.1 95) 3)) → X.1 a i = M.1 a i := fun {X} F a i ha => F.at_ (by
    unfold sMk sMj
    simp only [Bool.or_eq_false_iff, Bool.and_eq_false_iff, beq_eq_false_iff_ne, decide_eq_false_iff_not]
    omega)
  have hAg : ∀ {σ' : Nat → Int32}, (∀ j, rlZ (nt (M.1 95) 3) j = false → σ' j = M.1 95 j) → Ag (M.1 95) σ' := fun {σ'} h => by
    have eσ : ∀ j, (j ≠ 4 ∧ j ≠ 790 + nt (M.1 95) 3 ∧ j ≠ 800 + nt (M.1 95) 3 ∧ j ≠ 1890 + nt (M.1 95) 3 ∧ ¬ (810 + 120 * nt (M.1 95) 3 ≤ j ∧ j < 930 + 120 * nt (M.1 95) 3) ∧ ¬ (1900 + 8 * nt (M.1 95) 3 ≤ j ∧ j < 1908 + 8 * nt (M.1 95) 3) ∧ ¬ (1980 + 8 * nt (M.1 95) 3 ≤ j ∧ j < 1988 + 8 * nt (M.1 95) 3) ∧ ¬ (2060 + 8 * nt (M.1 95) 3 ≤ j ∧ j < 2068 + 8 * nt (M.1 95) 3)) → σ' j = M.1 95 j := fun j hj => h j (rlZ_f hj)
    exact ⟨⟨eσ 2 (by omega), eσ 3 (by omega), eσ 9 (by omega)⟩, fun j h1 h2 => eσ j (by omega), fun r hr => ⟨eσ _ (by omega), eσ _ (by omega), eσ _ (by omega), fun s hs => eσ _ (by omega), fun k hk => ⟨eσ _ (by omega), eσ _ (by omega), eσ _ (by omega)⟩⟩, fun j h => eσ j (by omega)⟩
  rcases e_try hn H (M.1 95 0) W.1.1 with ⟨e, M1, m1, m2, m3, m4, m5⟩ | ⟨M1, m1, m3, m4, m5⟩
  · have e95 : M1.1 95 = M.1 95 := funext fun i => hMk m4 (by omega)
    obtain ⟨X', r1, r2, r3, r4⟩ := m5 M1 e95
    have eC : ∀ a, ¬ (a = 77 ∨ a = 78 ∨ (16 ≤ a ∧ a ≤ 22) ∨ a = 14 ∨ a = 94 ∨ a = 95) → X'.1 a = M.1 a := fun a ha => funext fun i => (hRl r4 (by omega) (by omega)).trans (hMk m4 (by omega))
    have eσ : ∀ j, rlZ (nt (M.1 95) 3) j = false → X'.1 95 j = M.1 95 j := fun j hj => (hRz r4 hj).trans (by rw [e95])
    refine ⟨-10 - nI e, M1, X', ?_, ?_, Rel_same2 hn H ?_ (hAg eσ) (eσ 1 (rlZ_f (by omega))) (fun a ha => eC a (by omega)) (fun j hj => (hRl r4 (by omega) (by omega)).trans (hMk m4 (by omega)))⟩
    · unfold f_CF_tried_0
      rw [if_pos c0, e16, m1, Option.bind_some]
      dsimp only
      rw [nI_nneg (by omega), ite_ff]
    · unfold f_Mo_tried_94
      rw [e_Mo_in, Option.bind_some, if_pos c0, e95, e3, r1, Option.bind_some]
      dsimp only
      rw [ite_ff, r2]
    · exact RS1_pop H.1 (fun a ha => eC a (by omega)) ((hRl r4 (by omega) (by omega)).trans (hMk m4 (by omega))) ((hRl r4 (by omega) (by omega)).trans (hMk m4 (by omega))) (by rw [hRl r4 (by omega) (by omega), m3, r3]) r3 (fun a i ha => (hRl r4 (by omega) (by omega)).trans (her m4 a i ha)) eσ
  · have e95 : M1.1 95 = M.1 95 := funext fun i => hMk m4 (by omega)
    have e149' : M1.1 14 9 = nI (nt (M.1 95) 3) := (hMk m4 (by omega)).trans e149
    have e16' : (wI M1 14 9 (nI (nt (M.1 95) 3 + 1))).1 1 6 = M.1 95 0 := by rw [rdk (by omega), hMk m4 (by omega)]; exact e16
    have hrow0 : ∀ (X X' : Mem), X.1 95 = M.1 95 → Fr (sRl (nt (M.1 95) 3)) X X' → (wI X' 95 3 (nI (nt (M.1 95) 3 + 1))).1 95 0 = M.1 95 0 := fun X X' hX F => by
      rw [rdi (by omega), hRz F (rlZ_f (by omega)), hX]
    have hcls : ∀ σ' : Nat → Int32, Rc0 (wI M1 14 9 (nI (nt (M.1 95) 3 + 1))).1 σ' → Wm σ' → σ' 0 = M.1 95 0 → ∃ V0, f_CF_tried_0 v0 M = some (valT σ' v0, wI V0 14 9 (nI (nt (M.1 95) 3))) ∧ Fr sCs (wI M1 14 9 (nI (nt (M.1 95) 3 + 1))) V0 := by
      intro σ' hR hW h0
      obtain ⟨V0, v1, v2⟩ := e_midC (a := v0) hR hW (by rw [e16', h0])
      refine ⟨V0, ?_, v2⟩
      have e149V : V0.1 14 9 = nI (nt (M.1 95) 3 + 1) := by rw [v2.at_ rfl]; exact rde
      have hfin : f_CF_tried_0 v0 M = ((f_Book_membersIn_7 ((wI M1 14 9 (nI (nt (M.1 95) 3 + 1))).1 1 6) 0 0 (wI M1 14 9 (nI (nt (M.1 95) 3 + 1)))).bind fun q5 => if decide (v0 = 0) then ((f_CF_isEnough_0 q5.1 q5.2).bind fun q12 => some (bI q12.1, q12.2)) else (if decide (v0 = 1) then ((f_CF_costToBringIn_0 q5.1 q5.2).bind fun q14 => some (q14.1, q14.2)) else ((f_CF_billsOfNow_0 q5.2).bind fun q15 => some (q15.1, q15.2)))).bind fun u9 => some (u9.1, wI u9.2 14 9 ((u9.2.1 14 9) - 1)) := by
        unfold f_CF_tried_0 jv_ jn_
        rw [if_pos c0, e16, m1, Option.bind_some]
        dsimp only
        rw [if_pos m1_neg, e149', nI_one, Option.bind_assoc]
        congr 1
        funext q5
        by_cases d0 : decide (v0 = 0) = true
        · rw [if_pos d0, if_pos d0, Option.bind_assoc]; rfl
        · rw [if_neg d0, if_neg d0]
          by_cases d1 : decide (v0 = 1) = true
          · rw [if_pos d1, if_pos d1, Option.bind_assoc]; rfl
          · rw [if_neg d1, if_neg d1, Option.bind_assoc]; rfl
      rw [hfin, v1, Option.bind_some]
      dsimp only
      rw [e149V, show nI (nt (M.1 95) 3 + 1) - 1 = nI (nt (M.1 95) 3) from dm1 _]
    obtain ⟨Xh, h1, h2, h3, h4, h5, h6⟩ := m5 M rfl
    obtain ⟨V0, v1, v2⟩ := hcls _ h5 h6 (hrow0 M Xh rfl h4)
    have eV : ∀ {a i : Nat}, sCs a i = false → ¬ (a = 77 ∨ a = 78 ∨ (16 ≤ a ∧ a ≤ 22) ∨ (a = 14 ∧ (i = 1 ∨ i = 9))) → (wI V0 14 9 (nI (nt (M.1 95) 3))).1 a i = M.1 a i := fun {a i} hs h => by
      have e1 : (wI V0 14 9 (nI (nt (M.1 95) 3))).1 a i = V0.1 a i := by
        rw [rd_I]
        by_cases g : a = 14
        · rw [if_pos g, if_neg (by omega)]
        · rw [if_neg g]
      have e2 : (wI M1 14 9 (nI (nt (M.1 95) 3 + 1))).1 a i = M1.1 a i := by
        rw [rd_I]
        by_cases g : a = 14
        · rw [if_pos g, if_neg (by omega)]
        · rw [if_neg g]
      rw [e1, v2.at_ hs, e2]
      exact hMk m4 (by omega)
    have eV95 : (wI V0 14 9 (nI (nt (M.1 95) 3))).1 95 = M.1 95 := funext fun i => eV (sCs_lo (by omega) i) (by omega)
    obtain ⟨X', r1, r2, r3, r4, r5, r6⟩ := m5 (wI V0 14 9 (nI (nt (M.1 95) 3))) eV95
    obtain ⟨V0', w1, -⟩ := hcls _ r5 r6 (hrow0 _ X' eV95 r4)
    rw [v1] at w1
    have hval := congrArg (fun o : Option (Int32 × Mem) => (o.map Prod.fst)) w1
    have hval : valT ((wI Xh 95 3 (nI (nt (M.1 95) 3 + 1))).1 95) v0 = valT ((wI X' 95 3 (nI (nt (M.1 95) 3 + 1))).1 95) v0 := Option.some.inj hval
    -- the model
    obtain ⟨-, himg1, himg2, k, k1, k2, k3, k4, k5⟩ := H
    have eX : ∀ {a i : Nat}, a ≠ 95 → ¬ (a = 94 ∧ (i = 6 ∨ i = 7 ∨ i = 8)) → sCs a i = false → ¬ (a = 77 ∨ a = 78 ∨ (16 ≤ a ∧ a ≤ 22) ∨ (a = 14 ∧ (i = 1 ∨ i = 9))) → X'.1 a i = M.1 a i := fun {a i} h1 h2 h3 h4 => (hRl r4 h2 h1).trans (eV h3 h4)
    have e21 : X'.1 94 21 = nI k := (eX (by omega) (by omega) (sCs_lo (by omega) _) (by omega)).trans k3
    have hrow6 : (wI (wI X' 95 3 (nI (nt (M.1 95) 3 + 1))) 94 21 (nI (k + 1))).1 95 = (wI X' 95 3 (nI (nt (M.1 95) 3 + 1))).1 95 := rdk (by omega)
    have n1 : nt ((wI X' 95 3 (nI (nt (M.1 95) 3 + 1))).1 95) 1 ≤ 10 := by have := (nt_inb r6.1.2.1).2; omega
    obtain ⟨U1, A1⟩ := Cv_new (M := M) (M' := wI (wI X' 95 3 (nI (nt (M.1 95) 3 + 1))) 94 21 (nI (k + 1))) (k := k) (by omega) (by rw [rdk (by omega), rdk (by omega)]; exact funext fun i => eX (by omega) (by omega) (sCs_lo (by omega) _) (by omega)) (by rw [rdk (by omega), rdk (by omega)]; exact funext fun i => eX (by omega) (by omega) (sCs_lo (by omega) _) (by omega)) (by rw [hrow6]; exact n1) k4 k5 (show k < k + 1 by omega) (by omega)
    obtain ⟨Y, k', y1, y2, y3, y4, y5, y6, y7, y8⟩ := e_midM (M := wI (wI X' 95 3 (nI (nt (M.1 95) 3 + 1))) 94 21 (nI (k + 1))) (k := k + 1) (a := v0) (by rw [hrow6]; exact r6) ⟨rde, by omega⟩ U1 A1 (by omega)
    rw [hrow6] at y1 y2
    have eY3 : Y.1 95 3 = nI (nt (M.1 95) 3 + 1) := by rw [y2]; exact rde
    have eF : ∀ {a i : Nat}, a ≠ 95 → sBr a i = false → ¬ (a = 94 ∧ (i = 6 ∨ i = 7 ∨ i = 8 ∨ i = 21)) → sCs a i = false → ¬ (a = 77 ∨ a = 78 ∨ (16 ≤ a ∧ a ≤ 22) ∨ (a = 14 ∧ (i = 1 ∨ i = 9))) → (wI (wI Y 95 3 (nI (nt (M.1 95) 3))) 94 21 (nI (k' + 1))).1 a i = M.1 a i := fun {a i} h1 h2 h3 h4 h5 => by
      have q1 : (wI (wI Y 95 3 (nI (nt (M.1 95) 3))) 94 21 (nI (k' + 1))).1 a i = Y.1 a i := by
        rw [rd_I, rd_I]
        by_cases g : a = 94
        · rw [if_pos g, if_neg (by omega), if_neg (by omega)]
        · rw [if_neg g, if_neg h1]
      have q2 : (wI (wI X' 95 3 (nI (nt (M.1 95) 3 + 1))) 94 21 (nI (k + 1))).1 a i = X'.1 a i := by
        rw [rd_I, rd_I]
        by_cases g : a = 94
        · rw [if_pos g, if_neg (by omega), if_neg (by omega)]
        · rw [if_neg g, if_neg h1]
      rw [q1, y3.at_ h2, q2]
      exact eX h1 (by omega) h4 h5
    have sB : ∀ {a : Nat} (i : Nat), (a ≤ 93 ∨ a = 96 ∨ (a = 94 ∧ i = 3)) → sBr a i = false := fun {a} i h => by
      unfold sBr sMc sMs
      simp only [Bool.or_eq_false_iff, Bool.and_eq_false_iff, beq_eq_false_iff_ne, decide_eq_false_iff_not]
      omega
    have eσ : ∀ j, rlZ (nt (M.1 95) 3) j = false → (wI (wI Y 95 3 (nI (nt (M.1 95) 3))) 94 21 (nI (k' + 1))).1 95 j = M.1 95 j := fun j hj => by
      rw [rdk (by omega)]
      by_cases g : j = 3
      · rw [g, rde]; exact e3.symm
      · rw [rdi g, y2, rdi g, hRz r4 hj, eV95]
    have e4 : (wI (wI Y 95 3 (nI (nt (M.1 95) 3))) 94 21 (nI (k' + 1))).1 95 4 = 0 := by
      rw [rdk (by omega), rdi (by omega), y2, rdi (by omega)]; exact r2
    have q14 : ∀ a i, a ≤ 93 → (wI (wI Y 95 3 (nI (nt (M.1 95) 3))) 94 21 (nI (k' + 1))).1 a i = (wI V0 14 9 (nI (nt (M.1 95) 3))).1 a i := fun a i ha => by
      rw [rdk (by omega), rdk (by omega), y3.at_ (sB i (by omega)), rdk (by omega), rdk (by omega), hRl r4 (by omega) (by omega)]
    have hsc : ∀ a i, ((1 ≤ a ∧ a ≤ 12) ∨ a = 15 ∨ (24 ≤ a ∧ a ≤ 26) ∨ a = 30 ∨ a = 31 ∨ (36 ≤ a ∧ a ≤ 76) ∨ a = 0 ∨ (a = 29 ∧ i = 2)) → sCs a i = false := fun a i h => by
      unfold sCs
      simp only [Bool.or_eq_false_iff, Bool.and_eq_false_iff, beq_eq_false_iff_ne, decide_eq_false_iff_not]
      omega
    have hRS : RS1 (n + 1) (wI (wI Y 95 3 (nI (nt (M.1 95) 3))) 94 21 (nI (k' + 1))).1 ((wI (wI Y 95 3 (nI (nt (M.1 95) 3))) 94 21 (nI (k' + 1))).1 95) := by
      refine RS1_pop (RS1_mk gB gL gI gR gP gT gK gO gN) (fun a ha => funext fun i => eF (by omega) (sB i (by omega)) (by omega) (hsc a i (by omega)) (by omega)) (eF (by omega) (sB _ (by omega)) (by omega) (hsc _ _ (by omega)) (by omega)) ?_ ?_ e4 (fun a i ha => ?_) eσ
      · rw [q14 14 9 (by omega), rde]; exact e149.symm
      · rw [q14 14 1 (by omega), rdi (by omega), v2.at_ rfl, rdi (by omega), m3, e4]
      · rw [q14 a i (by omega), rdk (by omega), v2.at_ (by
          unfold sCs
          simp only [Bool.or_eq_false_iff, Bool.and_eq_false_iff, beq_eq_false_iff_ne, decide_eq_false_iff_not]
          omega), rdk (by omega)]
        exact her m4 a i ha
    obtain ⟨U2, A2⟩ := Cv_new (M := Y) (M' := wI (wI Y 95 3 (nI (nt (M.1 95) 3))) 94 21 (nI (k' + 1))) (k := k') (by omega) (by rw [rdk (by omega), rdk (by omega)]) (by rw [rdk (by omega), rdk (by omega)]) (by
      rw [rdk (by omega)]
      have : nt ((wI Y 95 3 (nI (nt (M.1 95) 3))).1 95) 1 = nt (Y.1 95) 1 := nt_eq (rdi (by omega))
      rw [this, y2]; exact n1) y7 y8 (show k' < k' + 1 by omega) (by omega)
    refine ⟨valT ((wI Xh 95 3 (nI (nt (M.1 95) 3 + 1))).1 95) v0, wI V0 14 9 (nI (nt (M.1 95) 3)), wI (wI Y 95 3 (nI (nt (M.1 95) 3))) 94 21 (nI (k' + 1)), v1, ?_, hRS, ?_, ?_, k' + 1, by omega, by omega, rde, U2, A2⟩
    · have hfin : f_Mo_tried_94 v0 (wI V0 14 9 (nI (nt (M.1 95) 3))) = (midM v0 (wI (wI X' 95 3 (nI (nt (M.1 95) 3 + 1))) 94 21 (nI (k + 1)))).bind fun u10 => some (u10.1, wI (wI u10.2 95 3 ((u10.2.1 95 3) - 1)) 94 21 (((wI u10.2 95 3 ((u10.2.1 95 3) - 1)).1 94 21) + 1)) := by
        unfold f_Mo_tried_94 jv_ jn_ midM
        rw [e_Mo_in, Option.bind_some, if_pos c0, eV95, e3, r1, Option.bind_some]
        dsimp only
        rw [ite_tt, r3, nI_one, show (wI X' 95 3 (nI (nt (M.1 95) 3 + 1))).1 94 21 = nI k by rw [rdk (by omega)]; exact e21, nI_one]
        by_cases d0 : decide (v0 = 0) = true
        · rw [if_pos d0, if_pos d0]
        · rw [if_neg d0, if_neg d0]
          by_cases d1 : decide (v0 = 1) = true
          · rw [if_pos d1, if_pos d1]
          · rw [if_neg d1, if_neg d1]
      rw [hfin, y1, Option.bind_some, hval]
      dsimp only
      rw [eY3, show nI (nt (M.1 95) 3 + 1) - 1 = nI (nt (M.1 95) 3) from dm1 _, show (wI Y 95 3 (nI (nt (M.1 95) 3))).1 94 21 = nI k' by rw [rdk (show 94 ≠ 95 by omega)]; exact y6.1, nI_one]
    · rw [eF (a := 0) (i := 2) (by omega) (sB _ (by omega)) (by omega) (hsc _ _ (by omega)) (by omega), himg1]
      exact (eF (a := 94) (i := 3) (by omega) (sB _ (by omega)) (by omega) (sCs_lo (by omega) _) (by omega)).symm
    · rw [eF (a := 94) (i := 3) (by omega) (sB _ (by omega)) (by omega) (sCs_lo (by omega) _) (by omega)]
      rcases himg2 with h | ⟨h, h'⟩
      · exact .inl h
      · refine .inr ⟨h, ?_⟩
        have e96 : (wI (wI Y 95 3 (nI (nt (M.1 95) 3))) 94 21 (nI (k' + 1))).1 96 = M.1 96 := funext fun i => eF (by omega) (sB _ (by omega)) (by omega) (sCs_lo (by omega) _) (by omega)
        rw [e96]
        refine RS1_congr (fun a i ha => ?_) (RS1_mono h' (Nat.le_succ n))
        exact eF (by omega) (sB _ (by omega)) (by omega) (hsc _ _ (by omega)) (by omega)
end TD
end
