section
section CT
variable {M : Mem} {σ : Nat → Int32}
theorem e_costTo (R : Rc0 M.1 σ) (W : Wm σ) (e16 : M.1 1 6 = σ 0) : ∃ M', f_CF_costToBringIn_0 (msk (mbN σ) 10) M = some (nI (bri σ (nt σ 1)).1, M') ∧ Fr sCs M M' := by
  obtain ⟨e1, l1⟩ := nt_inb W.1.2.1
  obtain ⟨e0, l0⟩ := nt_inb W.1.1
  have h9 := W.1.2.2.2.2.2.2.2.2.2
  obtain ⟨gB, gL, gI, gR, gP⟩ := R
  -- the line is taken
  have htake : ∃ M1, f_Line_take_89_24 M = some M1 ∧ Fr sCs M M1 ∧ RT M1.1 σ := by
    refine ⟨wI (wI (wI (wR (wR M 90 (cpyv (M.1 25) (M.1 90) 48 48)) 91 (cpyv (M.1 26) (M.1 91) 48 48)) 89 2 (M.1 24 2)) 89 3 (M.1 24 3)) 89 4 (M.1 24 4), ?_, ?_, ?_⟩
    · unfold f_Line_take_89_24 jv_
      dsimp only
      simp (disch := omega) only [rdk, rRk]
    · exact (((((Fr.refl M).wR (fun _ => rfl)).wR (fun _ => rfl)).wI rfl).wI rfl).wI rfl
    · obtain ⟨r1, r2, r3, r4, r5⟩ := gI
      refine ⟨?_, ?_, ?_, fun c hc => ?_, ?_⟩
      · rw [rdi (by omega), rdi (by omega), rde]; exact r1
      · rw [rdi (by omega), rde]; exact r2
      · rw [rde]; exact r3
      · rw [rdk (by omega), rdk (by omega), rdk (by omega), rRk (by omega), rRe]
        unfold cpyv
        rw [if_pos ⟨hc, hc⟩]; exact r4 c hc
      · rw [rdk (by omega), rdk (by omega), rdk (by omega), rRe]
        have l5 := (nt_inb W.1.2.2.2.2.2.1).2
        exact Tree_cg r5 rfl rfl (fun _ _ => rfl) (fun i hi => by unfold cpyv; rw [if_pos ⟨by omega, by omega⟩])
  obtain ⟨M1, t1, t2, t3⟩ := htake
  obtain ⟨e, k1, k2⟩ := itr_cnt (body := b_CF_costToBringIn_0_18 (msk (mbN σ) 10)) (s0 := ((0 : Int32), (0 : Int32), M1)) (fun f z => z.1 = nI (bri σ f).1 ∧ z.2.1 = nI f ∧ Fr sCs M z.2.2 ∧ RT z.2.2.1 (bri σ f).2) (fun e => e.1 = nI (bri σ (nt σ 1)).1 ∧ Fr sCs M e.2) (nt σ 1) (by omega) ⟨rfl, rfl, t2, t3⟩ (by
    rintro f ⟨s, y, X⟩ hf ⟨hs, hy, hF, hT⟩
    dsimp only at hs hy hF hT
    rw [hs, hy]
    left
    obtain ⟨a1, -, a3, a4⟩ := bri_ok W f (by omega)
    have hstep : bri σ (f + 1) = if cnd σ (bri σ f).2 f = true then ((bri σ f).1 + Dt σ (bri σ f).2 (cel σ f), lyT σ (bri σ f).2 f) else bri σ f := rfl
    rw [hstep]
    generalize hτ : (bri σ f).2 = τ at *
    obtain ⟨ec, lc⟩ := nI_of_inb (W.2.2.1.2.1 f hf).1
    have ec : σ (164 + f) = nI (cel σ f) := ec
    have lc : cel σ f < 48 := lc
    have RX := Rc0_C ⟨gB, gL, gI, gR, gP⟩ hF
    have e2X : X.1 2 4 = nI (nt σ 1) := by rw [RX.2.1.1]; exact e1
    have e25X : X.1 2 5 = σ 9 := RX.2.1.2.1
    have e16X : X.1 1 6 = nI (nt σ 0) := by rw [hF.at_ rfl, e16]; exact e0
    have hcel : f_Land_cellOf_2 (nI f) X = some (nI (cel σ f)) := by
      unfold f_Land_cellOf_2
      rw [atv_nI (by omega) (by omega), (RX.2.1.2.2.2 f (by omega)).1, ec]
    have ha89 : f_Line_ahead_89 (nI (cel σ f)) X = some (τ (116 + cel σ f)) := by
      unfold f_Line_ahead_89
      have hw : wthn (nI (cel σ f)) 0 47 = true := by
        rw [show (47 : Int32) = nI 47 from rfl, inb_wthn (by omega)]; exact inb_t (by omega) (by omega)
      rw [hw, ite_tt, atv_nI lc (by omega), hT.2.2.2.1 _ lc]
    have h9τ : inb (τ 9) 48 = true := by rw [a1 9 (by omega) (by omega)]; exact h9
    -- the ruled one
    obtain ⟨M2, s1, s2, -⟩ := e_ruled (M := X) (σ := σ) (m := nt σ 0) (u := 0) (w := 4) W RX hf (by omega)
    have F2 := hF.trans (s2.mono sAc_sCs)
    have R2 := Rc0_C ⟨gB, gL, gI, gR, gP⟩ F2
    have T2 : RT M2.1 τ := by
      unfold RT
      rw [s2.row (a := 89) (fun _ => rfl), s2.row (a := 90) (fun _ => rfl), s2.row (a := 91) (fun _ => rfl)]; exact hT
    obtain ⟨x, x1, x2⟩ := e_cells89 (M := M2) T2 h9τ a4
    obtain ⟨M3, r1, r2, r3, r4⟩ := e_RSf (M := M2) (σ := σ) (τ := τ) (D := Dt σ τ) R2.2.1 W.2.2.1 x2 (isD_Dt W.2.2.1) lc
    have F3 := F2.trans (r2.mono sWy_sCs)
    have R3 := Rc0_C ⟨gB, gL, gI, gR, gP⟩ F3
    have T3 : RT M3.1 τ := by
      unfold RT
      rw [r2.row (a := 89) (fun _ => rfl), r2.row (a := 90) (fun _ => rfl), r2.row (a := 91) (fun _ => rfl)]; exact T2
    have hreach : f_Ways_reach_81_89 (nI (cel σ f)) M2 = some (decide (Dt σ τ (cel σ f) < 1000000), M3) := by
      unfold f_Ways_reach_81_89
      rw [R2.2.1.2.1, ← a1 9 (by omega) (by omega), x1, Option.bind_some]
      exact r1
    have hbody : b_CF_costToBringIn_0_18 (msk (mbN σ) 10) (nI (bri σ f).1, nI f, X) = if (mbN σ f && !onL τ (cel σ f)) = true then (if decide (Dt σ τ (cel σ f) < 1000000) = true then ((f_CF_signsFor_0 (msk (mbN σ) 10) (rlS σ 4 f (nt σ 0) 0) M3).bind fun q13 => if decide (q13 = 0) then ((f_Ways_layOn_81_89 M3).bind fun q15 => some (.inl (nI (bri σ f).1 + (M3.1 81 6), nI f + 1, q15))) else (some (.inl (nI (bri σ f).1, nI f + 1, M3)))) else (some (.inl (nI (bri σ f).1, nI f + 1, M3)))) else some (.inl (nI (bri σ f).1, nI f + 1, X)) := by
      unfold b_CF_costToBringIn_0_18 jn_
      dsimp only
      rw [e2X, dlt_t hf (by omega), ite_tt, hcel, Option.bind_some, hld_msk _ (by omega), e25X, ha89, Option.bind_some, e16X, s1, Option.bind_some]
      dsimp only
      rw [hreach, Option.bind_some]
      dsimp only
      unfold onL
      rw [a1 9 (by omega) (by omega)]
      cases decide (nI (cel σ f) = σ 9) <;> cases decide (τ (116 + cel σ f) = -1) <;> cases mbN σ f <;> rfl
    by_cases c1 : (mbN σ f && !onL τ (cel σ f)) = true
    rotate_left
    · rw [if_neg c1] at hbody
      rw [if_neg (show ¬ cnd σ τ f = true from fun h => c1 (by unfold cnd at h; rw [Bool.and_eq_true] at h; exact h.1))]
      exact ⟨_, hbody, rfl, nI_one f, hF, by rw [hτ]; exact hT⟩
    rw [if_pos c1] at hbody
    by_cases g : Dt σ τ (cel σ f) < 1000000
    rotate_left
    · rw [decide_eq_false g, ite_ff] at hbody
      rw [if_neg (show ¬ cnd σ τ f = true from fun h => by unfold cnd at h; simp only [Bool.and_eq_true, decide_eq_true_eq] at h; exact g h.2.1)]
      exact ⟨_, hbody, rfl, nI_one f, F3, by rw [hτ]; exact T3⟩
    rw [decide_eq_true g, ite_tt] at hbody
    obtain ⟨K0, hK0⟩ := way_ex W.2.2.1 (isD_Dt (τ := τ) W.2.2.1) lc g
    have hK := Way_Kt hK0
    obtain ⟨r5, r6, r7⟩ := r4 _ g hK
    have hsg := e_signsFor (M := M3) (σ := σ) (D := Dt σ τ) (p := mbN σ) (c := cel σ f) (K := Kt σ (Dt σ τ) (cel σ f)) (s := rlS σ 4 f (nt σ 0) 0) R3.2.1 W.1.2.1 W.2.2.1 r3 r7
    rw [hsg, Option.bind_some] at hbody
    have hle := cnt_le (fun g => onW σ (Dt σ τ) (cel σ f) (Kt σ (Dt σ τ) (cel σ f)) g && !mbN σ g) 10
    have hcnd : cnd σ τ f = decide (lkS (nI (Dt σ τ (cel σ f))) (rlS σ 4 f (nt σ 0) 0) (cnt (fun g => onW σ (Dt σ τ) (cel σ f) (Kt σ (Dt σ τ) (cel σ f)) g && mbN σ g) 10) = 0) := by
      unfold cnd
      rw [c1, decide_eq_true g, Bool.true_and, Bool.true_and]
    have hz : ∀ (S : Int32) (N : Nat), N ≤ 10 → decide ((if decide (S ≤ nI N) = true then S else -5) = 0) = decide (S = 0) := fun S N hN => by
      by_cases hS : S = 0
      · rw [hS, show decide ((0 : Int32) ≤ nI N) = true from nI_ge0 (by omega)]; rfl
      · rw [decide_eq_false hS]
        split
        · exact decide_eq_false hS
        · rfl
    rw [hz _ _ hle, ← hcnd] at hbody
    by_cases c2 : cnd σ τ f = true
    · rw [if_pos c2] at hbody
      rw [if_pos c2]
      obtain ⟨w1, w2, w3, w4⟩ := way_ok W a1 hf c2
      obtain ⟨b1, b2, b3, b4⟩ := lyT_ok W a1 hT.2.2.2.2 a3 a4 hf c2
      obtain ⟨q1, q2, q3, q4⟩ := lyR_tree T3.2.2.2.2 h9τ a4 w1.2.2.2 w2 w3 w4 _ (Nat.le_refl _)
      have he := ly_lyR (τ := τ) w2
      obtain ⟨e5, l5⟩ := nt_inb a4
      have hNK : nt τ 5 + Kt σ (Dt σ τ) (cel σ f) ≤ 47 := by have := (nt_inb q3).2; omega
      obtain ⟨Y, y1, y2, y3, y4, y5⟩ := e_layOn (M := M3) (τ := τ) (p := pth σ (Dt σ τ) (cel σ f)) (K := Kt σ (Dt σ τ) (cel σ f)) (N := nt τ 5) e5 hNK w1.2.2.2 r5 r6 T3.1 T3.2.2.2.1
      rw [y1, Option.bind_some, r3, nI_addn] at hbody
      refine ⟨_, hbody, rfl, nI_one f, F3.trans (y2.mono sTl_sCs), ?_, ?_, ?_, fun c hc => ?_, ?_⟩
      · unfold lyT; rw [he]; exact y3
      · dsimp only
        rw [y2.at_ rfl, b1 7 (by omega) (by omega), ← a1 7 (by omega) (by omega)]; exact T3.2.1
      · dsimp only
        rw [y2.at_ rfl, b1 8 (by omega) (by omega), ← a1 8 (by omega) (by omega)]; exact T3.2.2.1
      · unfold lyT; rw [he]; exact y4 c hc
      · unfold lyT; rw [he]
        exact Tree_cg q1 rfl rfl (fun _ _ => rfl) (fun i _ => y5 i)
    · rw [if_neg c2] at hbody
      rw [if_neg c2]
      exact ⟨_, hbody, rfl, nI_one f, F3, by rw [hτ]; exact T3⟩) (by
    rintro ⟨s, y, X⟩ ⟨hs, hy, hF, hT⟩
    dsimp only at hs hy hF hT
    rw [hs, hy]
    have RX := Rc0_C ⟨gB, gL, gI, gR, gP⟩ hF
    refine ⟨(nI (bri σ (nt σ 1)).1, X), ?_, rfl, hF⟩
    unfold b_CF_costToBringIn_0_18
    dsimp only
    rw [RX.2.1.1, e1, dlt_f (Nat.le_refl _) (by omega), ite_ff])
  obtain ⟨v, M'⟩ := e
  obtain ⟨rfl, k3⟩ : v = nI (bri σ (nt σ 1)).1 ∧ Fr sCs M M' := k2
  refine ⟨M', ?_, k3⟩
  unfold f_CF_costToBringIn_0
  rw [t1, Option.bind_some, k1]
  rfl
/-- all bills of now -/
def blN (σ : Nat → Int32) : Nat → Int32
  | 0 => 0
  | f + 1 => blN σ f + blS σ f (nt σ 0) (arS σ f (nt σ 0)).toInt32
theorem e_bills (R : Rc0 M.1 σ) (W : Wm σ) (e16 : M.1 1 6 = σ 0) : ∃ M', f_CF_billsOfNow_0 M = some (blN σ (nt σ 1), M') ∧ Fr sCs M M' := by
  obtain ⟨e1, l1⟩ := nt_inb W.1.2.1
  obtain ⟨e0, l0⟩ := nt_inb W.1.1
  obtain ⟨e, k1, k2⟩ := itr_cnt (body := b_CF_billsOfNow_0_4) (s0 := ((0 : Int32), (0 : Int32), M)) (fun f z => z.1 = blN σ f ∧ z.2.1 = nI f ∧ Fr sCs M z.2.2) (fun e => e.1 = blN σ (nt σ 1) ∧ Fr sCs M e.2) (nt σ 1) (by omega) ⟨rfl, rfl, Fr.refl _⟩ (by
    rintro f ⟨s, y, X⟩ hf ⟨hs, hy, hF⟩
    dsimp only at hs hy hF
    rw [hs, hy]
    left
    have RX := Rc0_C R hF
    have e2X : X.1 2 4 = nI (nt σ 1) := by rw [RX.2.1.1]; exact e1
    have e16X : X.1 1 6 = nI (nt σ 0) := by rw [hF.at_ rfl, e16]; exact e0
    obtain ⟨Y, y1, y2, -, -, y3⟩ := e_walk (M := X) (σ := σ) (f := f) (k := nt σ 0 + 1) W RX hf (by omega) (nI (nt σ 0)) (fun m hm => by
      rw [d_le (by omega) (by omega)]
      exact decide_eq_decide.mpr (by omega))
    obtain ⟨-, y4⟩ := y3 (nt σ 0) rfl
    refine ⟨(blN σ (f + 1), nI (f + 1), Y), ?_, rfl, rfl, hF.trans (y2.mono sAc_sCs)⟩
    unfold b_CF_billsOfNow_0_4
    dsimp only
    rw [e2X, dlt_t hf (by omega), ite_tt, e16X, y1, Option.bind_some, y4, nI_one]
    rfl) (by
    rintro ⟨s, y, X⟩ ⟨hs, hy, hF⟩
    dsimp only at hs hy hF
    rw [hs, hy]
    have RX := Rc0_C R hF
    refine ⟨(blN σ (nt σ 1), X), ?_, rfl, hF⟩
    unfold b_CF_billsOfNow_0_4
    dsimp only
    rw [RX.2.1.1, e1, dlt_f (Nat.le_refl _) (by omega), ite_ff])
  obtain ⟨v, M'⟩ := e
  obtain ⟨rfl, k3⟩ : v = blN σ (nt σ 1) ∧ Fr sCs M M' := k2
  refine ⟨M', ?_, k3⟩
  unfold f_CF_billsOfNow_0
  rw [k1]
  rfl
end CT
end
