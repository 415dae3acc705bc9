section RU
variable {M : Mem} {σ : Nat → Int32}
set_option maxHeartbeats 4000000 in
theorem e_walk {f k : Nat} (W : Wm σ) (R : Rc0 M.1 σ) (hf : f < nt σ 1) (hk : k ≤ 121) (a2 : Int32) (ha : ∀ m, m < 122 → decide (nI m ≤ a2) = decide (m < k)) : ∃ M', f_Account_walk_79 (nI f) a2 M = some M' ∧ Fr sAc M M' ∧ Wk M' σ f k ∧ (k = 0 → M'.1 79 2 = 0 ∧ M'.1 79 3 = 0) ∧ ∀ j, k = j + 1 → M'.1 79 2 = unS σ f j ∧ M'.1 79 3 = blS σ f j (arS σ f j).toInt32 := by
  have W0 := W
  obtain ⟨wn, wb, wl, wr, wp, -, -⟩ := W
  have hF10 : f < 10 := by have := (nt_inb wn.2.1).2; omega
  obtain ⟨ec, lc⟩ := nI_of_inb (wl.2.1 f hf).1
  obtain ⟨M1, g1, g2, g3, g4, g5⟩ : ∃ M1, f_Account_startMeter_79 M = some M1 ∧ Fr sAc M M1 ∧ Cmt M1 (mtX σ f 0) ∧ M1.1 79 4 = (arS σ f 0).toInt32 ∧ M1.1 79 2 = 0 ∧ M1.1 79 3 = 0 := by
    refine ⟨wI (wI (wI (wI (wI (wI (wI (wI (wI M 79 2 0) 79 3 0) 79 4 0) 79 5 0) 79 6 (-1)) 79 7 0) 79 8 1) 79 9 0) 79 10 0, rfl, ?_, ⟨rfl, rfl, (show (0 : Int32) = -(0 : Int32) from Int32.neg_zero.symm), rfl, rfl, rfl⟩, rfl, rfl, rfl⟩
    exact (((((((((Fr.refl M).wI rfl).wI rfl).wI rfl).wI rfl).wI rfl).wI rfl).wI rfl).wI rfl).wI rfl
  have R1 := R.fr g2
  have hld : atv (M1.1 6) 10 (nI f) = σ (174 + f) := by rw [atv_nI hF10 (by omega)]; exact (R1.2.1.2.2.2 f hF10).2
  have hcell : f_Land_cellOf_2 (nI f) (wI M1 80 1 (σ (174 + f))) = some (nI (cel σ f)) := by
    unfold f_Land_cellOf_2
    rw [atv_nI hF10 (by omega)]
    show some (M1.1 5 f) = _
    rw [(R1.2.1.2.2.2 f hF10).1]; exact congrArg some ec
  have F2 : Fr sAc M (wI M1 80 1 (σ (174 + f))) := g2.wI rfl
  obtain ⟨M3, c1, c2, -, -⟩ := e_climb (M := wI M1 80 1 (σ (174 + f))) (R.fr F2).2.2.1 wn.2.2.2.2.2.2.2.2.2 wn.2.2.2.2.2.1 (c := cel σ f) lc
  have F5 : Fr sAc M (wI M3 80 4 (nI (mil σ (cel σ f)))) := (F2.trans (c2.mono s27_sAc)).wI rfl
  have h79 : ∀ i, (wI M3 80 4 (nI (mil σ (cel σ f)))).1 79 i = M1.1 79 i := fun i => by
    show M3.1 79 i = _
    rw [c2.at_ rfl]; rfl
  have K5 : Wk (wI M3 80 4 (nI (mil σ (cel σ f)))) σ f 0 := by
    obtain ⟨x1, x2, x3, x4, x5, x6⟩ := g3
    refine ⟨⟨(h79 5).trans x1, (h79 9).trans x2, (h79 10).trans x3, (h79 6).trans x4, (h79 7).trans x5, (h79 8).trans x6⟩, (h79 4).trans g4, ?_, rde⟩
    rw [rdi (by omega), c2.at_ rfl]; rfl
  have hloop := itr_cnt (body := b_Account_walk_79_57 (nI f) a2) (s0 := (0, wI M3 80 4 (nI (mil σ (cel σ f))))) (fun m s => s.1 = nI m ∧ Fr sAc M s.2 ∧ Wk s.2 σ f m ∧ (m = 0 → s.2.1 79 2 = 0 ∧ s.2.1 79 3 = 0) ∧ ∀ j, m = j + 1 → s.2.1 79 2 = unS σ f j ∧ s.2.1 79 3 = blS σ f j (arS σ f j).toInt32) (fun M' => Fr sAc M M' ∧ Wk M' σ f k ∧ (k = 0 → M'.1 79 2 = 0 ∧ M'.1 79 3 = 0) ∧ ∀ j, k = j + 1 → M'.1 79 2 = unS σ f j ∧ M'.1 79 3 = blS σ f j (arS σ f j).toInt32) k (by omega) ⟨rfl, F5, K5, fun _ => ⟨(h79 2).trans g5.1, (h79 3).trans g5.2⟩, fun j h => by omega⟩ (by
    rintro m ⟨i, M4⟩ hm ⟨hi, hF, hW, -⟩
    dsimp only at hi hF hW
    subst hi
    left
    obtain ⟨M', k1, k2, k3, k4, k5⟩ := wk_step W0 (R.fr hF) hf (by omega) hW a2 (by rw [ha m (by omega)]; exact decide_eq_true hm)
    refine ⟨(nI (m + 1), M'), k1, rfl, hF.trans k2, k3, fun h => by omega, fun j hj => ?_⟩
    obtain rfl : m = j := by omega
    exact ⟨k4, k5⟩) (by
    rintro ⟨i, M4⟩ ⟨hi, hF, hW, h0, h1⟩
    dsimp only at hi hF hW h0 h1
    subst hi
    refine ⟨M4, ?_, hF, hW, h0, h1⟩
    unfold b_Account_walk_79_57
    dsimp only
    rw [ha k (by omega), decide_eq_false (Nat.lt_irrefl k), ite_ff])
  obtain ⟨M', l1, l2⟩ := hloop
  refine ⟨M', ?_, l2⟩
  unfold f_Account_walk_79
  dsimp only [jv_]
  rw [g1, Option.bind_some, hld, show putv M1 80 5 1 (σ (174 + f)) = wI M1 80 1 (σ (174 + f)) from putv_nI (i := 1) (by omega) (by omega), hcell, Option.bind_some, c1, Option.bind_some]
  dsimp only
  rw [show putv M3 80 5 4 (nI (mil σ (cel σ f))) = wI M3 80 4 (nI (mil σ (cel σ f))) from putv_nI (i := 4) (by omega) (by omega), l1]; rfl
theorem mon_le {k : Nat} (hk : k ≤ 121) : ∀ m, m < 122 → decide (nI m ≤ nI k - 1) = decide (m < k) := fun m hm => by
  cases k with
  | zero =>
    rw [show nI 0 - 1 = -1 from rfl, decide_eq_false (show ¬ nI m ≤ -1 from by rw [i_le, m1_toI, nI_toI (by omega)]; omega)]; rfl
  | succ k =>
    rw [show nI (k + 1) - 1 = nI k from nI_subn (a := k + 1) (b := 1) (by omega) (by omega), d_le (by omega) (by omega)]
    rw [Bool.eq_iff_iff, decide_eq_true_eq, decide_eq_true_eq]; omega
theorem mon_le' {k : Nat} (hk : k < 121) : ∀ m, m < 122 → decide (nI m ≤ nI k) = decide (m < k + 1) := fun m hm => by
  rw [d_le (by omega) (by omega), Bool.eq_iff_iff, decide_eq_true_eq, decide_eq_true_eq]; omega
/-- what holds of a word for a farm in a month, units as told -/
def rlS (σ : Nat → Int32) (w : Int32) (f m : Nat) (u : Int32) : Int32 := ruV σ (Nm σ f u (kd σ f m) (arS σ f m).toInt32) w (nI m)
def zN : Nat → Int32 := fun _ => 0
theorem e_ruled {f m : Nat} {w u : Int32} (W : Wm σ) (R : Rc0 M.1 σ) (hf : f < nt σ 1) (hm : m < 121) : ∃ M', f_Account_ruled_79 w (nI f) (nI m) u M = some (rlS σ w f m u, M') ∧ Fr sAc M M' ∧ M'.1 14 11 = whV σ (Nm σ f u (kd σ f m) (arS σ f m).toInt32) w (nI m) := by
  have W0 := W
  obtain ⟨wn, wb, wl, wr, wp, -, -⟩ := W
  have hF10 : f < 10 := by have := (nt_inb wn.2.1).2; omega
  have F1 : Fr sAc M (wR M 80 (filv (M.1 80) 5 0)) := (Fr.refl M).wR (fun _ => rfl)
  obtain ⟨M7, k1, k2, k3, -⟩ := e_walk (M := wR M 80 (filv (M.1 80) 5 0)) W0 (R.fr F1) hf (k := m) (by omega) (nI m - 1) (mon_le (by omega))
  have F8 : Fr sAc M (wI M7 80 0 u) := (F1.trans k2).wI rfl
  obtain ⟨M9, g1, g2⟩ := e_kindIn (M := wI M7 80 0 u) (m := nI m) (f := f) (e := -1) hF10 (.inl rfl) (R.fr F8).1 wn wb
  have F11 : Fr sAc M (wI (wI M9 80 2 (kd σ f m)) 80 3 (arS σ f m).toInt32) := ((F8.trans (g2.mono s13_sAc)).wI rfl).wI rfl
  have e94 : (wI M9 80 2 (kd σ f m)).1 79 4 = (arS σ f m).toInt32 := by
    show M9.1 79 4 = _
    rw [g2.at_ rfl]; exact k3.2.1
  have hN : ∀ i, i < 5 → (wI (wI M9 80 2 (kd σ f m)) 80 3 (arS σ f m).toInt32).1 80 i = Nm σ f u (kd σ f m) (arS σ f m).toInt32 i := by
    refine names_ok ?_ ?_ ?_ rde ?_
    · rw [rdi (by omega), rdi (by omega), g2.at_ rfl, rde]
    · rw [rdi (by omega), rdi (by omega), g2.at_ rfl, rdi (by omega)]; exact k3.2.2.1
    · rw [rdi (by omega), rde]
    · rw [rdi (by omega), rdi (by omega), g2.at_ rfl, rdi (by omega)]; exact k3.2.2.2
  obtain ⟨M12, l1, l2, l3⟩ := e_worthC (M := wI (wI M9 80 2 (kd σ f m)) 80 3 (arS σ f m).toInt32) (w := w) (m := nI m) (R.fr F11).2.2.2.1 (by have := (nt_inb wn.2.2.2.1).2; omega) (nt_inb wn.2.2.2.1).1 hN
  refine ⟨M12, ?_, F11.trans (l2.mono sRun_sAc), l3⟩
  unfold f_Account_ruled_79 jn_
  dsimp only [jv_]
  rw [nI_nneg (by omega), ite_ff, k1, Option.bind_some, show putv M7 80 5 0 u = wI M7 80 0 u from putv_nI (i := 0) (by omega) (by omega), g1, Option.bind_some]
  dsimp only
  rw [show km σ (nI m) (kn σ (-1)) f = kd σ f m from rfl, show putv M9 80 5 2 (kd σ f m) = wI M9 80 2 (kd σ f m) from putv_nI (i := 2) (by omega) (by omega), e94, show putv (wI M9 80 2 (kd σ f m)) 80 5 3 (arS σ f m).toInt32 = wI (wI M9 80 2 (kd σ f m)) 80 3 (arS σ f m).toInt32 from putv_nI (i := 3) (by omega) (by omega), l1]; rfl
theorem e_ruled0 {m u w : Int32} (W : Wm σ) (R : Rc0 M.1 σ) : ∃ M', f_Account_ruled_79 w (-1) m u M = some (ruV σ zN w m, M') ∧ Fr sAc M M' ∧ M'.1 14 11 = whV σ zN w m := by
  obtain ⟨wn, -⟩ := W
  have F1 : Fr sAc M (wR M 80 (filv (M.1 80) 5 0)) := (Fr.refl M).wR (fun _ => rfl)
  obtain ⟨M12, l1, l2, l3⟩ := e_worthC (M := wR M 80 (filv (M.1 80) 5 0)) (N := zN) (w := w) (m := m) (R.fr F1).2.2.2.1 (by have := (nt_inb wn.2.2.2.1).2; omega) (nt_inb wn.2.2.2.1).1 (fun i hi => by
    rw [rRe]
    show (if i < 5 then (0 : Int32) else M.1 80 i) = 0
    rw [if_pos hi])
  refine ⟨M12, ?_, F1.trans (l2.mono sRun_sAc), l3⟩
  unfold f_Account_ruled_79 jn_
  dsimp only [jv_]
  rw [m1_neg, ite_tt, l1]; rfl
end RU
section RM
variable {M : Mem}
theorem sNm_sAr : ∀ a i, sNm a i = true → sAr a i = true := fun a i h => by unfold sAr sB; rw [h]; simp
theorem CvU.fr {M M' : Mem} {k : Nat} (h : CvU M k) (F : Fr sNm M M') : CvU M' k := by
  refine ⟨fun g hg => by rw [F.at_ rfl]; exact h.1 g hg, ?_⟩
  intro g hg hgk m' hm'
  rw [F.row (a := 95) (fun i => rfl)] at hg ⊢
  rw [F.at_ rfl] at hgk
  rw [F.at_ rfl]
  exact h.2 g hg hgk m' hm'
theorem CvA.fr {M M' : Mem} {k : Nat} (h : CvA M k) (F : Fr sNm M M') : CvA M' k := by
  refine ⟨fun g hg => by rw [F.at_ rfl]; exact h.1 g hg, ?_⟩
  intro g hg hgk m' hm'
  rw [F.row (a := 95) (fun i => rfl)] at hg ⊢
  rw [F.at_ rfl] at hgk
  rw [F.at_ rfl]
  exact h.2 g hg hgk m' hm'
/-- arrears behind the month ahead -/
theorem e_owed {f m k : Nat} {α : Type} (hf : f < nt (M.1 95) 1) (hm : m < 121) (W : Wm (M.1 95)) (S : stK M k) (U : CvU M k) (A : CvA M k) (F : Int32 × Mem → Option α) : ∃ M', jn_ F (fun k7 => if decide (nI f = -1) = true then (k7 (0, M)) else (if decide (nI m = 0) = true then (k7 (0, M)) else ((f_Mo_arrears_94 (nI f) (nI m - 1) M).bind fun q9 => k7 (q9.1, q9.2)))) = F ((arS (M.1 95) f m).toInt32, M') ∧ Fr sAr M M' ∧ CvU M' k ∧ CvA M' k := by
  have hF10 : f < 10 := by have := (nt_inb W.1.2.1).2; omega
  unfold jn_
  dsimp only
  rw [nI_eqm1 (by omega), ite_ff]
  cases m with
  | zero => exact ⟨M, rfl, Fr.refl M, U, A⟩
  | succ m =>
    obtain ⟨M', h1, h2, h3, h4⟩ := e_Mo_arrears (m := m) hf (by omega) W S U A
    refine ⟨M', ?_, h2, h3, h4⟩
    rw [nI_eq0 (by omega) (by omega), ite_ff, show nI (m + 1) - 1 = nI m from nI_subn (a := m + 1) (b := 1) (by omega) (by omega), h1]; rfl
theorem e_ruleFor {f m k : Nat} {w u : Int32} (hf : f < nt (M.1 95) 1) (hm : m < 121) (W : Wm (M.1 95)) (S : stK M k) (U : CvU M k) (A : CvA M k) : ∃ M', f_Mo_ruleFor_94 w (nI f) (nI m) u M = some (rlS (M.1 95) w f m u, M') ∧ Fr sAr M M' ∧ CvU M' k ∧ CvA M' k := by
  obtain ⟨M1, h1, h2, h3, h4⟩ := e_owed hf hm W S U A (fun u4 => (f_Mo_names_94 (nI f) (nI m) u u4.1 u4.2).bind fun q5 => (f_Mo_ruleBy_94 w (nI m) q5).bind fun q6 => some (q6.1, q6.2))
  have e1 : M1.1 95 = M.1 95 := h2.row (fun i => rfl)
  obtain ⟨M2, g1, g2, g3⟩ := e_names (M := M1) (m := m) (u := u) (o := (arS (M.1 95) f m).toInt32) (by rw [e1]; exact hf) (by rw [e1]; exact W)
  rw [e1] at g3
  have e2 : M2.1 95 = M.1 95 := (g2.row (fun i => rfl)).trans e1
  obtain ⟨wn, -, -, -, -, -, ⟨C, R⟩⟩ := W
  obtain ⟨M3, k1, k2⟩ := e_ruleBy (M := M2) (C := C) (w := w) (m := nI m) (by rw [e2]; exact R) (by rw [e2]; have := (nt_inb wn.2.2.2.1).2; omega) (by rw [e2]; exact (nt_inb wn.2.2.2.1).1) g3
  rw [e2] at k1
  have F3 : Fr sNm M1 M3 := g2.trans (k2.mono sW_sNm)
  refine ⟨M3, ?_, h2.trans (F3.mono sNm_sAr), h3.fr F3, h4.fr F3⟩
  unfold f_Mo_ruleFor_94
  rw [h1]
  dsimp only
  rw [g1, Option.bind_some, k1]; rfl
theorem e_names0 (m u o : Int32) : ∃ M', f_Mo_names_94 (-1) m u o M = some M' ∧ Fr sNm M M' ∧ ∀ i, i < 5 → M'.1 99 i = zN i := by
  obtain ⟨M1, k1, k2, k3⟩ := itr_cnt (body := b_Mo_names_94_19) (s0 := (1, wI M 99 0 0)) (fun k s => s.1 = nI (1 + k) ∧ Fr sNm M s.2 ∧ ∀ i, i < 1 + k → s.2.1 99 i = 0) (fun M' => Fr sNm M M' ∧ ∀ i, i < 5 → M'.1 99 i = 0) 4 (by omega) ⟨rfl, (Fr.refl M).wI rfl, fun i hi => by
    obtain rfl : i = 0 := by omega
    exact rde⟩ (by
    rintro k ⟨a, M1⟩ hk ⟨rfl, hF, hu⟩
    left
    dsimp only at hF hu
    refine ⟨(nI (1 + (k + 1)), wI M1 99 (1 + k) 0), ?_, rfl, hF.wI rfl, fun i hi => ?_⟩
    · unfold b_Mo_names_94_19 jv_
      dsimp only
      rw [show (5 : Int32) = nI 5 from rfl, dlt_t (by omega) (by omega), ite_tt, inb_t (by omega) (by omega), ite_tt, nI_cl (by omega), nI_one]; rfl
    · dsimp only
      by_cases c : i = 1 + k
      · rw [c, rde]
      · rw [rdi c]; exact hu i (by omega)) (by
    rintro ⟨a, M1⟩ ⟨rfl, hF, hu⟩
    refine ⟨M1, rfl, hF, hu⟩)
  refine ⟨M1, ?_, k2, k3⟩
  unfold f_Mo_names_94 jv_
  dsimp only
  rw [show decide ((-1 : Int32) = -1) = true from rfl, ite_tt, k1]; rfl
theorem e_ruleFor0 {w m u : Int32} (W : Wm (M.1 95)) : ∃ M', f_Mo_ruleFor_94 w (-1) m u M = some (ruV (M.1 95) zN w m, M') ∧ Fr sNm M M' := by
  obtain ⟨M2, g1, g2, g3⟩ := e_names0 (M := M) m u 0
  have e2 : M2.1 95 = M.1 95 := g2.row (fun i => rfl)
  obtain ⟨wn, -, -, -, -, -, ⟨C, R⟩⟩ := W
  obtain ⟨M3, k1, k2⟩ := e_ruleBy (M := M2) (C := C) (w := w) (m := m) (N := zN) (by rw [e2]; exact R) (by rw [e2]; have := (nt_inb wn.2.2.2.1).2; omega) (by rw [e2]; exact (nt_inb wn.2.2.2.1).1) g3
  rw [e2] at k1
  refine ⟨M3, ?_, g2.trans (k2.mono sW_sNm)⟩
  unfold f_Mo_ruleFor_94 jn_
  dsimp only
  rw [show decide ((-1 : Int32) = -1) = true from rfl, ite_tt, g1, Option.bind_some, k1]; rfl
end RM
