section
section MB
variable {M : Mem} {σ τ : Nat → Int32}
theorem lyT_on (W : Wm σ) (A : Al σ τ) {f : Nat} (hf : f < nt σ 1) (h : cnd σ τ f = true) {c : Nat} (hc : c < 48) (ho : onL τ c = true) : onL (lyT σ τ f) c = true := by
  obtain ⟨w1, w2, w3, w4⟩ := way_ok W A hf h
  have A2 : Al τ (lyT σ τ f) := ly_Al w1.2.2.2 _ (Nat.le_refl _)
  unfold onL at ho ⊢
  rw [A2 9 (by omega) (by omega)]
  by_cases g : ∃ i, i < Kt σ (Dt σ τ) (cel σ f) ∧ c = pth σ (Dt σ τ) (cel σ f) i
  · obtain ⟨i, i1, rfl⟩ := g
    have := ly_at (τ := τ) w2 _ i1 (Nat.le_refl _)
    unfold lyT
    rw [this, decide_eq_false (show ¬ nI (pth σ (Dt σ τ) (cel σ f) (i + 1)) = -1 from nI_ne_m1 (by have := w1.2.2.2 (i + 1) (by omega); omega)), Bool.not_false, Bool.or_true]
  · unfold lyT
    rw [ly_o (by omega) _ (fun i hi e => g ⟨i, hi, by omega⟩)]; exact ho
theorem bri_on (W : Wm σ) {c : Nat} (hc : c < 48) (ho : onL σ c = true) : ∀ f, f ≤ nt σ 1 → onL (bri σ f).2 c = true
  | 0, _ => ho
  | f + 1, hf => by
    have ih := bri_on W hc ho f (by omega)
    unfold bri
    by_cases c1 : cnd σ (bri σ f).2 f = true
    · rw [if_pos c1]
      exact lyT_on W (bri_ok W f (by omega)).1 (by omega) c1 hc ih
    · rw [if_neg c1]; exact ih
def sBr (a i : Nat) : Bool := sMc a i || (a == 95 || (a == 94 && i == 21))
theorem sMc_sBr : ∀ a i, sMc a i = true → sBr a i = true := fun a i h => by unfold sBr; rw [h]; rfl
theorem sMs_sBr : ∀ a i, sMs a i = true → sBr a i = true := fun a i h => sMc_sBr a i (by unfold sMc; rw [h]; rfl)
theorem Cv_fr {M' : Mem} {k : Nat} (W : Wm (M.1 95)) (e : ∀ a, a = 95 ∨ (108 ≤ a ∧ a ≤ 111) → M'.1 a = M.1 a) (U : CvU M k) (V : CvA M k) : CvU M' k ∧ CvA M' k :=
  Cv_ag (by rw [e 95 (by omega)]; exact Ag_refl _) W (by rw [e 95 (by omega)]) (e 108 (by omega)) (e 109 (by omega)) (e 110 (by omega)) (e 111 (by omega)) U V
/-- the way is laid -/
theorem e_lay {p : Nat → Nat} {K : Nat} (hK : K ≤ 47) (hp : ∀ k, k ≤ K → p k < 48) (h15 : M.1 94 15 = nI (K + 1)) (h104 : ∀ k, k ≤ K → M.1 104 k = nI (p k)) : ∃ M', itr b_Mo_brings_94_137 FU (0, M) = some M' ∧ Fr (fun a _ => a == 95) M M' ∧ M'.1 95 = ly (M.1 95) p K := by
  obtain ⟨e, k1, k2⟩ := itr_cnt (body := b_Mo_brings_94_137) (s0 := ((0 : Int32), M)) (fun k z => z.1 = nI k ∧ Fr (fun a _ => a == 95) M z.2 ∧ z.2.1 95 = ly (M.1 95) p k) (fun X => Fr (fun a _ => a == 95) M X ∧ X.1 95 = ly (M.1 95) p K) K (by omega) ⟨rfl, Fr.refl _, rfl⟩ (by
    rintro k ⟨x, X⟩ hk ⟨rfl, hF, hr⟩
    dsimp only at hF hr
    left
    have p1 := hp k (by omega)
    have p2 := hp (k + 1) (by omega)
    have e1 : X.1 104 k = nI (p k) := by rw [hF.at_ rfl]; exact h104 k (by omega)
    have e2 : X.1 104 (k + 1) = nI (p (k + 1)) := by rw [hF.at_ rfl]; exact h104 (k + 1) (by omega)
    refine ⟨(nI (k + 1), wI (wI X 95 (116 + p k) (nI (p (k + 1)))) 95 5 (ly (M.1 95) p k 5 + 1)), ?_, rfl, (hF.wI rfl).wI rfl, ?_⟩
    · unfold b_Mo_brings_94_137 jv_
      dsimp only
      rw [hF.at_ rfl, h15, nI_one, dlt_t (by omega) (by omega), ite_tt, inb_t (by omega) (by omega), ite_tt, inb_t (by omega) (by omega), ite_tt, nI_cl (by omega), nI_cl (by omega), e1, e2, show (116 : Int32) = nI 116 from rfl, nI_addn, inb_t (by omega) (by omega), ite_tt, nI_cl (by omega), rdi (by omega), hr]
    · dsimp only
      funext j
      rw [show ly (M.1 95) p (k + 1) j = updZ (updZ (ly (M.1 95) p k) (116 + p k) (nI (p (k + 1)))) 5 (ly (M.1 95) p k 5 + 1) j from rfl]
      by_cases h5 : j = 5
      · rw [h5, rde, updZ_e]
      · rw [rdi h5, updZ_n h5]
        by_cases g : j = 116 + p k
        · rw [g, rde, updZ_e]
        · rw [rdi g, updZ_n g, hr]) (by
    rintro ⟨x, X⟩ ⟨rfl, hF, hr⟩
    dsimp only at hF hr
    refine ⟨X, ?_, hF, hr⟩
    unfold b_Mo_brings_94_137
    dsimp only
    rw [hF.at_ rfl, h15, nI_one, dlt_f (by omega) (by omega), ite_ff])
  rw [k1]
  exact ⟨e, rfl, k2⟩
theorem e_brStep {k f s : Nat} (W : Wm σ) (hf : f < nt σ 1) (hrow : M.1 95 = (bri σ f).2) (S : stK M k) (U : CvU M k) (A : CvA M k) (hk : k < 900000) : ∃ Y k', b_Mo_brings_94_40 (nI (bri σ f).1, nI f, M) = some (.inl (nI (bri σ (f + 1)).1, nI (f + 1), Y)) ∧ Y.1 95 = (bri σ (f + 1)).2 ∧ Fr sBr M Y ∧ Y.1 116 = M.1 116 ∧ k' ≤ k + 1 ∧ k ≤ k' ∧ stK Y k' ∧ CvU Y k' ∧ CvA Y k' := by
  obtain ⟨a1, a2, a3, a4⟩ := bri_ok W f (by omega)
  have hmono := bri_on W (c := cel σ f) (nI_of_inb (W.2.2.1.2.1 f hf).1).2
  have hmono : onL σ (cel σ f) = true → onL (bri σ f).2 (cel σ f) = true := fun h => hmono h f (by omega)
  rw [show bri σ (f + 1) = if cnd σ (bri σ f).2 f = true then ((bri σ f).1 + Dt σ (bri σ f).2 (cel σ f), lyT σ (bri σ f).2 f) else bri σ f from rfl]
  generalize hτ : (bri σ f).2 = τ at *
  have Wτ := wm_al W a1 a2 a3 a4
  have h2 : nt σ 2 ≤ 120 := by have := (nt_inb W.1.2.2.1).2; omega
  obtain ⟨e1, l1⟩ := nt_inb W.1.2.1
  have hF10 : f < 10 := by omega
  have e1τ : τ 1 = nI (nt σ 1) := by rw [a1 1 (by omega) (by omega)]; exact e1
  have n1τ : nt τ 1 = nt σ 1 := nt_eq (a1 1 (by omega) (by omega))
  have n0τ : nt τ 0 = nt σ 0 := nt_eq (a1 0 (by omega) (by omega))
  have lc : cel σ f < 48 := (nI_of_inb (W.2.2.1.2.1 f hf).1).2
  have ecτ : τ (164 + f) = nI (cel σ f) := by rw [a1 _ (by omega) (by omega)]; exact (nI_of_inb (W.2.2.1.2.1 f hf).1).1
  have hcel : cel τ f = cel σ f := al_cel a1 f
  have hmb := al_mbN a1 h2
  have W0 : Wm (M.1 95) := by rw [hrow]; exact Wτ
  obtain ⟨Y, y1, y2, y3, y4⟩ := e_lookNow (M := M) W0
  have eY : Y.1 95 = τ := (y2.row (fun i => rfl)).trans hrow
  rw [hrow] at y1 y3 y4
  have hl := e_leftOut (M := Y) (p := mbN τ) (by rw [eY]; exact Wτ) (by rw [eY]; exact y3) (by rw [eY]; exact y4)
  rw [eY] at hl
  have hbit : (mbN τ f && !onF τ f) = (mbN σ f && !onL τ (cel σ f)) := by
    unfold onF
    rw [hmb, hcel, n1τ, decide_eq_true hf, Bool.true_and]
  obtain ⟨U1, A1⟩ := Cv_fr (M := M) (M' := Y) (k := k) W0 (fun a ha => y2.row (fun i => by
    unfold sLk
    rw [Bool.or_eq_false_iff, beq_eq_false_iff_ne, beq_eq_false_iff_ne]
    omega)) U A
  have S1 : stK Y k := ⟨by rw [y2.at_ rfl]; exact S.1, S.2⟩
  have FY : Fr sBr M Y := y2.mono (fun a i h => sMs_sBr a i (sLk_sMs a i h))
  have hbeg : b_Mo_brings_94_40 (nI (bri σ f).1, nI f, M) = if (mbN σ f && !onL τ (cel σ f)) = true then ((f_Mo_leads_94 (nI (cel σ f)) Y).bind fun q13 => if inb (164 + nI f) 4700 then if inb (q13.1 95 (164 + nI f).toNatClampNeg) 48 then if decide ((q13.1 103 (q13.1 95 (164 + nI f).toNatClampNeg).toNatClampNeg) = (-1)) then (some (.inl (nI (bri σ f).1, nI f + 1, q13))) else ((f_Mo_lacks_94 (nI f) q13).bind fun q17 => if decide (q17.1 = 0) then (if inb (164 + nI f) 4700 then if inb (q17.2.1 95 (164 + nI f).toNatClampNeg) 48 then jv_ (nI (bri σ f).1 + (q17.2.1 103 (q17.2.1 95 (164 + nI f).toNatClampNeg).toNatClampNeg) : Int32) fun x21 => (itr (b_Mo_brings_94_137) FU (0, q17.2)).bind fun q29 => jv_ (wI q29 94 21 ((q29.1 94 21) + 1)) fun M30 => some (.inl (x21, nI f + 1, M30)) else none else none) else (some (.inl (nI (bri σ f).1, nI f + 1, q17.2)))) else none else none) else (some (.inl (nI (bri σ f).1, nI f + 1, Y))) := by
    unfold b_Mo_brings_94_40
    dsimp only
    rw [hrow, e1τ, dlt_t hf (by omega), ite_tt, y1, Option.bind_some, hl, Option.bind_some, shr_1 _ (by omega), b_msk_lo _ hF10, hbit]
    rw [q164, nI_addn, inb_t (by omega) (by omega), ite_tt, nI_cl (by omega), eY, ecτ]
  by_cases c1 : (mbN σ f && !onL τ (cel σ f)) = true
  rotate_left
  · rw [if_neg c1] at hbeg
    rw [if_neg (show ¬ cnd σ τ f = true from fun h => c1 (by unfold cnd at h; rw [Bool.and_eq_true] at h; exact h.1))]
    exact ⟨Y, k, by rw [hbeg, nI_one], by rw [hτ]; exact eY, FY, y2.row (fun _ => rfl), by omega, Nat.le_refl _, S1, U1, A1⟩
  rw [if_pos c1] at hbeg
  have hoff : onL τ (cel σ f) = false := by
    simp only [Bool.and_eq_true, Bool.not_eq_true'] at c1; exact c1.2
  have hoffσ : onL σ (cel σ f) = false := by
    cases g : onL σ (cel σ f)
    · rfl
    · have := hmono g
      rw [hoff] at this; exact Bool.noConfusion this
  have hD : isD (okW (Y.1 95)) (wW (Y.1 95)) (iniF (Y.1 95)) (Dt σ τ) := by rw [eY]; exact al_isD a1 (isD_Dt W.2.2.1)
  obtain ⟨Z, z1, z2, z3, z4⟩ := e_leads (M := Y) (D := Dt σ τ) (by rw [eY]; exact a3) hD lc
  rw [eY] at z4
  have eZ : Z.1 95 = τ := (z2.row (fun _ => rfl)).trans eY
  obtain ⟨U2, A2⟩ := Cv_fr (M := Y) (M' := Z) (k := k) (by rw [eY]; exact Wτ) (fun a ha => z2.row (fun i => by
    unfold sLd
    simp only [Bool.or_eq_false_iff, Bool.and_eq_false_iff, beq_eq_false_iff_ne]
    omega)) U1 A1
  have S2 : stK Z k := ⟨by rw [z2.at_ rfl]; exact S1.1, S.2⟩
  have FZ : Fr sBr M Z := FY.trans (z2.mono (fun a i h => sMs_sBr a i (sLd_sMs a i h)))
  have e116Z : Z.1 116 = M.1 116 := (z2.row (fun _ => rfl)).trans (y2.row (fun _ => rfl))
  by_cases g : Dt σ τ (cel σ f) < 1000000
  rotate_left
  · rw [if_neg (show ¬ cnd σ τ f = true from fun h => by unfold cnd at h; simp only [Bool.and_eq_true, decide_eq_true_eq] at h; exact g h.2.1)]
    refine ⟨Z, k, ?_, by rw [hτ]; exact eZ, FZ, e116Z, by omega, Nat.le_refl _, S2, U2, A2⟩
    rw [hbeg, z1, Option.bind_some, q164, nI_addn, inb_t (by omega) (by omega), ite_tt, nI_cl (by omega), eZ, ecτ, inb_t lc (by omega), ite_tt, nI_cl (by omega), z3 _ lc, if_neg g, decide_eq_true (show (-1 : Int32) = -1 from rfl), ite_tt, nI_one]
  obtain ⟨K0, hK0⟩ := way_ex W.2.2.1 (isD_Dt (τ := τ) W.2.2.1) lc g
  have hK := Way_Kt hK0
  obtain ⟨z5, z6⟩ := z4 _ g (al_Way a1 hK)
  obtain ⟨V, v1, v2, v3, v4, -⟩ := e_lacks (M := Z) (D := Dt σ τ) (n := 0) (k := k) (f := f) (c := cel σ f) (K := Kt σ (Dt σ τ) (cel σ f)) (by omega) (by rw [eZ]; exact Wτ) (by rw [eZ, n1τ]; exact hf) (by rw [eZ]; exact hcel) hK.1 z3 g z5 (fun j hj => by rw [eZ]; exact ⟨z6 j (by omega), (al_Way a1 hK).2.2.2 j (by omega)⟩) S2 U2 A2
  rw [eZ, n0τ, al_rlS a1 W hf (by rw [mil_off hoff, mil_off hoffσ]), al_onW a1, hmb] at v1
  have eV : V.1 95 = τ := (v2.row (fun _ => rfl)).trans eZ
  have FV : Fr sBr M V := FZ.trans (v2.mono (fun a i h => sMc_sBr a i (sAr_sMc a i h)))
  have S3 : stK V k := ⟨by rw [v2.at_ rfl]; exact S2.1, S.2⟩
  have e116V : V.1 116 = M.1 116 := (v2.row (fun _ => rfl)).trans e116Z
  have hcnd : cnd σ τ f = decide (lkS (nI (Dt σ τ (cel σ f))) (rlS σ 4 f (nt σ 0) 0) (cnt (fun g => onW σ (Dt σ τ) (cel σ f) (Kt σ (Dt σ τ) (cel σ f)) g && mbN σ g) 10) = 0) := by
    unfold cnd
    rw [c1, decide_eq_true g, Bool.true_and, Bool.true_and]
  have hmid : b_Mo_brings_94_40 (nI (bri σ f).1, nI f, M) = if cnd σ τ f = true then ((itr (b_Mo_brings_94_137) FU (0, V)).bind fun q29 => some (.inl (nI ((bri σ f).1 + Dt σ τ (cel σ f)), nI (f + 1), wI q29 94 21 ((q29.1 94 21) + 1)))) else (some (.inl (nI (bri σ f).1, nI (f + 1), V))) := by
    rw [hbeg, z1, Option.bind_some, q164, nI_addn, inb_t (by omega) (by omega), ite_tt, nI_cl (by omega), eZ, ecτ, inb_t lc (by omega), ite_tt, nI_cl (by omega), z3 _ lc, if_pos g, nI_eqm1 (by omega), ite_ff, v1, Option.bind_some]
    dsimp only
    unfold jv_
    rw [← hcnd, ite_tt, eV, ecτ, inb_t lc (by omega), ite_tt, nI_cl (by omega), v2.at_ rfl, z3 _ lc, if_pos g, nI_addn, nI_one]
  rw [hmid]
  by_cases c2 : cnd σ τ f = true
  · rw [if_pos c2, if_pos c2]
    obtain ⟨X, x1, x2, x3⟩ := e_lay (M := V) (p := pth σ (Dt σ τ) (cel σ f)) (K := Kt σ (Dt σ τ) (cel σ f)) hK.1 hK.2.2.2 (by rw [v2.at_ rfl]; exact z5) (fun j hj => by rw [v2.at_ rfl, z6 j hj, al_pth a1])
    have eX21 : X.1 94 21 = nI k := by rw [x2.at_ rfl]; exact S3.1
    obtain ⟨U4, A4⟩ := Cv_new (M := V) (M' := wI X 94 21 (nI (k + 1))) (k := k) (by omega) (by rw [rdk (by omega)]; exact x2.row (fun _ => rfl)) (by rw [rdk (by omega)]; exact x2.row (fun _ => rfl)) (by
      rw [rdk (by omega), x3, eV]
      have : nt (ly τ (pth σ (Dt σ τ) (cel σ f)) (Kt σ (Dt σ τ) (cel σ f))) 1 = nt τ 1 := nt_eq (ly_o (by omega) _ (fun i hi => by omega))
      rw [this, n1τ]; omega) v3 v4 (show k < k + 1 by omega) (by omega)
    refine ⟨wI X 94 21 (nI (k + 1)), k + 1, ?_, ?_, (FV.trans (x2.mono (fun a i h => by rw [beq_iff_eq] at h; subst h; unfold sBr; rw [show (95 == 95) = true from rfl]; simp))).wI (by unfold sBr; simp), ?_, Nat.le_refl _, by omega, ⟨rde, by omega⟩, U4, A4⟩
    · rw [x1, Option.bind_some, eX21, nI_one]
    · rw [rdk (by omega), x3, eV]; rfl
    · rw [rdk (by omega), x2.row (a := 116) (fun _ => rfl), e116V]
  · rw [if_neg c2, if_neg c2]
    exact ⟨V, k, rfl, by rw [hτ]; exact eV, FV, e116V, by omega, Nat.le_refl _, S3, v3, v4⟩
end MB
end
