def anc (σ : Nat → Int32) (c : Nat) : Nat → Nat
  | 0 => c
  | k + 1 => nt σ (116 + anc σ c k)
theorem anc_s (σ : Nat → Int32) (c : Nat) : ∀ k, anc σ (nt σ (116 + c)) k = anc σ c (k + 1)
  | 0 => rfl
  | k + 1 => by
    show nt σ (116 + anc σ (nt σ (116 + c)) k) = nt σ (116 + anc σ c (k + 1))
    rw [anc_s σ c k]
/-- the way from a cell to the house has d stretches -/
def Path (σ : Nat → Int32) (c d : Nat) : Prop := (∀ j, j < d → nI (anc σ c j) ≠ σ 9 ∧ σ (116 + anc σ c j) = nI (anc σ c (j + 1)) ∧ anc σ c j < 48) ∧ nI (anc σ c d) = σ 9 ∧ anc σ c d < 48
def onL (σ : Nat → Int32) (c : Nat) : Bool := decide (nI c = σ 9) || !decide (σ (116 + c) = -1)
def dpt (σ : Nat → Int32) : Nat → Nat → Nat
  | 0, _ => 0
  | k + 1, c => if nI c = σ 9 ∨ σ (116 + c) = -1 then 0 else 1 + dpt σ k (nt σ (116 + c))
def mil (σ : Nat → Int32) (c : Nat) : Nat := dpt σ 48 c
theorem path_s {σ : Nat → Int32} {c d : Nat} (h : Path σ (nt σ (116 + c)) d) (h1 : nI c ≠ σ 9) (h2 : σ (116 + c) = nI (nt σ (116 + c))) (h3 : c < 48) : Path σ c (d + 1) := by
  obtain ⟨p1, p2, p3⟩ := h
  refine ⟨fun j hj => ?_, ?_, ?_⟩
  · cases j with
    | zero => exact ⟨h1, h2, h3⟩
    | succ j =>
      have := p1 j (by omega)
      rw [anc_s, anc_s] at this
      exact this
  · rw [anc_s] at p2; exact p2
  · rw [anc_s] at p3; exact p3
theorem path_dpt {σ : Nat → Int32} : ∀ (d k c : Nat), Path σ c d → d < k → dpt σ k c = d
  | 0, k + 1, c, h, _ => by
    unfold dpt
    rw [if_pos (.inl h.2.1)]
  | d + 1, k + 1, c, h, hk => by
    obtain ⟨p1, p2, p3⟩ := h
    obtain ⟨a1, a2, a3⟩ := p1 0 (by omega)
    have a4 := p1
    have hn : ¬ (nI c = σ 9 ∨ σ (116 + c) = -1) := fun h => by
      rcases h with h | h
      · exact a1 h
      · have a2 : σ (116 + c) = nI (anc σ c 1) := a2
        rw [a2] at h
        have hlt : anc σ c 1 < 48 := by
          by_cases h5 : d = 0
          · subst h5; exact p3
          · exact (p1 1 (by omega)).2.2
        exact nI_ne_m1 (by omega) h
    unfold dpt
    rw [if_neg hn, path_dpt d k (nt σ (116 + c)) ⟨fun j hj => by
      have := p1 (j + 1) (by omega)
      rw [anc_s, anc_s]
      exact this, by rw [anc_s]; exact p2, by rw [anc_s]; exact p3⟩ (by omega)]
    omega
theorem path_mil {σ : Nat → Int32} {c d : Nat} (h : Path σ c d) (hd : d < 48) : mil σ c = d := path_dpt d 48 c h hd
theorem mil_off {σ : Nat → Int32} {c : Nat} (h : onL σ c = false) : mil σ c = 0 := by
  unfold onL at h
  simp only [Bool.or_eq_false_iff, decide_eq_false_iff_not, Bool.not_eq_false', decide_eq_true_eq] at h
  unfold mil dpt
  rw [if_pos (.inr h.2)]
section TR
variable {σ τ : Nat → Int32}
theorem tree_house (T : Tree σ τ) (h9 : inb (σ 9) 48 = true) : σ (116 + nt σ 9) = -1 := by
  obtain ⟨t1, t2, t3⟩ := T
  obtain ⟨e9, l9⟩ := nt_inb h9
  apply Classical.byContradiction
  intro h
  obtain ⟨i, h1, h2⟩ := (t3 (nt σ 9) l9).mp h
  obtain ⟨c, c1, c2, c3, -⟩ := t1 i h1
  rw [h2] at c2
  exact c3 (c2.symm.trans e9.symm)
theorem path_told (T : Tree σ τ) (h9 : inb (σ 9) 48 = true) : ∀ (n i c : Nat), i < n → i < nt σ 5 → c < 48 → τ i = nI c → ∃ d, d ≤ i + 1 ∧ 1 ≤ d ∧ Path σ c d
  | 0, i, c, h, _, _, _ => by omega
  | n + 1, i, c, h, hi, hc, hτ => by
    have T0 := T
    obtain ⟨t1, t2, t3⟩ := T
    obtain ⟨e9, l9⟩ := nt_inb h9
    obtain ⟨c', c1, c2, c3, c4⟩ := t1 i hi
    have hcc : c' = c := (nI_inj (by omega) (by omega)).mp (c2.symm.trans hτ)
    subst hcc
    rcases c4 with h1 | ⟨j, j1, j2⟩
    · have hp : nt σ (116 + c') = nt σ 9 := by unfold nt; rw [h1]
      refine ⟨1, by omega, by omega, path_s (d := 0) ⟨fun j hj => by omega, ?_, ?_⟩ c3 ?_ hc⟩
      · show nI (nt σ (116 + c')) = σ 9
        rw [hp]; exact e9.symm
      · show nt σ (116 + c') < 48
        rw [hp]; exact l9
      · rw [hp, h1]; exact e9
    · obtain ⟨c5, d1, d2, -, -⟩ := t1 j (by omega)
      obtain ⟨d, h1, h2, h3⟩ := path_told T0 h9 n j c5 (by omega) (by omega) d1 d2
      have hp : nt σ (116 + c') = c5 := by unfold nt; rw [j2, d2, nI_cl (by omega)]
      refine ⟨d + 1, by omega, by omega, path_s (by rw [hp]; exact h3) c3 ?_ hc⟩
      rw [hp, j2, d2]
theorem path_of (T : Tree σ τ) (h9 : inb (σ 9) 48 = true) {c : Nat} (hc : c < 48) (h : onL σ c = true) : ∃ d, d ≤ nt σ 5 ∧ Path σ c d := by
  by_cases h1 : nI c = σ 9
  · exact ⟨0, Nat.zero_le _, fun j hj => by omega, h1, hc⟩
  · unfold onL at h
    rw [decide_eq_false h1, Bool.false_or, Bool.not_eq_true', decide_eq_false_iff_not] at h
    obtain ⟨i, h2, h3⟩ := (T.2.2 c hc).mp h
    obtain ⟨d, h4, -, h5⟩ := path_told T h9 (i + 1) i c (by omega) h2 hc h3
    exact ⟨d, by omega, h5⟩
theorem path_mil' (T : Tree σ τ) (h9 : inb (σ 9) 48 = true) (h5 : inb (σ 5) 48 = true) {c : Nat} (hc : c < 48) (h : onL σ c = true) : Path σ c (mil σ c) ∧ mil σ c ≤ nt σ 5 := by
  obtain ⟨d, h1, h2⟩ := path_of T h9 hc h
  have := (nt_inb h5).2
  rw [path_mil h2 (by omega)]
  exact ⟨h2, h1⟩
theorem mil_lt (T : Tree σ τ) (h9 : inb (σ 9) 48 = true) (h5 : inb (σ 5) 48 = true) {c : Nat} (hc : c < 48) : mil σ c ≤ nt σ 5 := by
  cases h : onL σ c
  · rw [mil_off h]; exact Nat.zero_le _
  · exact (path_mil' T h9 h5 hc h).2
end TR
def s27 (a _i : Nat) : Bool := a == 27
section CB
variable {M : Mem} {σ : Nat → Int32}
theorem e_ahead {c : Nat} (hc : c < 48) (h : M.1 25 c = σ (116 + c)) : f_Line_ahead_24 (nI c) M = some (σ (116 + c)) := by
  unfold f_Line_ahead_24
  have : wthn (nI c) 0 47 = true := by
    have := inb_wthn (x := nI c) (n := 47) (by omega)
    rw [show (47 : Int32) = nI 47 from rfl, this]; exact inb_t (by omega) (by omega)
  rw [this, ite_tt, atv_nI hc (by omega), h]
theorem e_climb (R : Rline M.1 σ) (h9 : inb (σ 9) 48 = true) (h5 : inb (σ 5) 48 = true) {c : Nat} (hc : c < 48) : ∃ M', f_Line_climb_24 (nI c) M = some (nI (mil σ c), M') ∧ Fr s27 M M' ∧ M'.1 27 0 = nI c ∧ (onL σ c = true → ∀ j, j ≤ mil σ c → M'.1 27 j = nI (anc σ c j)) := by
  obtain ⟨R2, R3, R4, R5, T⟩ := R
  obtain ⟨e5, l5⟩ := nt_inb h5
  obtain ⟨e9, l9⟩ := nt_inb h9
  have hF0 : Fr s27 M (wI M 27 0 (nI c)) := (Fr.refl M).wI rfl
  have hup : ∀ M', Fr s27 M M' → ∀ x, x < 48 → f_Line_ahead_24 (nI x) M' = some (σ (116 + x)) := fun M' h x hx => e_ahead hx (by rw [h.at_ rfl]; exact R5 x hx)
  have hk : ∀ M', Fr s27 M M' → M'.1 24 2 = nI (nt σ 5) := fun M' h => by rw [h.at_ rfl, R2]; exact e5
  have hbeg : f_Line_climb_24 (nI c) M = (itr b_Line_climb_24_17 FU (0, σ (116 + c), wI M 27 0 (nI c))).bind fun q8 => some (q8.1, q8.2) := by
    unfold f_Line_climb_24 jv_
    rw [show (0 : Int32) = nI 0 from rfl, putv_nI (by omega) (by omega)]
    dsimp only
    rw [hup _ hF0 c hc]; rfl
  have hF : FU = 999999999 + 1 := rfl
  cases h : onL σ c
  · rw [mil_off h]
    unfold onL at h
    simp only [Bool.or_eq_false_iff, decide_eq_false_iff_not, Bool.not_eq_false', decide_eq_true_eq] at h
    refine ⟨wI M 27 0 (nI c), ?_, hF0, rde, fun h => by (cases h)⟩
    rw [hbeg, hF, h.2, itr_r (e := ((0 : Int32), wI M 27 0 (nI c))) rfl]; rfl
  · obtain ⟨⟨p1, p2, p3⟩, p4⟩ := path_mil' T h9 h5 hc h
    generalize mil σ c = d at *
    obtain ⟨q, k1, k2, k3, k4⟩ := itr_cnt (body := b_Line_climb_24_17) (s0 := (0, σ (116 + c), wI M 27 0 (nI c))) (fun j s => s.1 = nI j ∧ s.2.1 = σ (116 + anc σ c j) ∧ Fr s27 M s.2.2 ∧ ∀ i, i ≤ j → s.2.2.1 27 i = nI (anc σ c i)) (fun q => q.1 = nI d ∧ Fr s27 M q.2 ∧ ∀ i, i ≤ d → q.2.1 27 i = nI (anc σ c i)) d (by omega) ⟨rfl, rfl, hF0, fun i hi => by
      obtain rfl : i = 0 := by omega
      exact rde⟩ (by
      rintro j ⟨a, b, M1⟩ hj ⟨rfl, rfl, hF1, hw⟩
      left
      dsimp only at hF1 hw
      obtain ⟨a1, a2, a3⟩ := p1 j hj
      have a4 : anc σ c (j + 1) < 48 := by
        by_cases h5 : j + 1 = d
        · rw [h5]; exact p3
        · exact (p1 (j + 1) (by omega)).2.2
      have hF2 : Fr s27 M (wI M1 27 (j + 1) (nI (anc σ c (j + 1)))) := hF1.wI rfl
      refine ⟨(nI (j + 1), σ (116 + anc σ c (j + 1)), wI M1 27 (j + 1) (nI (anc σ c (j + 1)))), ?_, rfl, rfl, hF2, fun i hi => ?_⟩
      · unfold b_Line_climb_24_17 jv_
        dsimp only
        rw [a2, nI_eqm1 (by omega), ite_ff, hk M1 hF1, dlt_t (by omega) (by omega), ite_tt, nI_one, putv_nI (by omega) (by omega), hup _ hF2 _ a4]; rfl
      · dsimp only
        by_cases h6 : i = j + 1
        · rw [h6, rde]
        · rw [rdi h6]; exact hw i (by omega)) (by
      rintro ⟨a, b, M1⟩ ⟨rfl, rfl, hF1, hw⟩
      dsimp only at hF1 hw
      refine ⟨(nI d, M1), ?_, rfl, hF1, hw⟩
      have h7 : σ (116 + anc σ c d) = -1 := by
        have h8 : anc σ c d = nt σ 9 := (nI_inj (by omega) (by omega)).mp (p2.trans e9)
        rw [h8]; exact tree_house T h9
      unfold b_Line_climb_24_17
      dsimp only
      rw [h7]; rfl)
    obtain ⟨x, M1⟩ := q
    dsimp only at k2 k3 k4
    refine ⟨M1, ?_, k3, ?_, fun _ => k4⟩
    · rw [hbeg, k1, k2]; rfl
    · exact k4 0 (Nat.zero_le _)
theorem e_Mo_isOnLine {c : Nat} (hc : c < 48) : f_Mo_isOnLine_94 (nI c) M = some (onL (M.1 95) c) := by
  unfold f_Mo_isOnLine_94 onL
  rw [q116, nI_addn, inb_t (by omega) (by omega), nI_cl (by omega), ite_tt]
  by_cases h1 : nI c = M.1 95 9
  · rw [decide_eq_true h1]; rfl
  · rw [decide_eq_false h1, ite_ff]
    cases decide (M.1 95 (116 + c) = -1) <;> rfl
theorem e_CF_isOnLine (R : Rline M.1 σ) (R9 : M.1 2 5 = σ 9) {c : Nat} (hc : c < 48) : f_CF_isOnLine_0 (nI c) M = some (onL σ c) := by
  unfold f_CF_isOnLine_0 onL
  rw [R9, e_ahead hc (R.2.2.2.1 c hc), Option.bind_some]
  by_cases h1 : nI c = σ 9
  · rw [decide_eq_true h1]; rfl
  · rw [decide_eq_false h1, ite_ff]
    cases decide (σ (116 + c) = -1) <;> rfl
theorem e_milesTo {τ : Nat → Int32} (T : Tree (M.1 95) τ) (h9 : inb (M.1 95 9) 48 = true) (h5 : inb (M.1 95 5) 48 = true) {c : Nat} (hc : c < 48) : f_Mo_milesTo_94 (nI c) M = some (nI (mil (M.1 95) c)) := by
  obtain ⟨e9, l9⟩ := nt_inb h9
  have l5 := (nt_inb h5).2
  have hF : FU = 999999999 + 1 := rfl
  unfold f_Mo_milesTo_94
  cases h : onL (M.1 95) c
  · rw [mil_off h, hF, itr_r (e := (0 : Int32)) (by
      unfold b_Mo_milesTo_94_4
      dsimp only
      rw [e_Mo_isOnLine hc, h]; rfl)]; rfl
  · obtain ⟨⟨p1, p2, p3⟩, p4⟩ := path_mil' T h9 h5 hc h
    generalize mil (M.1 95) c = d at *
    have hlt : ∀ j, j ≤ d → anc (M.1 95) c j < 48 := fun j hj => by
      by_cases h5 : j = d
      · rw [h5]; exact p3
      · exact (p1 j (by omega)).2.2
    have hon : ∀ j, j ≤ d → onL (M.1 95) (anc (M.1 95) c j) = true := fun j hj => by
      unfold onL
      by_cases h5 : j = d
      · rw [h5, decide_eq_true p2]; rfl
      · obtain ⟨-, a2, -⟩ := p1 j (by omega)
        rw [a2, nI_eqm1 (by have := hlt (j + 1) (by omega); omega)]; simp
    have key := itr_for' (body := b_Mo_milesTo_94_4 M) (fun j => (nI j, nI (anc (M.1 95) c j))) d (by omega) (e := nI d) (fun j hj => by
      obtain ⟨a1, a2, a3⟩ := p1 j hj
      unfold b_Mo_milesTo_94_4
      dsimp only
      rw [e_Mo_isOnLine a3, hon j (by omega), Option.bind_some, ite_tt, decide_eq_false a1, ite_ff, q116, nI_addn, inb_t (by omega) (by omega), ite_tt, nI_cl (by omega), a2, nI_one]) (by
      unfold b_Mo_milesTo_94_4
      dsimp only
      rw [e_Mo_isOnLine p3, hon d (Nat.le_refl _), Option.bind_some, ite_tt, decide_eq_true p2, ite_tt])
    show (itr _ FU (nI 0, nI (anc (M.1 95) c 0))).bind _ = _
    rw [key]; rfl
end CB
