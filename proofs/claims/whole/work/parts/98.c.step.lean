section
section SR
variable {M : Mem} {g : Nat → Nat} {n : Nat}
def s32 (a _i : Nat) : Bool := a == 32
def rw32 (M : Mem) (n : Nat) (g : Nat → Nat) : Prop := ∀ i, i < n → M.1 32 i = nI (g i)
theorem fI_le : ∀ k, fI g k ≤ k
  | 0 => Nat.le_refl _
  | k + 1 => by
    unfold fI
    have := fI_le k
    split <;> omega
theorem fJ_le {i : Nat} : ∀ k, fJ g i k ≤ k
  | 0 => Nat.le_refl _
  | k + 1 => by
    unfold fJ
    have : fJ g i k ≤ k := fJ_le k
    split
    · omega
    · split <;> omega
theorem e_swap {i j : Nat} (hn : n ≤ 6) (hi : i < n) (hj : j < n) (hr : rw32 M n g) : ∃ Y, f_Breaks_swap_29 (nI i) (nI j) M = some Y ∧ Fr s32 M Y ∧ rw32 Y n (swp g i j) := by
  refine ⟨wI (wI M 32 i (nI (g j))) 32 j (nI (g i)), ?_, ((Fr.refl M).wI rfl).wI rfl, fun k hk => ?_⟩
  · unfold f_Breaks_swap_29 jv_
    dsimp only
    rw [atv_nI (by omega) (by omega), atv_nI (by omega) (by omega), hr i hi, hr j hj, putv_nI (by omega) (by omega), putv_nI (by omega) (by omega)]
  · unfold swp
    by_cases h1 : k = j
    · rw [h1, rde, updN_e]
    · rw [rdi h1, updN_n h1]
      by_cases h2 : k = i
      · rw [h2, rde, updN_e]
      · rw [rdi h2, updN_n h2]; exact hr k hk
theorem rvF_st {f a b : Nat} (h : b ≤ a) : rvF f g a b = g := by
  cases f with
  | zero => rfl
  | succ f => unfold rvF; rw [if_neg (by omega)]
theorem e_rev {f0 a0 b0 : Nat} (hn : n ≤ 6) (hf : b0 ≤ f0 + a0) (hb : b0 < n) (ha : a0 ≤ n) (hfn : f0 ≤ 6) (hr : rw32 M n g) : ∃ Y, itr b_Breaks_stepRow_29_99 FU (nI a0, nI b0, M) = some Y ∧ Fr s32 M Y ∧ rw32 Y n (rvF f0 g a0 b0) := by
  obtain ⟨e, h1, h2⟩ := itr_cnt (body := b_Breaks_stepRow_29_99) (s0 := (nI a0, nI b0, M)) (fun k z => Fr s32 M z.2.2 ∧ ∃ a b g', z.1 = nI a ∧ z.2.1 = nI b ∧ rw32 z.2.2 n g' ∧ rvF (f0 - k) g' a b = rvF f0 g a0 b0 ∧ b ≤ f0 - k + a ∧ b < n ∧ a ≤ n) (fun Y => Fr s32 M Y ∧ rw32 Y n (rvF f0 g a0 b0)) f0 (by omega) ⟨Fr.refl _, a0, b0, g, rfl, rfl, hr, rfl, hf, hb, ha⟩ (by
    rintro k ⟨x, y, X⟩ hk ⟨hF, a, b, g', hx, hy, q1, q2, q3, q4, q5⟩
    dsimp only at hF hx hy q1
    rw [hx, hy]
    by_cases c : a < b
    · left
      obtain ⟨Y, y1, y2, y3⟩ := e_swap (M := X) hn (show a < n by omega) q4 q1
      refine ⟨(nI (a + 1), nI (b - 1), Y), ?_, hF.trans y2, a + 1, b - 1, swp g' a b, rfl, rfl, y3, ?_, by omega, by omega, by omega⟩
      · unfold b_Breaks_stepRow_29_99
        dsimp only
        have hbm : nI b - 1 = nI (b - 1) := by rw [show b = (b - 1) + 1 by omega, dm1, Nat.add_sub_cancel]
        rw [dlt_t c (by omega), ite_tt, y1, Option.bind_some, nI_one, am1, hbm]
      · rw [← q2, show f0 - k = f0 - (k + 1) + 1 by omega]
        show _ = (if a < b then rvF (f0 - (k + 1)) (swp g' a b) (a + 1) (b - 1) else g')
        rw [if_pos c]
    · right
      refine ⟨X, ?_, hF, ?_⟩
      · unfold b_Breaks_stepRow_29_99
        dsimp only
        rw [dlt_f (by omega) (by omega), ite_ff]
      · rw [rvF_st (by omega)] at q2
        rw [← q2]; exact q1) (by
    rintro ⟨x, y, X⟩ ⟨hF, a, b, g', hx, hy, q1, q2, q3, q4, q5⟩
    dsimp only at hF hx hy q1
    rw [hx, hy]
    refine ⟨X, ?_, hF, ?_⟩
    · unfold b_Breaks_stepRow_29_99
      dsimp only
      rw [dlt_f (by omega) (by omega), ite_ff]
    · rw [rvF_st (by omega)] at q2
      rw [← q2]; exact q1)
  exact ⟨e, h1, h2⟩
theorem neg1 (a : Nat) : decide (nI 0 - 1 < 0) = true := rfl
theorem e_stepRow (hn : n ≤ 6) (e29 : M.1 29 2 = nI n) (hg : ∀ i, i < n → g i < 6) (hr : rw32 M n g) : ∃ Y, f_Breaks_stepRow_29 M = some (!decide (fI g (n - 1) = 0), Y) ∧ Fr s32 M Y ∧ (fI g (n - 1) ≠ 0 → rw32 Y n (nxF n g)) := by
  by_cases n0 : n = 0
  · refine ⟨M, ?_, Fr.refl _, fun h => absurd (by rw [n0]; rfl) h⟩
    unfold f_Breaks_stepRow_29
    have h1 : itr (b_Breaks_stepRow_29_7 M) FU (M.1 29 2 - 2) = some (-2) := by
      rw [e29, n0, show FU = 999999999 + 1 from rfl]
      exact itr_r rfl
    rw [h1, n0]; rfl
  obtain ⟨q4, h1, h2⟩ := itr_cnt (body := b_Breaks_stepRow_29_7 M) (s0 := M.1 29 2 - 2) (fun j y => ∃ k, k + j = n - 1 ∧ y = nI k - 1 ∧ fI g k = fI g (n - 1)) (fun e => e = nI (fI g (n - 1)) - 1) (n - 1) (by omega) ⟨n - 1, rfl, by
      rw [e29, show (2 : Int32) = 1 + 1 from rfl, ← Int32.sub_sub, show nI n - 1 = nI (n - 1) by rw [show n = (n - 1) + 1 by omega, dm1, Nat.add_sub_cancel]], rfl⟩ (by
    rintro j y hj ⟨k, k1, rfl, k2⟩
    obtain ⟨k', rfl⟩ : ∃ k', k = k' + 1 := ⟨k - 1, by omega⟩
    have hst : b_Breaks_stepRow_29_7 M (nI (k' + 1) - 1) = if g k' ≤ g (k' + 1) then some (.inr (nI k')) else some (.inl (nI k' - 1)) := by
      have v1 := hg k' (by omega)
      have v2 := hg (k' + 1) (by omega)
      unfold b_Breaks_stepRow_29_7
      rw [dm1, nI_nneg (by omega), ite_ff, nI_one, atv_nI (by omega) (by omega), atv_nI (by omega) (by omega), hr k' (by omega), hr (k' + 1) (by omega), d_le (by omega) (by omega), am1]
      by_cases c : g k' ≤ g (k' + 1)
      · rw [if_pos c, if_pos (decide_eq_true c)]
      · rw [if_neg c, if_neg (by rw [decide_eq_true_eq]; exact c)]
    rw [show fI g (k' + 1) = (if g k' ≤ g (k' + 1) then k' + 1 else fI g k') from rfl] at k2
    by_cases c : g k' ≤ g (k' + 1)
    · rw [if_pos c] at hst k2
      right
      exact ⟨_, hst, by rw [← k2, dm1]⟩
    · rw [if_neg c] at hst k2
      left
      exact ⟨_, hst, k', by omega, rfl, k2⟩) (by
    rintro y ⟨k, k1, rfl, k2⟩
    have hk0 : k = 0 := by omega
    rw [hk0] at k2 ⊢
    refine ⟨nI 0 - 1, ?_, by rw [← k2]; rfl⟩
    unfold b_Breaks_stepRow_29_7
    rw [neg1 0, ite_tt])
  unfold f_Breaks_stepRow_29
  rw [h1, h2, Option.bind_some]
  have hle := fI_le (g := g) (n - 1)
  by_cases c : fI g (n - 1) = 0
  · refine ⟨M, ?_, Fr.refl _, fun h => absurd c h⟩
    rw [c, neg1 0, ite_tt]; rfl
  obtain ⟨i, hi⟩ : ∃ i, fI g (n - 1) = i + 1 := ⟨fI g (n - 1) - 1, by omega⟩
  have hnx : nxF n g = rvF n (swp g i (fJ g i (n - 1))) (i + 1) (n - 1) := by unfold nxF; rw [hi, Nat.add_sub_cancel]
  have hjl := fJ_le (g := g) (i := i) (n - 1)
  obtain ⟨q9, j1, j2⟩ := itr_cnt (body := b_Breaks_stepRow_29_51 M (nI i)) (s0 := M.1 29 2 - 1) (fun j y => ∃ k, k + j = n - 1 ∧ y = nI k ∧ fJ g i k = fJ g i (n - 1)) (fun e => e = nI (fJ g i (n - 1))) (n - 1) (by omega) ⟨n - 1, rfl, by
      rw [e29, show nI n - 1 = nI (n - 1) by rw [show n = (n - 1) + 1 by omega, dm1, Nat.add_sub_cancel]], rfl⟩ (by
    rintro j y hj ⟨k, k1, rfl, k2⟩
    obtain ⟨k', rfl⟩ : ∃ k', k = k' + 1 := ⟨k - 1, by omega⟩
    rw [show fJ g i (k' + 1) = (if k' + 1 ≤ i then k' + 1 else if g (k' + 1) < g i then fJ g i k' else k' + 1) from rfl] at k2
    have hst : b_Breaks_stepRow_29_51 M (nI i) (nI (k' + 1)) = if k' + 1 ≤ i then some (.inr (nI (k' + 1))) else if g (k' + 1) < g i then some (.inl (nI k')) else some (.inr (nI (k' + 1))) := by
      have v1 := hg i (by omega)
      have v2 := hg (k' + 1) (by omega)
      unfold b_Breaks_stepRow_29_51
      rw [d_le (by omega) (by omega), atv_nI (by omega) (by omega), atv_nI (by omega) (by omega), hr (k' + 1) (by omega), hr i (by omega), d_lt (by omega) (by omega), am1, dm1]
      by_cases c1 : k' + 1 ≤ i
      · rw [if_pos c1, if_pos (decide_eq_true c1)]
      · rw [if_neg c1, if_neg (by rw [decide_eq_true_eq]; exact c1)]
        by_cases c2 : g (k' + 1) < g i
        · rw [if_pos c2, if_pos (decide_eq_true c2)]
        · rw [if_neg c2, if_neg (by rw [decide_eq_true_eq]; exact c2)]
    by_cases c1 : k' + 1 ≤ i
    · rw [if_pos c1] at hst k2
      right
      exact ⟨_, hst, by rw [← k2]⟩
    · rw [if_neg c1] at hst k2
      by_cases c2 : g (k' + 1) < g i
      · rw [if_pos c2] at hst k2
        left
        exact ⟨_, hst, k', by omega, rfl, k2⟩
      · rw [if_neg c2] at hst k2
        right
        exact ⟨_, hst, by rw [← k2]⟩) (by
    rintro y ⟨k, k1, rfl, k2⟩
    have hk0 : k = 0 := by omega
    rw [hk0] at k2 ⊢
    refine ⟨nI 0, ?_, by rw [← k2]; rfl⟩
    unfold b_Breaks_stepRow_29_51
    rw [dle_t (by omega) (by omega), ite_tt])
  obtain ⟨Y, y1, y2, y3⟩ := e_swap (M := M) (i := i) (j := fJ g i (n - 1)) hn (by omega) (by omega) hr
  obtain ⟨Z, z1, z2, z3⟩ := e_rev (M := Y) (f0 := n) (a0 := i + 1) (b0 := n - 1) hn (by omega) (by omega) (by omega) hn y3
  refine ⟨Z, ?_, y2.trans z2, fun _ => by rw [hnx]; exact z3⟩
  have e29Y : Y.1 29 2 = nI n := by rw [y2.at_ rfl]; exact e29
  rw [hi, dm1, nI_nneg (by omega), ite_ff, j1, j2, Option.bind_some, y1, Option.bind_some, nI_one, e29Y, show nI n - 1 = nI (n - 1) by rw [show n = (n - 1) + 1 by omega, dm1, Nat.add_sub_cancel], z1]
  rfl
end SR
end
