/-- rows that agree where arrears look -/
def Ag (σ σ' : Nat → Int32) : Prop := (σ' 2 = σ 2 ∧ σ' 3 = σ 3 ∧ σ' 9 = σ 9) ∧ (∀ j, 116 ≤ j → j < 790 → σ' j = σ j) ∧ (∀ r, r < nt σ 3 → σ' (790 + r) = σ (790 + r) ∧ σ' (800 + r) = σ (800 + r) ∧ σ' (1890 + r) = σ (1890 + r) ∧ (∀ s, s < 120 → σ' (810 + 120 * r + s) = σ (810 + 120 * r + s)) ∧ ∀ k, k < 8 → σ' (1900 + (8 * r + k)) = σ (1900 + (8 * r + k)) ∧ σ' (1980 + (8 * r + k)) = σ (1980 + (8 * r + k)) ∧ σ' (2060 + (8 * r + k)) = σ (2060 + (8 * r + k))) ∧ ∀ j, 2280 ≤ j → σ' j = σ j
section AG
variable {σ σ' : Nat → Int32}
theorem nt_eq {σ σ' : Nat → Int32} {j : Nat} (h : σ' j = σ j) : nt σ' j = nt σ j := by unfold nt; rw [h]
theorem ag_ok (A : Ag σ σ') {m : Int32} {n k : Nat} (hk : k < 120) : okE σ' m n k = okE σ m n k := by
  unfold okE
  rw [A.2.1 (190 + k) (by omega) (by omega), A.2.1 (670 + k) (by omega) (by omega), A.2.1 (430 + k) (by omega) (by omega)]
theorem ag_dk (A : Ag σ σ') (m : Int32) (n f : Nat) : ∀ k, k ≤ 120 → dk σ' m n k f = dk σ m n k f
  | 0, _ => rfl
  | k + 1, hk => by
    have ih := ag_dk A m n f k (by omega)
    have e430 : ∀ d, dk σ m n k f = d → (d = -1 ∨ σ' (430 + d.toNatClampNeg) ≤ σ' (430 + k)) = (d = -1 ∨ σ (430 + d.toNatClampNeg) ≤ σ (430 + k)) := fun d hd => by
      rcases dk_spec σ m n f k (by omega) with h | ⟨j, j1, j2, -⟩
      · rw [← hd, h]; simp
      · rw [← hd, j2, nI_cl (by omega), A.2.1 (430 + j) (by omega) (by omega), A.2.1 (430 + k) (by omega) (by omega)]
    unfold dk
    rw [ih, ag_ok A (by omega), A.2.1 (310 + k) (by omega) (by omega)]
    simp only [e430 _ rfl]
theorem ag_wh (A : Ag σ σ') (m : Int32) {n : Nat} (f : Nat) (hn : n ≤ 120) : wh σ' m n f = wh σ m n f := by
  unfold wh
  rw [ag_dk A m n f n hn]
  rcases dk_spec σ m n f n (by omega) with h | ⟨j, j1, j2, -⟩
  · rw [h]; rfl
  · rw [j2, nI_cl (by omega), A.2.1 (190 + j) (by omega) (by omega)]
theorem ag_nd (A : Ag σ σ') (m : Int32) {n : Nat} (f : Nat) (hn : n ≤ 120) : wav σ' m n f = wav σ m n f ∧ (wav σ m n f = true → nd σ' m n f = nd σ m n f) := by
  refine ⟨by unfold wav; rw [ag_wh A m f hn], fun hw => ?_⟩
  unfold nd
  rw [ag_dk A m n f n hn]
  rcases dk_spec σ m n f n (by omega) with h | ⟨j, j1, j2, -⟩
  · unfold wav wh at hw
    rw [if_pos h] at hw; exact absurd hw (by decide)
  · rw [j2, nI_cl (by omega), A.2.1 (550 + j) (by omega) (by omega)]
theorem ag_rnds (A : Ag σ σ') (m : Int32) {n : Nat} (hn : n ≤ 120) (tk p : Nat → Bool) (k : Nat) : rnds (wav σ' m n) (nd σ' m n) tk p k = rnds (wav σ m n) (nd σ m n) tk p k := by
  induction k with
  | zero => rfl
  | succ k ih =>
    show rnd (wav σ' m n) (nd σ' m n) tk (rnds (wav σ' m n) (nd σ' m n) tk p k) = rnd (wav σ m n) (nd σ m n) tk (rnds (wav σ m n) (nd σ m n) tk p k)
    rw [ih]
    funext f
    unfold rnd
    obtain ⟨h1, h2⟩ := ag_nd A m f hn
    rw [h1]
    cases hw : wav σ m n f
    · simp only [Bool.false_and]
    · rw [h2 hw]
theorem ag_mb (A : Ag σ σ') (m : Int32) {n : Nat} (hn : n ≤ 120) (sg tk : Nat → Bool) : mb σ' m n sg tk = mb σ m n sg tk := by
  unfold mb
  have hp : p0 σ' m n sg tk = p0 σ m n sg tk := by
    funext f
    unfold p0 pm
    rw [ag_wh A m f hn]
  rw [hp, ag_rnds A m hn tk _ 10]
theorem ag_kf (A : Ag σ σ') (m : Int32) {n : Nat} (hn : n ≤ 120) (sg tk : Nat → Bool) (f : Nat) : kf σ' m n sg tk f = kf σ m n sg tk f := by
  unfold kf k0
  rw [ag_wh A m f hn, ag_mb A m hn sg tk]
theorem ag_kd (A : Ag σ σ') (h2 : nt σ 2 ≤ 120) (f m : Nat) : kd σ' f m = kd σ f m := by
  unfold kd km
  rw [nt_eq A.1.1]
  exact ag_kf A _ h2 _ _ f
theorem ag_svd (A : Ag σ σ') (h2 : nt σ 2 ≤ 120) (f m : Nat) : svd σ' f m = svd σ f m := by
  unfold svd
  rw [nt_eq A.1.1, ag_wh A _ f h2]
theorem ag_mtX (A : Ag σ σ') (h2 : nt σ 2 ≤ 120) (f : Nat) : ∀ m, mtX σ' f m = mtX σ f m
  | 0 => rfl
  | m + 1 => by
    show mtS σ' f m (mtX σ' f m) = mtS σ f m (mtX σ f m)
    rw [ag_mtX A h2 f m]
    unfold mtS mtU
    rw [ag_svd A h2, A.2.2.2 (2280 + (121 * f + m)) (by omega)]
theorem ag_unS (A : Ag σ σ') (h2 : nt σ 2 ≤ 120) (f m : Nat) : unS σ' f m = unS σ f m := by
  unfold unS mtN mtU
  rw [ag_mtX A h2 f m, ag_svd A h2, A.2.2.2 (2280 + (121 * f + m)) (by omega)]
theorem ag_dpt (A : Ag σ σ') (W : ∀ c, c < 48 → σ (116 + c) = -1 ∨ inb (σ (116 + c)) 48 = true) : ∀ k c, c < 48 → dpt σ' k c = dpt σ k c
  | 0, c, _ => rfl
  | k + 1, c, hc => by
    have e := A.2.1 (116 + c) (by omega) (by omega)
    unfold dpt
    rw [A.1.2.2, e, nt_eq e]
    by_cases h : nI c = σ 9 ∨ σ (116 + c) = -1
    · rw [if_pos h, if_pos h]
    · rw [if_neg h, if_neg h]
      rcases W c hc with h2 | h2
      · exact absurd (.inr h2) h
      · exact congrArg (fun x => 1 + x) (ag_dpt A W k _ (nI_of_inb h2).2)
theorem ag_chR (A : Ag σ σ') {r : Nat} (hr : r < nt σ 3) (h8 : nt σ (800 + r) ≤ 120) : chR σ' r = chR σ r := by
  obtain ⟨a1, a2, a3, a4, a5⟩ := A.2.2.1 r hr
  funext s
  unfold chR
  rw [nt_eq a2]
  by_cases c : s < nt σ (800 + r)
  · rw [if_pos c, if_pos c, a4 s (by omega)]
  · rw [if_neg c, if_neg c]
theorem ag_sV (A : Ag σ σ') (N : Nat → Int32) {r : Nat} (s : Nat) (hr : r < nt σ 3) (h8 : nt σ (800 + r) ≤ 120) : sV σ' N r s = sV σ N r s := by
  unfold sV
  rw [ag_chR A hr h8]
theorem ag_clI (A : Ag σ σ') (N : Nat → Int32) (w : Int32) {r : Nat} (hr : r < nt σ 3) (h8 : nt σ (800 + r) ≤ 120) (h18 : nt σ (1890 + r) ≤ 8) (hR : nt σ 3 < 100) {b0 : Int32} (hb : b0 = -1 ∨ ∃ c, c < 8 * r ∧ b0 = nI c ∧ c % 8 < nt σ (1890 + c / 8)) : ∀ k, k ≤ nt σ (1890 + r) → clI σ' N w r b0 k = clI σ N w r b0 k
  | 0, _ => rfl
  | k + 1, hk => by
    obtain ⟨a1, a2, a3, a4, a5⟩ := A.2.2.1 r hr
    obtain ⟨d1, d2, d3⟩ := a5 k (by omega)
    have hh : hldS σ' N r k = hldS σ N r k := by
      unfold hldS
      rw [d3, nt_eq d3, ag_sV A N _ hr h8]
    have e790 : ∀ d, clI σ N w r b0 k = d → (d = -1 ∨ σ' (790 + d.toNatClampNeg / 8) ≤ σ' (790 + r)) = (d = -1 ∨ σ (790 + d.toNatClampNeg / 8) ≤ σ (790 + r)) := fun d hd => by
      rcases clI_rng (N := N) (w := w) h18 hb k (by omega) with h | ⟨c, c1, c2, -⟩
      · rw [← hd, h]; simp
      · rw [← hd, c2, nI_cl (by omega), (A.2.2.1 (c / 8) (by omega)).1, a1]
    unfold clI
    rw [ag_clI A N w hr h8 h18 hR hb k (by omega), d1, hh]
    simp only [e790 _ rfl]
theorem ag_clA (A : Ag σ σ') (H : ∀ r, r < nt σ 3 → nt σ (800 + r) ≤ 120 ∧ nt σ (1890 + r) ≤ 8) (hR : nt σ 3 < 100) (N : Nat → Int32) (w m : Int32) : ∀ r, r ≤ nt σ 3 → clA σ' N w m r = clA σ N w m r
  | 0, _ => rfl
  | r + 1, hr => by
    have ih := ag_clA A H hR N w m r (by omega)
    obtain ⟨h8, h18⟩ := H r (by omega)
    obtain ⟨a1, a2, a3, a4, a5⟩ := A.2.2.1 r (by omega)
    have hrng := clA_rng (σ := σ) (N := N) (w := w) (m := m) (R := nt σ 3) (fun r hr => (H r hr).2) r (by omega)
    unfold clA
    rw [ih, a1, nt_eq a3, ag_clI A N w (by omega) h8 h18 hR hrng _ (Nat.le_refl _)]
theorem ag_ruV (A : Ag σ σ') (H : ∀ r, r < nt σ 3 → nt σ (800 + r) ≤ 120 ∧ nt σ (1890 + r) ≤ 8) (hR : nt σ 3 < 100) (N : Nat → Int32) (w m : Int32) : ruV σ' N w m = ruV σ N w m := by
  unfold ruV
  rw [nt_eq A.1.2.1, ag_clA A H hR N w m _ (Nat.le_refl _)]
  rcases clA_rng (σ := σ) (N := N) (w := w) (m := m) (R := nt σ 3) (fun r hr => (H r hr).2) (nt σ 3) (Nat.le_refl _) with h | ⟨c, c1, c2, c3⟩
  · rw [h, if_pos rfl, if_pos rfl]
  · have h18 := (H (c / 8) (by omega)).2
    obtain ⟨-, d2, -⟩ := (A.2.2.1 (c / 8) (by omega)).2.2.2.2 (c % 8) (by omega)
    rw [show 8 * (c / 8) + c % 8 = c by omega] at d2
    rw [c2, nI_cl (by omega), nt_eq d2, ag_sV A N _ (by omega) (H (c / 8) (by omega)).1]
theorem ag_arS (A : Ag σ σ') (W : Wm σ) {f : Nat} (hf : f < nt σ 1) : ∀ m, arS σ' f m = arS σ f m
  | 0 => rfl
  | m + 1 => by
    have h2 : nt σ 2 ≤ 120 := by have := (nt_inb W.1.2.2.1).2; omega
    have ih := ag_arS A W hf m
    obtain ⟨wn, wb, wl, wr, wp, wt, ⟨C, R⟩⟩ := W
    have hF10 : f < 10 := by have := (nt_inb wn.2.1).2; omega
    have hR : nt σ 3 < 100 := by have := (nt_inb wn.2.2.2.1).2; omega
    have H : ∀ r, r < nt σ 3 → nt σ (800 + r) ≤ 120 ∧ nt σ (1890 + r) ≤ 8 := fun r hr => by
      obtain ⟨-, -, r3, l, -, l2, -, l4, -⟩ := R.2 r hr
      refine ⟨by have := (nt_inb r3).2; omega, ?_⟩
      unfold nt
      rw [l4, nI_cl (by omega)]; exact l2
    have hc : cel σ f < 48 := (nI_of_inb (wl.2.1 f hf).1).2
    have hcel : cel σ' f = cel σ f := nt_eq (A.2.1 (164 + f) (by omega) (by omega))
    have hNm : ∀ u k o, Nm σ' f u k o = Nm σ f u k o := fun u k o => by
      unfold Nm
      rw [A.2.1 (174 + f) (by omega) (by omega), hcel]
      have : mil σ' (cel σ f) = mil σ (cel σ f) := ag_dpt A wl.2.2 48 _ hc
      rw [this]
    have hbl : ∀ o, blS σ' f m o = blS σ f m o := fun o => by
      unfold blS
      rw [ag_svd A h2, ag_unS A h2, ag_kd A h2, hNm, ag_ruV A H hR, ag_ruV A H hR]
    show lmt (arL σ' f m (arS σ' f m) (arN σ' f m (arS σ' f m))) = lmt (arL σ f m (arS σ f m) (arN σ f m (arS σ f m)))
    rw [ih]
    generalize arS σ f m = v
    have hN : arN σ' f m v = arN σ f m v := by
      unfold arN
      rw [hbl, A.2.2.2 (3490 + (121 * f + m)) (by omega)]
    rw [hN]
    unfold arL
    rw [ag_kd A h2, hNm, ag_ruV A H hR]
end AG
theorem Ag_refl (σ : Nat → Int32) : Ag σ σ := ⟨⟨rfl, rfl, rfl⟩, fun _ _ _ => rfl, fun _ _ => ⟨rfl, rfl, rfl, fun _ _ => rfl, fun _ _ => ⟨rfl, rfl, rfl⟩⟩, fun _ _ => rfl⟩
/-- caches that hold over a change that arrears don't look at -/
theorem Cv_ag {M M' : Mem} {k : Nat} (A : Ag (M.1 95) (M'.1 95)) (W : Wm (M.1 95)) (h1 : M'.1 95 1 = M.1 95 1) (h108 : M'.1 108 = M.1 108) (h109 : M'.1 109 = M.1 109) (h110 : M'.1 110 = M.1 110) (h111 : M'.1 111 = M.1 111) (U : CvU M k) (V : CvA M k) : CvU M' k ∧ CvA M' k := by
  have h2 : nt (M.1 95) 2 ≤ 120 := by have := (nt_inb W.1.2.2.1).2; omega
  refine ⟨⟨by rw [h109]; exact U.1, fun g hg hgk m hm => ?_⟩, ⟨by rw [h111]; exact V.1, fun g hg hgk m hm => ?_⟩⟩
  · rw [nt_eq h1] at hg
    rw [h109] at hgk
    rw [h108, ag_unS A h2]; exact U.2 g hg hgk m hm
  · rw [nt_eq h1] at hg
    rw [h111] at hgk
    rw [h110, ag_arS A W hg]; exact V.2 g hg hgk m hm
/-- a new stamp: no cache is of it -/
theorem Cv_new {M M' : Mem} {k : Nat} (hk : k < 2147483647) (h109 : M'.1 109 = M.1 109) (h111 : M'.1 111 = M.1 111) (hF : nt (M'.1 95) 1 ≤ 10) (U : CvU M k) (V : CvA M k) {k' : Nat} (hk' : k < k') (hk2 : k' < 2147483648) : CvU M' k' ∧ CvA M' k' := by
  refine ⟨⟨fun g hg => ?_, fun g hg hgk m hm => ?_⟩, ⟨fun g hg => ?_, fun g hg hgk m hm => ?_⟩⟩
  · obtain ⟨j, j1, j2⟩ := U.1 g hg
    exact ⟨j, by omega, by rw [h109]; exact j2⟩
  · obtain ⟨j, j1, j2⟩ := U.1 g (by omega)
    rw [h109, j2] at hgk
    have := (nI_inj (by omega) (by omega)).mp hgk
    omega
  · obtain ⟨j, j1, j2⟩ := V.1 g hg
    exact ⟨j, by omega, by rw [h111]; exact j2⟩
  · obtain ⟨j, j1, j2⟩ := V.1 g (by omega)
    rw [h111, j2] at hgk
    have := (nI_inj (by omega) (by omega)).mp hgk
    omega
