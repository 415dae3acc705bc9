section
/-- rows that differ in the line alone -/
def Al (σ σ' : Nat → Int32) : Prop := ∀ j, j ≠ 5 → ¬ (116 ≤ j ∧ j < 164) → σ' j = σ j
theorem Al_r {σ σ' : Nat → Int32} (A : Al σ σ') (r : Nat) (hr : r < nt σ 3) : σ' (790 + r) = σ (790 + r) ∧ σ' (800 + r) = σ (800 + r) ∧ σ' (1890 + r) = σ (1890 + r) ∧ (∀ s, s < 120 → σ' (810 + 120 * r + s) = σ (810 + 120 * r + s)) ∧ ∀ k, k < 8 → σ' (1900 + (8 * r + k)) = σ (1900 + (8 * r + k)) ∧ σ' (1980 + (8 * r + k)) = σ (1980 + (8 * r + k)) ∧ σ' (2060 + (8 * r + k)) = σ (2060 + (8 * r + k)) :=
  ⟨A _ (by omega) (by omega), A _ (by omega) (by omega), A _ (by omega) (by omega), fun s _ => A _ (by omega) (by omega), fun k _ => ⟨A _ (by omega) (by omega), A _ (by omega) (by omega), A _ (by omega) (by omega)⟩⟩
section AL
variable {σ σ' : Nat → Int32}
theorem al_ok (A : Al σ σ') {m : Int32} {n k : Nat} (hk : k < 120) : okE σ' m n k = okE σ m n k := by
  unfold okE
  rw [A (190 + k) (by omega) (by omega), A (670 + k) (by omega) (by omega), A (430 + k) (by omega) (by omega)]
theorem al_dk (A : Al σ σ') (m : Int32) (n f : Nat) : ∀ k, k ≤ 120 → dk σ' m n k f = dk σ m n k f
  | 0, _ => rfl
  | k + 1, hk => by
    have ih := al_dk A m n f k (by omega)
    have e430 : ∀ d, dk σ m n k f = d → (d = -1 ∨ σ' (430 + d.toNatClampNeg) ≤ σ' (430 + k)) = (d = -1 ∨ σ (430 + d.toNatClampNeg) ≤ σ (430 + k)) := fun d hd => by
      rcases dk_spec σ m n f k (by omega) with h | ⟨j, j1, j2, -⟩
      · rw [← hd, h]; simp
      · rw [← hd, j2, nI_cl (by omega), A (430 + j) (by omega) (by omega), A (430 + k) (by omega) (by omega)]
    unfold dk
    rw [ih, al_ok A (by omega), A (310 + k) (by omega) (by omega)]
    simp only [e430 _ rfl]
theorem al_wh (A : Al σ σ') (m : Int32) {n : Nat} (f : Nat) (hn : n ≤ 120) : wh σ' m n f = wh σ m n f := by
  unfold wh
  rw [al_dk A m n f n hn]
  rcases dk_spec σ m n f n (by omega) with h | ⟨j, j1, j2, -⟩
  · rw [h]; rfl
  · rw [j2, nI_cl (by omega), A (190 + j) (by omega) (by omega)]
theorem al_nd (A : Al σ σ') (m : Int32) {n : Nat} (f : Nat) (hn : n ≤ 120) : wav σ' m n f = wav σ m n f ∧ (wav σ m n f = true → nd σ' m n f = nd σ m n f) := by
  refine ⟨by unfold wav; rw [al_wh A m f hn], fun hw => ?_⟩
  unfold nd
  rw [al_dk A m n f n hn]
  rcases dk_spec σ m n f n (by omega) with h | ⟨j, j1, j2, -⟩
  · unfold wav wh at hw
    rw [if_pos h] at hw; exact absurd hw (by decide)
  · rw [j2, nI_cl (by omega), A (550 + j) (by omega) (by omega)]
theorem al_rnds (A : Al σ σ') (m : Int32) {n : Nat} (hn : n ≤ 120) (tk p : Nat → Bool) (k : Nat) : rnds (wav σ' m n) (nd σ' m n) tk p k = rnds (wav σ m n) (nd σ m n) tk p k := by
  induction k with
  | zero => rfl
  | succ k ih =>
    show rnd (wav σ' m n) (nd σ' m n) tk (rnds (wav σ' m n) (nd σ' m n) tk p k) = rnd (wav σ m n) (nd σ m n) tk (rnds (wav σ m n) (nd σ m n) tk p k)
    rw [ih]
    funext f
    unfold rnd
    obtain ⟨h1, h2⟩ := al_nd A m f hn
    rw [h1]
    cases hw : wav σ m n f
    · simp only [Bool.false_and]
    · rw [h2 hw]
theorem al_mb (A : Al σ σ') (m : Int32) {n : Nat} (hn : n ≤ 120) (sg tk : Nat → Bool) : mb σ' m n sg tk = mb σ m n sg tk := by
  unfold mb
  have hp : p0 σ' m n sg tk = p0 σ m n sg tk := by
    funext f
    unfold p0 pm
    rw [al_wh A m f hn]
  rw [hp, al_rnds A m hn tk _ 10]
theorem al_kf (A : Al σ σ') (m : Int32) {n : Nat} (hn : n ≤ 120) (sg tk : Nat → Bool) (f : Nat) : kf σ' m n sg tk f = kf σ m n sg tk f := by
  unfold kf k0
  rw [al_wh A m f hn, al_mb A m hn sg tk]
theorem al_kd (A : Al σ σ') (h2 : nt σ 2 ≤ 120) (f m : Nat) : kd σ' f m = kd σ f m := by
  unfold kd km
  rw [nt_eq (A 2 (by omega) (by omega))]
  exact al_kf A _ h2 _ _ f
theorem al_svd (A : Al σ σ') (h2 : nt σ 2 ≤ 120) (f m : Nat) : svd σ' f m = svd σ f m := by
  unfold svd
  rw [nt_eq (A 2 (by omega) (by omega)), al_wh A _ f h2]
theorem al_mtX (A : Al σ σ') (h2 : nt σ 2 ≤ 120) (f : Nat) : ∀ m, mtX σ' f m = mtX σ f m
  | 0 => rfl
  | m + 1 => by
    show mtS σ' f m (mtX σ' f m) = mtS σ f m (mtX σ f m)
    rw [al_mtX A h2 f m]
    unfold mtS mtU
    rw [al_svd A h2, A (2280 + (121 * f + m)) (by omega) (by omega)]
theorem al_unS (A : Al σ σ') (h2 : nt σ 2 ≤ 120) (f m : Nat) : unS σ' f m = unS σ f m := by
  unfold unS mtN mtU
  rw [al_mtX A h2 f m, al_svd A h2, A (2280 + (121 * f + m)) (by omega) (by omega)]
theorem al_chR (A : Al σ σ') {r : Nat} (hr : r < nt σ 3) (h8 : nt σ (800 + r) ≤ 120) : chR σ' r = chR σ r := by
  obtain ⟨a1, a2, a3, a4, a5⟩ := Al_r A r hr
  funext s
  unfold chR
  rw [nt_eq a2]
  by_cases c : s < nt σ (800 + r)
  · rw [if_pos c, if_pos c, a4 s (by omega)]
  · rw [if_neg c, if_neg c]
theorem al_sV (A : Al σ σ') (N : Nat → Int32) {r : Nat} (s : Nat) (hr : r < nt σ 3) (h8 : nt σ (800 + r) ≤ 120) : sV σ' N r s = sV σ N r s := by
  unfold sV
  rw [al_chR A hr h8]
theorem al_clI (A : Al σ σ') (N : Nat → Int32) (w : Int32) {r : Nat} (hr : r < nt σ 3) (h8 : nt σ (800 + r) ≤ 120) (h18 : nt σ (1890 + r) ≤ 8) (hR : nt σ 3 < 100) {b0 : Int32} (hb : b0 = -1 ∨ ∃ c, c < 8 * r ∧ b0 = nI c ∧ c % 8 < nt σ (1890 + c / 8)) : ∀ k, k ≤ nt σ (1890 + r) → clI σ' N w r b0 k = clI σ N w r b0 k
  | 0, _ => rfl
  | k + 1, hk => by
    obtain ⟨a1, a2, a3, a4, a5⟩ := Al_r A r hr
    obtain ⟨d1, d2, d3⟩ := a5 k (by omega)
    have hh : hldS σ' N r k = hldS σ N r k := by
      unfold hldS
      rw [d3, nt_eq d3, al_sV A N _ hr h8]
    have e790 : ∀ d, clI σ N w r b0 k = d → (d = -1 ∨ σ' (790 + d.toNatClampNeg / 8) ≤ σ' (790 + r)) = (d = -1 ∨ σ (790 + d.toNatClampNeg / 8) ≤ σ (790 + r)) := fun d hd => by
      rcases clI_rng (N := N) (w := w) h18 hb k (by omega) with h | ⟨c, c1, c2, -⟩
      · rw [← hd, h]; simp
      · rw [← hd, c2, nI_cl (by omega), (Al_r A (c / 8) (by omega)).1, a1]
    unfold clI
    rw [al_clI A N w hr h8 h18 hR hb k (by omega), d1, hh]
    simp only [e790 _ rfl]
theorem al_clA (A : Al σ σ') (H : ∀ r, r < nt σ 3 → nt σ (800 + r) ≤ 120 ∧ nt σ (1890 + r) ≤ 8) (hR : nt σ 3 < 100) (N : Nat → Int32) (w m : Int32) : ∀ r, r ≤ nt σ 3 → clA σ' N w m r = clA σ N w m r
  | 0, _ => rfl
  | r + 1, hr => by
    have ih := al_clA A H hR N w m r (by omega)
    obtain ⟨h8, h18⟩ := H r (by omega)
    obtain ⟨a1, a2, a3, a4, a5⟩ := Al_r A r (by omega)
    have hrng := clA_rng (σ := σ) (N := N) (w := w) (m := m) (R := nt σ 3) (fun r hr => (H r hr).2) r (by omega)
    unfold clA
    rw [ih, a1, nt_eq a3, al_clI A N w (by omega) h8 h18 hR hrng _ (Nat.le_refl _)]
theorem al_ruV (A : Al σ σ') (H : ∀ r, r < nt σ 3 → nt σ (800 + r) ≤ 120 ∧ nt σ (1890 + r) ≤ 8) (hR : nt σ 3 < 100) (N : Nat → Int32) (w m : Int32) : ruV σ' N w m = ruV σ N w m := by
  unfold ruV
  rw [nt_eq (A 3 (by omega) (by omega)), al_clA A H hR N w m _ (Nat.le_refl _)]
  rcases clA_rng (σ := σ) (N := N) (w := w) (m := m) (R := nt σ 3) (fun r hr => (H r hr).2) (nt σ 3) (Nat.le_refl _) with h | ⟨c, c1, c2, c3⟩
  · rw [h, if_pos rfl, if_pos rfl]
  · have h18 := (H (c / 8) (by omega)).2
    obtain ⟨-, d2, -⟩ := (Al_r A (c / 8) (by omega)).2.2.2.2 (c % 8) (by omega)
    rw [show 8 * (c / 8) + c % 8 = c by omega] at d2
    rw [c2, nI_cl (by omega), nt_eq d2, al_sV A N _ (by omega) (H (c / 8) (by omega)).1]
theorem al_arS (A : Al σ σ') (W : Wm σ) {f : Nat} (hf : f < nt σ 1) (hml : mil σ' (cel σ f) = mil σ (cel σ f)) : ∀ m, arS σ' f m = arS σ f m
  | 0 => rfl
  | m + 1 => by
    have h2 : nt σ 2 ≤ 120 := by have := (nt_inb W.1.2.2.1).2; omega
    have ih := al_arS A W hf hml m
    obtain ⟨wn, wb, wl, wr, wp, wt, ⟨C, R⟩⟩ := W
    have hF10 : f < 10 := by have := (nt_inb wn.2.1).2; omega
    have hR : nt σ 3 < 100 := by have := (nt_inb wn.2.2.2.1).2; omega
    have H : ∀ r, r < nt σ 3 → nt σ (800 + r) ≤ 120 ∧ nt σ (1890 + r) ≤ 8 := fun r hr => by
      obtain ⟨-, -, r3, l, -, l2, -, l4, -⟩ := R.2 r hr
      refine ⟨by have := (nt_inb r3).2; omega, ?_⟩
      unfold nt
      rw [l4, nI_cl (by omega)]; exact l2
    have hc : cel σ f < 48 := (nI_of_inb (wl.2.1 f hf).1).2
    have hcel : cel σ' f = cel σ f := nt_eq (A (164 + f) (by omega) (by omega))
    have hNm : ∀ u k o, Nm σ' f u k o = Nm σ f u k o := fun u k o => by
      unfold Nm
      rw [A (174 + f) (by omega) (by omega), hcel]
      rw [hml]
    have hbl : ∀ o, blS σ' f m o = blS σ f m o := fun o => by
      unfold blS
      rw [al_svd A h2, al_unS A h2, al_kd A h2, hNm, al_ruV A H hR, al_ruV A H hR]
    show lmt (arL σ' f m (arS σ' f m) (arN σ' f m (arS σ' f m))) = lmt (arL σ f m (arS σ f m) (arN σ f m (arS σ f m)))
    rw [ih]
    generalize arS σ f m = v
    have hN : arN σ' f m v = arN σ f m v := by
      unfold arN
      rw [hbl, A (3490 + (121 * f + m)) (by omega) (by omega)]
    rw [hN]
    unfold arL
    rw [al_kd A h2, hNm, al_ruV A H hR]
end AL
theorem Al_refl (σ : Nat → Int32) : Al σ σ := fun _ _ _ => rfl
end
