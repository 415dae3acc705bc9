section
section BG
variable {σ τ : Nat → Int32} {D : Nat → Nat} {c K : Nat}
theorem al_cst (A : Al σ τ) {a b : Nat} (ha : a < 48) (hb : b < 48) : cst τ a b = cst σ a b := by
  unfold cst
  rw [A (20 + a) (by omega) (by omega), A (20 + b) (by omega) (by omega), A (68 + a) (by omega) (by omega), A (68 + b) (by omega) (by omega)]
theorem al_okW (A : Al σ τ) : okW τ = okW σ := by
  funext a b
  unfold okW
  by_cases ha : a < 48
  · by_cases hb : b < 48
    · rw [al_cst A ha hb]
    · rw [decide_eq_false hb, Bool.false_and, Bool.false_and]
  · rw [decide_eq_false ha, Bool.false_and, Bool.false_and]
theorem al_wW (A : Al σ τ) {a b : Nat} (h : okW σ a b = true) : wW τ a b = wW σ a b := by
  obtain ⟨ha, hb⟩ := okW_lt a b h
  unfold wW
  rw [al_cst A ha hb]
theorem al_tgt (A : Al σ τ) : tgt τ D = tgt σ D := by
  funext x a
  unfold tgt
  rw [al_okW A]
  cases h : okW σ a x
  · rw [Bool.false_and, Bool.false_and]
  · rw [al_wW A h]
theorem al_nx (A : Al σ τ) : nx τ D = nx σ D := by
  funext x
  unfold nx
  rw [al_tgt A]
theorem al_pth (A : Al σ τ) (c : Nat) : ∀ k, pth τ D c k = pth σ D c k
  | 0 => rfl
  | k + 1 => by
    show nx τ D (pth τ D c k) = nx σ D (pth σ D c k)
    rw [al_nx A, al_pth A c k]
theorem al_pmem (A : Al σ τ) (c i : Nat) : ∀ k, pmem τ D c i k = pmem σ D c i k
  | 0 => rfl
  | k + 1 => by
    unfold pmem
    rw [al_pmem A c i k, al_pth A]
theorem al_Way (A : Al σ τ) (h : Way σ D c K) : Way τ D c K := by
  obtain ⟨h1, h2, h3, h4⟩ := h
  refine ⟨h1, fun k hk => ?_, by rw [al_pth A]; exact h3, fun k hk => by rw [al_pth A]; exact h4 k hk⟩
  rw [al_pth A, al_pth A, al_tgt A]
  exact h2 k hk
theorem al_isD (A : Al σ τ) {f : Nat → Nat} (h : isD (okW σ) (wW σ) f D) : isD (okW τ) (wW τ) f D := by
  rw [al_okW A]
  refine ⟨h.1, fun a b ha hb hab => by rw [al_wW A hab]; exact h.2.1 a b ha hb hab, fun G g1 g2 => h.2.2 G g1 (fun a b ha hb hab => by
    have := g2 a b ha hb hab
    rw [al_wW A hab] at this; exact this)⟩
theorem al_cel (A : Al σ τ) (f : Nat) : cel τ f = cel σ f := nt_eq (A (164 + f) (by omega) (by omega))
theorem al_onW (A : Al σ τ) : onW τ D c K = onW σ D c K := by
  funext f
  unfold onW
  rw [nt_eq (A 1 (by omega) (by omega)), al_pmem A, al_cel A]
theorem al_mbN (A : Al σ τ) (h2 : nt σ 2 ≤ 120) : mbN τ = mbN σ := by
  unfold mbN
  rw [nt_eq (A 2 (by omega) (by omega)), A 0 (by omega) (by omega), al_mb A _ h2]
theorem al_rlS (A : Al σ τ) (W : Wm σ) {f : Nat} (hf : f < nt σ 1) (hml : mil τ (cel σ f) = mil σ (cel σ f)) (w u : Int32) (m : Nat) : rlS τ w f m u = rlS σ w f m u := by
  have h2 : nt σ 2 ≤ 120 := by have := (nt_inb W.1.2.2.1).2; omega
  have W0 := W
  obtain ⟨wn, wb, wl, wr, wp, wt, ⟨C, R⟩⟩ := W
  have hR : nt σ 3 < 100 := by have := (nt_inb wn.2.2.2.1).2; omega
  have hF10 : f < 10 := by have := (nt_inb wn.2.1).2; omega
  have H : ∀ r, r < nt σ 3 → nt σ (800 + r) ≤ 120 ∧ nt σ (1890 + r) ≤ 8 := fun r hr => by
    obtain ⟨-, -, r3, l, -, l2, -, l4, -⟩ := R.2 r hr
    refine ⟨by have := (nt_inb r3).2; omega, ?_⟩
    unfold nt
    rw [l4, nI_cl (by omega)]; exact l2
  unfold rlS
  rw [al_kd A h2, al_arS A W0 hf hml]
  have hNm : ∀ o k, Nm τ f u k o = Nm σ f u k o := fun o k => by
    unfold Nm
    rw [A (174 + f) (by omega) (by omega), al_cel A, hml]
  rw [hNm, al_ruV A H hR]
/-- least stretches from a line -/
def Dt (σ τ : Nat → Int32) : Nat → Nat := rnR (okW σ) (wW σ) prC 192 (iniF τ) 48
theorem isD_Dt (wl : wLand σ) : isD (okW σ) (wW σ) (iniF τ) (Dt σ τ) := by
  obtain ⟨D', hD⟩ := isD_ex (ok := okW σ) (w := wW σ) okW_lt (lsum (iniF τ) 48) (iniF τ) (Nat.le_refl _)
  have he : ∀ c, c < 48 → Dt σ τ c = D' c := rn_48 okW_lt (fun a b h => (wW_bnd wl a b h).1) covC hD
  refine ⟨fun c hc => by rw [he c hc]; exact hD.1 c hc, fun a b ha hb hab => by rw [he a ha, he b hb]; exact hD.2.1 a b ha hb hab, fun G g1 g2 c hc => by rw [he c hc]; exact hD.2.2 G g1 g2 c hc⟩
def Kt (σ : Nat → Int32) (D : Nat → Nat) (c : Nat) : Nat := lstF (fun k => decide (D (pth σ D c k) = 0)) 48 0
theorem Way_Kt (h : Way σ D c K) : Way σ D c (Kt σ D c) := by
  have : Kt σ D c = K := by
    obtain ⟨h1, h2, h3, h4⟩ := h
    obtain ⟨-, p2, p3, p4⟩ := lstF_s (p := fun k => decide (D (pth σ D c k) = 0)) 48 0 ⟨K, by omega, by omega, decide_eq_true h3⟩
    have p3 : D (pth σ D c (Kt σ D c)) = 0 := of_decide_eq_true p3
    have p4 : ∀ b, b < Kt σ D c → ¬ D (pth σ D c b) = 0 := fun b hb => of_decide_eq_false (p4 b (Nat.zero_le _) hb)
    rcases Nat.lt_trichotomy (Kt σ D c) K with g | g | g
    · have := (h2 _ g).1; omega
    · exact g
    · exact absurd h3 (p4 K g)
  rw [this]; exact h
theorem D_on (wl : wLand σ) (h : isD (okW σ) (wW σ) (iniF τ) D) {c : Nat} (hc : c < 48) : D c = 0 ↔ onL τ c = true := by
  constructor
  · intro h0
    cases g : onL τ c
    · exfalso
      have hlt : D c < iniF τ c := by unfold iniF; rw [g, if_neg (by decide)]; omega
      obtain ⟨a, a1, a2, a3⟩ := isD_tight h (fun a b h => (wW_bnd wl a b h).1) hc hlt
      have := (wW_bnd wl _ _ a2).1
      omega
    · rfl
  · intro g
    have := h.1 c hc
    unfold iniF at this
    rw [if_pos g] at this; omega
theorem way_dec (wl : wLand σ) (h : Way σ D c K) : ∀ d i, i + d ≤ K → 1 ≤ d → D (pth σ D c (i + d)) < D (pth σ D c i)
  | 0, i, _, h1 => absurd h1 (by omega)
  | d + 1, i, hd, _ => by
    obtain ⟨-, -, t1, -⟩ := h.2.1 (i + d) (by omega)
    unfold tgt at t1
    rw [Bool.and_eq_true, decide_eq_true_eq] at t1
    have hw := (wW_bnd wl _ _ t1.1).1
    rw [show i + (d + 1) = i + d + 1 by omega]
    by_cases g : d = 0
    · subst g
      simp only [Nat.add_zero] at t1 hw ⊢
      omega
    · have := way_dec wl h d i (by omega) (by omega)
      omega
theorem way_inj (wl : wLand σ) (h : Way σ D c K) {i j : Nat} (hi : i ≤ K) (hj : j ≤ K) (e : pth σ D c i = pth σ D c j) : i = j := by
  rcases Nat.lt_trichotomy i j with g | g | g
  · have := way_dec wl h (j - i) i (by omega) (by omega)
    rw [show i + (j - i) = j by omega, e] at this; omega
  · exact g
  · have := way_dec wl h (i - j) j (by omega) (by omega)
    rw [show j + (i - j) = i by omega, e] at this; omega
/-- a way laid on the line, as the model lays it -/
def ly (τ : Nat → Int32) (p : Nat → Nat) : Nat → Nat → Int32
  | 0 => τ
  | k + 1 => updZ (updZ (ly τ p k) (116 + p k) (nI (p (k + 1)))) 5 (ly τ p k 5 + 1)
/-- and as the class does -/
def lyR (τ : Nat → Int32) (p : Nat → Nat) (K : Nat) : Nat → Nat → Int32
  | 0 => τ
  | j + 1 => updZ (updZ (lyR τ p K j) (116 + p (K - 1 - j)) (nI (p (K - j)))) 5 (lyR τ p K j 5 + 1)
def tdR (t : Nat → Int32) (p : Nat → Nat) (N K : Nat) : Nat → Nat → Int32
  | 0 => t
  | j + 1 => updZ (tdR t p N K j) (N + j) (nI (p (K - 1 - j)))
variable {p : Nat → Nat}
theorem ly_5 : ∀ k, ly τ p k 5 = τ 5 + nI k
  | 0 => (Int32.add_zero _).symm
  | k + 1 => by
    rw [show ly τ p (k + 1) 5 = ly τ p k 5 + 1 from updZ_e, ly_5 k, Int32.add_assoc, nI_one]
theorem lyR_5 : ∀ k, lyR τ p K k 5 = τ 5 + nI k
  | 0 => (Int32.add_zero _).symm
  | k + 1 => by
    rw [show lyR τ p K (k + 1) 5 = lyR τ p K k 5 + 1 from updZ_e, lyR_5 k, Int32.add_assoc, nI_one]
theorem ly_o {j : Nat} (h5 : j ≠ 5) : ∀ k, (∀ i, i < k → j ≠ 116 + p i) → ly τ p k j = τ j
  | 0, _ => rfl
  | k + 1, h => by
    rw [show ly τ p (k + 1) j = updZ (ly τ p k) (116 + p k) (nI (p (k + 1))) j from updZ_n h5, updZ_n (h k (by omega)), ly_o h5 k (fun i hi => h i (by omega))]
theorem ly_at (hi : ∀ i j, i ≤ K → j ≤ K → p i = p j → i = j) {i : Nat} : ∀ k, i < k → k ≤ K → ly τ p k (116 + p i) = nI (p (i + 1))
  | 0, h, _ => absurd h (by omega)
  | k + 1, h, hk => by
    rw [show ly τ p (k + 1) (116 + p i) = updZ (ly τ p k) (116 + p k) (nI (p (k + 1))) (116 + p i) from updZ_n (by omega)]
    by_cases g : i = k
    · rw [g, updZ_e]
    · rw [updZ_n (fun e => g (hi i k (by omega) (by omega) (by omega)))]
      exact ly_at hi k (by omega) (by omega)
theorem lyR_o {j : Nat} (h5 : j ≠ 5) : ∀ k, k ≤ K → (∀ i, K - k ≤ i → i < K → j ≠ 116 + p i) → lyR τ p K k j = τ j
  | 0, _, _ => rfl
  | k + 1, hk, h => by
    rw [show lyR τ p K (k + 1) j = updZ (lyR τ p K k) (116 + p (K - 1 - k)) (nI (p (K - k))) j from updZ_n h5, updZ_n (h (K - 1 - k) (by omega) (by omega)), lyR_o h5 k (by omega) (fun i h1 h2 => h i (by omega) h2)]
theorem lyR_at (hi : ∀ i j, i ≤ K → j ≤ K → p i = p j → i = j) {i : Nat} : ∀ k, k ≤ K → K - k ≤ i → i < K → lyR τ p K k (116 + p i) = nI (p (i + 1))
  | 0, _, h1, h2 => absurd h1 (by omega)
  | k + 1, hk, h1, h2 => by
    rw [show lyR τ p K (k + 1) (116 + p i) = updZ (lyR τ p K k) (116 + p (K - 1 - k)) (nI (p (K - k))) (116 + p i) from updZ_n (by omega)]
    by_cases g : i = K - 1 - k
    · rw [g, updZ_e, show K - k = K - 1 - k + 1 by omega]
    · rw [updZ_n (fun e => g (hi i (K - 1 - k) (by omega) (by omega) (by omega)))]
      exact lyR_at hi k (by omega) (by omega) h2
/-- both lay the same -/
theorem ly_lyR (hi : ∀ i j, i ≤ K → j ≤ K → p i = p j → i = j) : ly τ p K = lyR τ p K K := by
  funext j
  by_cases h5 : j = 5
  · rw [h5, ly_5, lyR_5]
  · by_cases g : ∃ i, i < K ∧ j = 116 + p i
    · obtain ⟨i, i1, rfl⟩ := g
      rw [ly_at hi K i1 (Nat.le_refl _), lyR_at hi K (Nat.le_refl _) (by omega) i1]
    · rw [ly_o h5 K (fun i hi e => g ⟨i, hi, e⟩), lyR_o h5 K (Nat.le_refl _) (fun i _ hi e => g ⟨i, hi, e⟩)]
theorem ly_Al (hp : ∀ k, k ≤ K → p k < 48) : ∀ k, k ≤ K → Al τ (ly τ p k) := fun k hk j h5 hj => ly_o h5 k (fun i hi e => hj (by have := hp i (by omega); omega))
theorem Tree_cg {σ' t t' : Nat → Int32} (T : Tree σ t) (h5 : σ' 5 = σ 5) (h9 : σ' 9 = σ 9) (hc : ∀ c, c < 48 → σ' (116 + c) = σ (116 + c)) (ht : ∀ i, i < nt σ 5 → t' i = t i) : Tree σ' t' := by
  obtain ⟨t1, t2, t3⟩ := T
  have n5 := nt_eq h5
  refine ⟨fun i hi => ?_, fun i j hi hj e => ?_, fun c h => ?_⟩
  · rw [n5] at hi
    obtain ⟨c, c1, c2, c3, c4⟩ := t1 i hi
    refine ⟨c, c1, (ht i hi).trans c2, by rw [h9]; exact c3, ?_⟩
    rw [hc c c1, h9]
    rcases c4 with g | ⟨j, j1, j2⟩
    · exact .inl g
    · exact .inr ⟨j, j1, by rw [ht j (by omega)]; exact j2⟩
  · rw [n5] at hi hj
    rw [ht i hi, ht j hj] at e
    exact t2 i j hi hj e
  · rw [hc c h, t3 c h, n5]
    constructor
    · rintro ⟨i, i1, i2⟩; exact ⟨i, i1, by rw [ht i i1]; exact i2⟩
    · rintro ⟨i, i1, i2⟩; exact ⟨i, i1, by rw [← ht i i1]; exact i2⟩
theorem off_s {c : Nat} (h : onL τ c = false) : nI c ≠ τ 9 ∧ τ (116 + c) = -1 := by
  unfold onL at h
  rw [Bool.or_eq_false_iff, decide_eq_false_iff_not, Bool.not_eq_false', decide_eq_true_eq] at h
  exact h
/-- the line stays a tree -/
theorem lyR_tree {t : Nat → Int32} (T : Tree τ t) (h9 : inb (τ 9) 48 = true) (h5 : inb (τ 5) 48 = true) (hp : ∀ k, k ≤ K → p k < 48) (hi : ∀ i j, i ≤ K → j ≤ K → p i = p j → i = j) (hon : onL τ (p K) = true) (hoff : ∀ k, k < K → onL τ (p k) = false) : ∀ j, j ≤ K → Tree (lyR τ p K j) (tdR t p (nt τ 5) K j) ∧ lyR τ p K j 9 = τ 9 ∧ inb (lyR τ p K j 5) 48 = true ∧ nt (lyR τ p K j) 5 = nt τ 5 + j
  | 0, _ => ⟨T, rfl, h5, rfl⟩
  | j + 1, hj => by
    obtain ⟨i1, i2, i3, i4⟩ := lyR_tree T h9 h5 hp hi hon hoff j (by omega)
    obtain ⟨o1, o2⟩ := off_s (hoff (K - 1 - j) (by omega))
    have hd := hp (K - 1 - j) (by omega)
    have hc := hp (K - j) (by omega)
    have hdm : lyR τ p K j (116 + p (K - 1 - j)) = -1 := by
      rw [lyR_o (by omega) j (by omega) (fun i h1 h2 e => by have := hi i (K - 1 - j) (by omega) (by omega) (by omega); omega)]; exact o2
    have hoffd : onL (lyR τ p K j) (p (K - 1 - j)) = false := by
      unfold onL
      rw [i2, decide_eq_false o1, hdm]; rfl
    have honc : onL (lyR τ p K j) (p (K - j)) = true := by
      by_cases g : j = 0
      · rw [g]; exact hon
      · unfold onL
        have := lyR_at (τ := τ) hi j (by omega) (show K - j ≤ K - j from Nat.le_refl _) (by omega)
        rw [this, decide_eq_false (show ¬ nI (p (K - j + 1)) = -1 from nI_ne_m1 (by have := hp (K - j + 1) (by omega); omega)), Bool.not_false, Bool.or_true]
    have hroom := tree_room i1 (by rw [i2]; exact h9) hd (by rw [i2]; exact o1) hdm
    obtain ⟨e5', -⟩ := nt_inb i3
    have e5n : lyR τ p K (j + 1) 5 = nI (nt (lyR τ p K j) 5 + 1) := by
      rw [show lyR τ p K (j + 1) 5 = lyR τ p K j 5 + 1 from updZ_e, e5', nI_one]
    have hne : p (K - j) ≠ p (K - 1 - j) := fun e => by have := hi (K - j) (K - 1 - j) (by omega) (by omega) e; omega
    have e9n : lyR τ p K (j + 1) 9 = lyR τ p K j 9 := by
      rw [show lyR τ p K (j + 1) 9 = updZ (lyR τ p K j) (116 + p (K - 1 - j)) (nI (p (K - j))) 9 from updZ_n (by omega), updZ_n (by omega)]
    refine ⟨tree_add i1 (by rw [i2]; exact h9) hc hd hne honc hoffd e9n e5n ?_ (fun x hx hxd => ?_) (fun i hi' => ?_) ?_, e9n.trans i2, by rw [e5n]; exact inb_t (by omega) (by omega), ?_⟩
    · rw [show lyR τ p K (j + 1) (116 + p (K - 1 - j)) = updZ (lyR τ p K j) (116 + p (K - 1 - j)) (nI (p (K - j))) (116 + p (K - 1 - j)) from updZ_n (by omega), updZ_e]
    · rw [show lyR τ p K (j + 1) (116 + x) = updZ (lyR τ p K j) (116 + p (K - 1 - j)) (nI (p (K - j))) (116 + x) from updZ_n (by omega), updZ_n (by omega)]
    · rw [i4] at hi'
      exact updZ_n (by omega)
    · rw [i4]
      exact updZ_e
    · unfold nt at i4 hroom ⊢
      rw [e5n, nI_cl (by unfold nt; omega)]
      unfold nt
      omega
end BG
end
