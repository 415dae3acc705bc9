section RE
def lstF (p : Nat → Bool) : Nat → Nat → Nat
  | 0, i => i
  | n + 1, i => if p i = true then i else lstF p n (i + 1)
theorem lstF_s {p : Nat → Bool} : ∀ n i, (∃ a, i ≤ a ∧ a < i + n ∧ p a = true) → i ≤ lstF p n i ∧ lstF p n i < i + n ∧ p (lstF p n i) = true ∧ ∀ b, i ≤ b → b < lstF p n i → p b = false
  | 0, i, ⟨a, h1, h2, _⟩ => by omega
  | n + 1, i, ⟨a, h1, h2, h3⟩ => by
    unfold lstF
    by_cases c : p i = true
    · rw [if_pos c]
      exact ⟨by omega, by omega, c, fun b h4 h5 => by omega⟩
    · rw [if_neg c]
      have hne : a ≠ i := fun e => c (by rw [← e]; exact h3)
      obtain ⟨i1, i2, i3, i4⟩ := lstF_s n (i + 1) ⟨a, by omega, by omega, h3⟩
      refine ⟨by omega, by omega, i3, fun b h4 h5 => ?_⟩
      by_cases g : b = i
      · rw [g]; cases h : p i
        · rfl
        · exact absurd h c
      · exact i4 b (by omega) h5
def tgt (σ : Nat → Int32) (D : Nat → Nat) (c a : Nat) : Bool := okW σ a c && decide (D a + wW σ a c = D c)
/-- the least cell that leads on -/
def nx (σ : Nat → Int32) (D : Nat → Nat) (c : Nat) : Nat := lstF (tgt σ D c) 48 0
def pth (σ : Nat → Int32) (D : Nat → Nat) (c : Nat) : Nat → Nat
  | 0 => c
  | k + 1 => nx σ D (pth σ D c k)
def pmem (σ : Nat → Int32) (D : Nat → Nat) (c i : Nat) : Nat → Bool
  | 0 => false
  | k + 1 => pmem σ D c i k || decide (i = pth σ D c k)
def iniF (σ : Nat → Int32) (c : Nat) : Nat := if onL σ c = true then 0 else 1000000
/-- the way from a cell: K steps -/
def Way (σ : Nat → Int32) (D : Nat → Nat) (c K : Nat) : Prop := K ≤ 47 ∧ (∀ k, k < K → 0 < D (pth σ D c k) ∧ D (pth σ D c k) < 1000000 ∧ tgt σ D (pth σ D c k) (pth σ D c (k + 1)) = true ∧ ∀ b, b < pth σ D c (k + 1) → tgt σ D (pth σ D c k) b = false) ∧ D (pth σ D c K) = 0 ∧ ∀ k, k ≤ K → pth σ D c k < 48
theorem nb_ord : ∀ c, c < 48 → ∀ t, t < 4 → ∀ s, s < t → (decide (nbN c s = 48) || (decide (nbN c t = 48) || decide (nbN c s < nbN c t))) = true := by decide +kernel
variable {σ τ : Nat → Int32} {M : Mem} {D : Nat → Nat}
theorem nx_s (wl : wLand σ) (h : isD (okW σ) (wW σ) (iniF τ) D) {c : Nat} (hc : c < 48) (h0 : 0 < D c) (h1 : D c < 1000000) : nx σ D c < 48 ∧ tgt σ D c (nx σ D c) = true ∧ ∀ b, b < nx σ D c → tgt σ D c b = false := by
  have hlt : D c < iniF τ c := by
    have := h.1 c hc
    unfold iniF at this ⊢
    split at this
    · omega
    · next g => rw [if_neg g]; exact h1
  obtain ⟨a, a1, a2, a3⟩ := isD_tight h (fun a b h => (wW_bnd wl a b h).1) hc hlt
  obtain ⟨-, p2, p3, p4⟩ := lstF_s (p := tgt σ D c) 48 0 ⟨a, by omega, by omega, by unfold tgt; rw [a2, decide_eq_true a3]; rfl⟩
  exact ⟨by unfold nx; omega, p3, fun b hb => p4 b (Nat.zero_le _) hb⟩
theorem way_ex (wl : wLand σ) (h : isD (okW σ) (wW σ) (iniF τ) D) {c : Nat} (hc : c < 48) (h1 : D c < 1000000) : ∃ K, Way σ D c K := by
  have hst : ∀ k, pth σ D c k < 48 → D (pth σ D c k) < 1000000 → 0 < D (pth σ D c k) → pth σ D c (k + 1) < 48 ∧ tgt σ D (pth σ D c k) (pth σ D c (k + 1)) = true ∧ (∀ b, b < pth σ D c (k + 1) → tgt σ D (pth σ D c k) b = false) ∧ D (pth σ D c (k + 1)) < D (pth σ D c k) := by
    intro k k1 k2 k3
    obtain ⟨p1, p2, p3⟩ := nx_s wl h k1 k3 k2
    refine ⟨p1, p2, p3, ?_⟩
    unfold tgt at p2
    rw [Bool.and_eq_true, decide_eq_true_eq] at p2
    have := (wW_bnd wl _ _ p2.1).1
    show D (nx σ D (pth σ D c k)) < _
    omega
  have key : ∀ n, (∃ K, K ≤ n ∧ (∀ k, k < K → 0 < D (pth σ D c k)) ∧ D (pth σ D c K) = 0 ∧ ∀ k, k ≤ K → pth σ D c k < 48 ∧ D (pth σ D c k) < 1000000) ∨ ((∀ k, k ≤ n → 0 < D (pth σ D c k)) ∧ ∀ k, k ≤ n → pth σ D c k < 48 ∧ D (pth σ D c k) < 1000000) := by
    intro n
    induction n with
    | zero =>
      by_cases g : D c = 0
      · exact .inl ⟨0, Nat.le_refl _, fun k hk => by omega, g, fun k hk => by rw [show k = 0 by omega]; exact ⟨hc, h1⟩⟩
      · exact .inr ⟨fun k hk => by rw [show k = 0 by omega]; exact Nat.pos_of_ne_zero g, fun k hk => by rw [show k = 0 by omega]; exact ⟨hc, h1⟩⟩
    | succ n ih =>
      rcases ih with ⟨K, k1, k2⟩ | ⟨k1, k2⟩
      · exact .inl ⟨K, by omega, k2⟩
      · obtain ⟨q1, q2, q3, q4⟩ := hst n (k2 n (Nat.le_refl _)).1 (k2 n (Nat.le_refl _)).2 (k1 n (Nat.le_refl _))
        have hall : ∀ k, k ≤ n + 1 → pth σ D c k < 48 ∧ D (pth σ D c k) < 1000000 := fun k hk => by
          by_cases g : k = n + 1
          · rw [g]; exact ⟨q1, by have := (k2 n (Nat.le_refl _)).2; omega⟩
          · exact k2 k (by omega)
        by_cases g : D (pth σ D c (n + 1)) = 0
        · exact .inl ⟨n + 1, Nat.le_refl _, fun k hk => k1 k (by omega), g, hall⟩
        · exact .inr ⟨fun k hk => by
            by_cases g2 : k = n + 1
            · rw [g2]; exact Nat.pos_of_ne_zero g
            · exact k1 k (by omega), hall⟩
  have hinj : ∀ n, (∀ k, k < n → 0 < D (pth σ D c k)) → (∀ k, k ≤ n → pth σ D c k < 48 ∧ D (pth σ D c k) < 1000000) → n + 1 ≤ 48 := by
    intro n k1 k2
    have hdec : ∀ d i, i + d + 1 ≤ n → D (pth σ D c (i + d + 1)) < D (pth σ D c i) := by
      intro d
      induction d with
      | zero => intro i hi; exact (hst i (k2 i (by omega)).1 (k2 i (by omega)).2 (k1 i (by omega))).2.2.2
      | succ d ih =>
        intro i hi
        have := ih i (by omega)
        have h2 := (hst (i + d + 1) (k2 _ (by omega)).1 (k2 _ (by omega)).2 (k1 _ (by omega))).2.2.2
        rw [show i + (d + 1) + 1 = i + d + 1 + 1 by omega]
        omega
    refine pigeon 48 (n + 1) (pth σ D c) (fun i hi => (k2 i (by omega)).1) (fun i j hi hj e => ?_)
    rcases Nat.lt_trichotomy i j with g | g | g
    · have := hdec (j - i - 1) i (by omega)
      rw [show i + (j - i - 1) + 1 = j by omega, e] at this; omega
    · exact g
    · have := hdec (i - j - 1) j (by omega)
      rw [show j + (i - j - 1) + 1 = i by omega, e] at this; omega
  rcases key 48 with ⟨K, k1, k2, k3, k4⟩ | ⟨k1, k2⟩
  · refine ⟨K, by have := hinj K k2 k4; omega, fun k hk => ?_, k3, fun k hk => (k4 k hk).1⟩
    obtain ⟨q1, q2, q3, q4⟩ := hst k (k4 k (by omega)).1 (k4 k (by omega)).2 (k2 k hk)
    exact ⟨k2 k hk, (k4 k (by omega)).2, q2, q3⟩
  · have := hinj 48 (fun k hk => k1 k (by omega)) k2
    omega
/-- class's next cell -/
theorem e_aheadW (wl : wLand σ) (hC : ∀ t, t < 192 → M.1 82 t = cstW σ t) (hr : rowC M 0 D) (hb : ∀ c, c < 48 → D c ≤ 1000000) {c a : Nat} (hc : c < 48) (h1 : D c < 1000000) (ht : tgt σ D c a = true) (hmin : ∀ b, b < a → tgt σ D c b = false) : f_Ways_ahead_81 (nI c) M = some (nI a) := by
  have ht' := ht
  unfold tgt at ht'
  rw [Bool.and_eq_true, decide_eq_true_eq] at ht'
  obtain ⟨ho, hd⟩ := ht'
  have la := (okW_lt _ _ ho).1
  have hcv := nb_cov c hc a la (okW_s ho).1
  have hs : ∃ s, s < 4 ∧ nbN c s = a := by
    simp only [Bool.or_eq_true, decide_eq_true_eq] at hcv
    rcases hcv with h | h | h | h
    · exact ⟨0, by omega, h⟩
    · exact ⟨1, by omega, h⟩
    · exact ⟨2, by omega, h⟩
    · exact ⟨3, by omega, h⟩
  obtain ⟨s, s4, hs⟩ := hs
  have hr0 : ∀ d, d < 48 → M.1 83 d = nI (D d) := fun d hd => by have := hr d hd; rw [Nat.zero_add] at this; exact this
  have hstep : ∀ k, k < 4 → b_Ways_ahead_81_2 (nI c) M (nI k) = if nbN c k = 48 then some (.inl (nI (k + 1))) else if tgt σ D c (nbN c k) = true then some (.inr (.inr (nI (nbN c k)))) else some (.inl (nI (k + 1))) := by
    intro k hk
    unfold b_Ways_ahead_81_2
    rw [show (4 : Int32) = nI 4 from rfl, dlt_t hk (by omega), ite_tt, nb_fin c hc k hk, Option.bind_some]
    by_cases g : nbN c k = 48
    · rw [if_pos g, if_pos m1_neg, if_pos g, nI_one]
    · have hbb := nb_bs c hc k hk
      rw [Bool.or_eq_true, decide_eq_true_eq, Bool.and_eq_true, decide_eq_true_eq] at hbb
      have hbb := hbb.resolve_left g
      rw [if_neg g, nI_nneg (by omega), ite_ff, if_neg g, nI_muln, nI_addn, Nat.mul_comm c 4, atv_nI (by omega) (by omega), atv_nI (by omega) (by omega), atv_nI (by omega) (by omega), hr0 _ hbb.1, hr0 _ hc, hC _ (by omega), nI_one]
      have hp : cstW σ (4 * c + k) = if okW σ (nbN c k) c = true then nI (wW σ (nbN c k) c) else 1000000 := by
        unfold cstW; rw [prC_at hk]
      have b1 := hb _ hbb.1
      rw [hp]
      unfold tgt
      by_cases ho : okW σ (nbN c k) c = true
      · have w2 := (wW_bnd wl _ _ ho).2.1
        rw [if_pos ho, ho, nI_addn, d_eq (by omega) (by omega), Bool.true_and]
      · rw [if_neg ho, show (1000000 : Int32) = nI 1000000 from rfl, nI_addn, d_eq (by omega) (by omega), if_neg (by rw [decide_eq_true_eq]; omega), if_neg (by rw [Bool.and_eq_true]; exact fun h => ho h.1)]
  obtain ⟨e, h2, h3⟩ := itr_cnt (body := b_Ways_ahead_81_2 (nI c) M) (s0 := (0 : Int32)) (fun k x => x = nI k) (fun e => e = .inr (nI a)) s (by omega) rfl (by
    rintro k x hk rfl
    left
    refine ⟨_, ?_, rfl⟩
    rw [hstep k (by omega)]
    by_cases g : nbN c k = 48
    · rw [if_pos g]
    · have hord := nb_ord c hc s s4 k hk
      simp only [Bool.or_eq_true, decide_eq_true_eq] at hord
      rw [if_neg g, hmin (nbN c k) (by omega), if_neg (by decide)]) (by
    rintro x rfl
    refine ⟨_, ?_, rfl⟩
    rw [hstep s s4, if_neg (by omega), hs, if_pos ht])
  unfold f_Ways_ahead_81
  rw [h2, h3]; rfl
def sTr (a i : Nat) : Bool := a == 85 || (a == 81 && (i == 5 || i == 7))
theorem e_trace (wl : wLand σ) (hC : ∀ t, t < 192 → M.1 82 t = cstW σ t) (hr : rowC M 0 D) (hb : ∀ c, c < 48 → D c ≤ 1000000) {c K : Nat} (hw : Way σ D c K) : ∃ M', f_Ways_trace_81 (nI c) M = some M' ∧ Fr sTr M M' ∧ M'.1 81 5 = nI K ∧ (∀ k, k ≤ K → M'.1 85 k = nI (pth σ D c k)) ∧ ∀ i, i < 48 → btL (M'.2 81 7) i = pmem σ D c i K := by
  obtain ⟨w1, w2, w3, w4⟩ := hw
  have hr0 : ∀ X, Fr sTr M X → ∀ d, d < 48 → X.1 83 d = nI (D d) := fun X hX d hd => by
    rw [hX.row (a := 83) (fun _ => rfl)]
    have := hr d hd; rw [Nat.zero_add] at this; exact this
  have hrC : ∀ X, Fr sTr M X → rowC X 0 D := fun X hX d hd => by rw [hX.row (a := 83) (fun _ => rfl)]; exact hr d hd
  have hCX : ∀ X, Fr sTr M X → ∀ t, t < 192 → X.1 82 t = cstW σ t := fun X hX t ht => by rw [hX.row (a := 82) (fun _ => rfl)]; exact hC t ht
  unfold f_Ways_trace_81 jv_
  dsimp only
  rw [show putv (wI (wL M 81 7 0) 81 5 0) 85 48 0 (nI c) = wI (wI (wL M 81 7 0) 81 5 0) 85 0 (nI c) from putv_nI (i := 0) (by omega) (by omega)]
  have F0 : Fr sTr M (wI (wI (wL M 81 7 0) 81 5 0) 85 0 (nI c)) := (((Fr.refl M).wL rfl).wI rfl).wI rfl
  obtain ⟨X, h1, h2⟩ := itr_cnt (body := b_Ways_trace_81_21) (s0 := (nI c, wI (wI (wL M 81 7 0) 81 5 0) 85 0 (nI c))) (fun k s => s.1 = nI (pth σ D c k) ∧ Fr sTr M s.2 ∧ s.2.1 81 5 = nI k ∧ (∀ j, j ≤ k → s.2.1 85 j = nI (pth σ D c j)) ∧ ∀ i, i < 48 → btL (s.2.2 81 7) i = pmem σ D c i k) (fun X => Fr sTr M X ∧ X.1 81 5 = nI K ∧ (∀ k, k ≤ K → X.1 85 k = nI (pth σ D c k)) ∧ ∀ i, i < 48 → btL (X.2 81 7) i = pmem σ D c i K) K (by omega) ⟨rfl, F0, rfl, fun j hj => by rw [show j = 0 by omega]; exact rde, fun i hi => by
      show btL 0 i = false
      exact bL_0 i⟩ (by
    rintro k ⟨x, X⟩ hk ⟨rfl, hF, h5, h85, hfr⟩
    dsimp only at hF h5 h85 hfr
    left
    obtain ⟨q1, q2, q3, q4⟩ := w2 k hk
    have lk := w4 k (by omega)
    have lk1 := w4 (k + 1) (by omega)
    have hah : ∀ Y, Fr sTr M Y → f_Ways_ahead_81 (nI (pth σ D c k)) Y = some (nI (pth σ D c (k + 1))) := fun Y hY => e_aheadW wl (hCX Y hY) (hrC Y hY) hb lk q2 q3 q4
    have F1 : Fr sTr M (wL X 81 7 ((X.2 81 7) ||| ((1 : Int64) <<< ((nI (pth σ D c k)).toInt64 &&& 63)))) := hF.wL rfl
    refine ⟨(nI (pth σ D c (k + 1)), wI (wI (wL X 81 7 ((X.2 81 7) ||| ((1 : Int64) <<< ((nI (pth σ D c k)).toInt64 &&& 63)))) 81 5 (nI (k + 1))) 85 (k + 1) (nI (pth σ D c (k + 1)))), ?_, rfl, (F1.wI rfl).wI rfl, ?_, fun j hj => ?_, fun i hi => ?_⟩
    · unfold b_Ways_trace_81_21 jv_
      dsimp only
      rw [atv_nI (by omega) (by omega), hr0 X hF _ lk, show (0 : Int32) = nI 0 from rfl, dle_f q1 (by omega), ite_ff, h5, show (47 : Int32) = nI 47 from rfl, dlt_t (by omega) (by omega), ite_tt, hah _ F1, Option.bind_some]
      rw [show (wL X 81 7 ((X.2 81 7) ||| ((1 : Int64) <<< ((nI (pth σ D c k)).toInt64 &&& 63)))).1 81 5 = nI k from h5, nI_one, rde, putv_nI (by omega) (by omega), rdk (k := 85) (a := 81) (by omega), rde, atv_nI (by omega) (by omega), rde]
    · dsimp only
      rw [rdk (by omega), rde]
    · dsimp only
      by_cases g : j = k + 1
      · rw [g, rde]
      · rw [rdi g, rdk (by omega)]; exact h85 j (by omega)
    · show btL ((X.2 81 7) ||| ((1 : Int64) <<< ((nI (pth σ D c k)).toInt64 &&& 63))) i = (pmem σ D c i k || decide (i = pth σ D c k))
      rw [bL_or, bL_one _ (by omega) (by omega), hfr i hi]) (by
    rintro ⟨x, X⟩ ⟨rfl, hF, h5, h85, hfr⟩
    dsimp only at hF h5 h85 hfr
    refine ⟨X, ?_, hF, h5, h85, hfr⟩
    unfold b_Ways_trace_81_21
    dsimp only
    have lk := w4 K (Nat.le_refl _)
    rw [atv_nI (by omega) (by omega), hr0 X hF _ lk, w3, show (0 : Int32) = nI 0 from rfl, dle_t (by omega) (by omega), ite_tt])
  rw [h1]
  exact ⟨X, rfl, h2⟩
/-- class's reach behind the line's cells -/
def RSf (x : Int64) (a2 : Int32) (M0 : Mem) : Option (Bool × Mem) :=
  (f_Ways_measure_81 M0).bind fun q2 => (itr (b_Ways_reach_81_24_19 x) FU (0, q2)).bind fun q9 => (f_Ways_spread_81 0 q9).bind fun q10 => jv_ (wI q10 81 6 (atv (q10.1 83) 3072 a2)) fun M11 => if decide ((M11.1 81 6) < 1000000) then ((f_Ways_trace_81 a2 M11).bind fun q13 => some (true, q13)) else (some (false, M11))
def sWy (a i : Nat) : Bool := a == 82 || (a == 83 || (a == 85 || (a == 81 && (i == 5 || (i == 6 || i == 7)))))
theorem sWy_sCs : ∀ a i, sWy a i = true → sCs a i = true := fun a i h => by
  unfold sWy at h; unfold sCs
  simp only [Bool.or_eq_true, Bool.and_eq_true, beq_iff_eq, decide_eq_true_eq] at h ⊢; omega
theorem sTr_sWy : ∀ a i, sTr a i = true → sWy a i = true := fun a i h => by
  unfold sTr at h; unfold sWy
  simp only [Bool.or_eq_true, Bool.and_eq_true, beq_iff_eq, decide_eq_true_eq] at h ⊢; omega
theorem s83_sWy (b : Nat) : ∀ a i, s83 b a i = true → sWy a i = true := fun a i h => by
  unfold s83 at h; unfold sWy
  simp only [Bool.or_eq_true, Bool.and_eq_true, beq_iff_eq, decide_eq_true_eq] at h ⊢; omega
theorem s82_sWy : ∀ a i, s82 a i = true → sWy a i = true := fun a i h => by
  unfold s82 at h; unfold sWy
  simp only [Bool.or_eq_true, Bool.and_eq_true, beq_iff_eq, decide_eq_true_eq] at h ⊢; omega
theorem ini_le (c : Nat) : iniF τ c ≤ 1000000 := by
  unfold iniF; split <;> omega
theorem e_RSf (L : Rland M.1 σ) (wl : wLand σ) {x : Int64} (hx : ∀ c, c < 48 → btL x c = onL τ c) (hD : isD (okW σ) (wW σ) (iniF τ) D) {c : Nat} (hc : c < 48) : ∃ M', RSf x (nI c) M = some (decide (D c < 1000000), M') ∧ Fr sWy M M' ∧ M'.1 81 6 = nI (D c) ∧ ∀ K, D c < 1000000 → Way σ D c K → M'.1 81 5 = nI K ∧ (∀ k, k ≤ K → M'.1 85 k = nI (pth σ D c k)) ∧ ∀ i, i < 48 → btL (M'.2 81 7) i = pmem σ D c i K := by
  obtain ⟨M1, m1, m2, m3⟩ := e_measure L wl
  obtain ⟨M2, n1, n2, n3⟩ := itr_cnt (body := b_Ways_reach_81_24_19 x) (s0 := ((0 : Int32), M1)) (fun k s => s.1 = nI k ∧ Fr (s83 0) M1 s.2 ∧ ∀ d, d < k → s.2.1 83 d = nI (iniF τ d)) (fun X => Fr (s83 0) M1 X ∧ ∀ d, d < 48 → X.1 83 d = nI (iniF τ d)) 48 (by omega) ⟨rfl, Fr.refl _, fun d hd => by omega⟩ (by
    rintro k ⟨y, X⟩ hk ⟨rfl, hF, hr⟩
    dsimp only at hF hr
    left
    refine ⟨(nI (k + 1), wI X 83 k (nI (iniF τ k))), ?_, rfl, hF.wI (by have := s83_c (b := 0) hk; rw [Nat.zero_add] at this; exact this), fun d hd => ?_⟩
    · unfold b_Ways_reach_81_24_19 jv_
      dsimp only
      rw [show (48 : Int32) = nI 48 from rfl, dlt_t hk (by omega), ite_tt, bL_bit x (by omega), hx k hk, putv_nI (by omega) (by omega), nI_one]
      unfold iniF
      cases onL τ k <;> rfl
    · dsimp only
      by_cases g : d = k
      · rw [g]; exact rde
      · rw [rdi g]; exact hr d (by omega)) (by
    rintro ⟨y, X⟩ ⟨rfl, hF, hr⟩
    dsimp only at hF hr
    refine ⟨X, ?_, hF, hr⟩
    unfold b_Ways_reach_81_24_19
    dsimp only
    rw [show (48 : Int32) = nI 48 from rfl, dlt_f (by omega) (by omega), ite_ff])
  have m3' : ∀ t, t < 192 → M2.1 82 t = cstW σ t := fun t ht => by rw [n2.row (a := 82) (fun _ => rfl)]; exact m3 t ht
  obtain ⟨M3, p1, p2, p3⟩ := e_spread (M := M2) (σ := σ) (b := 0) (f := iniF τ) (D := D) (by omega) wl (fun c _ => ini_le c) m3' (fun d hd => by rw [Nat.zero_add]; exact n3 d hd) hD
  have hb : ∀ c, c < 48 → D c ≤ 1000000 := fun c hc => Nat.le_trans (hD.1 c hc) (ini_le c)
  have e83 : atv (M3.1 83) 3072 (nI c) = nI (D c) := by
    rw [atv_nI (by omega) (by omega)]
    have := p3 c hc
    rw [Nat.zero_add] at this; exact this
  have F3 : Fr sWy M M3 := ((m2.mono s82_sWy).trans (n2.mono (s83_sWy 0))).trans (p2.mono (s83_sWy 0))
  have hbeg : RSf x (nI c) M = if decide (D c < 1000000) = true then ((f_Ways_trace_81 (nI c) (wI M3 81 6 (nI (D c)))).bind fun q13 => some (true, q13)) else (some (false, wI M3 81 6 (nI (D c)))) := by
    unfold RSf jv_
    have p1' : f_Ways_spread_81 0 M2 = some M3 := p1
    have hbc := hb c hc
    rw [m1, Option.bind_some, n1, Option.bind_some, p1', Option.bind_some, e83]
    dsimp only
    rw [rde, show (1000000 : Int32) = nI 1000000 from rfl, d_lt (by omega) (by omega)]
  by_cases g : D c < 1000000
  · obtain ⟨K, hK⟩ := way_ex wl hD hc g
    obtain ⟨M4, t1, t2, t3, t4, t5⟩ := e_trace (M := wI M3 81 6 (nI (D c))) (D := D) wl (fun t ht => by rw [rdk (by omega), p2.row (a := 82) (fun _ => rfl)]; exact m3' t ht) (fun d hd => by rw [rdk (by omega)]; exact p3 d hd) hb hK
    refine ⟨M4, ?_, (F3.wI rfl).trans (t2.mono sTr_sWy), ?_, fun K' _ hK' => ?_⟩
    · rw [hbeg, if_pos (decide_eq_true g), t1, decide_eq_true g]; rfl
    · rw [t2.at_ rfl, rde]
    · have : K' = K := by
        obtain ⟨a1, a2, a3, a4⟩ := hK
        obtain ⟨b1, b2, b3, b4⟩ := hK'
        rcases Nat.lt_trichotomy K' K with h | h | h
        · have := (a2 K' h).1; omega
        · exact h
        · have := (b2 K h).1; omega
      rw [this]
      exact ⟨t3, t4, t5⟩
  · refine ⟨wI M3 81 6 (nI (D c)), ?_, F3.wI rfl, rde, fun K h => absurd h g⟩
    rw [hbeg, if_neg (by rw [decide_eq_true_eq]; exact g), decide_eq_false g]
end RE
