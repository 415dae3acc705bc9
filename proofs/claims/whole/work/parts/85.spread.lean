section SP
def okW (σ : Nat → Int32) (a b : Nat) : Bool := decide (a < 48) && (decide (b < 48) && (bsd (nI a) (nI b) && !decide (cst σ a b = -5)))
def wW (σ : Nat → Int32) (a b : Nat) : Nat := (cst σ a b).toNatClampNeg
theorem cG_fin : ∀ p, p < 10 → ∀ q, q < 10 → ∀ a, a < 4 → ∀ b, b < 4 → (decide (cG (nI p) (nI q) (nI a) (nI b) = -5) || (inb (cG (nI p) (nI q) (nI a) (nI b)) 41 && !decide (cG (nI p) (nI q) (nI a) (nI b) = 0))) = true ∧ cG (nI p) (nI q) (nI a) (nI b) = cG (nI q) (nI p) (nI b) (nI a) := by decide +kernel
theorem bsd_fin : ∀ a, a < 48 → ∀ b, b < 48 → bsd (nI a) (nI b) = bsd (nI b) (nI a) := by decide +kernel
def nbN (c s : Nat) : Nat := if s = 0 then (if 8 ≤ c then c - 8 else 48) else if s = 1 then (if c % 8 = 0 then 48 else c - 1) else if s = 2 then (if c % 8 = 7 then 48 else c + 1) else (if c < 40 then c + 8 else 48)
theorem nb_fin : ∀ c, c < 48 → ∀ s, s < 4 → f_Ways_neighbour (nI c) (nI s) = some (if nbN c s = 48 then -1 else nI (nbN c s)) := by decide +kernel
theorem nb_bs : ∀ c, c < 48 → ∀ s, s < 4 → (decide (nbN c s = 48) || (decide (nbN c s < 48) && bsd (nI (nbN c s)) (nI c))) = true := by decide +kernel
theorem nb_cov : ∀ b, b < 48 → ∀ a, a < 48 → bsd (nI a) (nI b) = true → (decide (nbN b 0 = a) || (decide (nbN b 1 = a) || (decide (nbN b 2 = a) || decide (nbN b 3 = a)))) = true := by decide +kernel
variable {σ : Nat → Int32} {M : Mem}
theorem cst_bnd (wl : wLand σ) {a b : Nat} (ha : a < 48) (hb : b < 48) : cst σ a b = -5 ∨ (1 ≤ wW σ a b ∧ wW σ a b ≤ 40 ∧ cst σ a b = nI (wW σ a b)) := by
  obtain ⟨e1, l1⟩ := nI_of_inb (wl.1 a ha).1
  obtain ⟨e2, l2⟩ := nI_of_inb (wl.1 b hb).1
  obtain ⟨e3, l3⟩ := nI_of_inb (wl.1 a ha).2
  obtain ⟨e4, l4⟩ := nI_of_inb (wl.1 b hb).2
  have h := (cG_fin _ l1 _ l2 _ l3 _ l4).1
  rw [← e1, ← e2, ← e3, ← e4] at h
  change (decide (cst σ a b = -5) || (inb (cst σ a b) 41 && !decide (cst σ a b = 0))) = true at h
  rw [Bool.or_eq_true, Bool.and_eq_true, decide_eq_true_eq, Bool.not_eq_true', decide_eq_false_iff_not] at h
  rcases h with h | ⟨h1, h2⟩
  · exact .inl h
  · right
    obtain ⟨e, l⟩ := nI_of_inb h1
    refine ⟨?_, by unfold wW; omega, e⟩
    unfold wW
    rcases Nat.eq_zero_or_pos (cst σ a b).toNatClampNeg with z | z
    · rw [z] at e; exact absurd e h2
    · exact z
theorem cst_sym (wl : wLand σ) {a b : Nat} (ha : a < 48) (hb : b < 48) : cst σ a b = cst σ b a := by
  obtain ⟨e1, l1⟩ := nI_of_inb (wl.1 a ha).1
  obtain ⟨e2, l2⟩ := nI_of_inb (wl.1 b hb).1
  obtain ⟨e3, l3⟩ := nI_of_inb (wl.1 a ha).2
  obtain ⟨e4, l4⟩ := nI_of_inb (wl.1 b hb).2
  have h := (cG_fin _ l1 _ l2 _ l3 _ l4).2
  rw [← e1, ← e2, ← e3, ← e4] at h
  exact h
theorem okW_lt : ∀ a b, okW σ a b = true → a < 48 ∧ b < 48 := fun a b h => by
  unfold okW at h
  simp only [Bool.and_eq_true, decide_eq_true_eq] at h
  exact ⟨h.1, h.2.1⟩
theorem okW_s {a b : Nat} (h : okW σ a b = true) : bsd (nI a) (nI b) = true ∧ cst σ a b ≠ -5 := by
  unfold okW at h
  simp only [Bool.and_eq_true, decide_eq_true_eq, Bool.not_eq_true', decide_eq_false_iff_not] at h
  exact ⟨h.2.2.1, h.2.2.2⟩
theorem okW_mk {a b : Nat} (ha : a < 48) (hb : b < 48) : okW σ a b = (bsd (nI a) (nI b) && !decide (cst σ a b = -5)) := by
  unfold okW
  rw [decide_eq_true ha, decide_eq_true hb, Bool.true_and, Bool.true_and]
theorem wW_bnd (wl : wLand σ) : ∀ a b, okW σ a b = true → 1 ≤ wW σ a b ∧ wW σ a b ≤ 40 ∧ cst σ a b = nI (wW σ a b) := fun a b h => by
  obtain ⟨l1, l2⟩ := okW_lt a b h
  rcases cst_bnd wl l1 l2 with h1 | h1
  · exact absurd h1 (okW_s h).2
  · exact h1
/-- class's pairs -/
def prC (t : Nat) : Nat × Nat := (nbN (t / 4) (t % 4), t / 4)
theorem prC_at {c s : Nat} (hs : s < 4) : prC (4 * c + s) = (nbN c s, c) := by
  unfold prC
  rw [show (4 * c + s) / 4 = c by omega, show (4 * c + s) % 4 = s by omega]
theorem covC : ∀ a b, okW σ a b = true → ∃ t, t < 192 ∧ prC t = (a, b) := fun a b h => by
  obtain ⟨l1, l2⟩ := okW_lt a b h
  have := nb_cov b l2 a l1 (okW_s h).1
  simp only [Bool.or_eq_true, decide_eq_true_eq] at this
  rcases this with h1 | h1 | h1 | h1
  · exact ⟨4 * b + 0, by omega, by rw [prC_at (by omega), h1]⟩
  · exact ⟨4 * b + 1, by omega, by rw [prC_at (by omega), h1]⟩
  · exact ⟨4 * b + 2, by omega, by rw [prC_at (by omega), h1]⟩
  · exact ⟨4 * b + 3, by omega, by rw [prC_at (by omega), h1]⟩
def cstW (σ : Nat → Int32) (t : Nat) : Int32 := if okW σ (prC t).1 (prC t).2 = true then nI (wW σ (prC t).1 (prC t).2) else 1000000
def s82 (a _i : Nat) : Bool := a == 82
theorem s82_sCs : ∀ a i, s82 a i = true → sCs a i = true := fun a i h => by
  unfold s82 at h; unfold sCs
  simp only [Bool.or_eq_true, Bool.and_eq_true, beq_iff_eq, decide_eq_true_eq] at h ⊢; omega
theorem e_meas1 (L : Rland M.1 σ) (wl : wLand σ) {c : Nat} (hc : c < 48) (h0 : ∀ t, t < 4 * c → M.1 82 t = cstW σ t) : ∃ M', itr (b_Ways_measure_81_10 (nI c, M)) FU (0, M) = some M' ∧ Fr s82 M M' ∧ ∀ t, t < 4 * c + 4 → M'.1 82 t = cstW σ t := by
  obtain ⟨e, h1, h2⟩ := itr_cnt (body := b_Ways_measure_81_10 (nI c, M)) (s0 := ((0 : Int32), M)) (fun k s => s.1 = nI k ∧ Fr s82 M s.2 ∧ ∀ t, t < 4 * c + k → s.2.1 82 t = cstW σ t) (fun M' => Fr s82 M M' ∧ ∀ t, t < 4 * c + 4 → M'.1 82 t = cstW σ t) 4 (by omega) ⟨rfl, Fr.refl _, h0⟩ (by
    rintro k ⟨x, X⟩ hk ⟨rfl, hF, hr⟩
    dsimp only at hF hr
    left
    refine ⟨(nI (k + 1), wI X 82 (4 * c + k) (cstW σ (4 * c + k))), ?_, rfl, hF.wI rfl, fun t ht => ?_⟩
    · have LX : Rland X.1 σ := by
        unfold Rland
        rw [hF.row (a := 2) (fun _ => rfl), hF.row (a := 3) (fun _ => rfl), hF.row (a := 4) (fun _ => rfl), hF.row (a := 5) (fun _ => rfl), hF.row (a := 6) (fun _ => rfl)]; exact L
      unfold b_Ways_measure_81_10 jv_ jn_
      dsimp only
      rw [show (4 : Int32) = nI 4 from rfl, dlt_t hk (by omega), ite_tt, nb_fin c hc k hk, Option.bind_some, nI_muln, nI_addn, Nat.mul_comm c 4, nI_one]
      have hb := nb_bs c hc k hk
      rw [Bool.or_eq_true, decide_eq_true_eq, Bool.and_eq_true, decide_eq_true_eq] at hb
      unfold cstW
      rw [prC_at hk]
      dsimp only
      by_cases g : nbN c k = 48
      · rw [if_pos g, if_pos m1_neg, putv_nI (by omega) (by omega), if_pos (by decide), if_neg (by unfold okW; rw [g, show decide (48 < 48) = false from rfl, Bool.false_and]; decide)]
      · have hb := hb.resolve_left g
        rw [if_neg g, nI_nneg (by omega), ite_ff, e_stretch LX hc hb.1, Option.bind_some, putv_nI (by omega) (by omega), cst_neg, okW_mk hb.1 hc, hb.2, cst_sym wl hb.1 hc, Bool.true_and]
        rcases cst_bnd wl hc hb.1 with h5 | ⟨h6, h7, h8⟩
        · rw [decide_eq_true h5]; rfl
        · have hne : cst σ c (nbN c k) ≠ -5 := fun e => by
            rw [h8] at e
            have := congrArg Int32.toInt e
            rw [nI_toI (by omega), show (-5 : Int32).toInt = -5 from rfl] at this; omega
          rw [decide_eq_false hne, ite_ff, Bool.not_false, if_pos rfl]
          have hws : wW σ (nbN c k) c = wW σ c (nbN c k) := by unfold wW; rw [cst_sym wl hb.1 hc]
          rw [hws, ← h8]
    · dsimp only
      by_cases g : t = 4 * c + k
      · rw [g]; exact rde
      · rw [rdi g]; exact hr t (by omega)) (by
    rintro ⟨x, X⟩ ⟨rfl, hF, hr⟩
    dsimp only at hF hr
    refine ⟨X, ?_, hF, hr⟩
    unfold b_Ways_measure_81_10
    dsimp only
    rw [show (4 : Int32) = nI 4 from rfl, dlt_f (by omega) (by omega), ite_ff])
  exact ⟨e, h1, h2.1, h2.2⟩
theorem e_measure (L : Rland M.1 σ) (wl : wLand σ) : ∃ M', f_Ways_measure_81 M = some M' ∧ Fr s82 M M' ∧ ∀ t, t < 192 → M'.1 82 t = cstW σ t := by
  unfold f_Ways_measure_81
  obtain ⟨e, h1, h2⟩ := itr_cnt (body := b_Ways_measure_81_2) (s0 := ((0 : Int32), M)) (fun k s => s.1 = nI k ∧ Fr s82 M s.2 ∧ ∀ t, t < 4 * k → s.2.1 82 t = cstW σ t) (fun M' => Fr s82 M M' ∧ ∀ t, t < 192 → M'.1 82 t = cstW σ t) 48 (by omega) ⟨rfl, Fr.refl _, fun t ht => by omega⟩ (by
    rintro k ⟨x, X⟩ hk ⟨rfl, hF, hr⟩
    dsimp only at hF hr
    left
    have LX : Rland X.1 σ := by
      unfold Rland
      rw [hF.row (a := 2) (fun _ => rfl), hF.row (a := 3) (fun _ => rfl), hF.row (a := 4) (fun _ => rfl), hF.row (a := 5) (fun _ => rfl), hF.row (a := 6) (fun _ => rfl)]; exact L
    obtain ⟨Y, g1, g2, g3⟩ := e_meas1 LX wl hk hr
    refine ⟨(nI (k + 1), Y), ?_, rfl, hF.trans g2, fun t ht => g3 t (by omega)⟩
    unfold b_Ways_measure_81_2
    dsimp only
    rw [show (48 : Int32) = nI 48 from rfl, dlt_t hk (by omega), ite_tt, g1, Option.bind_some, nI_one]) (by
    rintro ⟨x, X⟩ ⟨rfl, hF, hr⟩
    dsimp only at hF hr
    refine ⟨X, ?_, hF, fun t ht => hr t (by omega)⟩
    unfold b_Ways_measure_81_2
    dsimp only
    rw [show (48 : Int32) = nI 48 from rfl, dlt_f (by omega) (by omega), ite_ff])
  rw [h1]
  exact ⟨e, rfl, h2.1, h2.2⟩
def s83 (b a i : Nat) : Bool := a == 83 && (decide (b ≤ i) && decide (i < b + 48))
def rowC (M : Mem) (b : Nat) (f : Nat → Nat) : Prop := ∀ c, c < 48 → M.1 83 (b + c) = nI (f c)
theorem s83_c {b c : Nat} (hc : c < 48) : s83 b 83 (b + c) = true := by
  unfold s83
  rw [decide_eq_true (by omega), decide_eq_true (by omega)]; rfl
section
variable {b : Nat} {f D : Nat → Nat}
theorem e_spr1 (hb : b + 48 ≤ 3072) (wl : wLand σ) (hf : ∀ c, c < 48 → f c ≤ 1000000) (hC : ∀ t, t < 192 → M.1 82 t = cstW σ t) {c : Nat} (hc : c < 48) (hr : rowC M b (pas (okW σ) (wW σ) prC f (4 * c))) (x : Int32) (X0 : Mem) : ∃ M', itr (b_Ways_spread_81_29 (nI b) (x, nI c, X0)) FU (bI (chg (okW σ) (wW σ) prC f (4 * c)), 0, M) = some (bI (chg (okW σ) (wW σ) prC f (4 * c + 4)), M') ∧ Fr (s83 b) M M' ∧ rowC M' b (pas (okW σ) (wW σ) prC f (4 * c + 4)) := by
  obtain ⟨e, h1, h2⟩ := itr_cnt (body := b_Ways_spread_81_29 (nI b) (x, nI c, X0)) (s0 := (bI (chg (okW σ) (wW σ) prC f (4 * c)), (0 : Int32), M)) (fun k s => s.1 = bI (chg (okW σ) (wW σ) prC f (4 * c + k)) ∧ s.2.1 = nI k ∧ Fr (s83 b) M s.2.2 ∧ rowC s.2.2 b (pas (okW σ) (wW σ) prC f (4 * c + k))) (fun e => e.1 = bI (chg (okW σ) (wW σ) prC f (4 * c + 4)) ∧ Fr (s83 b) M e.2 ∧ rowC e.2 b (pas (okW σ) (wW σ) prC f (4 * c + 4))) 4 (by omega) ⟨rfl, rfl, Fr.refl _, hr⟩ (by
    rintro k ⟨y, z, X⟩ hk ⟨rfl, rfl, hF, hR⟩
    dsimp only at hF hR
    left
    have hcost : atv (X.1 82) 192 (nI c * 4 + nI k) = cstW σ (4 * c + k) := by
      rw [show (4 : Int32) = nI 4 from rfl, nI_muln, nI_addn, Nat.mul_comm c 4, atv_nI (by omega) (by omega), hF.row (a := 82) (fun _ => rfl), hC _ (by omega)]
    have hp : prC (4 * c + k) = (nbN c k, c) := prC_at hk
    have hs1 : pas (okW σ) (wW σ) prC f (4 * c + (k + 1)) = rlx (okW σ) (wW σ) (prC (4 * c + k)) (pas (okW σ) (wW σ) prC f (4 * c + k)) := rfl
    have hs2 : chg (okW σ) (wW σ) prC f (4 * c + (k + 1)) = (chg (okW σ) (wW σ) prC f (4 * c + k) || decide (okW σ (prC (4 * c + k)).1 (prC (4 * c + k)).2 = true ∧ pas (okW σ) (wW σ) prC f (4 * c + k) (prC (4 * c + k)).1 + wW σ (prC (4 * c + k)).1 (prC (4 * c + k)).2 < pas (okW σ) (wW σ) prC f (4 * c + k) (prC (4 * c + k)).2)) := rfl
    rw [hp] at hs1 hs2
    dsimp only at hs2
    have hle := fun c' (h' : c' < 48) => Nat.le_trans (pas_le (ok := okW σ) (w := wW σ) (pr := prC) (f := f) (4 * c + k) c') (hf c' h')
    generalize pas (okW σ) (wW σ) prC f (4 * c + k) = g at *
    generalize chg (okW σ) (wW σ) prC f (4 * c + k) = q at *
    rw [hs1, hs2]
    have hcw : cstW σ (4 * c + k) = if okW σ (nbN c k) c = true then nI (wW σ (nbN c k) c) else 1000000 := by
      unfold cstW; rw [hp]
    by_cases ho : okW σ (nbN c k) c = true
    · obtain ⟨w1, w2, w3⟩ := wW_bnd wl _ _ ho
      have ln := (okW_lt _ _ ho).1
      have b1 := hle (nbN c k) ln
      have b2 := hle c hc
      rw [if_pos ho] at hcw
      have hbody : b_Ways_spread_81_29 (nI b) (x, nI c, X0) (bI q, nI k, X) = if decide (g (nbN c k) + wW σ (nbN c k) c < g c) = true then some (.inl (1, nI (k + 1), wI X 83 (b + c) (nI (g (nbN c k) + wW σ (nbN c k) c)))) else some (.inl (bI q, nI (k + 1), X)) := by
        unfold b_Ways_spread_81_29 jv_
        dsimp only
        rw [show (4 : Int32) = nI 4 from rfl, dlt_t hk (by omega), ite_tt, show (nI 4 : Int32) = 4 from rfl, hcost, hcw, show (1000000 : Int32) = nI 1000000 from rfl, dlt_t (by omega) (by omega), ite_tt, nb_fin c hc k hk, if_neg (by omega), Option.bind_some, nI_addn, nI_addn, atv_nI (by omega) (by omega), atv_nI (by omega) (by omega), hR _ ln, hR _ hc, nI_addn, d_lt (by omega) (by omega), putv_nI (by omega) (by omega), nI_one]
      by_cases hlt : g (nbN c k) + wW σ (nbN c k) c < g c
      · refine ⟨_, by rw [hbody, if_pos (decide_eq_true hlt)], ?_, rfl, hF.wI (s83_c hc), fun d hd => ?_⟩
        · rw [decide_eq_true ⟨ho, hlt⟩, Bool.or_true]; rfl
        · dsimp only
          unfold rlx
          rw [if_pos ⟨ho, hlt⟩]
          by_cases h9 : d = c
          · rw [h9, updN_e]; exact rde
          · rw [updN_n h9, rdi (by omega)]; exact hR d hd
      · refine ⟨_, by rw [hbody, if_neg (by rw [decide_eq_true_eq]; exact hlt)], ?_, rfl, hF, fun d hd => ?_⟩
        · rw [decide_eq_false (fun hh => hlt hh.2), Bool.or_false]
        · dsimp only
          unfold rlx
          rw [if_neg (fun hh => hlt hh.2)]; exact hR d hd
    · rw [if_neg ho] at hcw
      refine ⟨(bI q, nI (k + 1), X), ?_, ?_, rfl, hF, fun d hd => ?_⟩
      · unfold b_Ways_spread_81_29 jv_
        dsimp only
        rw [show (4 : Int32) = nI 4 from rfl, dlt_t hk (by omega), ite_tt, show (nI 4 : Int32) = 4 from rfl, hcost, hcw, show decide ((1000000 : Int32) < 1000000) = false from rfl, ite_ff, nI_one]
      · rw [decide_eq_false (fun hh => ho hh.1), Bool.or_false]
      · dsimp only
        unfold rlx
        rw [if_neg (fun hh => ho hh.1)]; exact hR d hd) (by
    rintro ⟨y, z, X⟩ ⟨rfl, rfl, hF, hR⟩
    dsimp only at hF hR
    refine ⟨(bI (chg (okW σ) (wW σ) prC f (4 * c + 4)), X), ?_, rfl, hF, hR⟩
    unfold b_Ways_spread_81_29
    dsimp only
    rw [show (4 : Int32) = nI 4 from rfl, dlt_f (by omega) (by omega), ite_ff])
  obtain ⟨e1, e2⟩ := e
  obtain ⟨p1, p2, p3⟩ := h2
  dsimp only at p1 p2 p3
  subst p1
  exact ⟨e2, h1, p2, p3⟩
theorem e_spr2 (hb : b + 48 ≤ 3072) (wl : wLand σ) (hf : ∀ c, c < 48 → f c ≤ 1000000) (hC : ∀ t, t < 192 → M.1 82 t = cstW σ t) (hr : rowC M b f) : ∃ M', itr (b_Ways_spread_81_19 (nI b)) FU (0, 0, M) = some (bI (chg (okW σ) (wW σ) prC f 192), M') ∧ Fr (s83 b) M M' ∧ rowC M' b (pas (okW σ) (wW σ) prC f 192) := by
  obtain ⟨e, h1, h2⟩ := itr_cnt (body := b_Ways_spread_81_19 (nI b)) (s0 := ((0 : Int32), (0 : Int32), M)) (fun k s => s.1 = bI (chg (okW σ) (wW σ) prC f (4 * k)) ∧ s.2.1 = nI k ∧ Fr (s83 b) M s.2.2 ∧ rowC s.2.2 b (pas (okW σ) (wW σ) prC f (4 * k))) (fun e => e.1 = bI (chg (okW σ) (wW σ) prC f 192) ∧ Fr (s83 b) M e.2 ∧ rowC e.2 b (pas (okW σ) (wW σ) prC f 192)) 48 (by omega) ⟨rfl, rfl, Fr.refl _, hr⟩ (by
    rintro k ⟨y, z, X⟩ hk ⟨rfl, rfl, hF, hR⟩
    dsimp only at hF hR
    left
    obtain ⟨Y, g1, g2, g3⟩ := e_spr1 (M := X) hb wl hf (fun t ht => by rw [hF.row (a := 82) (fun _ => rfl)]; exact hC t ht) hk hR (bI (chg (okW σ) (wW σ) prC f (4 * k))) X
    refine ⟨(bI (chg (okW σ) (wW σ) prC f (4 * k + 4)), nI (k + 1), Y), ?_, rfl, rfl, hF.trans g2, g3⟩
    unfold b_Ways_spread_81_19
    dsimp only
    rw [show (48 : Int32) = nI 48 from rfl, dlt_t hk (by omega), ite_tt, g1, Option.bind_some, nI_one]) (by
    rintro ⟨y, z, X⟩ ⟨hy, hz, hF, hR⟩
    dsimp only at hy hz hF hR
    rw [show 4 * 48 = 192 from rfl] at hy hR
    rw [hz]
    refine ⟨(y, X), ?_, hy, hF, hR⟩
    unfold b_Ways_spread_81_19
    dsimp only
    rw [show (48 : Int32) = nI 48 from rfl, dlt_f (by omega) (by omega), ite_ff])
  obtain ⟨e1, e2⟩ := e
  obtain ⟨p1, p2, p3⟩ := h2
  dsimp only at p1 p2 p3
  exact ⟨e2, h1.trans (congrArg (fun z => some (z, e2)) p1), p2, p3⟩
theorem e_spread (hb : b + 48 ≤ 3072) (wl : wLand σ) (hf : ∀ c, c < 48 → f c ≤ 1000000) (hC : ∀ t, t < 192 → M.1 82 t = cstW σ t) (hr : rowC M b f) (hD : isD (okW σ) (wW σ) f D) : ∃ M', f_Ways_spread_81 (nI b) M = some M' ∧ Fr (s83 b) M M' ∧ rowC M' b D := by
  have hw1 : ∀ a b, okW σ a b = true → 1 ≤ wW σ a b := fun a b h => (wW_bnd wl a b h).1
  obtain ⟨e, h1, h2, h3⟩ := itr_cnt (body := b_Ways_spread_81_4 (nI b)) (s0 := ((1 : Int32), (0 : Int32), M)) (fun r s => s.1 = (if r = 0 then 1 else bI (chg (okW σ) (wW σ) prC (rnR (okW σ) (wW σ) prC 192 f (r - 1)) 192)) ∧ s.2.1 = nI r ∧ Fr (s83 b) M s.2.2 ∧ rowC s.2.2 b (rnR (okW σ) (wW σ) prC 192 f r)) (fun M' => Fr (s83 b) M M' ∧ rowC M' b D) 48 (by omega) ⟨rfl, rfl, Fr.refl _, hr⟩ (by
    rintro r ⟨y, z, X⟩ hk ⟨hy, rfl, hF, hR⟩
    dsimp only at hy hF hR
    by_cases hz : decide (y = 0) = true
    · right
      refine ⟨X, ?_, hF, ?_⟩
      · unfold b_Ways_spread_81_4
        dsimp only
        rw [show (48 : Int32) = nI 48 from rfl, dlt_t hk (by omega), ite_tt, if_pos hz]
      · have hz := of_decide_eq_true hz
        rw [hy] at hz
        by_cases r0 : r = 0
        · rw [if_pos r0] at hz; exact absurd hz (by decide)
        · obtain ⟨r', rfl⟩ : ∃ r', r = r' + 1 := ⟨r - 1, by omega⟩
          rw [if_neg r0, Nat.add_sub_cancel] at hz
          have hch : chg (okW σ) (wW σ) prC (rnR (okW σ) (wW σ) prC 192 f r') 192 = false := by
            cases h : chg (okW σ) (wW σ) prC (rnR (okW σ) (wW σ) prC 192 f r') 192
            · rfl
            · rw [h] at hz; exact absurd hz (by decide)
          have he : rnR (okW σ) (wW σ) prC 192 f (r' + 1) = rnR (okW σ) (wW σ) prC 192 f r' := (chg_f 192 hch).1
          intro c hc
          rw [hR c hc, he, rn_still covC okW_lt hD hch c hc]
    · left
      obtain ⟨Y, g1, g2, g3⟩ := e_spr2 (M := X) hb wl (fun c hc => Nat.le_trans (rn_le r c) (hf c hc)) (fun t ht => by rw [hF.row (a := 82) (fun _ => rfl)]; exact hC t ht) hR
      refine ⟨(bI (chg (okW σ) (wW σ) prC (rnR (okW σ) (wW σ) prC 192 f r) 192), nI (r + 1), Y), ?_, ?_, rfl, hF.trans g2, g3⟩
      · unfold b_Ways_spread_81_4
        dsimp only
        rw [show (48 : Int32) = nI 48 from rfl, dlt_t hk (by omega), ite_tt, if_neg hz, g1, Option.bind_some, nI_one]
      · dsimp only
        rw [if_neg (by omega), Nat.add_sub_cancel]) (by
    rintro ⟨y, z, X⟩ ⟨hy, rfl, hF, hR⟩
    dsimp only at hy hF hR
    refine ⟨X, ?_, hF, fun c hc => ?_⟩
    · unfold b_Ways_spread_81_4
      dsimp only
      rw [show (48 : Int32) = nI 48 from rfl, dlt_f (by omega) (by omega), ite_ff]
    · rw [hR c hc, rn_48 okW_lt hw1 covC hD c hc])
  unfold f_Ways_spread_81
  rw [h1]
  exact ⟨e, rfl, h2, h3⟩
end
end SP
