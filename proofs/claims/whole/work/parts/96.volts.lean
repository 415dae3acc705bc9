section
section VM
variable {M : Mem} {σ : Nat → Int32} {up t : Nat → Nat} {h N w : Nat} {dr : Nat → Bool} {V : Nat → Int32}
def s107 (a _i : Nat) : Bool := a == 107
theorem e_ms0 : ∃ M', itr b_Mo_sweep_94_2 FU (0, M) = some M' ∧ Fr s107 M M' ∧ ∀ c, c < 48 → M'.2 107 c = l64 0 := by
  obtain ⟨e, h1, h2⟩ := itr_cnt (body := b_Mo_sweep_94_2) (s0 := ((0 : Int32), M)) (fun k z => z.1 = nI k ∧ Fr s107 M z.2 ∧ ∀ c, c < k → z.2.2 107 c = l64 0) (fun X => Fr s107 M X ∧ ∀ c, c < 48 → X.2 107 c = l64 0) 48 (by omega) ⟨rfl, Fr.refl _, fun c hc => by omega⟩ (by
    rintro k ⟨x, X⟩ hk ⟨rfl, hF, hr⟩
    dsimp only at hF hr
    left
    refine ⟨(nI (k + 1), wL X 107 k (l64 0)), ?_, rfl, hF.wL rfl, fun c hc => ?_⟩
    · unfold b_Mo_sweep_94_2 jv_
      dsimp only
      rw [show (48 : Int32) = nI 48 from rfl, dlt_t hk (by omega), ite_tt, inb_t (by omega) (by omega), ite_tt, nI_cl (by omega), nI_one]; rfl
    · dsimp only
      rw [rd_L, if_pos rfl]
      by_cases g : c = k
      · rw [if_pos g]
      · rw [if_neg g]; exact hr c (by omega)) (by
    rintro ⟨x, X⟩ ⟨rfl, hF, hr⟩
    dsimp only at hF hr
    refine ⟨X, ?_, hF, hr⟩
    unfold b_Mo_sweep_94_2
    dsimp only
    rw [show (48 : Int32) = nI 48 from rfl, dlt_f (Nat.le_refl _) (by omega), ite_ff])
  rw [h1]
  exact ⟨e, rfl, h2⟩
/-- what is drawn on the line -/
def owM (σ : Nat → Int32) (dr : Nat → Bool) (V : Nat → Int32) (x n : Nat) : Nat := if onL σ x = true then ownV dr (cel σ) (ld σ) V x n else 0
theorem e_ms1 (W : Wm (M.1 95)) (hdr : ∀ f, dr f = decide (wh (M.1 95) (M.1 95 0) (nt (M.1 95) 2) f = 2)) (hV : ∀ c, c < 48 → M.1 105 c = V c) (h0 : ∀ c, c < 48 → M.2 107 c = l64 0) : ∃ M', itr b_Mo_sweep_94_23 FU (0, M) = some M' ∧ Fr s107 M M' ∧ ∀ c, c < 48 → M'.2 107 c = l64 (owM (M.1 95) dr V c (nt (M.1 95) 1)) := by
  obtain ⟨e1, l1⟩ := nt_inb W.1.2.1
  obtain ⟨e, h1, h2⟩ := itr_cnt (body := b_Mo_sweep_94_23) (s0 := ((0 : Int32), M)) (fun k z => z.1 = nI k ∧ Fr s107 M z.2 ∧ ∀ c, c < 48 → z.2.2 107 c = l64 (owM (M.1 95) dr V c k)) (fun X => Fr s107 M X ∧ ∀ c, c < 48 → X.2 107 c = l64 (owM (M.1 95) dr V c (nt (M.1 95) 1))) (nt (M.1 95) 1) (by omega) ⟨rfl, Fr.refl _, fun c hc => by
      rw [h0 c hc]; unfold owM; split <;> rfl⟩ (by
    rintro k ⟨x, X⟩ hk ⟨rfl, hF, hr⟩
    dsimp only at hF hr
    left
    have e95 : X.1 95 = M.1 95 := hF.row (fun _ => rfl)
    obtain ⟨ec, lc⟩ := nI_of_inb (W.2.2.1.2.1 k hk).1
    obtain ⟨el, ll⟩ := nI_of_inb (W.2.2.1.2.1 k hk).2.1
    have ec : M.1 95 (164 + k) = nI (cel (M.1 95) k) := ec
    have lc : cel (M.1 95) k < 48 := lc
    have el : M.1 95 (174 + k) = nI (ld (M.1 95) k) := el
    have ll : ld (M.1 95) k < 51 := ll
    have e105 : X.1 105 (cel (M.1 95) k) = V (cel (M.1 95) k) := by rw [hF.row (a := 105) (fun _ => rfl)]; exact hV _ lc
    have hsv : f_Mo_isServed_94 (nI k) (M.1 95 0) X = some (dr k) := by
      rw [e_isServed (M := X) (by omega) (by rw [e95]; exact W.1) (by rw [e95]; exact W.2.1), e95, hdr]
    have hst : b_Mo_sweep_94_23 (nI k, X) = some (.inl (nI (k + 1), wL X 107 (cel (M.1 95) k) (X.2 107 (cel (M.1 95) k) + l64 (if onL (M.1 95) (cel (M.1 95) k) = true ∧ 0 < V (cel (M.1 95) k) ∧ dr k = true then ld (M.1 95) k * 1000 / (V (cel (M.1 95) k)).toNatClampNeg else 0)))) := by
      unfold b_Mo_sweep_94_23 jn_ jv_
      dsimp only
      rw [e95, e1, dlt_t hk (by omega), ite_tt, q164, nI_addn, inb_t (by omega) (by omega), ite_tt, nI_cl (by omega), ec, e_Mo_isOnLine lc, Option.bind_some, e95, inb_t lc (by omega), ite_tt, nI_cl (by omega), hsv, Option.bind_some, e105, npos, nI_one]
      generalize hval : (if onL (M.1 95) (cel (M.1 95) k) = true ∧ 0 < V (cel (M.1 95) k) ∧ dr k = true then ld (M.1 95) k * 1000 / (V (cel (M.1 95) k)).toNatClampNeg else 0) = v
      cases c1 : onL (M.1 95) (cel (M.1 95) k)
      · have hz : v = 0 := by rw [← hval]; exact if_neg (fun h => by rw [c1] at h; exact absurd h.1 (by decide))
        rw [hz, ite_ff, ite_ff]; rfl
      · rw [ite_tt]
        cases c2 : dr k
        · have hz : v = 0 := by rw [← hval]; exact if_neg (fun h => by rw [c2] at h; exact absurd h.2.2 (by decide))
          rw [hz, ite_ff, ite_ff]; rfl
        · rw [ite_tt]
          by_cases g : 0 < V (cel (M.1 95) k)
          · obtain ⟨p1, p2, p3⟩ := pos_nI g
            have hz : v = ld (M.1 95) k * 1000 / (V (cel (M.1 95) k)).toNatClampNeg := by rw [← hval]; exact if_pos ⟨c1, g, c2⟩
            have hq : ld (M.1 95) k * 1000 / (V (cel (M.1 95) k)).toNatClampNeg ≤ ld (M.1 95) k * 1000 := Nat.div_le_self _ _
            rw [hz, decide_eq_true g, Bool.not_true, ite_ff, ite_tt, show (174 : Int32) = nI 174 from rfl, nI_addn, inb_t (by omega) (by omega), ite_tt, if_pos (show (!decide (V (cel (M.1 95) k) = 0)) = true by rw [decide_eq_false (fun e => by rw [e] at g; exact absurd g (by decide))]; rfl), nI_cl (by omega), el, show (1000 : Int32) = nI 1000 from rfl, nI_muln]
            have hdv := nI_divn (a := ld (M.1 95) k * 1000) (b := (V (cel (M.1 95) k)).toNatClampNeg) (by omega) p3
            rw [← p1] at hdv
            rw [hdv, l64_nI (by omega)]
            rfl
          · have hz : v = 0 := by rw [← hval]; exact if_neg (fun h => g h.2.1)
            rw [hz, decide_eq_false g, Bool.not_false, ite_tt, ite_ff]; rfl
    refine ⟨_, hst, rfl, hF.wL rfl, fun c hc => ?_⟩
    dsimp only
    rw [rd_L, if_pos rfl]
    unfold owM at hr ⊢
    rw [show ownV dr (cel (M.1 95)) (ld (M.1 95)) V c (k + 1) = ownV dr (cel (M.1 95)) (ld (M.1 95)) V c k + (if cel (M.1 95) k = c ∧ 0 < V c ∧ dr k = true then ld (M.1 95) k * 1000 / (V c).toNatClampNeg else 0) from rfl]
    by_cases g2 : c = cel (M.1 95) k
    · rw [if_pos g2, ← g2, hr c hc, l64_add]
      congr 1
      cases c1 : onL (M.1 95) c
      · rw [ite_ff, ite_ff, if_neg (fun h => absurd h.1 (by decide))]
      · rw [ite_tt, ite_tt]
        congr 1
        by_cases g3 : 0 < V c ∧ dr k = true
        · rw [if_pos ⟨rfl, g3⟩, if_pos ⟨rfl, g3⟩]
        · rw [if_neg (fun h => g3 h.2), if_neg (fun h => g3 h.2)]
    · rw [if_neg g2, hr c hc, show (if cel (M.1 95) k = c ∧ 0 < V c ∧ dr k = true then ld (M.1 95) k * 1000 / (V c).toNatClampNeg else 0) = 0 from if_neg (fun h => g2 h.1.symm), Nat.add_zero]) (by
    rintro ⟨x, X⟩ ⟨rfl, hF, hr⟩
    dsimp only at hF hr
    have e95 : X.1 95 = M.1 95 := hF.row (fun _ => rfl)
    refine ⟨X, ?_, hF, hr⟩
    unfold b_Mo_sweep_94_23
    dsimp only
    rw [e95, e1, dlt_f (Nat.le_refl _) (by omega), ite_ff])
  rw [h1]
  exact ⟨e, rfl, h2⟩
/-- rows that stand in the model -/
def Rw (M : Mem) (r : Nat → Nat) (N : Nat) : Prop := (∀ i, i < N + 1 → M.1 106 i = nI (r i)) ∧ ∀ i, i < N → M.1 95 (116 + r (i + 1)) = nI (upS (M.1 95) (r (i + 1)))
variable {r : Nat → Nat}
theorem e_ms2 {own : Nat → Nat} (R : Rw M r N) (T : Top (upS (M.1 95)) (fun i => r (i + 1)) h N) (hh : h < 48) (hN : N ≤ 47) (ho : ∀ c, c < 48 → M.2 107 c = l64 (own c)) : ∃ M', itr b_Mo_sweep_94_132 FU (nI (N + 1) - 1, M) = some M' ∧ Fr s107 M M' ∧ ∀ c, c < 48 → M'.2 107 c = l64 (cfF (upS (M.1 95)) (fun i => r (i + 1)) own N c) := by
  obtain ⟨e, h1, h2⟩ := itr_cnt (body := b_Mo_sweep_94_132) (s0 := (nI (N + 1) - 1, M)) (fun k z => z.1 = nI (N - k) ∧ Fr s107 M z.2 ∧ ∀ c, c < 48 → z.2.2 107 c = l64 (cfD (upS (M.1 95)) (fun i => r (i + 1)) own N k c)) (fun X => Fr s107 M X ∧ ∀ c, c < 48 → X.2 107 c = l64 (cfF (upS (M.1 95)) (fun i => r (i + 1)) own N c)) N (by omega) ⟨dm1 N, Fr.refl _, ho⟩ (by
    rintro k ⟨x, X⟩ hk ⟨hx, hF, hr⟩
    dsimp only at hx hF hr
    left
    have e95 : X.1 95 = M.1 95 := hF.row (fun _ => rfl)
    obtain ⟨a1, a2, -⟩ := T.1 (N - 1 - k) (by omega)
    have a3 := Top_up T hh (i := N - 1 - k) (by omega)
    have hrow : X.1 106 (N - k) = nI (r (N - 1 - k + 1)) := by rw [hF.row (a := 106) (fun _ => rfl), R.1 (N - k) (by omega), show N - 1 - k + 1 = N - k by omega]
    have hpar := R.2 (N - 1 - k) (by omega)
    dsimp only at a1 a2 a3
    refine ⟨(nI (N - (k + 1)), wL X 107 (upS (M.1 95) (r (N - 1 - k + 1))) (l64 (cfD (upS (M.1 95)) (fun i => r (i + 1)) own N k (upS (M.1 95) (r (N - 1 - k + 1))) + cfD (upS (M.1 95)) (fun i => r (i + 1)) own N k (r (N - 1 - k + 1))))), ?_, rfl, hF.wL rfl, fun c hc => ?_⟩
    · rw [hx]
      unfold b_Mo_sweep_94_132 jv_
      dsimp only
      rw [show decide (nI (N - k) ≤ 0) = false from dle_f (a := N - k) (b := 0) (by omega) (by omega), ite_ff, inb_t (by omega) (by omega), ite_tt, nI_cl (by omega), hrow, show (116 : Int32) = nI 116 from rfl, nI_addn, inb_t (by omega) (by omega), ite_tt, nI_cl (by omega), e95, hpar, inb_t a3 (by omega), ite_tt, ite_tt, inb_t a1 (by omega), ite_tt, ite_tt, nI_cl (by omega), nI_cl (by omega), hr _ a3, hr _ a1, l64_add, am1, show nI (N - k) - 1 = nI (N - (k + 1)) by rw [show N - k = N - (k + 1) + 1 by omega, dm1]]
    · dsimp only
      rw [rd_L, if_pos rfl, show cfD (upS (M.1 95)) (fun i => r (i + 1)) own N (k + 1) c = updN (cfD (upS (M.1 95)) (fun i => r (i + 1)) own N k) (upS (M.1 95) (r (N - 1 - k + 1))) (cfD (upS (M.1 95)) (fun i => r (i + 1)) own N k (upS (M.1 95) (r (N - 1 - k + 1))) + cfD (upS (M.1 95)) (fun i => r (i + 1)) own N k (r (N - 1 - k + 1))) c from rfl]
      by_cases g : c = upS (M.1 95) (r (N - 1 - k + 1))
      · rw [if_pos g, g, updN_e]
      · rw [if_neg g, updN_n g]; exact hr c hc) (by
    rintro ⟨x, X⟩ ⟨hx, hF, hr⟩
    dsimp only at hx hF hr
    rw [hx]
    refine ⟨X, ?_, hF, hr⟩
    unfold b_Mo_sweep_94_132
    dsimp only
    rw [Nat.sub_self, if_pos (show decide (nI 0 ≤ 0) = true from rfl)])
  rw [h1]
  exact ⟨e, rfl, h2⟩
theorem e_ms3 {C : Nat → Nat} (R : Rw M r N) (T : Top (upS (M.1 95)) (fun i => r (i + 1)) h N) (hh : h < 48) (hN : N ≤ 47) (e8 : M.1 95 8 = nI w) (hw : w ≤ 9) (hV : ∀ c, c < 48 → M.1 105 c = V c) (hC : ∀ i, i < N → M.2 107 (r (i + 1)) = l64 (C (r (i + 1))) ∧ C (r (i + 1)) ≤ 500000) : ∃ M', itr (b_Mo_sweep_94_179 (nI (N + 1))) FU (true, 1, M) = some (bfD (upS (M.1 95)) (fun i => r (i + 1)) (lsW w C) V N, M') ∧ Fr (fun a _ => a == 105) M M' ∧ ∀ c, c < 48 → M'.1 105 c = vfD (upS (M.1 95)) (fun i => r (i + 1)) (lsW w C) V N c := by
  obtain ⟨e, h1, h2⟩ := itr_cnt (body := b_Mo_sweep_94_179 (nI (N + 1))) (s0 := (true, (1 : Int32), M)) (fun k z => z.1 = bfD (upS (M.1 95)) (fun i => r (i + 1)) (lsW w C) V k ∧ z.2.1 = nI (k + 1) ∧ Fr (fun a _ => a == 105) M z.2.2 ∧ ∀ c, c < 48 → z.2.2.1 105 c = vfD (upS (M.1 95)) (fun i => r (i + 1)) (lsW w C) V k c) (fun e => e.1 = bfD (upS (M.1 95)) (fun i => r (i + 1)) (lsW w C) V N ∧ Fr (fun a _ => a == 105) M e.2 ∧ ∀ c, c < 48 → e.2.1 105 c = vfD (upS (M.1 95)) (fun i => r (i + 1)) (lsW w C) V N c) N (by omega) ⟨rfl, rfl, Fr.refl _, hV⟩ (by
    rintro k ⟨b, x, X⟩ hk ⟨hb, hx, hF, hr⟩
    dsimp only at hb hx hF hr
    rw [hb, hx]
    left
    have e95 : X.1 95 = M.1 95 := hF.row (fun _ => rfl)
    obtain ⟨a1, a2, -⟩ := T.1 k hk
    have a3 := Top_up T hh hk
    have hrow : X.1 106 (k + 1) = nI (r (k + 1)) := by rw [hF.row (a := 106) (fun _ => rfl), R.1 (k + 1) (by omega)]
    have hpar := R.2 k hk
    obtain ⟨c1, c2⟩ := hC k hk
    dsimp only at a1 a2 a3
    have e107 : X.2 107 (r (k + 1)) = l64 (C (r (k + 1))) := by rw [hF.atL rfl]; exact c1
    have hwc : w * C (r (k + 1)) ≤ 9 * 500000 := Nat.mul_le_mul hw c2
    have hv : ((vfD (upS (M.1 95)) (fun i => r (i + 1)) (lsW w C) V k (upS (M.1 95) (r (k + 1)))).toInt64 - (l64 w * l64 (C (r (k + 1)))) / 10).toInt32 = vfD (upS (M.1 95)) (fun i => r (i + 1)) (lsW w C) V k (upS (M.1 95) (r (k + 1))) - lsW w C (r (k + 1)) := by
      rw [Int64.toInt32_sub, Int32.toInt32_toInt64, l64_mul, show (10 : Int64) = l64 10 from rfl, l64_div (by omega) (by omega), l64_32]
      unfold lsW
      rw [show (10 : Int32) = nI 10 from rfl, nI_divn (by omega) (by omega)]
    refine ⟨(bfD (upS (M.1 95)) (fun i => r (i + 1)) (lsW w C) V (k + 1), nI (k + 2), wI X 105 (r (k + 1)) (vfD (upS (M.1 95)) (fun i => r (i + 1)) (lsW w C) V k (upS (M.1 95) (r (k + 1))) - lsW w C (r (k + 1)))), ?_, rfl, rfl, hF.wI rfl, fun c hc => ?_⟩
    · unfold b_Mo_sweep_94_179 jv_ jn_
      dsimp only
      rw [dlt_t (by omega) (by omega), ite_tt, inb_t (by omega) (by omega), ite_tt, nI_cl (by omega), hrow, show (116 : Int32) = nI 116 from rfl, nI_addn, inb_t (by omega) (by omega), ite_tt, nI_cl (by omega), e95, hpar, inb_t a3 (by omega), ite_tt, inb_t a1 (by omega), ite_tt, ite_tt, ite_tt, nI_cl (by omega), nI_cl (by omega), hr _ a3, hr _ a1, e107, e8, l64_nI (by omega), hv, e_Mo_size, Option.bind_some, jabs_size, nI_one]
      rw [show bfD (upS (M.1 95)) (fun i => r (i + 1)) (lsW w C) V (k + 1) = (bfD (upS (M.1 95)) (fun i => r (i + 1)) (lsW w C) V k && decide (jabs ((vfD (upS (M.1 95)) (fun i => r (i + 1)) (lsW w C) V k (upS (M.1 95) (r (k + 1))) - lsW w C (r (k + 1))) - vfD (upS (M.1 95)) (fun i => r (i + 1)) (lsW w C) V k (r (k + 1))) ≤ 1)) from rfl]
      cases bfD (upS (M.1 95)) (fun i => r (i + 1)) (lsW w C) V k
      · rfl
      · rw [ite_tt, Bool.true_and]
        cases decide (jabs ((vfD (upS (M.1 95)) (fun i => r (i + 1)) (lsW w C) V k (upS (M.1 95) (r (k + 1))) - lsW w C (r (k + 1))) - vfD (upS (M.1 95)) (fun i => r (i + 1)) (lsW w C) V k (r (k + 1))) ≤ 1) <;> rfl
    · dsimp only
      rw [show vfD (upS (M.1 95)) (fun i => r (i + 1)) (lsW w C) V (k + 1) c = updZ (vfD (upS (M.1 95)) (fun i => r (i + 1)) (lsW w C) V k) (r (k + 1)) (vfD (upS (M.1 95)) (fun i => r (i + 1)) (lsW w C) V k (upS (M.1 95) (r (k + 1))) - lsW w C (r (k + 1))) c from rfl]
      by_cases g : c = r (k + 1)
      · rw [g, rde, updZ_e]
      · rw [rdi g, updZ_n g]; exact hr c hc) (by
    rintro ⟨b, x, X⟩ ⟨hb, hx, hF, hr⟩
    dsimp only at hb hx hF hr
    rw [hb, hx]
    refine ⟨(_, X), ?_, rfl, hF, hr⟩
    unfold b_Mo_sweep_94_179
    dsimp only
    rw [dlt_f (Nat.le_refl _) (by omega), ite_ff])
  obtain ⟨e1, e2⟩ := e
  obtain ⟨p1, p2, p3⟩ := h2
  dsimp only at p1 p2 p3
  exact ⟨e2, h1.trans (congrArg (fun z => some (z, e2)) p1), p2, p3⟩
def sVm (a i : Nat) : Bool := a == 105 || (a == 106 || (a == 107 || (a == 94 && (i == 19 || i == 20))))
theorem sVm_sMs : ∀ a i, sVm a i = true → sMs a i = true := fun a i h => by
  unfold sVm at h; unfold sMs
  simp only [Bool.or_eq_true, Bool.and_eq_true, beq_iff_eq, decide_eq_true_eq] at h ⊢; omega
def owW (σ : Nat → Int32) (dr : Nat → Bool) (V : Nat → Int32) (x : Nat) : Nat := owM σ dr V x (nt σ 1)
theorem owW_b (wl : wLand σ) (n1 : nt σ 1 ≤ 10) : lsum (owW σ dr V) 48 ≤ 500000 := by
  have h1 := ownV_sum (dr := dr) (ce := cel σ) (ld := ld σ) (V := V) (nt σ 1) (fun f hf => ⟨(nI_of_inb (wl.2.1 f hf).1).2, by have := (nI_of_inb (wl.2.1 f hf).2.1).2; unfold ld nt; omega⟩)
  have h2 := lsum_le (f := fun x => ownV dr (cel σ) (ld σ) V x (nt σ 1)) (g := owW σ dr V) 48 (fun c _ => by
    unfold owW owM
    split
    · exact Nat.le_refl _
    · exact Nat.zero_le _)
  omega
theorem e_Mo_sweep (W : Wm (M.1 95)) (hdr : ∀ f, dr f = decide (wh (M.1 95) (M.1 95 0) (nt (M.1 95) 2) f = 2)) (R : Rw M r N) (T : Top (upS (M.1 95)) (fun i => r (i + 1)) h N) (hh : h < 48) (hN : N ≤ 47) (e8 : M.1 95 8 = nI w) (hw : w ≤ 9) (hV : ∀ c, c < 48 → M.1 105 c = V c) : ∃ M', f_Mo_sweep_94 (nI (N + 1)) M = some (bfD (upS (M.1 95)) (fun i => r (i + 1)) (lsW w (cfF (upS (M.1 95)) (fun i => r (i + 1)) (owW (M.1 95) dr V) N)) V N, M') ∧ Fr sVm M M' ∧ (∀ c, c < 48 → M'.1 105 c = vfD (upS (M.1 95)) (fun i => r (i + 1)) (lsW w (cfF (upS (M.1 95)) (fun i => r (i + 1)) (owW (M.1 95) dr V) N)) V N c) ∧ (∀ c, c < 48 → M'.2 107 c = l64 (cfF (upS (M.1 95)) (fun i => r (i + 1)) (owW (M.1 95) dr V) N c)) ∧ M'.1 106 = M.1 106 ∧ M'.1 94 = M.1 94 := by
  have h10 : nt (M.1 95) 1 ≤ 10 := by have := (nt_inb W.1.2.1).2; omega
  have g7 : ∀ a i, s107 a i = true → sVm a i = true := fun a i h => by unfold s107 at h; rw [beq_iff_eq] at h; subst h; rfl
  obtain ⟨M1, a1, a2, a3⟩ := e_ms0 (M := M)
  have e1 : M1.1 95 = M.1 95 := a2.row (fun _ => rfl)
  obtain ⟨M2, b1, b2, b3⟩ := e_ms1 (M := M1) (V := V) (dr := dr) (by rw [e1]; exact W) (by rw [e1]; exact hdr) (fun c hc => by rw [a2.at_ rfl]; exact hV c hc) a3
  rw [e1] at b3
  have e2 : M2.1 95 = M.1 95 := (b2.row (fun _ => rfl)).trans e1
  have f2 : M2.1 106 = M.1 106 := (b2.row (fun _ => rfl)).trans (a2.row (fun _ => rfl))
  have R2 : Rw M2 r N := by unfold Rw; rw [e2, f2]; exact R
  obtain ⟨M3, c1, c2, c3⟩ := e_ms2 (M := M2) (own := owW (M.1 95) dr V) R2 (by rw [e2]; exact T) hh hN b3
  rw [e2] at c3
  have e3 : M3.1 95 = M.1 95 := (c2.row (fun _ => rfl)).trans e2
  have f3 : M3.1 106 = M.1 106 := (c2.row (fun _ => rfl)).trans f2
  have R3 : Rw M3 r N := by unfold Rw; rw [e3, f3]; exact R
  have hle : ∀ i, i < N → cfF (upS (M.1 95)) (fun i => r (i + 1)) (owW (M.1 95) dr V) N (r (i + 1)) ≤ 500000 := fun i hi => Nat.le_trans (cfF_le T hh hi) (owW_b W.2.2.1 h10)
  obtain ⟨M4, d1, d2, d3⟩ := e_ms3 (M := M3) (V := V) (C := cfF (upS (M.1 95)) (fun i => r (i + 1)) (owW (M.1 95) dr V) N) R3 (by rw [e3]; exact T) hh hN (by rw [e3]; exact e8) hw (fun c hc => by rw [c2.at_ rfl, b2.at_ rfl, a2.at_ rfl]; exact hV c hc) (fun i hi => ⟨c3 _ (T.1 i hi).1, hle i hi⟩)
  rw [e3] at d1 d3
  refine ⟨M4, ?_, ((a2.mono g7).trans (b2.mono g7)).trans ((c2.mono g7).trans (d2.mono (fun a i h => by rw [beq_iff_eq] at h; subst h; rfl))), d3, fun c hc => by rw [d2.atL rfl]; exact c3 c hc, (d2.row (fun _ => rfl)).trans f3, (((d2.row (fun _ => rfl)).trans (c2.row (fun _ => rfl))).trans (b2.row (fun _ => rfl))).trans (a2.row (fun _ => rfl))⟩
  unfold f_Mo_sweep_94
  rw [a1, Option.bind_some, b1, Option.bind_some, c1, Option.bind_some, d1]
  rfl
theorem e_settles {τ : Nat → Int32} (W : Wm (M.1 95)) (Tr : Tree (M.1 95) τ) (hdr : ∀ f, dr f = decide (wh (M.1 95) (M.1 95 0) (nt (M.1 95) 2) f = 2)) : ∃ (r : Nat → Nat) (N k : Nat) (M' : Mem), f_Mo_settles_94 M = some (nI (N + 1), M') ∧ Fr sVm M M' ∧ N ≤ 47 ∧ Top (upS (M.1 95)) (fun i => r (i + 1)) (nt (M.1 95) 9) N ∧ (∀ c, c < 48 → (lnm (fun i => r (i + 1)) N c = true ↔ M.1 95 (116 + c) ≠ -1)) ∧ stN (swB (upS (M.1 95)) (fun i => r (i + 1)) N (owW (M.1 95) dr) (nt (M.1 95) 8)) k ∧ M'.1 94 19 = nI k ∧ M'.1 94 20 = bI (swB (upS (M.1 95)) (fun i => r (i + 1)) N (owW (M.1 95) dr) (nt (M.1 95) 8) (k - 1)) ∧ (∀ c, c < 48 → M'.1 105 c = swV (upS (M.1 95)) (fun i => r (i + 1)) N (owW (M.1 95) dr) (nt (M.1 95) 8) k c) ∧ (∀ c, c < 48 → M'.2 107 c = l64 (swC (upS (M.1 95)) (fun i => r (i + 1)) N (owW (M.1 95) dr) (nt (M.1 95) 8) (k - 1) c)) ∧ ∀ i, i < N + 1 → M'.1 106 i = nI (r i) := by
  have n9 := W.1.2.2.2.2.2.2.2.2.2
  obtain ⟨e9, l9⟩ := nt_inb n9
  obtain ⟨e8, l8⟩ := nt_inb W.1.2.2.2.2.2.2.2.2.1
  obtain ⟨r, N, M1, a1, a2, a3, a4, a5, a6, a7, a8⟩ := e_rows (M := M) W.2.2.1 Tr n9
  have e1 : M1.1 95 = M.1 95 := a2.row (fun _ => rfl)
  have hrw : ∀ i, i < N → M.1 95 (116 + r (i + 1)) = nI (upS (M.1 95) (r (i + 1))) := fun i hi => by
    rcases W.2.2.1.2.2 (r (i + 1)) (a6.1 i hi).1 with g | g
    · exact absurd g (a7 i hi)
    · exact (nI_of_inb g).1
  obtain ⟨M2, b1, b2, b3⟩ := itr_cnt (body := b_Mo_settles_94_7) (s0 := ((0 : Int32), M1)) (fun k z => z.1 = nI k ∧ Fr (fun a _ => a == 105) M1 z.2 ∧ ∀ c, c < k → z.2.1 105 c = 1000) (fun X => Fr (fun a _ => a == 105) M1 X ∧ ∀ c, c < 48 → X.1 105 c = 1000) 48 (by omega) ⟨rfl, Fr.refl _, fun c hc => by omega⟩ (by
    rintro k ⟨x, X⟩ hk ⟨rfl, hF, hr⟩
    dsimp only at hF hr
    left
    refine ⟨(nI (k + 1), wI X 105 k 1000), ?_, rfl, hF.wI rfl, fun c hc => ?_⟩
    · unfold b_Mo_settles_94_7 jv_
      dsimp only
      rw [show (48 : Int32) = nI 48 from rfl, dlt_t hk (by omega), ite_tt, inb_t (by omega) (by omega), ite_tt, nI_cl (by omega), nI_one]
    · dsimp only
      by_cases g : c = k
      · rw [g]; exact rde
      · rw [rdi g]; exact hr c (by omega)) (by
    rintro ⟨x, X⟩ ⟨rfl, hF, hr⟩
    dsimp only at hF hr
    refine ⟨X, ?_, hF, hr⟩
    unfold b_Mo_settles_94_7
    dsimp only
    rw [show (48 : Int32) = nI 48 from rfl, dlt_f (Nat.le_refl _) (by omega), ite_ff])
  have F2 : Fr sVm M (wI (wI M2 94 20 0) 94 19 0) := (((a2.mono (fun a i h => by rw [beq_iff_eq] at h; subst h; rfl)).trans (b2.mono (fun a i h => by rw [beq_iff_eq] at h; subst h; rfl))).wI rfl).wI rfl
  have hfl : ∀ b : Bool, isb (bI b) = true ∧ decide (bI b = 1) = b := fun b => by cases b <;> exact ⟨rfl, rfl⟩
  generalize hsB : swB (upS (M.1 95)) (fun i => r (i + 1)) N (owW (M.1 95) dr) (nt (M.1 95) 8) = B
  obtain ⟨e, h1, h2⟩ := itr_cnt (body := b_Mo_settles_94_38 (nI (N + 1), M1)) (s0 := wI (wI M2 94 20 0) 94 19 0) (fun k X => Fr sVm M X ∧ X.1 94 19 = nI k ∧ X.1 94 20 = bI (decide (1 ≤ k) && B (k - 1)) ∧ (∀ c, c < 48 → X.1 105 c = swV (upS (M.1 95)) (fun i => r (i + 1)) N (owW (M.1 95) dr) (nt (M.1 95) 8) k c) ∧ (1 ≤ k → ∀ c, c < 48 → X.2 107 c = l64 (swC (upS (M.1 95)) (fun i => r (i + 1)) N (owW (M.1 95) dr) (nt (M.1 95) 8) (k - 1) c)) ∧ (∀ j, 1 ≤ j → j < k → B (j - 1) = false) ∧ ∀ i, i < N + 1 → X.1 106 i = nI (r i)) (fun X => ∃ k, Fr sVm M X ∧ stN B k ∧ X.1 94 19 = nI k ∧ X.1 94 20 = bI (B (k - 1)) ∧ (∀ c, c < 48 → X.1 105 c = swV (upS (M.1 95)) (fun i => r (i + 1)) N (owW (M.1 95) dr) (nt (M.1 95) 8) k c) ∧ (∀ c, c < 48 → X.2 107 c = l64 (swC (upS (M.1 95)) (fun i => r (i + 1)) N (owW (M.1 95) dr) (nt (M.1 95) 8) (k - 1) c)) ∧ ∀ i, i < N + 1 → X.1 106 i = nI (r i)) 30 (by omega) ⟨F2, rde, by rw [rdi (by omega), rde]; rfl, fun c hc => by
      rw [rdk (by omega), rdk (by omega), b3 c hc]; rfl, fun h => absurd h (by omega), fun j _ h => absurd h (by omega), fun i hi => by
      rw [rdk (by omega), rdk (by omega), b2.at_ rfl]; exact a3 i hi⟩ (by
    rintro k X hk ⟨hF, q1, q2, q3, q4, q5, q6⟩
    obtain ⟨g1, g2⟩ := hfl (decide (1 ≤ k) && B (k - 1))
    have e95 : X.1 95 = M.1 95 := hF.row (fun _ => rfl)
    by_cases hs : (decide (1 ≤ k) && B (k - 1)) = true
    · right
      rw [Bool.and_eq_true, decide_eq_true_eq] at hs
      refine ⟨X, ?_, k, hF, ⟨hs.1, by omega, q5, .inl hs.2⟩, q1, by rw [q2, decide_eq_true hs.1, Bool.true_and], q3, q4 hs.1, q6⟩
      unfold b_Mo_settles_94_38
      rw [q1, show (30 : Int32) = nI 30 from rfl, dlt_t hk (by omega), ite_tt, q2, g1, ite_tt, g2, decide_eq_true hs.1, hs.2]; rfl
    · left
      obtain ⟨Y, y1, y2, y3, y4, y5, y6⟩ := e_Mo_sweep (M := X) (dr := dr) (V := swV (upS (M.1 95)) (fun i => r (i + 1)) N (owW (M.1 95) dr) (nt (M.1 95) 8) k) (r := r) (N := N) (h := nt (M.1 95) 9) (w := nt (M.1 95) 8) (by rw [e95]; exact W) (by rw [e95]; exact hdr) ⟨q6, by rw [e95]; exact hrw⟩ (by rw [e95]; exact a6) l9 a4 (by rw [e95]; exact e8) (by omega) q3
      rw [e95] at y1 y3 y4
      refine ⟨wI (wI Y 94 20 (bI (B k))) 94 19 (nI (k + 1)), ?_, ((hF.trans y2).wI rfl).wI rfl, rde, ?_, fun c hc => ?_, fun _ c hc => ?_, fun j j1 j2 => ?_, fun i hi => ?_⟩
      · unfold b_Mo_settles_94_38 jv_
        rw [q1, show (30 : Int32) = nI 30 from rfl, dlt_t hk (by omega), ite_tt, q2, g1, ite_tt, g2, if_neg hs, y1, Option.bind_some]
        dsimp only
        rw [rdi (by omega), y6, q1, nI_one, ← hsB]; rfl
      · rw [rdi (by omega), rde, decide_eq_true (by omega), Bool.true_and, Nat.add_sub_cancel]
      · rw [rdk (by omega), rdk (by omega), y3 c hc]; rfl
      · rw [Nat.add_sub_cancel]
        exact y4 c hc
      · by_cases g3 : j = k
        · rw [g3]
          cases c : B (k - 1)
          · rfl
          · exact absurd (show (decide (1 ≤ k) && B (k - 1)) = true by rw [c, decide_eq_true (by omega)]; rfl) hs
        · exact q5 j j1 (by omega)
      · rw [rdk (by omega), rdk (by omega), y5]; exact q6 i hi) (by
    rintro X ⟨hF, q1, q2, q3, q4, q5, q6⟩
    refine ⟨X, ?_, 30, hF, ⟨by omega, by omega, q5, .inr rfl⟩, q1, by rw [q2]; rfl, q3, q4 (by omega), q6⟩
    unfold b_Mo_settles_94_38
    rw [q1, show (30 : Int32) = nI 30 from rfl, dlt_f (Nat.le_refl _) (by omega), ite_ff])
  obtain ⟨k, k1, k2, k3, k4, k5, k6, k7⟩ := h2
  refine ⟨r, N, k, e, ?_, k1, a4, a6, fun c hc => ⟨fun h => ?_, a8 c hc⟩, by rw [hsB]; exact k2, k3, by rw [hsB]; exact k4, k5, k6, k7⟩
  · unfold f_Mo_settles_94 jv_
    rw [a1, Option.bind_some]
    dsimp only
    rw [b1, Option.bind_some, h1]
    rfl
  · obtain ⟨i, i1, i2⟩ := lnm_i.mp h
    rw [← i2]
    exact a7 i i1
end VM
end
