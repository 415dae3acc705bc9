section WK
def prM (t : Nat) : Nat × Nat := (t / 48, t % 48)
theorem prM_at {a b : Nat} (hb : b < 48) : prM (48 * a + b) = (a, b) := by
  unfold prM
  rw [show (48 * a + b) / 48 = a by omega, show (48 * a + b) % 48 = b by omega]
variable {M : Mem} {f D : Nat → Nat} {σ : Nat → Int32}
theorem covM : ∀ a b, okW σ a b = true → ∃ t, t < 2304 ∧ prM t = (a, b) := fun a b h => by
  obtain ⟨l1, l2⟩ := okW_lt a b h
  exact ⟨48 * a + b, by omega, prM_at l2⟩
def rowM (M : Mem) (f : Nat → Nat) : Prop := ∀ c, c < 48 → M.1 103 c = if f c < 1000000 then nI (f c) else -1
def s103 (a _i : Nat) : Bool := a == 103
theorem lsum_ub {B : Nat} : ∀ n, (∀ c, c < n → f c ≤ B) → lsum f n ≤ n * B
  | 0, _ => by show 0 ≤ _; omega
  | n + 1, h => by
    have h1 := lsum_ub n (fun c hc => h c (by omega))
    have h2 := h n (by omega)
    show lsum f n + f n ≤ _
    rw [Nat.add_mul]; omega
theorem lsum_congr {g : Nat → Nat} : ∀ n, (∀ c, c < n → f c = g c) → lsum f n = lsum g n
  | 0, _ => rfl
  | n + 1, h => by
    show lsum f n + f n = lsum g n + g n
    rw [lsum_congr n (fun c hc => h c (by omega)), h n (by omega)]
theorem wkM_step (wl : wLand (M.1 95)) {g : Nat → Nat} (hB : Bdd g) {X : Mem} (hF : Fr s103 M X) (hR : rowM X g) {a b : Nat} (ha : a < 48) (hb : b < 48) (x fl : Int32) (X0 : Mem) : b_Mo_works_94_51 (x, nI a, X0) (fl, nI b, X) = if okW (M.1 95) a b = true ∧ g a + wW (M.1 95) a b < g b then some (.inl (1, nI (b + 1), wI X 103 b (nI (g a + wW (M.1 95) a b)))) else some (.inl (fl, nI (b + 1), X)) := by
  have e95 : X.1 95 = M.1 95 := hF.row (fun _ => rfl)
  unfold b_Mo_works_94_51 jv_
  dsimp only
  rw [show (48 : Int32) = nI 48 from rfl, dlt_t hb (by omega), ite_tt, inb_t ha (by omega), ite_tt, nI_cl (by omega), nI_cl (by omega), hR a ha, nI_one]
  by_cases g1 : g a < 1000000
  · rw [if_pos g1, nI_eqm1 (by omega), ite_ff, bs_fin a ha b hb, Option.bind_some, okW_mk ha hb]
    have b1 := Bd_lt hB ha g1
    cases hbs : bsd (nI a) (nI b) with
    | false =>
      rw [ite_ff, Bool.false_and, if_neg (fun h => by cases h.1)]
    | true =>
      have hco : f_Mo_costOf_94 (nI a) (nI b) X = some (cst (M.1 95) a b) := by
        have := e_Mo_costOf (M := X) ha hb (by rw [e95]; exact wl.1)
        rw [e95] at this; exact this
      rw [ite_tt, hco, Bool.true_and]
      dsimp only [Option.bind_some]
      rcases cst_bnd wl ha hb with h5 | ⟨h6, h7, h8⟩
      · rw [decide_eq_true h5, ite_tt, if_neg (fun h => by cases h.1)]
      · have hne : cst (M.1 95) a b ≠ -5 := fun e => by
          rw [h8] at e
          have := congrArg Int32.toInt e
          rw [nI_toI (by omega), show (-5 : Int32).toInt = -5 from rfl] at this; omega
        rw [decide_eq_false hne, ite_ff, inb_t hb (by omega), ite_tt, ite_tt, ite_tt, ite_tt, hR b hb, h8, nI_addn]
        have b2 := (hB b hb).1
        by_cases g2 : g b < 1000000
        · rw [if_pos g2, nI_eqm1 (by omega), ite_ff, ite_tt, d_lt (by omega) (by omega)]
          by_cases g3 : g a + wW (M.1 95) a b < g b
          · rw [if_pos (decide_eq_true g3), if_pos ⟨rfl, g3⟩]
          · rw [if_neg (by rw [decide_eq_true_eq]; exact g3), if_neg (fun h => g3 h.2)]
        · rw [if_neg g2, show decide ((-1 : Int32) = -1) = true from rfl, ite_tt, if_pos ⟨rfl, by omega⟩]
  · rw [if_neg g1, show decide ((-1 : Int32) = -1) = true from rfl, ite_tt, if_neg (fun h => by
      have := (hB b hb).1
      omega)]
theorem e_wk1 (wl : wLand (M.1 95)) (hB : Bdd f) {X : Mem} (hF0 : Fr s103 M X) {a : Nat} (ha : a < 48) (hr : rowM X (pas (okW (M.1 95)) (wW (M.1 95)) prM f (48 * a))) (x : Int32) (X0 : Mem) : ∃ M', itr (b_Mo_works_94_51 (x, nI a, X0)) FU (bI (chg (okW (M.1 95)) (wW (M.1 95)) prM f (48 * a)), 0, X) = some (bI (chg (okW (M.1 95)) (wW (M.1 95)) prM f (48 * a + 48)), M') ∧ Fr s103 M M' ∧ rowM M' (pas (okW (M.1 95)) (wW (M.1 95)) prM f (48 * a + 48)) := by
  have hw2 : ∀ a b, okW (M.1 95) a b = true → wW (M.1 95) a b ≤ 40 := fun a b h => (wW_bnd wl a b h).2.1
  obtain ⟨e, h1, h2⟩ := itr_cnt (body := b_Mo_works_94_51 (x, nI a, X0)) (s0 := (bI (chg (okW (M.1 95)) (wW (M.1 95)) prM f (48 * a)), (0 : Int32), X)) (fun k s => s.1 = bI (chg (okW (M.1 95)) (wW (M.1 95)) prM f (48 * a + k)) ∧ s.2.1 = nI k ∧ Fr s103 M s.2.2 ∧ rowM s.2.2 (pas (okW (M.1 95)) (wW (M.1 95)) prM f (48 * a + k))) (fun e => e.1 = bI (chg (okW (M.1 95)) (wW (M.1 95)) prM f (48 * a + 48)) ∧ Fr s103 M e.2 ∧ rowM e.2 (pas (okW (M.1 95)) (wW (M.1 95)) prM f (48 * a + 48))) 48 (by omega) ⟨rfl, rfl, hF0, hr⟩ (by
    rintro k ⟨y, z, Y⟩ hk ⟨hy, rfl, hF, hR⟩
    dsimp only at hy hF hR
    left
    have hp : prM (48 * a + k) = (a, k) := prM_at hk
    have hs1 : pas (okW (M.1 95)) (wW (M.1 95)) prM f (48 * a + (k + 1)) = rlx (okW (M.1 95)) (wW (M.1 95)) (prM (48 * a + k)) (pas (okW (M.1 95)) (wW (M.1 95)) prM f (48 * a + k)) := rfl
    have hs2 : chg (okW (M.1 95)) (wW (M.1 95)) prM f (48 * a + (k + 1)) = (chg (okW (M.1 95)) (wW (M.1 95)) prM f (48 * a + k) || decide (okW (M.1 95) (prM (48 * a + k)).1 (prM (48 * a + k)).2 = true ∧ pas (okW (M.1 95)) (wW (M.1 95)) prM f (48 * a + k) (prM (48 * a + k)).1 + wW (M.1 95) (prM (48 * a + k)).1 (prM (48 * a + k)).2 < pas (okW (M.1 95)) (wW (M.1 95)) prM f (48 * a + k) (prM (48 * a + k)).2)) := rfl
    rw [hp] at hs1 hs2
    dsimp only at hs2
    have hBg := Bd_pas (pr := prM) okW_lt hw2 hB (48 * a + k)
    generalize pas (okW (M.1 95)) (wW (M.1 95)) prM f (48 * a + k) = g at *
    generalize chg (okW (M.1 95)) (wW (M.1 95)) prM f (48 * a + k) = q at *
    rw [hs1, hs2]
    have hst := wkM_step wl hBg hF hR ha hk x y X0
    by_cases hlt : okW (M.1 95) a k = true ∧ g a + wW (M.1 95) a k < g k
    · rw [if_pos hlt] at hst
      have b1 := (hBg k hk).1
      refine ⟨_, hst, ?_, rfl, hF.wI rfl, fun d hd => ?_⟩
      · rw [decide_eq_true hlt, Bool.or_true]; rfl
      · dsimp only
        unfold rlx
        rw [if_pos hlt]
        by_cases h9 : d = k
        · rw [h9, updN_e, if_pos (by dsimp only; omega)]; exact rde
        · rw [updN_n h9, rdi h9]; exact hR d hd
    · rw [if_neg hlt] at hst
      refine ⟨_, hst, ?_, rfl, hF, fun d hd => ?_⟩
      · rw [decide_eq_false hlt, Bool.or_false]; exact hy
      · dsimp only
        unfold rlx
        rw [if_neg hlt]; exact hR d hd) (by
    rintro ⟨y, z, Y⟩ ⟨hy, hz, hF, hR⟩
    dsimp only at hy hz hF hR
    rw [hz]
    refine ⟨(y, Y), ?_, hy, hF, hR⟩
    unfold b_Mo_works_94_51
    dsimp only
    rw [show (48 : Int32) = nI 48 from rfl, dlt_f (by omega) (by omega), ite_ff])
  obtain ⟨e1, e2⟩ := e
  obtain ⟨p1, p2, p3⟩ := h2
  dsimp only at p1 p2 p3
  exact ⟨e2, h1.trans (congrArg (fun z => some (z, e2)) p1), p2, p3⟩
theorem e_wk2 (wl : wLand (M.1 95)) (hB : Bdd f) {X : Mem} (hF0 : Fr s103 M X) (hr : rowM X f) : ∃ M', itr b_Mo_works_94_43 FU (0, 0, X) = some (bI (chg (okW (M.1 95)) (wW (M.1 95)) prM f 2304), M') ∧ Fr s103 M M' ∧ rowM M' (pas (okW (M.1 95)) (wW (M.1 95)) prM f 2304) := by
  obtain ⟨e, h1, h2⟩ := itr_cnt (body := b_Mo_works_94_43) (s0 := ((0 : Int32), (0 : Int32), X)) (fun k s => s.1 = bI (chg (okW (M.1 95)) (wW (M.1 95)) prM f (48 * k)) ∧ s.2.1 = nI k ∧ Fr s103 M s.2.2 ∧ rowM s.2.2 (pas (okW (M.1 95)) (wW (M.1 95)) prM f (48 * k))) (fun e => e.1 = bI (chg (okW (M.1 95)) (wW (M.1 95)) prM f 2304) ∧ Fr s103 M e.2 ∧ rowM e.2 (pas (okW (M.1 95)) (wW (M.1 95)) prM f 2304)) 48 (by omega) ⟨rfl, rfl, hF0, hr⟩ (by
    rintro k ⟨y, z, Y⟩ hk ⟨hy, rfl, hF, hR⟩
    dsimp only at hy hF hR
    left
    obtain ⟨Z, g1, g2, g3⟩ := e_wk1 wl hB hF hk hR y Y
    refine ⟨(bI (chg (okW (M.1 95)) (wW (M.1 95)) prM f (48 * k + 48)), nI (k + 1), Z), ?_, rfl, rfl, g2, g3⟩
    unfold b_Mo_works_94_43
    dsimp only
    rw [show (48 : Int32) = nI 48 from rfl, dlt_t hk (by omega), ite_tt]
    rw [← hy] at g1
    rw [g1, Option.bind_some, nI_one]) (by
    rintro ⟨y, z, Y⟩ ⟨hy, hz, hF, hR⟩
    dsimp only at hy hz hF hR
    rw [show 48 * 48 = 2304 from rfl] at hy hR
    rw [hz]
    refine ⟨(y, Y), ?_, hy, hF, hR⟩
    unfold b_Mo_works_94_43
    dsimp only
    rw [show (48 : Int32) = nI 48 from rfl, dlt_f (by omega) (by omega), ite_ff])
  obtain ⟨e1, e2⟩ := e
  obtain ⟨p1, p2, p3⟩ := h2
  dsimp only at p1 p2 p3
  exact ⟨e2, h1.trans (congrArg (fun z => some (z, e2)) p1), p2, p3⟩
def valM (X : Mem) (c : Nat) : Nat := if X.1 103 c = -1 then 1000000 else (X.1 103 c).toNatClampNeg
theorem valM_e {X : Mem} (hB : Bdd f) (hR : rowM X f) : lsum (valM X) 48 = lsum f 48 := by
  apply lsum_congr
  intro c hc
  have b1 := (hB c hc).1
  unfold valM
  rw [hR c hc]
  by_cases g : f c < 1000000
  · rw [if_pos g, if_neg (nI_ne_m1 (by omega)), nI_cl (by omega)]
  · rw [if_neg g, if_pos rfl]; omega
theorem Bdd_ini : Bdd (iniF σ) := fun c hc => by
  unfold iniF
  split
  · exact ⟨by omega, fun _ => by omega⟩
  · exact ⟨by omega, fun h => by omega⟩
theorem e_works (wl : wLand (M.1 95)) (hD : isD (okW (M.1 95)) (wW (M.1 95)) (iniF (M.1 95)) D) : ∃ M', f_Mo_works_94 M = some M' ∧ Fr s103 M M' ∧ rowM M' D := by
  have hw2 : ∀ a b, okW (M.1 95) a b = true → wW (M.1 95) a b ≤ 40 := fun a b h => (wW_bnd wl a b h).2.1
  obtain ⟨M1, h1, h2, h3⟩ := itr_cnt (body := b_Mo_works_94_2) (s0 := ((0 : Int32), M)) (fun k s => s.1 = nI k ∧ Fr s103 M s.2 ∧ ∀ c, c < k → s.2.1 103 c = if iniF (M.1 95) c < 1000000 then nI (iniF (M.1 95) c) else -1) (fun X => Fr s103 M X ∧ rowM X (iniF (M.1 95))) 48 (by omega) ⟨rfl, Fr.refl _, fun c hc => by omega⟩ (by
    rintro k ⟨y, X⟩ hk ⟨rfl, hF, hr⟩
    dsimp only at hF hr
    left
    refine ⟨(nI (k + 1), wI X 103 k (if iniF (M.1 95) k < 1000000 then nI (iniF (M.1 95) k) else -1)), ?_, rfl, hF.wI rfl, fun d hd => ?_⟩
    · have e95 : X.1 95 = M.1 95 := hF.row (fun _ => rfl)
      unfold b_Mo_works_94_2 jv_
      dsimp only
      rw [show (48 : Int32) = nI 48 from rfl, dlt_t hk (by omega), ite_tt, e_Mo_isOnLine hk, Option.bind_some, inb_t hk (by omega), ite_tt, nI_cl (by omega), e95, nI_one]
      unfold iniF
      cases onL (M.1 95) k <;> rfl
    · dsimp only
      by_cases g : d = k
      · rw [g]; exact rde
      · rw [rdi g]; exact hr d (by omega)) (by
    rintro ⟨y, X⟩ ⟨rfl, hF, hr⟩
    dsimp only at hF hr
    refine ⟨X, ?_, hF, hr⟩
    unfold b_Mo_works_94_2
    dsimp only
    rw [show (48 : Int32) = nI 48 from rfl, dlt_f (by omega) (by omega), ite_ff])
  obtain ⟨M2, k1, k2, k3⟩ := itr_inv' (body := b_Mo_works_94_35) (fun s => Fr s103 M s.2 ∧ ∃ g, rowM s.2 g ∧ Bdd g ∧ (∀ c, c < 48 → g c ≤ iniF (M.1 95) c) ∧ (∀ c, c < 48 → D c ≤ g c) ∧ (s.1 = 0 ∧ clo (okW (M.1 95)) (wW (M.1 95)) g ∨ s.1 = 1)) (fun s => 2 * lsum (valM s.2) 48 + s.1.toNatClampNeg) (fun X => Fr s103 M X ∧ rowM X D) (by
    rintro ⟨y, X⟩ ⟨hF, g, hR, hB, g1, g2, g3⟩
    dsimp only at hF hR g3
    rcases g3 with ⟨rfl, g3⟩ | rfl
    · right
      refine ⟨X, ?_, hF, fun c hc => ?_⟩
      · unfold b_Mo_works_94_35
        dsimp only
        rw [if_pos (show decide ((0 : Int32) = 0) = true from rfl)]
      · rw [hR c hc, Nat.le_antisymm (hD.2.2 g g1 g3 c hc) (g2 c hc)]
    · left
      obtain ⟨Y, p1, p2, p3⟩ := e_wk2 wl hB hF hR
      have hB' := Bd_pas (pr := prM) okW_lt hw2 hB 2304
      have hle := fun c => pas_le (ok := okW (M.1 95)) (w := wW (M.1 95)) (pr := prM) (f := g) 2304 c
      have hge := pas_ge (pr := prM) okW_lt hD.2.1 g2 2304
      have hcl : chg (okW (M.1 95)) (wW (M.1 95)) prM g 2304 = false → clo (okW (M.1 95)) (wW (M.1 95)) (pas (okW (M.1 95)) (wW (M.1 95)) prM g 2304) := fun h => by
        rw [(chg_f 2304 h).1]; exact clo_of covM h
      have hlt := chg_t (ok := okW (M.1 95)) (pr := prM) (w := wW (M.1 95)) (f := g) okW_lt 2304
      have hls := lsum_le 48 (fun c (_ : c < 48) => hle c)
      generalize hpg : pas (okW (M.1 95)) (wW (M.1 95)) prM g 2304 = g' at *
      generalize hcg : chg (okW (M.1 95)) (wW (M.1 95)) prM g 2304 = q at *
      refine ⟨(bI q, Y), ?_, ⟨p2, g', p3, hB', fun c hc => Nat.le_trans (hle c) (g1 c hc), hge, ?_⟩, ?_⟩
      · unfold b_Mo_works_94_35
        dsimp only
        rw [show decide ((1 : Int32) = 0) = false from rfl, ite_ff, p1]; rfl
      · cases q
        · exact .inl ⟨rfl, hcl rfl⟩
        · exact .inr rfl
      · dsimp only
        rw [valM_e hB hR, valM_e hB' p3]
        cases q
        · show 2 * lsum g' 48 + 0 < 2 * lsum g 48 + 1
          omega
        · have := hlt rfl
          show 2 * lsum g' 48 + 1 < 2 * lsum g 48 + 1
          omega) (s := ((1 : Int32), M1)) ⟨h2, iniF (M.1 95), h3, Bdd_ini, fun _ _ => Nat.le_refl _, hD.1, .inr rfl⟩ (by
      dsimp only
      rw [valM_e Bdd_ini h3]
      have := lsum_ub (f := iniF (M.1 95)) (B := 1000000) 48 (fun c _ => ini_le c)
      show 2 * lsum (iniF (M.1 95)) 48 + 1 < _
      omega)
  unfold f_Mo_works_94
  rw [h1, Option.bind_some, k1]
  exact ⟨M2, rfl, k2, k3⟩
def sLd (a i : Nat) : Bool := a == 103 || (a == 104 || (a == 94 && i == 15))
theorem sLd_sMs : ∀ a i, sLd a i = true → sMs a i = true := fun a i h => by
  unfold sLd at h; unfold sMs
  simp only [Bool.or_eq_true, Bool.and_eq_true, beq_iff_eq, decide_eq_true_eq] at h ⊢; omega
theorem s103_sLd : ∀ a i, s103 a i = true → sLd a i = true := fun a i h => by
  unfold s103 at h; unfold sLd; rw [h]; rfl
/-- the model's way -/
theorem e_leads (wl : wLand (M.1 95)) (hD : isD (okW (M.1 95)) (wW (M.1 95)) (iniF (M.1 95)) D) {c : Nat} (hc : c < 48) : ∃ M', f_Mo_leads_94 (nI c) M = some M' ∧ Fr sLd M M' ∧ rowM M' D ∧ ∀ K, D c < 1000000 → Way (M.1 95) D c K → M'.1 94 15 = nI (K + 1) ∧ ∀ k, k ≤ K → M'.1 104 k = nI (pth (M.1 95) D c k) := by
  obtain ⟨M1, w1, w2, w3⟩ := e_works wl hD
  have hb : ∀ c, c < 48 → D c ≤ 1000000 := fun c hc => Nat.le_trans (hD.1 c hc) (ini_le c)
  have F0 : Fr sLd M (wI (wI M1 94 15 1) 104 0 (nI c)) := ((w2.mono s103_sLd).wI rfl).wI rfl
  have hr0 : rowM (wI (wI M1 94 15 1) 104 0 (nI c)) D := fun d hd => by
    rw [rdk (by omega), rdk (by omega)]; exact w3 d hd
  by_cases g : D c < 1000000
  · obtain ⟨K, hK⟩ := way_ex wl hD hc g
    have hK' := hK
    obtain ⟨k47, kw, kz, kl⟩ := hK
    obtain ⟨X, x1, x2, x3, x4, x5⟩ := itr_cnt (body := b_Mo_leads_94_16 (nI c)) (s0 := wI (wI M1 94 15 1) 104 0 (nI c)) (fun k X => Fr sLd M X ∧ rowM X D ∧ X.1 94 15 = nI (k + 1) ∧ ∀ j, j ≤ k → X.1 104 j = nI (pth (M.1 95) D c j)) (fun X => Fr sLd M X ∧ rowM X D ∧ X.1 94 15 = nI (K + 1) ∧ ∀ j, j ≤ K → X.1 104 j = nI (pth (M.1 95) D c j)) K (by omega) ⟨F0, hr0, by rw [rdk (by omega), rde]; rfl, fun j hj => by rw [show j = 0 by omega]; exact rde⟩ (by
      rintro k X hk ⟨hF, hR, h15, hp⟩
      left
      have e95 : X.1 95 = M.1 95 := hF.row (fun i => rfl)
      obtain ⟨q1, q2, q3, q4⟩ := kw k hk
      have lk := kl k (by omega)
      have lk1 := kl (k + 1) (by omega)
      have hpk := hp k (Nat.le_refl _)
      generalize hpd : pth (M.1 95) D c k = p at *
      generalize had : pth (M.1 95) D c (k + 1) = a at *
      have hidx : (X.1 94 15) - 1 = nI k := by rw [h15]; exact nI_subn (a := k + 1) (b := 1) (by omega) (by omega)
      have hst : ∀ b, b < 48 → b_Mo_leads_94_59 X (nI b) = if tgt (M.1 95) D p b = true then some (.inr (nI b)) else some (.inl (nI (b + 1))) := by
        intro b lb
        have hco : f_Mo_costOf_94 (nI p) (nI b) X = some (cst (M.1 95) b p) := by
          have := e_Mo_costOf (M := X) lk lb (by rw [e95]; exact wl.1)
          rw [e95, cst_sym wl lk lb] at this; exact this
        unfold b_Mo_leads_94_59 tgt
        rw [hidx, nI_cl (by omega), hpk, bs_fin p lk b lb, Option.bind_some, okW_mk lb lk, bsd_fin p lk b lb]
        cases hbs : bsd (nI b) (nI p) with
        | false => rw [ite_ff, Bool.false_and, Bool.false_and, if_neg (by decide), nI_one]
        | true =>
          rw [ite_tt, inb_t lb (by omega), ite_tt, nI_cl (by omega), hR b lb, hco, Option.bind_some, Option.bind_some, Bool.true_and, nI_one]
          by_cases g1 : D b < 1000000
          · rw [if_pos g1, nI_eqm1 (by omega), ite_ff]
            rcases cst_bnd wl lb lk with h5 | ⟨h6, h7, h8⟩
            · rw [decide_eq_true h5, ite_tt]; rfl
            · have hne : cst (M.1 95) b p ≠ -5 := fun e => by
                rw [h8] at e
                have := congrArg Int32.toInt e
                rw [nI_toI (by omega), show (-5 : Int32).toInt = -5 from rfl] at this; omega
              rw [decide_eq_false hne, ite_ff, ite_tt, inb_t lk (by omega), ite_tt, nI_cl (by omega), hR p lk, if_pos q2, h8, nI_addn, d_eq (by omega) (by omega), Bool.not_false, Bool.true_and]
          · rw [if_neg g1, show decide ((-1 : Int32) = -1) = true from rfl, ite_tt, decide_eq_false (show ¬ (D b + wW (M.1 95) b p = D p) from by omega), Bool.and_false, if_neg (by decide)]
      obtain ⟨e, s1, s2⟩ := itr_cnt (body := b_Mo_leads_94_59 X) (s0 := (0 : Int32)) (fun j x => x = nI j) (fun e => e = nI a) a (by omega) rfl (by
        rintro j x hj rfl
        left
        refine ⟨_, ?_, rfl⟩
        rw [hst j (by omega), q4 j hj, if_neg (by decide)]) (by
        rintro x rfl
        refine ⟨_, ?_, rfl⟩
        rw [hst a lk1, if_pos q3])
      refine ⟨wI (wI X 104 (k + 1) (nI a)) 94 15 (nI (k + 2)), ?_, (hF.wI rfl).wI rfl, fun d hd => ?_, rde, fun j hj => ?_⟩
      · unfold b_Mo_leads_94_16 jv_
        rw [inb_t hc (by omega), ite_tt, nI_cl (by omega), hR c hc, if_pos g, nI_eqm1 (by omega), ite_ff, hidx, inb_t (by omega) (by omega), ite_tt, nI_cl (by omega), hpk, inb_t lk (by omega), ite_tt, nI_cl (by omega), hR p lk, if_pos q2, show (0 : Int32) = nI 0 from rfl, dle_f q1 (by omega), ite_ff, ite_tt, show (nI 0 : Int32) = 0 from rfl, s1, Option.bind_some, h15, inb_t (by omega) (by omega), ite_tt, nI_cl (by omega), s2]
        dsimp only
        rw [rdk (by omega), h15, nI_one]
      · rw [rdk (by omega), rdk (by omega)]; exact hR d hd
      · rw [rdk (by omega)]
        by_cases g2 : j = k + 1
        · rw [g2, rde, had]
        · rw [rdi g2]; exact hp j (by omega)) (by
      rintro X ⟨hF, hR, h15, hp⟩
      refine ⟨X, ?_, hF, hR, h15, hp⟩
      have hidx : (X.1 94 15) - 1 = nI K := by rw [h15]; exact nI_subn (a := K + 1) (b := 1) (by omega) (by omega)
      have lk := kl K (Nat.le_refl _)
      unfold b_Mo_leads_94_16
      rw [inb_t hc (by omega), ite_tt, nI_cl (by omega), hR c hc, if_pos g, nI_eqm1 (by omega), ite_ff, hidx, inb_t (by omega) (by omega), ite_tt, nI_cl (by omega), hp K (Nat.le_refl _), inb_t lk (by omega), ite_tt, nI_cl (by omega), hR _ lk, kz, if_pos (show 0 < 1000000 by omega), show (0 : Int32) = nI 0 from rfl, dle_t (by omega) (by omega), ite_tt])
    refine ⟨X, ?_, x2, x3, fun K' _ hW => ?_⟩
    · unfold f_Mo_leads_94 jv_
      rw [w1, Option.bind_some]
      dsimp only
      rw [x1]; rfl
    · have : K' = K := by
        obtain ⟨a1, a2, a3, a4⟩ := hK'
        obtain ⟨b1, b2, b3, b4⟩ := hW
        rcases Nat.lt_trichotomy K' K with h | h | h
        · have := (a2 K' h).1; omega
        · exact h
        · have := (b2 K h).1; omega
      rw [this]
      exact ⟨x4, x5⟩
  · refine ⟨wI (wI M1 94 15 1) 104 0 (nI c), ?_, F0, hr0, fun K h => absurd h g⟩
    have hi : itr (b_Mo_leads_94_16 (nI c)) FU (wI (wI M1 94 15 1) 104 0 (nI c)) = some (wI (wI M1 94 15 1) 104 0 (nI c)) := by
      obtain ⟨e, s1, s2⟩ := itr_cnt (body := b_Mo_leads_94_16 (nI c)) (s0 := wI (wI M1 94 15 1) 104 0 (nI c)) (fun _ X => X = wI (wI M1 94 15 1) 104 0 (nI c)) (fun e => e = wI (wI M1 94 15 1) 104 0 (nI c)) 0 (by omega) rfl (fun k X hk => by omega) (by
        rintro X rfl
        refine ⟨_, ?_, rfl⟩
        unfold b_Mo_leads_94_16
        rw [inb_t hc (by omega), ite_tt, nI_cl (by omega), hr0 c hc, if_neg g, show decide ((-1 : Int32) = -1) = true from rfl, ite_tt])
      rw [s1, s2]
    unfold f_Mo_leads_94 jv_
    rw [w1, Option.bind_some]
    dsimp only
    rw [hi]; rfl
end WK
