section GO
def gbN (a k : Nat) : Nat := if k = 0 then (if a % 8 = 7 then 48 else a + 1) else if k = 1 then (if a % 8 = 0 then 48 else a - 1) else if k = 2 then (if a < 40 then a + 8 else 48) else (if 8 ≤ a then a - 8 else 48)
def dI (k : Nat) : Int32 := if decide (nI k = 0) then 1 else (if decide (nI k = 1) then (-1) else (if decide (nI k = 2) then 8 else (-8)))
theorem gb_fin : ∀ a, a < 48 → ∀ k, k < 4 → (if gbN a k = 48 then (!wthn (nI a + dI k) 0 47 || !bsd (nI a) (nI a + dI k)) else (decide (gbN a k < 48) && (decide (nI a + dI k = nI (gbN a k)) && bsd (nI a) (nI (gbN a k))))) = true := by decide +kernel
theorem gb_cov : ∀ a, a < 48 → ∀ b, b < 48 → bsd (nI a) (nI b) = true → (decide (gbN a 0 = b) || (decide (gbN a 1 = b) || (decide (gbN a 2 = b) || decide (gbN a 3 = b)))) = true := by decide +kernel
def prG (t : Nat) : Nat × Nat := (t / 4, gbN (t / 4) (t % 4))
theorem prG_at {a k : Nat} (hk : k < 4) : prG (4 * a + k) = (a, gbN a k) := by
  unfold prG
  rw [show (4 * a + k) / 4 = a by omega, show (4 * a + k) % 4 = k by omega]
variable {M : Mem} {f D : Nat → Nat} {σ : Nat → Int32} {S : Nat}
theorem covG : ∀ a b, okW σ a b = true → ∃ t, t < 192 ∧ prG t = (a, b) := fun a b h => by
  obtain ⟨l1, l2⟩ := okW_lt a b h
  have := gb_cov a l1 b l2 (okW_s h).1
  simp only [Bool.or_eq_true, decide_eq_true_eq] at this
  rcases this with h1 | h1 | h1 | h1
  · exact ⟨4 * a + 0, by omega, by rw [prG_at (by omega), h1]⟩
  · exact ⟨4 * a + 1, by omega, by rw [prG_at (by omega), h1]⟩
  · exact ⟨4 * a + 2, by omega, by rw [prG_at (by omega), h1]⟩
  · exact ⟨4 * a + 3, by omega, by rw [prG_at (by omega), h1]⟩
def rowG (M : Mem) (S : Nat) (f : Nat → Nat) : Prop := ∀ c, c < 48 → M.1 100 (48 * S + c) = nI (f c)
def s100 (S a i : Nat) : Bool := a == 100 && (decide (48 * S ≤ i) && decide (i < 48 * S + 48))
theorem s100_c {c : Nat} (hc : c < 48) : s100 S 100 (48 * S + c) = true := by
  unfold s100
  rw [decide_eq_true (by omega), decide_eq_true (by omega)]; rfl
theorem s100_o {a i : Nat} (h : a ≠ 100) : s100 S a i = false := by
  unfold s100
  rw [show (a == 100) = false from beq_eq_false_iff_ne.mpr h]; rfl
theorem gs_step (hS : S < 64) (wl : wLand (M.1 95)) {g : Nat → Nat} (hg : ∀ c, c < 48 → g c ≤ 1000000) {X : Mem} (hF : Fr (s100 S) M X) (hR : rowG X S g) {a k : Nat} (ha : a < 48) (hk : k < 4) (x fl : Int32) (X0 : Mem) : b_Mo_goesOn_94_19 (nI S) (x, nI a, X0) (fl, nI k, X) = if okW (M.1 95) a (gbN a k) = true ∧ g a + wW (M.1 95) a (gbN a k) < g (gbN a k) then some (.inl (1, nI (k + 1), wI X 100 (48 * S + gbN a k) (nI (g a + wW (M.1 95) a (gbN a k))))) else some (.inl (fl, nI (k + 1), X)) := by
  have e95 : X.1 95 = M.1 95 := hF.row (fun _ => s100_o (by omega))
  have hgb := gb_fin a ha k hk
  unfold b_Mo_goesOn_94_19 jv_ jn_
  dsimp only
  rw [show (4 : Int32) = nI 4 from rfl, dlt_t hk (by omega), ite_tt, nI_one]
  have hdI : (if decide (nI k = 0) = true then (1 : Int32) else if decide (nI k = 1) = true then -1 else if decide (nI k = 2) = true then 8 else -8) = dI k := rfl
  rw [hdI, e_Mo_isCell, Option.bind_some]
  have hno : okW (M.1 95) a (gbN a k) = false → (if decide ((1000000 : Int32) < 1000000) = true then (if inb ((48 * nI S) + (nI a + dI k)) 3072 = true then (if decide ((1000000 : Int32) < (X.1 100 ((48 * nI S) + (nI a + dI k)).toNatClampNeg)) = true then (if inb ((48 * nI S) + (nI a + dI k)) 3072 = true then some (Sum.inl ((1 : Int32), nI (k + 1), wI X 100 ((48 * nI S) + (nI a + dI k)).toNatClampNeg 1000000)) else none) else some (Sum.inl (fl, nI (k + 1), X))) else none) else some (Sum.inl (fl, nI (k + 1), X)) : Option ((Int32 × Int32 × Mem) ⊕ (Int32 × Mem))) = if okW (M.1 95) a (gbN a k) = true ∧ g a + wW (M.1 95) a (gbN a k) < g (gbN a k) then some (.inl (1, nI (k + 1), wI X 100 (48 * S + gbN a k) (nI (g a + wW (M.1 95) a (gbN a k))))) else some (.inl (fl, nI (k + 1), X)) := by
    intro h
    rw [if_neg (by decide), if_neg (fun hh => by rw [h] at hh; cases hh.1)]
  by_cases g48 : gbN a k = 48
  · rw [if_pos g48] at hgb
    have hok : okW (M.1 95) a (gbN a k) = false := by
      unfold okW; rw [g48, show decide (48 < 48) = false from rfl, Bool.false_and, Bool.and_false]
    cases hw : wthn (nI a + dI k) 0 47 with
    | false =>
      rw [ite_ff, ite_ff]
      exact hno hok
    | true =>
      rw [hw, Bool.not_true, Bool.false_or, Bool.not_eq_true'] at hgb
      obtain ⟨eb, lb⟩ := nI_of_inb (w_inb (a := 0) (b := 47) (by omega) (by omega) hw).1
      rw [ite_tt]
      have hbs : f_Mo_areBeside (nI a) (nI a + dI k) = some false := by
        rw [eb, bs_fin a ha _ lb, ← eb, hgb]
      rw [hbs, Option.bind_some, ite_ff, ite_ff]
      exact hno hok
  · rw [if_neg g48, Bool.and_eq_true, Bool.and_eq_true, decide_eq_true_eq, decide_eq_true_eq] at hgb
    obtain ⟨lb, eb, hbs⟩ := hgb
    rw [eb] at hno ⊢
    have hco : f_Mo_costOf_94 (nI a) (nI (gbN a k)) X = some (cst (M.1 95) a (gbN a k)) := by
      have := e_Mo_costOf (M := X) ha lb (by rw [e95]; exact wl.1)
      rw [e95] at this; exact this
    have hwt : wthn (nI (gbN a k)) 0 47 = true := by
      have := inb_wthn (x := nI (gbN a k)) (n := 47) (by omega)
      rw [show (47 : Int32) = nI 47 from rfl, this]; exact inb_t (by omega) (by omega)
    rw [hwt, ite_tt, bs_fin a ha _ lb, Option.bind_some, hbs, ite_tt, hco]
    dsimp only [Option.bind_some]
    have b1 := hg a ha
    have b2 := hg (gbN a k) lb
    rcases cst_bnd wl ha lb with h5 | ⟨h6, h7, h8⟩
    · rw [decide_eq_true h5, ite_tt, ite_ff]
      exact hno (by rw [okW_mk ha lb, hbs, decide_eq_true h5]; rfl)
    · have hne : cst (M.1 95) a (gbN a k) ≠ -5 := fun e => by
        rw [h8] at e
        have := congrArg Int32.toInt e
        rw [nI_toI (by omega), show (-5 : Int32).toInt = -5 from rfl] at this; omega
      have hok : okW (M.1 95) a (gbN a k) = true := by rw [okW_mk ha lb, hbs, decide_eq_false hne]; rfl
      rw [decide_eq_false hne, ite_ff, ite_tt, show (48 : Int32) = nI 48 from rfl, nI_muln, nI_addn, nI_addn, inb_t (by omega) (by omega), inb_t (by omega) (by omega), ite_tt, nI_cl (by omega), nI_cl (by omega), hR a ha, hR _ lb, h8, nI_addn, show (1000000 : Int32) = nI 1000000 from rfl, d_lt (by omega) (by omega), d_lt (by omega) (by omega), hok]
      by_cases g3 : g a + wW (M.1 95) a (gbN a k) < g (gbN a k)
      · rw [if_pos (decide_eq_true (show g a + wW (M.1 95) a (gbN a k) < 1000000 by omega)), ite_tt, if_pos (decide_eq_true g3), ite_tt, if_pos ⟨rfl, g3⟩]
      · rw [if_neg (show ¬ (true = true ∧ g a + wW (M.1 95) a (gbN a k) < g (gbN a k)) from fun h => g3 h.2), decide_eq_false g3]
        cases decide (g a + wW (M.1 95) a (gbN a k) < 1000000) <;> rfl
theorem e_gs1 (hS : S < 64) (wl : wLand (M.1 95)) (hf : ∀ c, c < 48 → f c ≤ 1000000) {X : Mem} (hF0 : Fr (s100 S) M X) {a : Nat} (ha : a < 48) (hr : rowG X S (pas (okW (M.1 95)) (wW (M.1 95)) prG f (4 * a))) (x : Int32) (X0 : Mem) : ∃ M', itr (b_Mo_goesOn_94_19 (nI S) (x, nI a, X0)) FU (bI (chg (okW (M.1 95)) (wW (M.1 95)) prG f (4 * a)), 0, X) = some (bI (chg (okW (M.1 95)) (wW (M.1 95)) prG f (4 * a + 4)), M') ∧ Fr (s100 S) M M' ∧ rowG M' S (pas (okW (M.1 95)) (wW (M.1 95)) prG f (4 * a + 4)) := by
  obtain ⟨e, h1, h2⟩ := itr_cnt (body := b_Mo_goesOn_94_19 (nI S) (x, nI a, X0)) (s0 := (bI (chg (okW (M.1 95)) (wW (M.1 95)) prG f (4 * a)), (0 : Int32), X)) (fun k s => s.1 = bI (chg (okW (M.1 95)) (wW (M.1 95)) prG f (4 * a + k)) ∧ s.2.1 = nI k ∧ Fr (s100 S) M s.2.2 ∧ rowG s.2.2 S (pas (okW (M.1 95)) (wW (M.1 95)) prG f (4 * a + k))) (fun e => e.1 = bI (chg (okW (M.1 95)) (wW (M.1 95)) prG f (4 * a + 4)) ∧ Fr (s100 S) M e.2 ∧ rowG e.2 S (pas (okW (M.1 95)) (wW (M.1 95)) prG f (4 * a + 4))) 4 (by omega) ⟨rfl, rfl, hF0, hr⟩ (by
    rintro k ⟨y, z, Y⟩ hk ⟨hy, rfl, hF, hR⟩
    dsimp only at hy hF hR
    left
    have hp : prG (4 * a + k) = (a, gbN a k) := prG_at hk
    have hs1 : pas (okW (M.1 95)) (wW (M.1 95)) prG f (4 * a + (k + 1)) = rlx (okW (M.1 95)) (wW (M.1 95)) (prG (4 * a + k)) (pas (okW (M.1 95)) (wW (M.1 95)) prG f (4 * a + k)) := rfl
    have hs2 : chg (okW (M.1 95)) (wW (M.1 95)) prG f (4 * a + (k + 1)) = (chg (okW (M.1 95)) (wW (M.1 95)) prG f (4 * a + k) || decide (okW (M.1 95) (prG (4 * a + k)).1 (prG (4 * a + k)).2 = true ∧ pas (okW (M.1 95)) (wW (M.1 95)) prG f (4 * a + k) (prG (4 * a + k)).1 + wW (M.1 95) (prG (4 * a + k)).1 (prG (4 * a + k)).2 < pas (okW (M.1 95)) (wW (M.1 95)) prG f (4 * a + k) (prG (4 * a + k)).2)) := rfl
    rw [hp] at hs1 hs2
    dsimp only at hs2
    have hle := fun c' (h' : c' < 48) => Nat.le_trans (pas_le (ok := okW (M.1 95)) (w := wW (M.1 95)) (pr := prG) (f := f) (4 * a + k) c') (hf c' h')
    generalize pas (okW (M.1 95)) (wW (M.1 95)) prG f (4 * a + k) = g at *
    generalize chg (okW (M.1 95)) (wW (M.1 95)) prG f (4 * a + k) = q at *
    rw [hs1, hs2]
    have hst := gs_step hS wl hle hF hR ha hk x y X0
    by_cases hlt : okW (M.1 95) a (gbN a k) = true ∧ g a + wW (M.1 95) a (gbN a k) < g (gbN a k)
    · have lb := (okW_lt _ _ hlt.1).2
      rw [if_pos hlt] at hst
      refine ⟨_, hst, ?_, rfl, hF.wI (s100_c lb), fun d hd => ?_⟩
      · rw [decide_eq_true hlt, Bool.or_true]; rfl
      · dsimp only
        unfold rlx
        rw [if_pos hlt]
        by_cases h9 : d = gbN a k
        · rw [h9, updN_e]; exact rde
        · rw [updN_n h9, rdi (by omega)]; exact hR d hd
    · rw [if_neg hlt] at hst
      refine ⟨_, hst, ?_, rfl, hF, fun d hd => ?_⟩
      · rw [decide_eq_false hlt, Bool.or_false]; exact hy
      · dsimp only
        unfold rlx
        rw [if_neg hlt]; exact hR d hd) (by
    rintro ⟨y, z, Y⟩ ⟨hy, hz, hF, hR⟩
    dsimp only at hy hz hF hR
    rw [hz]
    refine ⟨(y, Y), ?_, hy, hF, hR⟩
    unfold b_Mo_goesOn_94_19
    dsimp only
    rw [show (4 : Int32) = nI 4 from rfl, dlt_f (by omega) (by omega), ite_ff])
  obtain ⟨e1, e2⟩ := e
  obtain ⟨p1, p2, p3⟩ := h2
  dsimp only at p1 p2 p3
  exact ⟨e2, h1.trans (congrArg (fun z => some (z, e2)) p1), p2, p3⟩
theorem e_gs2 (hS : S < 64) (wl : wLand (M.1 95)) (hf : ∀ c, c < 48 → f c ≤ 1000000) {X : Mem} (hF0 : Fr (s100 S) M X) (hr : rowG X S f) : ∃ M', itr (b_Mo_goesOn_94_10 (nI S)) FU (0, 0, X) = some (bI (chg (okW (M.1 95)) (wW (M.1 95)) prG f 192), M') ∧ Fr (s100 S) M M' ∧ rowG M' S (pas (okW (M.1 95)) (wW (M.1 95)) prG f 192) := by
  obtain ⟨e, h1, h2⟩ := itr_cnt (body := b_Mo_goesOn_94_10 (nI S)) (s0 := ((0 : Int32), (0 : Int32), X)) (fun k s => s.1 = bI (chg (okW (M.1 95)) (wW (M.1 95)) prG f (4 * k)) ∧ s.2.1 = nI k ∧ Fr (s100 S) M s.2.2 ∧ rowG s.2.2 S (pas (okW (M.1 95)) (wW (M.1 95)) prG f (4 * k))) (fun e => e.1 = bI (chg (okW (M.1 95)) (wW (M.1 95)) prG f 192) ∧ Fr (s100 S) M e.2 ∧ rowG e.2 S (pas (okW (M.1 95)) (wW (M.1 95)) prG f 192)) 48 (by omega) ⟨rfl, rfl, hF0, hr⟩ (by
    rintro k ⟨y, z, Y⟩ hk ⟨hy, rfl, hF, hR⟩
    dsimp only at hy hF hR
    left
    obtain ⟨Z, g1, g2, g3⟩ := e_gs1 hS wl hf hF hk hR y Y
    refine ⟨(bI (chg (okW (M.1 95)) (wW (M.1 95)) prG f (4 * k + 4)), nI (k + 1), Z), ?_, rfl, rfl, g2, g3⟩
    unfold b_Mo_goesOn_94_10
    dsimp only
    rw [show (48 : Int32) = nI 48 from rfl, dlt_t hk (by omega), ite_tt]
    rw [← hy] at g1
    rw [g1, Option.bind_some, nI_one]) (by
    rintro ⟨y, z, Y⟩ ⟨hy, hz, hF, hR⟩
    dsimp only at hy hz hF hR
    rw [show 4 * 48 = 192 from rfl] at hy hR
    rw [hz]
    refine ⟨(y, Y), ?_, hy, hF, hR⟩
    unfold b_Mo_goesOn_94_10
    dsimp only
    rw [show (48 : Int32) = nI 48 from rfl, dlt_f (by omega) (by omega), ite_ff])
  obtain ⟨e1, e2⟩ := e
  obtain ⟨p1, p2, p3⟩ := h2
  dsimp only at p1 p2 p3
  exact ⟨e2, h1.trans (congrArg (fun z => some (z, e2)) p1), p2, p3⟩
def valG (S : Nat) (X : Mem) (c : Nat) : Nat := (X.1 100 (48 * S + c)).toNatClampNeg
theorem valG_e {X : Mem} (hf : ∀ c, c < 48 → f c ≤ 1000000) (hR : rowG X S f) : lsum (valG S X) 48 = lsum f 48 := by
  apply lsum_congr
  intro c hc
  have b1 := hf c hc
  unfold valG
  rw [hR c hc, nI_cl (by omega)]
theorem e_goesOnG (hS : S < 64) (wl : wLand (M.1 95)) (hf : ∀ c, c < 48 → f c ≤ 1000000) (hr : rowG M S f) (hD : isD (okW (M.1 95)) (wW (M.1 95)) f D) : ∃ M', f_Mo_goesOn_94 (nI S) M = some M' ∧ Fr (s100 S) M M' ∧ rowG M' S D := by
  obtain ⟨M2, k1, k2, k3⟩ := itr_inv' (body := b_Mo_goesOn_94_2 (nI S)) (fun s => Fr (s100 S) M s.2 ∧ ∃ g, rowG s.2 S g ∧ (∀ c, c < 48 → g c ≤ f c) ∧ (∀ c, c < 48 → D c ≤ g c) ∧ (s.1 = 0 ∧ clo (okW (M.1 95)) (wW (M.1 95)) g ∨ s.1 = 1)) (fun s => 2 * lsum (valG S s.2) 48 + s.1.toNatClampNeg) (fun X => Fr (s100 S) M X ∧ rowG X S D) (by
    rintro ⟨y, X⟩ ⟨hF, g, hR, g1, g2, g3⟩
    dsimp only at hF hR g3
    have hg : ∀ c, c < 48 → g c ≤ 1000000 := fun c hc => Nat.le_trans (g1 c hc) (hf c hc)
    rcases g3 with ⟨rfl, g3⟩ | rfl
    · right
      refine ⟨X, ?_, hF, fun c hc => ?_⟩
      · unfold b_Mo_goesOn_94_2
        dsimp only
        rw [if_pos (show decide ((0 : Int32) = 0) = true from rfl)]
      · rw [hR c hc, Nat.le_antisymm (hD.2.2 g g1 g3 c hc) (g2 c hc)]
    · left
      obtain ⟨Y, p1, p2, p3⟩ := e_gs2 hS wl hg hF hR
      have hle := fun c => pas_le (ok := okW (M.1 95)) (w := wW (M.1 95)) (pr := prG) (f := g) 192 c
      have hge := pas_ge (pr := prG) okW_lt hD.2.1 g2 192
      have hcl : chg (okW (M.1 95)) (wW (M.1 95)) prG g 192 = false → clo (okW (M.1 95)) (wW (M.1 95)) (pas (okW (M.1 95)) (wW (M.1 95)) prG g 192) := fun h => by
        rw [(chg_f 192 h).1]; exact clo_of covG h
      have hlt := chg_t (ok := okW (M.1 95)) (pr := prG) (w := wW (M.1 95)) (f := g) okW_lt 192
      have hls := lsum_le 48 (fun c (_ : c < 48) => hle c)
      generalize hpg : pas (okW (M.1 95)) (wW (M.1 95)) prG g 192 = g' at *
      generalize hcg : chg (okW (M.1 95)) (wW (M.1 95)) prG g 192 = q at *
      refine ⟨(bI q, Y), ?_, ⟨p2, g', p3, fun c hc => Nat.le_trans (hle c) (g1 c hc), hge, ?_⟩, ?_⟩
      · unfold b_Mo_goesOn_94_2
        dsimp only
        rw [show decide ((1 : Int32) = 0) = false from rfl, ite_ff, p1]; rfl
      · cases q
        · exact .inl ⟨rfl, hcl rfl⟩
        · exact .inr rfl
      · dsimp only
        rw [valG_e hg hR, valG_e (fun c hc => Nat.le_trans (hle c) (hg c hc)) p3]
        cases q
        · show 2 * lsum g' 48 + 0 < 2 * lsum g 48 + 1
          omega
        · have := hlt rfl
          show 2 * lsum g' 48 + 1 < 2 * lsum g 48 + 1
          omega) (s := ((1 : Int32), M)) ⟨Fr.refl _, f, hr, fun _ _ => Nat.le_refl _, hD.1, .inr rfl⟩ (by
      dsimp only
      rw [valG_e hf hr]
      have := lsum_ub (f := f) (B := 1000000) 48 hf
      show 2 * lsum f 48 + 1 < _
      omega)
  unfold f_Mo_goesOn_94
  rw [k1]
  exact ⟨M2, rfl, k2, k3⟩
end GO
