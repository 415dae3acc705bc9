/-- a meter ahead of a month: read, guessed, kept, the month that was read last, its units, by -/
abbrev MT : Type := Int32 × Int32 × Int32 × Int32 × Int32 × Int32
def svd (σ : Nat → Int32) (f m : Nat) : Bool := decide (wh σ (nI m) (nt σ 2) f = 2)
def mtU (σ : Nat → Int32) (f m : Nat) (x : MT) : Int32 := σ (2280 + (121 * f + m)) - x.1 - x.2.1 + x.2.2.1
def mtG (x : MT) : Int32 := if x.2.2.2.1 = -1 then 10 else x.2.2.2.2.1 / x.2.2.2.2.2
def mtS (σ : Nat → Int32) (f m : Nat) (x : MT) : MT :=
  if svd σ f m = true then
    (if σ (2280 + (121 * f + m)) = -1 then (x.1, x.2.1 + mtG x, x.2.2)
     else (σ (2280 + (121 * f + m)), 0, (if mtU σ f m x < 0 then mtU σ f m x else 0), nI m, (if mtU σ f m x < 0 then 0 else mtU σ f m x), (if x.2.2.2.1 = -1 then 1 else nI m - x.2.2.2.1)))
  else x
def mtN (σ : Nat → Int32) (f m : Nat) (x : MT) : Int32 :=
  if svd σ f m = true then (if σ (2280 + (121 * f + m)) = -1 then mtG x else (if mtU σ f m x < 0 then 0 else mtU σ f m x)) else 0
def mtX (σ : Nat → Int32) (f : Nat) : Nat → MT
  | 0 => (0, 0, 0, -1, 0, 1)
  | m + 1 => mtS σ f m (mtX σ f m)
/-- UNITS -/
def unS (σ : Nat → Int32) (f m : Nat) : Int32 := mtN σ f m (mtX σ f m)
def mtB (m : Nat) (x : MT) : Prop := (0 ≤ x.1.toInt ∧ x.1.toInt ≤ 9999) ∧ (0 ≤ x.2.1.toInt ∧ x.2.1.toInt ≤ 10000 * m) ∧ (-(1300000 * (m : Int)) ≤ x.2.2.1.toInt ∧ x.2.2.1.toInt ≤ 0) ∧ (x.2.2.2.1 = -1 ∨ ∃ l, l < m ∧ x.2.2.2.1 = nI l) ∧ (0 ≤ x.2.2.2.2.1.toInt ∧ x.2.2.2.2.1.toInt ≤ 9999) ∧ ∃ b, 1 ≤ b ∧ b < 200 ∧ x.2.2.2.2.2 = nI b
def rdOK (σ : Nat → Int32) : Prop := ∀ k, k < 1210 → σ (2280 + k) = -1 ∨ inb (σ (2280 + k)) 10000 = true
theorem b_eq (x : Int) (h1 : -2147483648 ≤ x) (h2 : x ≤ 2147483647) : x.bmod (2 ^ 32) = x := Int.bmod_eq_of_le (by omega) (by omega)
theorem mtG_b {m : Nat} {x : MT} (h : mtB m x) : 0 ≤ (mtG x).toInt ∧ (mtG x).toInt ≤ 9999 := by
  obtain ⟨-, -, -, -, ⟨h1, h2⟩, b, b1, b2, b3⟩ := h
  unfold mtG
  by_cases c : x.2.2.2.1 = -1
  · rw [if_pos c, show (10 : Int32).toInt = 10 from rfl]; omega
  · rw [if_neg c, b3, Int32.toInt_div_of_ne_right _ _ (nI_ne_m1 (by omega)), nI_toI (by omega)]
    generalize x.2.2.2.2.1.toInt = u at *
    obtain ⟨n, rfl⟩ := Int.eq_ofNat_of_zero_le h1
    rw [show ((n : Int).tdiv (b : Int)) = ((n / b : Nat) : Int) from rfl]
    have : n / b ≤ n := Nat.div_le_self n b
    generalize n / b = q at this ⊢
    omega
theorem mtU_t {σ : Nat → Int32} {f m : Nat} {x : MT} (hm : m < 121) (h : mtB m x) (hr : inb (σ (2280 + (121 * f + m))) 10000 = true) : (mtU σ f m x).toInt = (σ (2280 + (121 * f + m))).toInt - x.1.toInt - x.2.1.toInt + x.2.2.1.toInt := by
  obtain ⟨⟨a1, a2⟩, ⟨a3, a4⟩, ⟨a5, a6⟩, -⟩ := h
  have h1 := inb_iff.mp hr
  unfold mtU
  generalize σ (2280 + (121 * f + m)) = n at *
  have e1 : (n - x.1).toInt = n.toInt - x.1.toInt := by rw [Int32.toInt_sub]; exact b_eq _ (by omega) (by omega)
  have e2 : (n - x.1 - x.2.1).toInt = n.toInt - x.1.toInt - x.2.1.toInt := by rw [Int32.toInt_sub, e1]; exact b_eq _ (by omega) (by omega)
  rw [Int32.toInt_add, e2]; exact b_eq _ (by omega) (by omega)
theorem mtS_b {σ : Nat → Int32} {f m : Nat} {x : MT} (hf : f < 10) (hm : m < 121) (hR : rdOK σ) (h : mtB m x) : mtB (m + 1) (mtS σ f m x) := by
  have h0 := h
  obtain ⟨⟨a1, a2⟩, ⟨a3, a4⟩, ⟨a5, a6⟩, a7, ⟨a8, a9⟩, b, b1, b2, b3⟩ := h
  unfold mtS
  by_cases c : svd σ f m = true
  · rw [if_pos c]
    by_cases d : σ (2280 + (121 * f + m)) = -1
    · rw [if_pos d]
      have hg := mtG_b h0
      refine ⟨⟨a1, a2⟩, ?_, ⟨by dsimp only; omega, a6⟩, ?_, ⟨a8, a9⟩, b, b1, b2, b3⟩
      · dsimp only
        have e : (x.2.1 + mtG x).toInt = x.2.1.toInt + (mtG x).toInt := by rw [Int32.toInt_add]; exact b_eq _ (by omega) (by omega)
        rw [e]; omega
      · rcases a7 with h | ⟨l, l1, l2⟩
        · exact .inl h
        · exact .inr ⟨l, by omega, l2⟩
    · rw [if_neg d]
      have hr : inb (σ (2280 + (121 * f + m))) 10000 = true := by
        rcases hR (121 * f + m) (by omega) with h | h
        · exact absurd h d
        · exact h
      have hu := mtU_t hm h0 hr
      have h1 := inb_iff.mp hr
      generalize mtU σ f m x = u at *
      generalize σ (2280 + (121 * f + m)) = n at *
      refine ⟨⟨by dsimp only; omega, by dsimp only; omega⟩, ⟨by dsimp only; rw [i_0]; omega, by dsimp only; rw [i_0]; omega⟩, ?_, .inr ⟨m, by omega, rfl⟩, ?_, ?_⟩
      · dsimp only
        by_cases e : u < 0
        · rw [if_pos e]
          rw [i_lt, i_0] at e
          omega
        · rw [if_neg e, i_0]; omega
      · dsimp only
        by_cases e : u < 0
        · rw [if_pos e, i_0]; omega
        · rw [if_neg e]
          rw [i_lt, i_0] at e
          omega
      · dsimp only
        rcases a7 with h | ⟨l, l1, l2⟩
        · rw [if_pos h]; exact ⟨1, by omega, by omega, rfl⟩
        · rw [l2, if_neg (nI_ne_m1 (by omega)), nI_subn (by omega) (by omega)]
          exact ⟨m - l, by omega, by omega, rfl⟩
  · rw [if_neg c]
    refine ⟨⟨a1, a2⟩, ⟨a3, by omega⟩, ⟨by omega, a6⟩, ?_, ⟨a8, a9⟩, b, b1, b2, b3⟩
    rcases a7 with h | ⟨l, l1, l2⟩
    · exact .inl h
    · exact .inr ⟨l, by omega, l2⟩
theorem mtX_b {σ : Nat → Int32} {f : Nat} (hf : f < 10) (hR : rdOK σ) : ∀ m, m ≤ 121 → mtB m (mtX σ f m)
  | 0, _ => show mtB 0 ((0, 0, 0, -1, 0, 1) : MT) from ⟨⟨by decide, by decide⟩, ⟨by decide, by decide⟩, ⟨by decide, by decide⟩, .inl rfl, ⟨by decide, by decide⟩, 1, by omega, by omega, rfl⟩
  | m + 1, hm => mtS_b hf (by omega) hR (mtX_b hf hR m (by omega))
theorem unS_b {σ : Nat → Int32} {f m : Nat} (hf : f < 10) (hm : m < 121) (hR : rdOK σ) : 0 ≤ (unS σ f m).toInt ∧ (unS σ f m).toInt ≤ 9999 := by
  have hb := mtX_b hf hR m (by omega)
  unfold unS mtN
  by_cases c : svd σ f m = true
  · rw [if_pos c]
    by_cases d : σ (2280 + (121 * f + m)) = -1
    · rw [if_pos d]; exact mtG_b hb
    · rw [if_neg d]
      have hr : inb (σ (2280 + (121 * f + m))) 10000 = true := by
        rcases hR (121 * f + m) (by omega) with h | h
        · exact absurd h d
        · exact h
      have hu := mtU_t hm hb hr
      have h1 := inb_iff.mp hr
      obtain ⟨⟨a1, a2⟩, ⟨a3, a4⟩, ⟨a5, a6⟩, -⟩ := hb
      by_cases e : mtU σ f m (mtX σ f m) < 0
      · rw [if_pos e, i_0]; omega
      · rw [if_neg e]
        rw [i_lt, i_0] at e
        omega
  · rw [if_neg c, i_0]; omega
/-- class's meter in memory -/
def Cmt (M : Mem) (x : MT) : Prop := M.1 79 5 = x.1 ∧ M.1 79 9 = x.2.1 ∧ M.1 79 10 = -x.2.2.1 ∧ M.1 79 6 = x.2.2.2.1 ∧ M.1 79 7 = x.2.2.2.2.1 ∧ M.1 79 8 = x.2.2.2.2.2
def s79 (a i : Nat) : Bool := a == 79 && decide (5 ≤ i)
theorem e_metered {M : Mem} {σ : Nat → Int32} {f m : Nat} {x : MT} (hf : f < 10) (hm : m < 121) (hR : rdOK σ) (hb : mtB m x) (hs : svd σ f m = true) (C : Cmt M x) : ∃ M', f_Account_metered_79 (if σ (2280 + (121 * f + m)) = -1 then -5 else σ (2280 + (121 * f + m))) (nI m) M = some (mtN σ f m x, M') ∧ Cmt M' (mtS σ f m x) ∧ Fr s79 M M' := by
  obtain ⟨c1, c2, c3, c4, c5, c6⟩ := C
  have hb0 := hb
  obtain ⟨⟨a1, a2⟩, ⟨a3, a4⟩, ⟨a5, a6⟩, a7, ⟨a8, a9⟩, b, b1, b2, b3⟩ := hb
  unfold f_Account_metered_79 jv_ mtN mtS
  dsimp only
  rw [if_pos hs, if_pos hs]
  have hl : (decide (x.2.2.2.1 < 0)) = decide (x.2.2.2.1 = -1) := by
    rcases a7 with h | ⟨l, l1, l2⟩
    · rw [h]; rfl
    · rw [l2, nI_nneg (by omega), nI_eqm1 (by omega)]
  by_cases d : σ (2280 + (121 * f + m)) = -1
  · rw [if_pos d, if_pos d, if_pos d, show decide ((-5 : Int32) < 0) = true from rfl, ite_tt, c4, c5, c6, hl, c2]
    have hg : (if decide (x.2.2.2.1 = -1) = true then (10 : Int32) else prt x.2.2.2.2.1 x.2.2.2.2.2) = mtG x := by
      unfold mtG prt
      by_cases e : x.2.2.2.1 = -1
      · rw [decide_eq_true e, if_pos e]; rfl
      · rw [decide_eq_false e, if_neg e, ite_ff, if_neg]
        rw [b3]
        intro h
        have := nI_eq0 (k := b) (by omega) (by omega)
        rw [h] at this
        exact absurd this (by decide)
    rw [hg]
    exact ⟨wI M 79 9 (x.2.1 + mtG x), rfl, ⟨c1, rde, c3, c4, c5, c6⟩, (Fr.refl M).wI rfl⟩
  · rw [if_neg d, if_neg d, if_neg d]
    have hr : inb (σ (2280 + (121 * f + m))) 10000 = true := by
      rcases hR (121 * f + m) (by omega) with h | h
      · exact absurd h d
      · exact h
    have hu := mtU_t hm hb0 hr
    have h1 := inb_iff.mp hr
    have hn : decide (σ (2280 + (121 * f + m)) < 0) = false := decide_eq_false (by rw [i_lt, i_0]; omega)
    have hU : σ (2280 + (121 * f + m)) - x.1 - x.2.1 - -x.2.2.1 = mtU σ f m x := by unfold mtU; rw [Int32.sub_neg]
    rw [hn, ite_ff, c1, c2, c3, hU]
    generalize mtU σ f m x = u at *
    have hk : jmax 0 (-u) = -(if u < 0 then u else 0) := by
      unfold jmax
      have hneg : (-u).toInt = -u.toInt := by rw [Int32.toInt_neg]; exact b_eq _ (by omega) (by omega)
      by_cases e : u < 0
      · rw [if_pos e, if_pos (by rw [i_lt, i_0, hneg]; rw [i_lt, i_0] at e; omega)]
      · rw [if_neg e, if_neg (by rw [i_lt, i_0, hneg]; rw [i_lt, i_0] at e; omega)]; rfl
    have hk2 : jmax 0 u = if u < 0 then 0 else u := by
      unfold jmax
      by_cases e : u < 0
      · rw [if_pos e, if_neg (by rw [i_lt, i_0]; rw [i_lt, i_0] at e; omega)]
      · rw [if_neg e]
        by_cases e2 : 0 < u
        · rw [if_pos e2]
        · rw [if_neg e2]
          apply Int32.toInt_inj.mp
          rw [i_lt, i_0] at e e2
          rw [i_0]; omega
    have r1 : ∀ v, (wI M 79 10 v).1 79 5 = x.1 := fun v => c1
    have r2 : ∀ v, (wI M 79 10 v).1 79 9 = x.2.1 := fun v => c2
    have r3 : ∀ v, (wI M 79 10 v).1 79 10 = v := fun v => rde
    have hL : (if decide (x.2.2.2.1 = -1) = true then (1 : Int32) else nI m - x.2.2.2.1) = if x.2.2.2.1 = -1 then 1 else nI m - x.2.2.2.1 := by
      by_cases e : x.2.2.2.1 = -1
      · rw [decide_eq_true e, if_pos e]; rfl
      · rw [decide_eq_false e, if_neg e]; rfl
    refine ⟨wI (wI (wI (wI (wI (wI M 79 10 (-(if u < 0 then u else 0))) 79 7 (if u < 0 then 0 else u)) 79 8 (if x.2.2.2.1 = -1 then 1 else nI m - x.2.2.2.1)) 79 6 (nI m)) 79 5 (σ (2280 + (121 * f + m)))) 79 9 0, ?_, ?_, ?_⟩
    · rw [hk, hk2]
      have e6 : (wI (wI M 79 10 (-(if u < 0 then u else 0))) 79 7 (if u < 0 then 0 else u)).1 79 6 = x.2.2.2.1 := c4
      rw [e6, hl, hL]; rfl
    · exact ⟨rfl, rfl, rfl, rfl, rfl, rfl⟩
    · exact ((((((Fr.refl M).wI rfl).wI rfl).wI rfl).wI rfl).wI rfl).wI rfl
/-- the model's units -/
def s108 (f a i : Nat) : Bool := a == 108 && (decide (121 * f ≤ i) && decide (i < 121 * f + 121))
theorem e_measures {M : Mem} {f : Nat} (hf : f < nt (M.1 95) 1) (N : wNum (M.1 95)) (W : wBook (M.1 95)) (hR : rdOK (M.1 95)) : ∃ M', f_Mo_measures_94 (nI f) M = some M' ∧ Fr (s108 f) M M' ∧ ∀ m, m < 121 → M'.1 108 (121 * f + m) = unS (M.1 95) f m := by
  have hF10 : f < 10 := by have := (nt_inb N.2.1).2; omega
  generalize hσ : M.1 95 = σ at *
  obtain ⟨r, k1, k2⟩ := itr_cnt (body := b_Mo_measures_94_19 (nI f)) (s0 := ((0, 0, 0, (-1), 0, 1, 0, M) : Int32 × Int32 × Int32 × Int32 × Int32 × Int32 × Int32 × Mem)) (fun m s => (s.1, s.2.1, s.2.2.1, s.2.2.2.1, s.2.2.2.2.1, s.2.2.2.2.2.1) = mtX σ f m ∧ s.2.2.2.2.2.2.1 = nI m ∧ Fr (s108 f) M s.2.2.2.2.2.2.2 ∧ ∀ j, j < m → s.2.2.2.2.2.2.2.1 108 (121 * f + j) = unS σ f j) (fun M' => Fr (s108 f) M M' ∧ ∀ m, m < 121 → M'.1 108 (121 * f + m) = unS σ f m) 121 (by omega) ⟨rfl, rfl, Fr.refl M, fun j h => absurd h (by omega)⟩ (by
    rintro m ⟨x1, x2, x3, x4, x5, x6, i, M1⟩ hm ⟨hx, rfl, hF, hj⟩
    left
    dsimp only at hx hF hj
    have hb := mtX_b (σ := σ) hF10 hR m (by omega)
    have hs1 : unS σ f m = mtN σ f m (mtX σ f m) := rfl
    have hs2 : mtX σ f (m + 1) = mtS σ f m (mtX σ f m) := rfl
    rw [← hx] at hb hs1 hs2
    have e95 : M1.1 95 = σ := (hF.row (a := 95) (fun i => rfl)).trans hσ
    have i1 : (2280 : Int32) + 121 * nI f + nI m = nI (2280 + (121 * f + m)) := by rw [show (121 : Int32) = nI 121 from rfl, show (2280 : Int32) = nI 2280 from rfl, nI_muln, nI_addn, nI_addn, Nat.add_assoc]
    have i2 : (121 : Int32) * nI f + nI m = nI (121 * f + m) := by rw [show (121 : Int32) = nI 121 from rfl, nI_muln, nI_addn]
    have hsv : f_Mo_isServed_94 (nI f) (nI m) M1 = some (svd σ f m) := by
      have := e_isServed (M := M1) (m := nI m) (f := f) hF10 (by rw [e95]; exact N) (by rw [e95]; exact W)
      rw [e95] at this
      exact this
    have hfin : ∀ y : MT, y = mtS σ f m (x1, x2, x3, x4, x5, x6) → ∃ s', (some (Sum.inl (y.1, y.2.1, y.2.2.1, y.2.2.2.1, y.2.2.2.2.1, y.2.2.2.2.2, nI (m + 1), wI M1 108 (121 * f + m) (mtN σ f m (x1, x2, x3, x4, x5, x6)))) : Option ((Int32 × Int32 × Int32 × Int32 × Int32 × Int32 × Int32 × Mem) ⊕ Mem)) = some (.inl s') ∧ (s'.1, s'.2.1, s'.2.2.1, s'.2.2.2.1, s'.2.2.2.2.1, s'.2.2.2.2.2.1) = mtX σ f (m + 1) ∧ s'.2.2.2.2.2.2.1 = nI (m + 1) ∧ Fr (s108 f) M s'.2.2.2.2.2.2.2 ∧ ∀ j, j < m + 1 → s'.2.2.2.2.2.2.2.1 108 (121 * f + j) = unS σ f j := fun y hy => by
      refine ⟨_, rfl, ?_, rfl, hF.wI (by unfold s108; simp; omega), fun j hjm => ?_⟩
      · rw [hs2, ← hy]
      · dsimp only
        by_cases c : j = m
        · rw [c, rde, hs1]
        · rw [rdi (by omega)]; exact hj j (by omega)
    have hbody : ∀ y : MT, ∀ u : Int32, y = mtS σ f m (x1, x2, x3, x4, x5, x6) → u = mtN σ f m (x1, x2, x3, x4, x5, x6) → b_Mo_measures_94_19 (nI f) (x1, x2, x3, x4, x5, x6, nI m, M1) = some (Sum.inl (y.1, y.2.1, y.2.2.1, y.2.2.2.1, y.2.2.2.2.1, y.2.2.2.2.2, nI (m + 1), wI M1 108 (121 * f + m) u)) := fun y u hy hu => by
      subst hy hu
      unfold b_Mo_measures_94_19 jn_ jv_
      dsimp only
      rw [show (120 : Int32) = nI 120 from rfl, dle_t (by omega) (by omega), ite_tt, i1, i2, inb_t (show 2280 + (121 * f + m) < 4700 by omega) (by omega), ite_tt, nI_cl (by omega), e95, hsv, Option.bind_some, inb_t (show 121 * f + m < 1210 by omega) (by omega), nI_cl (by omega), nI_one, Option.bind_some]
      unfold mtS mtN
      cases hsv2 : svd σ f m
      · rfl
      · simp only [↓reduceIte]
        by_cases d : σ (2280 + (121 * f + m)) = -1
        · rw [decide_eq_true d]
          unfold mtG
          simp only [↓reduceIte, if_pos d]
          by_cases e : x4 = -1
          · rw [decide_eq_true e]
            simp only [↓reduceIte, if_pos e]
          · rw [decide_eq_false e]
            obtain ⟨-, -, -, -, -, b, b1, b2, b3⟩ := hb
            dsimp only at b3
            have hb0 : decide (x6 = 0) = false := by rw [b3]; exact nI_eq0 (by omega) (by omega)
            rw [hb0]
            simp [if_neg e]
        · rw [decide_eq_false d]
          unfold mtU
          by_cases e : x4 = -1
          · by_cases e2 : σ (2280 + (121 * f + m)) - x1 - x2 + x3 < 0
            · simp [d, e, e2]
            · simp [d, e, e2]
          · by_cases e2 : σ (2280 + (121 * f + m)) - x1 - x2 + x3 < 0
            · simp [d, e, e2]
            · simp [d, e, e2]
    obtain ⟨s', g1, g2⟩ := hfin _ rfl
    exact ⟨s', by rw [hbody _ _ rfl rfl]; exact g1, g2⟩) (by
    rintro ⟨x1, x2, x3, x4, x5, x6, i, M1⟩ ⟨hx, rfl, hF, hj⟩
    dsimp only at hF hj
    refine ⟨M1, ?_, hF, hj⟩
    unfold b_Mo_measures_94_19
    dsimp only
    rw [show (120 : Int32) = nI 120 from rfl, dle_f (by omega) (by omega), ite_ff])
  refine ⟨r, ?_, k2⟩
  unfold f_Mo_measures_94
  rw [k1]; rfl
