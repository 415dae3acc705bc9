theorem itr_for' {S E : Type} {body : S → Option (S ⊕ E)} {e : E} (st : Nat → S) (N : Nat) (hN : N < 1000000000) (step : ∀ k, k < N → body (st k) = some (.inl (st (k + 1)))) (last : body (st N) = some (.inr e)) : itr body FU (st 0) = some e := itr_for st N hN rfl step last
theorem e_decides {M : Mem} {m e : Int32} {f : Nat} (hf : f < 10) (he : e = -1 ∨ inb e (nt (M.1 95) 2 + 1) = true) (N : wNum (M.1 95)) (W : wBook (M.1 95)) : f_Mo_decides_94 (nI f) m e M = some (dk (M.1 95) m (kn (M.1 95) e) (kn (M.1 95) e) f) := by
  obtain ⟨-, n1, n2, -⟩ := N
  obtain ⟨e1, l1⟩ := nt_inb n1
  obtain ⟨e2, l2⟩ := nt_inb n2
  generalize hσ : M.1 95 = σ at *
  unfold f_Mo_decides_94 jv_
  have hu : (if decide (e = -1) = true then M.1 95 2 else e) = nI (kn σ e) := by
    unfold kn
    rcases he with he | he
    · subst he
      rw [if_pos (by decide), if_pos rfl, hσ, ← e2]
    · obtain ⟨ee, le⟩ := nI_of_inb he
      rw [ee, nI_eqm1 (by omega), if_neg (by decide), if_neg (nI_ne_m1 (by omega)), nI_cl (by omega)]
  have hk : kn σ e ≤ nt σ 2 := by
    unfold kn
    rcases he with he | he
    · rw [if_pos he]; omega
    · have := (nI_of_inb he).2
      split <;> omega
  rw [hu]
  generalize kn σ e = n at hk
  have key := itr_for' (body := b_Mo_decides_94_23 (nI f) m M (nI n)) (fun k => (dk σ m n k f, nI k)) n (by omega) (e := dk σ m n n f) (fun k h => ?_) ?_
  · show (itr _ FU (dk σ m n 0 f, nI 0)).bind _ = _
    rw [key]; rfl
  · obtain ⟨w0, w1, -, w3⟩ := W k (by omega)
    unfold b_Mo_decides_94_23 jn_
    dsimp only
    rw [dlt_t h (by omega), if_pos rfl, q190, q310, q430, q670, hσ]
    have hd : dk σ m n (k + 1) f = if okE σ m n k = true ∧ σ (310 + k) = nI f ∧ (dk σ m n k f = -1 ∨ σ (430 + (dk σ m n k f).toNatClampNeg) ≤ σ (430 + k)) then nI k else dk σ m n k f := rfl
    rw [hd]
    simp only [nI_addn]
    rw [nI_cl (by omega), nI_cl (by omega), nI_cl (by omega), nI_cl (by omega), inb_t (show 190 + k < 4700 by omega) (by omega), inb_t (show 310 + k < 4700 by omega) (by omega), inb_t (show 430 + k < 4700 by omega) (by omega), inb_t (show 670 + k < 4700 by omega) (by omega), nI_one]
    unfold okE
    by_cases c5 : σ (190 + k) = 5
    · rw [decide_eq_true c5]; simp
    · rw [decide_eq_false c5]
      by_cases cf : σ (310 + k) = nI f
      · rw [decide_eq_true cf]
        by_cases cm : σ (430 + k) ≤ m
        · rw [decide_eq_true cm]
          by_cases cs : nI n ≤ σ (670 + k)
          · rw [decide_eq_true cs, decide_eq_false (Int32.not_lt.mpr cs)]
            rcases dk_spec σ m n f k (by omega) with hd | ⟨j, j1, j2, j3, j4⟩
            · rw [hd]; simp [cf]
            · rw [j2, nI_eqm1 (by omega), nI_addn, nI_cl (by omega), inb_t (by omega) (by omega), nI_cl (by omega)]
              by_cases hc : σ (430 + k) < σ (430 + j)
              · rw [decide_eq_true hc]
                have := Int32.not_le.mpr hc
                simp [cf, nI_ne_m1 (show j < 2147483648 by omega), this]
              · rw [decide_eq_false hc]
                have := Int32.not_lt.mp hc
                simp [cf, this]
          · rw [decide_eq_false cs, decide_eq_true (Int32.not_le.mp cs)]; simp
        · rw [decide_eq_false cm]; simp
      · rw [decide_eq_false cf]; simp [cf]
  · unfold b_Mo_decides_94_23
    dsimp only
    rw [dlt_f (Nat.le_refl _) (by omega)]; rfl
/-- what wakes: the model's kinds before wavering ones are counted -/
theorem e_isServed {M : Mem} {m : Int32} {f : Nat} (hf : f < 10) (N : wNum (M.1 95)) (W : wBook (M.1 95)) : f_Mo_isServed_94 (nI f) m M = some (decide (wh (M.1 95) m (nt (M.1 95) 2) f = 2)) := by
  unfold f_Mo_isServed_94
  have hk : kn (M.1 95) (-1) = nt (M.1 95) 2 := if_pos rfl
  rw [e_decides hf (.inl rfl) N W, Option.bind_some, hk]
  have hE : nt (M.1 95) 2 ≤ 120 := by have := (nt_inb N.2.2.1).2; omega
  unfold wh
  rcases dk_spec (M.1 95) m (nt (M.1 95) 2) f (nt (M.1 95) 2) (by omega) with hd | ⟨j, j1, j2, j3, j4⟩
  · rw [hd]; rfl
  · rw [j2, nI_eqm1 (by omega), if_neg (by decide), if_neg (nI_ne_m1 (by omega)), q190, nI_addn, if_pos (inb_t (by omega) (by omega)), nI_cl (by omega), nI_cl (by omega)]
    cases decide (M.1 95 (190 + j) = 2) <;> rfl
def sLk (a _i : Nat) : Bool := a == 97 || a == 98
def w0 (σ : Nat → Int32) (m : Int32) (n : Nat) (sg tk : Nat → Bool) (f : Nat) : Int32 :=
  if tk f = false ∧ sg f = false ∧ wh σ m n f = 1 then nd σ m n f else 0
theorem wh_out {σ : Nat → Int32} {m : Int32} {n f : Nat} (hn : n ≤ nt σ 2) (hE : nt σ 2 ≤ 120) (W : wBook σ) (hF : nt σ 1 ≤ f) (hf : f < 2147483648) (hF2 : nt σ 1 ≤ 10) : wh σ m n f = -1 := by
  unfold wh
  rcases dk_spec σ m n f n (by omega) with hd | ⟨j, j1, j2, j3, j4⟩
  · rw [if_pos hd]
  · obtain ⟨-, w1, -, -⟩ := W j (by omega)
    obtain ⟨h1, -⟩ := w1 (okE_5 j3)
    obtain ⟨h2, h3⟩ := nI_of_inb h1
    rw [j4] at h2
    rw [j4, nI_cl hf] at h3
    omega
theorem wh_cases {σ : Nat → Int32} {m : Int32} {n f : Nat} (hn : n ≤ nt σ 2) (hE : nt σ 2 ≤ 120) (W : wBook σ) : wh σ m n f = -1 ∨ wh σ m n f = 0 ∨ wh σ m n f = 1 ∨ wh σ m n f = 2 ∨ wh σ m n f = 3 ∨ wh σ m n f = 4 := by
  unfold wh
  rcases dk_spec σ m n f n (by omega) with hd | ⟨j, j1, j2, j3, j4⟩
  · rw [if_pos hd]; exact .inl rfl
  · rw [j2, if_neg (nI_ne_m1 (by omega)), nI_cl (by omega)]
    obtain ⟨w0, -, -, -⟩ := W j (by omega)
    obtain ⟨h2, h3⟩ := nI_of_inb w0
    have h5 := okE_5 j3
    generalize (σ (190 + j)).toNatClampNeg = x at h2 h3
    rw [h2] at h5 ⊢
    have : x = 0 ∨ x = 1 ∨ x = 2 ∨ x = 3 ∨ x = 4 ∨ x = 5 := by omega
    rcases this with h | h | h | h | h | h <;> subst h
    · exact .inr (.inl rfl)
    · exact .inr (.inr (.inl rfl))
    · exact .inr (.inr (.inr (.inl rfl)))
    · exact .inr (.inr (.inr (.inr (.inl rfl))))
    · exact .inr (.inr (.inr (.inr (.inr rfl))))
    · exact absurd rfl h5
theorem lk1_step {M' : Mem} {σ : Nat → Int32} {m e sgn : Int32} {n k : Nat} {sg tk : Nat → Bool} (hσ : M'.1 95 = σ) (hk : k < nt σ 1) (hn : n = kn σ e) (he : e = -1 ∨ inb e (nt σ 2 + 1) = true) (N : wNum σ) (W : wBook σ) (hs : decide (nI k = sgn) = sg k) :
    b_Mo_looks_94_3 m e sgn (msk tk 10) (nI k, M') = some (.inl (nI (k + 1), wI (wI M' 97 k (k0 σ m n sg tk k)) 98 k (w0 σ m n sg tk k))) := by
  subst hσ
  have hN := N
  obtain ⟨-, n1, n2, -⟩ := N
  obtain ⟨e1, l1⟩ := nt_inb n1
  obtain ⟨e2, l2⟩ := nt_inb n2
  have hkn : n ≤ nt (M'.1 95) 2 := by
    rw [hn]
    unfold kn
    rcases he with he | he
    · rw [if_pos he]; omega
    · have := (nI_of_inb he).2
      split <;> omega
  have hd := e_decides (m := m) (f := k) (by omega) he hN W
  rw [← hn] at hd
  unfold b_Mo_looks_94_3 jn_ jv_
  dsimp only
  rw [e1, dlt_t hk (by omega), if_pos rfl, hd, Option.bind_some, shr_1 _ (by omega), b_msk_lo tk (by omega), hs, nI_one]
  rw [inb_t (show k < 10 by omega) (by omega), nI_cl (by omega), q190, q550]
  have hc97 : ∀ v x, (wI M' 97 k v).1 95 x = M'.1 95 x := fun v x => rfl
  simp only [hc97]
  have hwh : wh (M'.1 95) m n k = if dk (M'.1 95) m n n k = -1 then -1 else M'.1 95 (190 + (dk (M'.1 95) m n n k).toNatClampNeg) := rfl
  have hnd : nd (M'.1 95) m n k = M'.1 95 (550 + (dk (M'.1 95) m n n k).toNatClampNeg) := rfl
  unfold k0 w0
  cases ht : tk k
  · cases hsg : sg k
    · rcases dk_spec (M'.1 95) m n k n (by omega) with hd | ⟨j, j1, j2, j3, j4⟩
      · rw [hd] at hwh
        rw [if_pos rfl] at hwh
        rw [hd, hwh]
        rfl
      · rw [j2, if_neg (nI_ne_m1 (by omega)), nI_cl (by omega)] at hwh
        rw [j2, nI_cl (by omega)] at hnd
        rw [j2, nI_eqm1 (by omega), hwh, hnd, nI_addn, nI_addn, inb_t (show 190 + j < 4700 by omega) (by omega), inb_t (show 550 + j < 4700 by omega) (by omega), nI_cl (by omega), nI_cl (by omega)]
        have hcs := wh_cases (m := m) (f := k) hkn (by omega) W
        rw [hwh] at hcs
        rcases hcs with h | h | h | h | h | h <;> rw [h] <;> rfl
    · rfl
  · rfl
