section O14
theorem itr_same {S E : Type} {f g : S → Option (S ⊕ E)} (I : S → Prop) (h : ∀ s, I s → f s = g s ∧ ∀ s', f s = some (.inl s') → I s') : ∀ (n : Nat) (s : S), I s → itr f n s = itr g n s
  | 0, _, _ => rfl
  | n + 1, s, hI => by
    obtain ⟨h1, h2⟩ := h s hI
    show (f s).bind _ = (g s).bind _
    rw [← h1]
    cases hc : f s with
    | none => rfl
    | some r =>
      cases r with
      | inl s' => exact itr_same I h n s' (h2 s' hc)
      | inr e => rfl
def prD (p : Int32) (N : Nat) : Nat → Int32
  | 0 => p
  | k + 1 => prD p N k - prD p N k / nI (N - k)
def pyD (p h : Int32) (N k : Nat) : Int32 := prD p N k / nI (N - k) + prD p N k * h / 100
def duD (p h : Int32) (S N A : Nat) : Int32 := if S + 1 ≤ A ∧ A ≤ S + N then pyD p h N (A - S - 1) else 0
theorem sub_toI {A S : Nat} (hA : A < 1000) (hS : S < 1000) : (nI A - nI S).toInt = (A : Int) - S := by
  rw [Int32.toInt_sub, nI_toI (by omega), nI_toI (by omega)]
  exact b_eq _ (by omega) (by omega)
theorem sub_le {A S N : Nat} (hA : A < 1000) (hS : S < 1000) (hN : N < 1000) : decide (nI A - nI S ≤ nI N) = decide (A ≤ S + N) := by
  rw [decide_eq_decide, i_le, sub_toI hA hS, nI_toI (by omega)]
  omega
theorem le_jm {A S N q : Nat} (hA : A < 1000) (hS : S < 1000) (hN : N < 1000) (hq : q < 1000) : decide (nI q ≤ jmin (nI N) (nI A - nI S)) = decide (q ≤ N ∧ S + q ≤ A) := by
  rw [decide_eq_decide]
  unfold jmin
  by_cases c : nI A - nI S < nI N
  · rw [if_pos c]
    rw [i_lt, sub_toI hA hS, nI_toI (by omega)] at c
    rw [i_le, sub_toI hA hS, nI_toI (by omega)]
    omega
  · rw [if_neg c]
    rw [i_lt, sub_toI hA hS, nI_toI (by omega)] at c
    rw [i_le, nI_toI (by omega), nI_toI (by omega)]
    omega
theorem div_q {N k : Nat} (hk : k < N) (hN : N < 1000) : nI N - nI (k + 1) + 1 = nI (N - k) := by
  rw [nI_subn (by omega) (by omega), nI_one, show N - (k + 1) + 1 = N - k by omega]
theorem nI_nz {a : Nat} (h : 1 ≤ a) (h2 : a < 2147483648) : nI a ≠ 0 := fun e => by
  have := (nI_inj (a := a) (b := 0) h2 (by omega)).mp e
  omega
theorem e_dueC {M : Mem} {p h : Int32} {S N A : Nat} (hS : S < 121) (hN : N < 61) (hA : A < 400) (h2 : M.1 36 2 = p) (h3 : M.1 36 3 = nI S) (h4 : M.1 36 4 = h) (h5 : M.1 36 5 = nI N) : f_Coins_dueIn_36 (nI A) M = some (duD p h S N A) := by
  unfold f_Coins_dueIn_36
  rw [h3, h5, sub_le (by omega) (by omega) (by omega), h2]
  by_cases c : A ≤ S + N
  · rw [if_pos (decide_eq_true c)]
    obtain ⟨e, h6, h7⟩ := itr_cnt (body := b_Coins_dueIn_36_40 (nI A) M) (s0 := (0, p, 1)) (fun k s => s.1 = (if k = 0 then 0 else pyD p h N (k - 1)) ∧ s.2.1 = prD p N k ∧ s.2.2 = nI (k + 1)) (fun e => e = duD p h S N A) (A - S) (by omega) ⟨rfl, rfl, rfl⟩ (by
      rintro k ⟨x, y, q⟩ hk ⟨i1, i2, i3⟩
      dsimp only at i1 i2 i3
      subst i1 i2 i3
      left
      refine ⟨(pyD p h N k, prD p N (k + 1), nI (k + 2)), ?_, ?_, rfl, rfl⟩
      · unfold b_Coins_dueIn_36_40 jv_
        dsimp only
        rw [h3, h4, h5, le_jm (by omega) (by omega) (by omega) (by omega), if_pos (decide_eq_true (by omega)), div_q (by omega) (by omega), nI_one]
        unfold prt
        rw [if_neg (nI_nz (by omega) (by omega))]
        rfl
      · rw [if_neg (by omega), Nat.add_sub_cancel]) (by
      rintro ⟨x, y, q⟩ ⟨i1, i2, i3⟩
      dsimp only at i1 i2 i3
      subst i1 i2 i3
      refine ⟨_, ?_, rfl⟩
      unfold b_Coins_dueIn_36_40 jv_
      dsimp only
      rw [h3, h4, h5, le_jm (by omega) (by omega) (by omega) (by omega), if_neg (by rw [decide_eq_true_eq]; omega)]
      unfold duD
      by_cases g : A - S = 0
      · rw [if_pos g, if_neg (by omega)]
      · rw [if_neg g, if_pos (by omega)])
    rw [h6, Option.bind_some, h7]
  · rw [if_neg (by rw [decide_eq_true_eq]; exact c)]
    unfold duD
    rw [if_neg (by omega)]
theorem e_dueM {M : Mem} {p h : Int32} {S N A : Nat} (hS : S < 121) (hN : N < 61) (hA : A < 400) (h1 : M.1 95 10 = 1) (h2 : M.1 95 11 = p) (h3 : M.1 95 12 = nI S) (h4 : M.1 95 13 = h) (h5 : M.1 95 14 = nI N) : f_Mo_dueIn_94 (nI A) M = some (duD p h S N A) := by
  unfold f_Mo_dueIn_94
  rw [h2]
  obtain ⟨e, h6, h7⟩ := itr_cnt (body := b_Mo_dueIn_94_13 (nI A) M) (s0 := (p, 0, 1)) (fun k s => s.1 = prD p N k ∧ s.2.1 = (if S + 1 ≤ A ∧ A - S ≤ k then pyD p h N (A - S - 1) else 0) ∧ s.2.2 = nI (k + 1)) (fun e => e = duD p h S N A) N (by omega) ⟨rfl, (if_neg (by omega)).symm, rfl⟩ (by
      rintro k ⟨x, y, q⟩ hk ⟨i1, i2, i3⟩
      dsimp only at i1 i2 i3
      subst i1 i2 i3
      left
      refine ⟨(prD p N (k + 1), if S + 1 ≤ A ∧ A - S ≤ k + 1 then pyD p h N (A - S - 1) else 0, nI (k + 2)), ?_, rfl, rfl, rfl⟩
      · unfold b_Mo_dueIn_94_13 jv_
        dsimp only
        rw [h1, h3, h4, h5, dle_t (by omega) (by omega), if_pos rfl, if_pos (decide_eq_true rfl), div_q (by omega) (by omega), nI_one, if_pos (by rw [decide_eq_false (nI_nz (by omega) (by omega))]; rfl), nI_addn, d_eq (by omega) (by omega)]
        by_cases g : S + (k + 1) = A
        · rw [if_pos (decide_eq_true g), if_pos (by omega), show A - S - 1 = k by omega]
          rfl
        · rw [if_neg (by rw [decide_eq_true_eq]; exact g)]
          by_cases g2 : S + 1 ≤ A ∧ A - S ≤ k
          · rw [if_pos g2, if_pos (by omega)]; rfl
          · rw [if_neg g2, if_neg (by omega)]; rfl) (by
      rintro ⟨x, y, q⟩ ⟨i1, i2, i3⟩
      dsimp only at i1 i2 i3
      subst i1 i2 i3
      refine ⟨_, ?_, rfl⟩
      unfold b_Mo_dueIn_94_13 jv_
      dsimp only
      rw [h5, dle_f (by omega) (by omega), ite_ff]
      unfold duD
      by_cases g : S + 1 ≤ A ∧ A - S ≤ N
      · rw [if_pos g, if_pos (by omega)]
      · rw [if_neg g, if_neg (by omega)])
  rw [h6, Option.bind_some, h7]
theorem op_due : Op_due Rel := by
  intro n M v hn H
  obtain ⟨gB, gL, gI, gR, gP, gT, gK, gO, gN⟩ := RS1_gs H.1
  obtain ⟨⟨y1, y2⟩, y3⟩ := gO
  suffices hh : ∃ r, f_CF_due_0 v M = some r ∧ f_Mo_due_94 v M = some r by
    obtain ⟨r, h1, h2⟩ := hh
    exact ⟨r, h1, h2, Rel_mono H (by omega)⟩
  unfold f_CF_due_0 f_Mo_due_94
  rw [e_Mo_in, Option.bind_some]
  by_cases c0 : wthn v 0 240 = true
  · rw [if_pos c0, if_pos c0]
    have hv := (w_inb (a := 0) (b := 240) (by omega) (by omega) c0).1
    obtain ⟨ev, lv⟩ := nI_of_inb hv
    generalize v.toNatClampNeg = A at *
    subst ev
    rcases y3 with z | ⟨z1, z2, z3, z4, ⟨z5, z6⟩, z7⟩
    · obtain ⟨q3, q5⟩ := y1 z
      refine ⟨0, ?_, ?_⟩
      · rw [e_dueC (p := M.1 36 2) (h := M.1 36 4) (S := 0) (N := 0) (by omega) (by omega) (by omega) rfl q3 rfl q5, Option.bind_some]
        unfold duD
        rw [if_neg (by omega)]
      · unfold f_Mo_dueIn_94
        have hb : b_Mo_dueIn_94_13 (nI A) M (M.1 95 11, 0, 1) = some (.inr 0) := by
          unfold b_Mo_dueIn_94_13
          dsimp only
          rw [z]
          by_cases g : decide (1 ≤ M.1 95 14) = true
          · rw [if_pos g, if_neg (by decide)]
          · rw [if_neg g]
        have hi : itr (b_Mo_dueIn_94_13 (nI A) M) FU (M.1 95 11, 0, 1) = some 0 := by
          obtain ⟨e, h1, h2⟩ := itr_cnt (body := b_Mo_dueIn_94_13 (nI A) M) (s0 := (M.1 95 11, 0, 1)) (fun _ s => s = (M.1 95 11, 0, 1)) (fun e => e = 0) 0 (by omega) rfl (by intro k s hk; omega) (by
            intro s hs
            subst hs
            exact ⟨0, hb, rfl⟩)
          rw [h1, h2]
        rw [hi]
        rfl
    · obtain ⟨q2, q3, q4, q5, q6⟩ := y2 z1
      obtain ⟨e3, l3⟩ := nt_inb z3
      obtain ⟨e5, l5⟩ := nt_inb z5
      refine ⟨duD (M.1 95 11) (M.1 95 13) (nt (M.1 95) 12) (nt (M.1 95) 14) A, ?_, ?_⟩
      · rw [e_dueC l3 l5 (by omega) q2 (q3.trans e3) q4 (q5.trans e5)]; rfl
      · rw [e_dueM l3 l5 (by omega) z1 rfl e3 rfl e5]; rfl
  · rw [if_neg c0, if_neg c0]
    exact ⟨_, rfl, rfl⟩
/-- what a month brings in -/
def pdS (σ : Nat → Int32) (m : Nat) (y : Int64) : Nat → Int64
  | 0 => y
  | k + 1 => pdS σ m y k + (σ (3490 + (121 * k + m))).toInt64
theorem pdS_z {σ : Nat → Int32} {m : Nat} {y : Int64} {a : Nat} (h : ∀ f, a ≤ f → f < 10 → σ (3490 + (121 * f + m)) = 0) : ∀ d, a + d ≤ 10 → pdS σ m y (a + d) = pdS σ m y a
  | 0, _ => rfl
  | d + 1, hd => by
    show pdS σ m y (a + d) + (σ (3490 + (121 * (a + d) + m))).toInt64 = _
    rw [h (a + d) (by omega) (by omega), pdS_z h d (by omega)]
    exact Int64.add_zero _
def pdA (σ : Nat → Int32) (m : Nat) (y : Int64) : Int64 := if m < 121 then pdS σ m y 10 else y
theorem e_paidC {M : Mem} {n m : Nat} {y : Int64} (G : GP n M.1 (M.1 95)) (hm : m < 1000) : itr (b_Coins_firstShort_36_27 M (y, nI m)) FU (y, 0) = some (pdA (M.1 95) m y) := by
  obtain ⟨e, h6, h7⟩ := itr_cnt (body := b_Coins_firstShort_36_27 M (y, nI m)) (s0 := (y, 0)) (fun k s => s.1 = (if m < 121 then pdS (M.1 95) m y k else y) ∧ s.2 = nI k) (fun e => e = pdA (M.1 95) m y) 10 (by omega) ⟨by split <;> rfl, rfl⟩ (by
      rintro k ⟨x, q⟩ hk ⟨i1, i2⟩
      dsimp only at i1 i2
      subst i1 i2
      left
      refine ⟨(if m < 121 then pdS (M.1 95) m y (k + 1) else y, nI (k + 1)), ?_, rfl, rfl⟩
      unfold b_Coins_firstShort_36_27 f_Coins_paidOf_36
      dsimp only
      rw [show (10 : Int32) = nI 10 from rfl, dlt_t hk (by omega), ite_tt, Option.bind_some, nI_one]
      by_cases g : m < 121
      · rw [if_pos g, if_pos g, slt_nI hk g, atv_nI (by omega) (by omega), (G.1 _ (by omega)).2]; rfl
      · rw [if_neg g, if_neg g]
        have : slt (nI k) (nI m) = -1 := by
          unfold slt
          rw [if_neg]
          intro hh
          rw [Bool.and_eq_true] at hh
          have h2 := wthn_iff.mp hh.2
          rw [nI_toI (by omega), show (120 : Int32).toInt = 120 from rfl] at h2
          omega
        rw [this, show atv (M.1 38) 1210 (-1) = 0 from rfl]
        congr 3
        exact Int64.add_zero _) (by
      rintro ⟨x, q⟩ ⟨i1, i2⟩
      dsimp only at i1 i2
      subst i1 i2
      refine ⟨_, ?_, rfl⟩
      unfold b_Coins_firstShort_36_27
      dsimp only
      rw [show (10 : Int32) = nI 10 from rfl, dlt_f (by omega) (by omega), ite_ff]
      rfl)
  rw [h6, h7]
theorem e_paidM {M : Mem} {n m : Nat} {y : Int64} (G : GP n M.1 (M.1 95)) (W : inb (M.1 95 1) 11 = true) (hm : m < 1000) : itr (b_Mo_cannot_94_52 M (y, nI m)) FU (y, 0) = some (pdA (M.1 95) m y) := by
  obtain ⟨e1, l1⟩ := nt_inb W
  obtain ⟨e, h6, h7⟩ := itr_cnt (body := b_Mo_cannot_94_52 M (y, nI m)) (s0 := (y, 0)) (fun k s => s.1 = (if m < 121 then pdS (M.1 95) m y k else y) ∧ s.2 = nI k) (fun e => e = pdA (M.1 95) m y) (nt (M.1 95) 1) (by omega) ⟨by split <;> rfl, rfl⟩ (by
      rintro k ⟨x, q⟩ hk ⟨i1, i2⟩
      dsimp only at i1 i2
      subst i1 i2
      by_cases g : m < 121
      · left
        refine ⟨(if m < 121 then pdS (M.1 95) m y (k + 1) else y, nI (k + 1)), ?_, rfl, rfl⟩
        unfold b_Mo_cannot_94_52 jv_
        dsimp only
        rw [e1, dlt_t hk (by omega), ite_tt, show (120 : Int32) = nI 120 from rfl, dle_t (by omega) (by omega), ite_tt, show (121 : Int32) = nI 121 from rfl, nI_muln, show (3490 : Int32) = nI 3490 from rfl, nI_addn, nI_addn, inb_t (by omega) (by omega), ite_tt, nI_cl (by omega), if_pos g, if_pos g, nI_one, Nat.add_assoc]
        rfl
      · right
        refine ⟨y, ?_, ?_⟩
        · unfold b_Mo_cannot_94_52 jv_
          dsimp only
          rw [e1, dlt_t hk (by omega), ite_tt, show (120 : Int32) = nI 120 from rfl, dle_f (by omega) (by omega), ite_ff, if_neg g]
        · unfold pdA; rw [if_neg g]) (by
      rintro ⟨x, q⟩ ⟨i1, i2⟩
      dsimp only at i1 i2
      subst i1 i2
      refine ⟨_, ?_, rfl⟩
      unfold b_Mo_cannot_94_52
      dsimp only
      rw [e1, dlt_f (by omega) (by omega), ite_ff]
      unfold pdA
      by_cases g : m < 121
      · rw [if_pos g, if_pos g]
        have := pdS_z (σ := M.1 95) (m := m) (y := y) (a := nt (M.1 95) 1) (fun f h1 h2 => G.2.2 f m h1 h2 g) (10 - nt (M.1 95) 1) (by omega)
        rw [show nt (M.1 95) 1 + (10 - nt (M.1 95) 1) = 10 by omega] at this
        rw [this]
      · rw [if_neg g, if_neg g])
  rw [h6, h7]
theorem op_cannot : Op_cannot Rel := by
  intro n M hn H
  obtain ⟨gB, gL, gI, gR, gP, gT, gK, gO, gN⟩ := RS1_gs H.1
  have W := Rel_W hn H
  obtain ⟨⟨y1, y2⟩, y3⟩ := gO
  suffices hh : ∃ r, f_CF_cannot_0 M = some r ∧ f_Mo_cannot_94 M = some r by
    obtain ⟨r, h1, h2⟩ := hh
    exact ⟨r, h1, h2, Rel_mono H (by omega)⟩
  unfold f_CF_cannot_0 f_Mo_cannot_94
  rcases y3 with z | ⟨z1, z2, z3, z4, ⟨z5, z6⟩, z7⟩
  · obtain ⟨q3, q5⟩ := y1 z
    rw [q5, z]
    exact ⟨-3, rfl, rfl⟩
  · obtain ⟨q2, q3, q4, q5, q6⟩ := y2 z1
    obtain ⟨e3, l3⟩ := nt_inb z3
    obtain ⟨e5, l5⟩ := nt_inb z5
    have h14 : 1 ≤ nt (M.1 95) 14 := by
      rcases Nat.eq_zero_or_pos (nt (M.1 95) 14) with h | h
      · rw [h] at e5; exact absurd e5 z6
      · exact h
    generalize hS : nt (M.1 95) 12 = S at *
    generalize hN : nt (M.1 95) 14 = N at *
    rw [q5, z1, e5, show (0 : Int32) = nI 0 from rfl, dle_f (by omega) (by omega), ite_ff, if_neg (by decide)]
    unfold f_Coins_firstShort_36
    rw [q6, q3, e3]
    have hC : ∀ (y : Int64) (k : Nat), k < N + 2 → b_Coins_firstShort_36_11 M (y, nI (S + k)) = if k ≤ N then (if decide ((lg_cmp (pdA (M.1 95) (S + k) y - (duD (M.1 95 11) (M.1 95 13) S N (S + k)).toInt64) 0) < 0) then some (.inr (.inr (nI (S + k)))) else some (.inl (pdA (M.1 95) (S + k) y - (duD (M.1 95 11) (M.1 95 13) S N (S + k)).toInt64, nI (S + k + 1)))) else some (.inr (.inl ())) := by
      intro y k hk
      unfold b_Coins_firstShort_36_11
      dsimp only
      rw [q3, q5, e3, e5, nI_addn]
      by_cases g : k ≤ N
      · rw [dle_t (by omega) (by omega), ite_tt, if_pos g, e_paidC gP (by omega), Option.bind_some, e_dueC l3 l5 (by omega) q2 (q3.trans e3) q4 (q5.trans e5), Option.bind_some, nI_one]
      · rw [dle_f (by omega) (by omega), ite_ff, if_neg g]
    have hM : ∀ (y : Int64) (k : Nat), k < N + 2 → b_Mo_cannot_94_30 M (y, nI (S + k)) = b_Coins_firstShort_36_11 M (y, nI (S + k)) := by
      intro y k hk
      rw [hC y k hk]
      unfold b_Mo_cannot_94_30
      dsimp only
      rw [e3, e5, nI_addn]
      by_cases g : k ≤ N
      · rw [dle_t (by omega) (by omega), ite_tt, if_pos g, e_paidM gP W.1.2.1 (by omega), Option.bind_some, e_dueM l3 l5 (by omega) z1 rfl e3 rfl e5, Option.bind_some, nI_one]
      · rw [dle_f (by omega) (by omega), ite_ff, if_neg g]
    have hs := itr_same (f := b_Mo_cannot_94_30 M) (g := b_Coins_firstShort_36_11 M) (fun s => ∃ k, k < N + 2 ∧ s.2 = nI (S + k)) (by
      rintro ⟨y, q⟩ ⟨k, hk, e⟩
      dsimp only at e
      subst e
      refine ⟨hM y k hk, fun s' h => ?_⟩
      rw [hM y k hk, hC y k hk] at h
      by_cases g : k ≤ N
      · rw [if_pos g] at h
        split at h
        · cases h
        · have := Sum.inl.inj (Option.some.inj h)
          subst this
          exact ⟨k + 1, by omega, by dsimp only; rw [Nat.add_assoc]⟩
      · rw [if_neg g] at h; cases h) FU ((M.1 95 15).toInt64, nI S) ⟨0, by omega, rfl⟩
    rw [hs]
    obtain ⟨e, h6, -⟩ := itr_cnt (body := b_Coins_firstShort_36_11 M) (s0 := ((M.1 95 15).toInt64, nI S)) (fun k s => s.2 = nI (S + k)) (fun _ => True) (N + 1) (by omega) rfl (by
      rintro k ⟨y, q⟩ hk e
      dsimp only at e
      subst e
      rw [hC y k (by omega), if_pos (by omega)]
      split
      · right; exact ⟨_, rfl, trivial⟩
      · left; exact ⟨_, rfl, by dsimp only; rw [Nat.add_assoc]⟩) (by
      rintro ⟨y, q⟩ e
      dsimp only at e
      subst e
      rw [hC y (N + 1) (by omega), if_neg (by omega)]
      exact ⟨_, rfl, trivial⟩)
    rw [h6]
    cases e with
    | inl u => exact ⟨_, rfl, rfl⟩
    | inr u => exact ⟨_, rfl, rfl⟩
end O14
