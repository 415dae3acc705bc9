section O17
theorem cp_w {M : Mem} {k a n : Nat} {F : Mem → Option Mem} {Q : Mem → Prop} (h : ∀ M1 : Mem, (∀ x, x ≠ k → M1.1 x = M.1 x) → (∀ j, j < n → M1.1 k j = M.1 a j) → ∃ M', F M1 = some M' ∧ Q M') : ∃ M', jv_ (wR M k (cpyv (M.1 a) (M.1 k) n n)) F = some M' ∧ Q M' :=
  h _ (fun x hx => rRk hx) (fun j hj => by rw [rRe]; exact if_pos ⟨hj, hj⟩)
theorem cp_i {M : Mem} {k i : Nat} {v : Int32} {F : Mem → Option Mem} {Q : Mem → Prop} (h : ∀ M1 : Mem, (∀ x, x ≠ k → M1.1 x = M.1 x) → M1.1 k i = v → (∀ j, j ≠ i → M1.1 k j = M.1 k j) → ∃ M', F M1 = some M' ∧ Q M') : ∃ M', jv_ (wI M k i v) F = some M' ∧ Q M' :=
  h _ (fun x hx => rdk hx) rde (fun j hj => rdi hj)
/-- the places that class keeps -/
def Kp (C C' : Nat → Nat → Int32) : Prop := C' 1 6 = C 1 6 ∧ C' 2 4 = C 2 4 ∧ C' 2 5 = C 2 5 ∧ (∀ j, j < 48 → C' 3 j = C 3 j) ∧ (∀ j, j < 48 → C' 4 j = C 4 j) ∧ (∀ j, j < 10 → C' 5 j = C 5 j) ∧ (∀ j, j < 10 → C' 6 j = C 6 j) ∧ C' 7 5 = C 7 5 ∧ (∀ j, j < 120 → C' 8 j = C 8 j) ∧ (∀ j, j < 120 → C' 9 j = C 9 j) ∧ (∀ j, j < 120 → C' 10 j = C 10 j) ∧ (∀ j, j < 120 → C' 11 j = C 11 j) ∧ (∀ j, j < 120 → C' 12 j = C 12 j) ∧ C' 14 1 = C 14 1 ∧ C' 14 9 = C 14 9 ∧ (∀ j, j < 120 → C' 15 j = C 15 j) ∧ (∀ j, j < 1080 → C' 16 j = C 16 j) ∧ (∀ j, j < 9 → C' 17 j = C 17 j) ∧ (∀ j, j < 9 → C' 18 j = C 18 j) ∧ (∀ j, j < 72 → C' 19 j = C 19 j) ∧ (∀ j, j < 72 → C' 20 j = C 20 j) ∧ (∀ j, j < 72 → C' 21 j = C 21 j) ∧ (∀ j, j < 72 → C' 22 j = C 22 j) ∧ C' 24 2 = C 24 2 ∧ C' 24 3 = C 24 3 ∧ C' 24 4 = C 24 4 ∧ (∀ j, j < 48 → C' 25 j = C 25 j) ∧ (∀ j, j < 48 → C' 26 j = C 26 j) ∧ C' 29 2 = C 29 2 ∧ (∀ j, j < 6 → C' 30 j = C 30 j) ∧ (∀ j, j < 6 → C' 31 j = C 31 j) ∧ C' 36 2 = C 36 2 ∧ C' 36 3 = C 36 3 ∧ C' 36 4 = C 36 4 ∧ C' 36 5 = C 36 5 ∧ C' 36 6 = C 36 6 ∧ (∀ j, j < 1210 → C' 37 j = C 37 j) ∧ (∀ j, j < 1210 → C' 38 j = C 38 j)
theorem Kp_tr {C C' C'' : Nat → Nat → Int32} (H : Kp C C') (e : ∀ a, 1 ≤ a → a ≤ 38 → C'' a = C' a) : Kp C C'' := by
  obtain ⟨k1_6, k2_4, k2_5, k3, k4, k5, k6, k7_5, k8, k9, k10, k11, k12, k14_1, k14_9, k15, k16, k17, k18, k19, k20, k21, k22, k24_2, k24_3, k24_4, k25, k26, k29_2, k30, k31, k36_2, k36_3, k36_4, k36_5, k36_6, k37, k38⟩ := H
  refine ⟨?_, ?_, ?_, ?_, ?_, ?_, ?_, ?_, ?_, ?_, ?_, ?_, ?_, ?_, ?_, ?_, ?_, ?_, ?_, ?_, ?_, ?_, ?_, ?_, ?_, ?_, ?_, ?_, ?_, ?_, ?_, ?_, ?_, ?_, ?_, ?_, ?_, ?_⟩
  · rw [e 1 (by omega) (by omega)]; exact k1_6
  · rw [e 2 (by omega) (by omega)]; exact k2_4
  · rw [e 2 (by omega) (by omega)]; exact k2_5
  · rw [e 3 (by omega) (by omega)]; exact k3
  · rw [e 4 (by omega) (by omega)]; exact k4
  · rw [e 5 (by omega) (by omega)]; exact k5
  · rw [e 6 (by omega) (by omega)]; exact k6
  · rw [e 7 (by omega) (by omega)]; exact k7_5
  · rw [e 8 (by omega) (by omega)]; exact k8
  · rw [e 9 (by omega) (by omega)]; exact k9
  · rw [e 10 (by omega) (by omega)]; exact k10
  · rw [e 11 (by omega) (by omega)]; exact k11
  · rw [e 12 (by omega) (by omega)]; exact k12
  · rw [e 14 (by omega) (by omega)]; exact k14_1
  · rw [e 14 (by omega) (by omega)]; exact k14_9
  · rw [e 15 (by omega) (by omega)]; exact k15
  · rw [e 16 (by omega) (by omega)]; exact k16
  · rw [e 17 (by omega) (by omega)]; exact k17
  · rw [e 18 (by omega) (by omega)]; exact k18
  · rw [e 19 (by omega) (by omega)]; exact k19
  · rw [e 20 (by omega) (by omega)]; exact k20
  · rw [e 21 (by omega) (by omega)]; exact k21
  · rw [e 22 (by omega) (by omega)]; exact k22
  · rw [e 24 (by omega) (by omega)]; exact k24_2
  · rw [e 24 (by omega) (by omega)]; exact k24_3
  · rw [e 24 (by omega) (by omega)]; exact k24_4
  · rw [e 25 (by omega) (by omega)]; exact k25
  · rw [e 26 (by omega) (by omega)]; exact k26
  · rw [e 29 (by omega) (by omega)]; exact k29_2
  · rw [e 30 (by omega) (by omega)]; exact k30
  · rw [e 31 (by omega) (by omega)]; exact k31
  · rw [e 36 (by omega) (by omega)]; exact k36_2
  · rw [e 36 (by omega) (by omega)]; exact k36_3
  · rw [e 36 (by omega) (by omega)]; exact k36_4
  · rw [e 36 (by omega) (by omega)]; exact k36_5
  · rw [e 36 (by omega) (by omega)]; exact k36_6
  · rw [e 37 (by omega) (by omega)]; exact k37
  · rw [e 38 (by omega) (by omega)]; exact k38
theorem Ru1_cp {C C' : Nat → Nat → Int32} {σ σ' : Nat → Int32} {r : Nat} (h17 : C' 17 r = C 17 r) (h18 : C' 18 r = C 18 r) (hc : ∀ a k, 19 ≤ a → a ≤ 22 → 8 * r ≤ k → k < 8 * r + 8 → C' a k = C a k) (h16 : ∀ i, 120 * r ≤ i → i < 120 * r + 120 → C' 16 i = C 16 i) (hr : r < 9) (e0 : σ' (790 + r) = σ (790 + r)) (e8 : σ' (800 + r) = σ (800 + r)) (et : ∀ s, s < 120 → σ' (810 + 120 * r + s) = σ (810 + 120 * r + s)) (e18 : σ' (1890 + r) = σ (1890 + r)) (ek : ∀ k, 8 * r ≤ k → k < 8 * r + 8 → σ' (1900 + k) = σ (1900 + k) ∧ σ' (1980 + k) = σ (1980 + k) ∧ σ' (2060 + k) = σ (2060 + k)) (R : Ru1 C σ r) : Ru1 C' σ' r := by
  obtain ⟨a1, a2, a3, l, l1, l2, l3, l4, l5⟩ := R
  have l8 := (nt_inb a3).2
  refine ⟨by rw [h18, e0]; exact a1, by rw [e0]; exact a2, by rw [e8]; exact a3, l, l1, l2, by rw [h17]; exact l3, by rw [e18]; exact l4, fun j hj => ?_⟩
  obtain ⟨m1, m2, m3, m4, m5⟩ := l5 j hj
  have hch : chR σ' r = chR σ r := by
    funext s
    unfold chR
    rw [nt_eq e8]
    by_cases c : s < nt σ (800 + r)
    · rw [if_pos c, if_pos c, et _ (by omega)]
    · rw [if_neg c, if_neg c]
  rw [nt_eq e8, hch]
  refine ⟨?_, m2.keep (hc 19 _ (by omega) (by omega) (by omega) (by omega)) (hc 20 _ (by omega) (by omega) (by omega) (by omega)) (hc 21 _ (by omega) (by omega) (by omega) (by omega)) (hc 22 _ (by omega) (by omega) (by omega) (by omega)) (fun i h1 h2 => h16 i h1 h2) (Nat.le_refl _), m3, m4, m5⟩
  obtain ⟨x1, x2, x3, x4⟩ := m1
  obtain ⟨k1, k2, k3⟩ := ek (8 * r + j) (by omega) (by omega)
  exact ⟨by rw [k1]; exact x1, by rw [k2]; exact x2, fun hu => by rw [k3]; exact x3 hu, fun s2 c2 hu => by rw [k3]; exact x4 s2 c2 hu⟩
theorem RS1_cp {n : Nat} {C C' : Nat → Nat → Int32} {σ σ' : Nat → Int32} (hK : Kp C C') (h : ∀ j, j < 4700 → σ' j = σ j) (H : RS1 n C σ) : RS1 n C' σ' := by
  obtain ⟨gB, gL, gI, gR, gP, gT, gK, gO, gN⟩ := RS1_gs H
  have b2 : nt σ 2 ≤ 120 := by have := (nt_inb gN.2.1.2.2.1).2; omega
  have b1 : nt σ 1 ≤ 10 := by have := (nt_inb gN.2.1.2.1).2; omega
  have b3 : nt σ 3 ≤ 8 := by have := (nt_inb gN.2.2).2; omega
  have b5 : nt σ 5 ≤ 47 := by have := (nt_inb gN.2.1.2.2.2.2.2.1).2; omega
  have b6 : nt σ 6 ≤ 6 := by have := (nt_inb gN.2.1.2.2.2.2.2.2.1).2; omega
  obtain ⟨k1_6, k2_4, k2_5, k3, k4, k5, k6, k7_5, k8, k9, k10, k11, k12, k14_1, k14_9, k15, k16, k17, k18, k19, k20, k21, k22, k24_2, k24_3, k24_4, k25, k26, k29_2, k30, k31, k36_2, k36_3, k36_4, k36_5, k36_6, k37, k38⟩ := hK
  refine RS1_mk ?_ ?_ ?_ ?_ ?_ ?_ ?_ ?_ ?_
  · refine ⟨?_, wBook_c (h 1 (by omega)) (h 2 (by omega)) (fun j h1 h2 => h j (by omega)) b2 gB.2⟩
    obtain ⟨⟨x1, x2⟩, -⟩ := gB
    refine ⟨by rw [k7_5, h 2 (by omega)]; exact x1, fun e he => ?_⟩
    rw [nt_eq (h 2 (by omega))] at he
    obtain ⟨y1, y2, y3, y4⟩ := x2 e he
    rw [k9 e (by omega), k8 e (by omega), k10 e (by omega), k11 e (by omega), k12 e (by omega), h _ (by omega), h _ (by omega), h _ (by omega), h _ (by omega), h _ (by omega)]
    exact ⟨y1, y2, y3, y4⟩
  · obtain ⟨⟨x1, x2, x3, x4⟩, y1, y2, y3⟩ := gL
    refine ⟨⟨by rw [k2_4, h 1 (by omega)]; exact x1, by rw [k2_5, h 9 (by omega)]; exact x2, fun c hc => ?_, fun f hf => ?_⟩, fun c hc => ?_, fun f hf => ?_, fun c hc => ?_⟩
    · rw [k3 c (by omega), k4 c (by omega), h _ (by omega), h _ (by omega)]; exact x3 c hc
    · rw [k5 f (by omega), k6 f (by omega), h _ (by omega), h _ (by omega)]; exact x4 f hf
    · rw [h _ (by omega), h _ (by omega)]; exact y1 c hc
    · rw [nt_eq (h 1 (by omega))] at hf
      rw [h _ (by omega), h _ (by omega)]; exact y2 f hf
    · rw [h _ (by omega)]; exact y3 c hc
  · obtain ⟨x1, x2, x3, x4, t1, t2, t3⟩ := gI
    refine ⟨by rw [k24_2, h 5 (by omega)]; exact x1, by rw [k24_3, h 7 (by omega)]; exact x2, by rw [k24_4, h 8 (by omega)]; exact x3, fun c hc => ?_, fun i hi => ?_, fun i j hi hj => ?_, fun c hc => ?_⟩
    · rw [k25 c (by omega), h _ (by omega)]; exact x4 c hc
    · rw [nt_eq (h 5 (by omega))] at hi
      obtain ⟨c, c1, c2, c3, c4⟩ := t1 i hi
      refine ⟨c, c1, by rw [k26 i (by omega)]; exact c2, by rw [h 9 (by omega)]; exact c3, ?_⟩
      rw [h 9 (by omega), h (116 + c) (by omega)]
      rcases c4 with c4 | ⟨j, j1, j2⟩
      · exact .inl c4
      · exact .inr ⟨j, j1, by rw [k26 j (by omega)]; exact j2⟩
    · rw [nt_eq (h 5 (by omega))] at hi hj
      rw [k26 i (by omega), k26 j (by omega)]; exact t2 i j hi hj
    · rw [nt_eq (h 5 (by omega)), h (116 + c) (by omega)]
      refine (t3 c hc).trans ⟨?_, ?_⟩
      · rintro ⟨i, i1, i2⟩; exact ⟨i, i1, by rw [k26 i (by omega)]; exact i2⟩
      · rintro ⟨i, i1, i2⟩; exact ⟨i, i1, by rw [← k26 i (by omega)]; exact i2⟩
  · obtain ⟨x1, x2⟩ := gR
    refine ⟨by rw [k14_9, h 3 (by omega)]; exact x1, fun r hr => ?_⟩
    rw [nt_eq (h 3 (by omega))] at hr
    exact Ru1_cp (k17 _ (by omega)) (k18 _ (by omega)) (fun a k h1 h2 h3 h4 => by
      rcases (show a = 19 ∨ a = 20 ∨ a = 21 ∨ a = 22 by omega) with rfl | rfl | rfl | rfl
      · exact k19 _ (by omega)
      · exact k20 _ (by omega)
      · exact k21 _ (by omega)
      · exact k22 _ (by omega)) (fun i h1 h2 => k16 _ (by omega)) (by omega) (h _ (by omega)) (h _ (by omega)) (fun s hs => h _ (by omega)) (h _ (by omega)) (fun k h1 h2 => ⟨h _ (by omega), h _ (by omega), h _ (by omega)⟩) (x2 r hr)
  · obtain ⟨x1, x2, x3⟩ := gP
    refine ⟨fun k hk => ?_, fun k hk => ?_, fun f m a b c => ?_⟩
    · rw [k37 k (by omega), k38 k (by omega), h _ (by omega), h _ (by omega)]; exact x1 k hk
    · rw [h _ (by omega), h _ (by omega)]; exact x2 k hk
    · rw [nt_eq (h 1 (by omega))] at a
      rw [h _ (by omega)]; exact x3 f m a b c
  · obtain ⟨⟨x1, x2⟩, x3⟩ := gT
    refine ⟨⟨by rw [k14_1, h 4 (by omega)]; exact x1, fun j hj => ?_⟩, fun j hj => ?_⟩
    · rw [k15 j (by omega), h _ (by omega)]; exact x2 j hj
    · rw [h _ (by omega)]; exact x3 j hj
  · obtain ⟨⟨x1, x2⟩, x3, x4⟩ := gK
    refine ⟨⟨by rw [k29_2, h 6 (by omega)]; exact x1, fun i hi => ?_⟩, fun i hi => ?_, fun i j hi hj => ?_⟩
    · rw [k30 i (by omega), k31 i (by omega), h _ (by omega), h _ (by omega)]; exact x2 i hi
    · rw [nt_eq (h 6 (by omega))] at hi
      have e := h (2260 + i) (by omega)
      obtain ⟨z1, z2, z3, z4⟩ := x3 i hi
      have hlt := (nI_of_inb z1).2
      rw [e, h (2270 + i) (by omega), nt_eq e, h _ (by unfold nt; omega)]
      exact ⟨z1, z2, z3, z4⟩
    · rw [nt_eq (h 6 (by omega))] at hi hj
      rw [h _ (by omega), h _ (by omega)]; exact x4 i j hi hj
  · unfold GO Rloan at *
    rw [k36_2, k36_3, k36_4, k36_5, k36_6, h 10 (by omega), h 11 (by omega), h 12 (by omega), h 13 (by omega), h 14 (by omega), h 15 (by omega)]; exact gO
  · unfold GN wNum at *
    rw [k1_6, h 0 (by omega), h 1 (by omega), h 2 (by omega), h 3 (by omega), h 4 (by omega), h 5 (by omega), h 6 (by omega), h 7 (by omega), h 8 (by omega), h 9 (by omega)]; exact gN
theorem e_Land_take_40_2 (M : Mem) : ∃ M', f_Land_take_40_2 M = some M' ∧ (∀ x, (x < 40 ∨ 44 < x) → M'.1 x = M.1 x) ∧ (∀ j, j < 48 → M'.1 41 j = M.1 3 j) ∧ (∀ j, j < 48 → M'.1 42 j = M.1 4 j) ∧ (∀ j, j < 10 → M'.1 43 j = M.1 5 j) ∧ (∀ j, j < 10 → M'.1 44 j = M.1 6 j) ∧ M'.1 40 4 = M.1 2 4 ∧ M'.1 40 5 = M.1 2 5 := by
  unfold f_Land_take_40_2
  refine cp_w (Q := fun M' => (∀ x, (x < 40 ∨ 44 < x) → M'.1 x = M.1 x) ∧ (∀ j, j < 48 → M'.1 41 j = M.1 3 j) ∧ (∀ j, j < 48 → M'.1 42 j = M.1 4 j) ∧ (∀ j, j < 10 → M'.1 43 j = M.1 5 j) ∧ (∀ j, j < 10 → M'.1 44 j = M.1 6 j) ∧ M'.1 40 4 = M.1 2 4 ∧ M'.1 40 5 = M.1 2 5) ?_
  intro M1 h1 g1
  refine cp_w (Q := fun M' => (∀ x, (x < 40 ∨ 44 < x) → M'.1 x = M.1 x) ∧ (∀ j, j < 48 → M'.1 41 j = M.1 3 j) ∧ (∀ j, j < 48 → M'.1 42 j = M.1 4 j) ∧ (∀ j, j < 10 → M'.1 43 j = M.1 5 j) ∧ (∀ j, j < 10 → M'.1 44 j = M.1 6 j) ∧ M'.1 40 4 = M.1 2 4 ∧ M'.1 40 5 = M.1 2 5) ?_
  intro M2 h2 g2
  refine cp_w (Q := fun M' => (∀ x, (x < 40 ∨ 44 < x) → M'.1 x = M.1 x) ∧ (∀ j, j < 48 → M'.1 41 j = M.1 3 j) ∧ (∀ j, j < 48 → M'.1 42 j = M.1 4 j) ∧ (∀ j, j < 10 → M'.1 43 j = M.1 5 j) ∧ (∀ j, j < 10 → M'.1 44 j = M.1 6 j) ∧ M'.1 40 4 = M.1 2 4 ∧ M'.1 40 5 = M.1 2 5) ?_
  intro M3 h3 g3
  refine cp_w (Q := fun M' => (∀ x, (x < 40 ∨ 44 < x) → M'.1 x = M.1 x) ∧ (∀ j, j < 48 → M'.1 41 j = M.1 3 j) ∧ (∀ j, j < 48 → M'.1 42 j = M.1 4 j) ∧ (∀ j, j < 10 → M'.1 43 j = M.1 5 j) ∧ (∀ j, j < 10 → M'.1 44 j = M.1 6 j) ∧ M'.1 40 4 = M.1 2 4 ∧ M'.1 40 5 = M.1 2 5) ?_
  intro M4 h4 g4
  refine cp_i (Q := fun M' => (∀ x, (x < 40 ∨ 44 < x) → M'.1 x = M.1 x) ∧ (∀ j, j < 48 → M'.1 41 j = M.1 3 j) ∧ (∀ j, j < 48 → M'.1 42 j = M.1 4 j) ∧ (∀ j, j < 10 → M'.1 43 j = M.1 5 j) ∧ (∀ j, j < 10 → M'.1 44 j = M.1 6 j) ∧ M'.1 40 4 = M.1 2 4 ∧ M'.1 40 5 = M.1 2 5) ?_
  intro M5 h5 g5 k5
  refine cp_i (Q := fun M' => (∀ x, (x < 40 ∨ 44 < x) → M'.1 x = M.1 x) ∧ (∀ j, j < 48 → M'.1 41 j = M.1 3 j) ∧ (∀ j, j < 48 → M'.1 42 j = M.1 4 j) ∧ (∀ j, j < 10 → M'.1 43 j = M.1 5 j) ∧ (∀ j, j < 10 → M'.1 44 j = M.1 6 j) ∧ M'.1 40 4 = M.1 2 4 ∧ M'.1 40 5 = M.1 2 5) ?_
  intro M6 h6 g6 k6
  refine ⟨M6, rfl, fun x hx => ?_, ?_, ?_, ?_, ?_, ?_, ?_⟩
  · rw [h6 x (by omega), h5 x (by omega), h4 x (by omega), h3 x (by omega), h2 x (by omega), h1 x (by omega)]
  · intro j hj; rw [h6 41 (by omega), h5 41 (by omega), h4 41 (by omega), h3 41 (by omega), h2 41 (by omega), g1 j hj]
  · intro j hj; rw [h6 42 (by omega), h5 42 (by omega), h4 42 (by omega), h3 42 (by omega), g2 j hj, h1 4 (by omega)]
  · intro j hj; rw [h6 43 (by omega), h5 43 (by omega), h4 43 (by omega), g3 j hj, h2 5 (by omega), h1 5 (by omega)]
  · intro j hj; rw [h6 44 (by omega), h5 44 (by omega), g4 j hj, h3 6 (by omega), h2 6 (by omega), h1 6 (by omega)]
  · rw [k6 4 (by omega), g5, h4 2 (by omega), h3 2 (by omega), h2 2 (by omega), h1 2 (by omega)]
  · rw [g6, h5 2 (by omega), h4 2 (by omega), h3 2 (by omega), h2 2 (by omega), h1 2 (by omega)]

theorem e_Book_take_45_7 (M : Mem) : ∃ M', f_Book_take_45_7 M = some M' ∧ (∀ x, (x < 45 ∨ 50 < x) → M'.1 x = M.1 x) ∧ (∀ j, j < 120 → M'.1 46 j = M.1 8 j) ∧ (∀ j, j < 120 → M'.1 47 j = M.1 9 j) ∧ (∀ j, j < 120 → M'.1 48 j = M.1 10 j) ∧ (∀ j, j < 120 → M'.1 49 j = M.1 11 j) ∧ (∀ j, j < 120 → M'.1 50 j = M.1 12 j) ∧ M'.1 45 5 = M.1 7 5 := by
  unfold f_Book_take_45_7
  refine cp_w (Q := fun M' => (∀ x, (x < 45 ∨ 50 < x) → M'.1 x = M.1 x) ∧ (∀ j, j < 120 → M'.1 46 j = M.1 8 j) ∧ (∀ j, j < 120 → M'.1 47 j = M.1 9 j) ∧ (∀ j, j < 120 → M'.1 48 j = M.1 10 j) ∧ (∀ j, j < 120 → M'.1 49 j = M.1 11 j) ∧ (∀ j, j < 120 → M'.1 50 j = M.1 12 j) ∧ M'.1 45 5 = M.1 7 5) ?_
  intro M1 h1 g1
  refine cp_w (Q := fun M' => (∀ x, (x < 45 ∨ 50 < x) → M'.1 x = M.1 x) ∧ (∀ j, j < 120 → M'.1 46 j = M.1 8 j) ∧ (∀ j, j < 120 → M'.1 47 j = M.1 9 j) ∧ (∀ j, j < 120 → M'.1 48 j = M.1 10 j) ∧ (∀ j, j < 120 → M'.1 49 j = M.1 11 j) ∧ (∀ j, j < 120 → M'.1 50 j = M.1 12 j) ∧ M'.1 45 5 = M.1 7 5) ?_
  intro M2 h2 g2
  refine cp_w (Q := fun M' => (∀ x, (x < 45 ∨ 50 < x) → M'.1 x = M.1 x) ∧ (∀ j, j < 120 → M'.1 46 j = M.1 8 j) ∧ (∀ j, j < 120 → M'.1 47 j = M.1 9 j) ∧ (∀ j, j < 120 → M'.1 48 j = M.1 10 j) ∧ (∀ j, j < 120 → M'.1 49 j = M.1 11 j) ∧ (∀ j, j < 120 → M'.1 50 j = M.1 12 j) ∧ M'.1 45 5 = M.1 7 5) ?_
  intro M3 h3 g3
  refine cp_w (Q := fun M' => (∀ x, (x < 45 ∨ 50 < x) → M'.1 x = M.1 x) ∧ (∀ j, j < 120 → M'.1 46 j = M.1 8 j) ∧ (∀ j, j < 120 → M'.1 47 j = M.1 9 j) ∧ (∀ j, j < 120 → M'.1 48 j = M.1 10 j) ∧ (∀ j, j < 120 → M'.1 49 j = M.1 11 j) ∧ (∀ j, j < 120 → M'.1 50 j = M.1 12 j) ∧ M'.1 45 5 = M.1 7 5) ?_
  intro M4 h4 g4
  refine cp_w (Q := fun M' => (∀ x, (x < 45 ∨ 50 < x) → M'.1 x = M.1 x) ∧ (∀ j, j < 120 → M'.1 46 j = M.1 8 j) ∧ (∀ j, j < 120 → M'.1 47 j = M.1 9 j) ∧ (∀ j, j < 120 → M'.1 48 j = M.1 10 j) ∧ (∀ j, j < 120 → M'.1 49 j = M.1 11 j) ∧ (∀ j, j < 120 → M'.1 50 j = M.1 12 j) ∧ M'.1 45 5 = M.1 7 5) ?_
  intro M5 h5 g5
  refine cp_i (Q := fun M' => (∀ x, (x < 45 ∨ 50 < x) → M'.1 x = M.1 x) ∧ (∀ j, j < 120 → M'.1 46 j = M.1 8 j) ∧ (∀ j, j < 120 → M'.1 47 j = M.1 9 j) ∧ (∀ j, j < 120 → M'.1 48 j = M.1 10 j) ∧ (∀ j, j < 120 → M'.1 49 j = M.1 11 j) ∧ (∀ j, j < 120 → M'.1 50 j = M.1 12 j) ∧ M'.1 45 5 = M.1 7 5) ?_
  intro M6 h6 g6 k6
  refine ⟨M6, rfl, fun x hx => ?_, ?_, ?_, ?_, ?_, ?_, ?_⟩
  · rw [h6 x (by omega), h5 x (by omega), h4 x (by omega), h3 x (by omega), h2 x (by omega), h1 x (by omega)]
  · intro j hj; rw [h6 46 (by omega), h5 46 (by omega), h4 46 (by omega), h3 46 (by omega), h2 46 (by omega), g1 j hj]
  · intro j hj; rw [h6 47 (by omega), h5 47 (by omega), h4 47 (by omega), h3 47 (by omega), g2 j hj, h1 9 (by omega)]
  · intro j hj; rw [h6 48 (by omega), h5 48 (by omega), h4 48 (by omega), g3 j hj, h2 10 (by omega), h1 10 (by omega)]
  · intro j hj; rw [h6 49 (by omega), h5 49 (by omega), g4 j hj, h3 11 (by omega), h2 11 (by omega), h1 11 (by omega)]
  · intro j hj; rw [h6 50 (by omega), g5 j hj, h4 12 (by omega), h3 12 (by omega), h2 12 (by omega), h1 12 (by omega)]
  · rw [g6, h5 7 (by omega), h4 7 (by omega), h3 7 (by omega), h2 7 (by omega), h1 7 (by omega)]

theorem e_Rules_take_52_14 (M : Mem) : ∃ M', f_Rules_take_52_14 M = some M' ∧ (∀ x, (x < 52 ∨ 60 < x) → M'.1 x = M.1 x) ∧ (∀ j, j < 120 → M'.1 53 j = M.1 15 j) ∧ (∀ j, j < 1080 → M'.1 54 j = M.1 16 j) ∧ (∀ j, j < 9 → M'.1 55 j = M.1 17 j) ∧ (∀ j, j < 9 → M'.1 56 j = M.1 18 j) ∧ (∀ j, j < 72 → M'.1 57 j = M.1 19 j) ∧ (∀ j, j < 72 → M'.1 58 j = M.1 20 j) ∧ (∀ j, j < 72 → M'.1 59 j = M.1 21 j) ∧ (∀ j, j < 72 → M'.1 60 j = M.1 22 j) ∧ M'.1 52 1 = M.1 14 1 ∧ M'.1 52 9 = M.1 14 9 := by
  unfold f_Rules_take_52_14
  refine cp_w (Q := fun M' => (∀ x, (x < 52 ∨ 60 < x) → M'.1 x = M.1 x) ∧ (∀ j, j < 120 → M'.1 53 j = M.1 15 j) ∧ (∀ j, j < 1080 → M'.1 54 j = M.1 16 j) ∧ (∀ j, j < 9 → M'.1 55 j = M.1 17 j) ∧ (∀ j, j < 9 → M'.1 56 j = M.1 18 j) ∧ (∀ j, j < 72 → M'.1 57 j = M.1 19 j) ∧ (∀ j, j < 72 → M'.1 58 j = M.1 20 j) ∧ (∀ j, j < 72 → M'.1 59 j = M.1 21 j) ∧ (∀ j, j < 72 → M'.1 60 j = M.1 22 j) ∧ M'.1 52 1 = M.1 14 1 ∧ M'.1 52 9 = M.1 14 9) ?_
  intro M1 h1 g1
  refine cp_w (Q := fun M' => (∀ x, (x < 52 ∨ 60 < x) → M'.1 x = M.1 x) ∧ (∀ j, j < 120 → M'.1 53 j = M.1 15 j) ∧ (∀ j, j < 1080 → M'.1 54 j = M.1 16 j) ∧ (∀ j, j < 9 → M'.1 55 j = M.1 17 j) ∧ (∀ j, j < 9 → M'.1 56 j = M.1 18 j) ∧ (∀ j, j < 72 → M'.1 57 j = M.1 19 j) ∧ (∀ j, j < 72 → M'.1 58 j = M.1 20 j) ∧ (∀ j, j < 72 → M'.1 59 j = M.1 21 j) ∧ (∀ j, j < 72 → M'.1 60 j = M.1 22 j) ∧ M'.1 52 1 = M.1 14 1 ∧ M'.1 52 9 = M.1 14 9) ?_
  intro M2 h2 g2
  refine cp_w (Q := fun M' => (∀ x, (x < 52 ∨ 60 < x) → M'.1 x = M.1 x) ∧ (∀ j, j < 120 → M'.1 53 j = M.1 15 j) ∧ (∀ j, j < 1080 → M'.1 54 j = M.1 16 j) ∧ (∀ j, j < 9 → M'.1 55 j = M.1 17 j) ∧ (∀ j, j < 9 → M'.1 56 j = M.1 18 j) ∧ (∀ j, j < 72 → M'.1 57 j = M.1 19 j) ∧ (∀ j, j < 72 → M'.1 58 j = M.1 20 j) ∧ (∀ j, j < 72 → M'.1 59 j = M.1 21 j) ∧ (∀ j, j < 72 → M'.1 60 j = M.1 22 j) ∧ M'.1 52 1 = M.1 14 1 ∧ M'.1 52 9 = M.1 14 9) ?_
  intro M3 h3 g3
  refine cp_w (Q := fun M' => (∀ x, (x < 52 ∨ 60 < x) → M'.1 x = M.1 x) ∧ (∀ j, j < 120 → M'.1 53 j = M.1 15 j) ∧ (∀ j, j < 1080 → M'.1 54 j = M.1 16 j) ∧ (∀ j, j < 9 → M'.1 55 j = M.1 17 j) ∧ (∀ j, j < 9 → M'.1 56 j = M.1 18 j) ∧ (∀ j, j < 72 → M'.1 57 j = M.1 19 j) ∧ (∀ j, j < 72 → M'.1 58 j = M.1 20 j) ∧ (∀ j, j < 72 → M'.1 59 j = M.1 21 j) ∧ (∀ j, j < 72 → M'.1 60 j = M.1 22 j) ∧ M'.1 52 1 = M.1 14 1 ∧ M'.1 52 9 = M.1 14 9) ?_
  intro M4 h4 g4
  refine cp_w (Q := fun M' => (∀ x, (x < 52 ∨ 60 < x) → M'.1 x = M.1 x) ∧ (∀ j, j < 120 → M'.1 53 j = M.1 15 j) ∧ (∀ j, j < 1080 → M'.1 54 j = M.1 16 j) ∧ (∀ j, j < 9 → M'.1 55 j = M.1 17 j) ∧ (∀ j, j < 9 → M'.1 56 j = M.1 18 j) ∧ (∀ j, j < 72 → M'.1 57 j = M.1 19 j) ∧ (∀ j, j < 72 → M'.1 58 j = M.1 20 j) ∧ (∀ j, j < 72 → M'.1 59 j = M.1 21 j) ∧ (∀ j, j < 72 → M'.1 60 j = M.1 22 j) ∧ M'.1 52 1 = M.1 14 1 ∧ M'.1 52 9 = M.1 14 9) ?_
  intro M5 h5 g5
  refine cp_w (Q := fun M' => (∀ x, (x < 52 ∨ 60 < x) → M'.1 x = M.1 x) ∧ (∀ j, j < 120 → M'.1 53 j = M.1 15 j) ∧ (∀ j, j < 1080 → M'.1 54 j = M.1 16 j) ∧ (∀ j, j < 9 → M'.1 55 j = M.1 17 j) ∧ (∀ j, j < 9 → M'.1 56 j = M.1 18 j) ∧ (∀ j, j < 72 → M'.1 57 j = M.1 19 j) ∧ (∀ j, j < 72 → M'.1 58 j = M.1 20 j) ∧ (∀ j, j < 72 → M'.1 59 j = M.1 21 j) ∧ (∀ j, j < 72 → M'.1 60 j = M.1 22 j) ∧ M'.1 52 1 = M.1 14 1 ∧ M'.1 52 9 = M.1 14 9) ?_
  intro M6 h6 g6
  refine cp_w (Q := fun M' => (∀ x, (x < 52 ∨ 60 < x) → M'.1 x = M.1 x) ∧ (∀ j, j < 120 → M'.1 53 j = M.1 15 j) ∧ (∀ j, j < 1080 → M'.1 54 j = M.1 16 j) ∧ (∀ j, j < 9 → M'.1 55 j = M.1 17 j) ∧ (∀ j, j < 9 → M'.1 56 j = M.1 18 j) ∧ (∀ j, j < 72 → M'.1 57 j = M.1 19 j) ∧ (∀ j, j < 72 → M'.1 58 j = M.1 20 j) ∧ (∀ j, j < 72 → M'.1 59 j = M.1 21 j) ∧ (∀ j, j < 72 → M'.1 60 j = M.1 22 j) ∧ M'.1 52 1 = M.1 14 1 ∧ M'.1 52 9 = M.1 14 9) ?_
  intro M7 h7 g7
  refine cp_w (Q := fun M' => (∀ x, (x < 52 ∨ 60 < x) → M'.1 x = M.1 x) ∧ (∀ j, j < 120 → M'.1 53 j = M.1 15 j) ∧ (∀ j, j < 1080 → M'.1 54 j = M.1 16 j) ∧ (∀ j, j < 9 → M'.1 55 j = M.1 17 j) ∧ (∀ j, j < 9 → M'.1 56 j = M.1 18 j) ∧ (∀ j, j < 72 → M'.1 57 j = M.1 19 j) ∧ (∀ j, j < 72 → M'.1 58 j = M.1 20 j) ∧ (∀ j, j < 72 → M'.1 59 j = M.1 21 j) ∧ (∀ j, j < 72 → M'.1 60 j = M.1 22 j) ∧ M'.1 52 1 = M.1 14 1 ∧ M'.1 52 9 = M.1 14 9) ?_
  intro M8 h8 g8
  refine cp_i (Q := fun M' => (∀ x, (x < 52 ∨ 60 < x) → M'.1 x = M.1 x) ∧ (∀ j, j < 120 → M'.1 53 j = M.1 15 j) ∧ (∀ j, j < 1080 → M'.1 54 j = M.1 16 j) ∧ (∀ j, j < 9 → M'.1 55 j = M.1 17 j) ∧ (∀ j, j < 9 → M'.1 56 j = M.1 18 j) ∧ (∀ j, j < 72 → M'.1 57 j = M.1 19 j) ∧ (∀ j, j < 72 → M'.1 58 j = M.1 20 j) ∧ (∀ j, j < 72 → M'.1 59 j = M.1 21 j) ∧ (∀ j, j < 72 → M'.1 60 j = M.1 22 j) ∧ M'.1 52 1 = M.1 14 1 ∧ M'.1 52 9 = M.1 14 9) ?_
  intro M9 h9 g9 k9
  refine cp_i (Q := fun M' => (∀ x, (x < 52 ∨ 60 < x) → M'.1 x = M.1 x) ∧ (∀ j, j < 120 → M'.1 53 j = M.1 15 j) ∧ (∀ j, j < 1080 → M'.1 54 j = M.1 16 j) ∧ (∀ j, j < 9 → M'.1 55 j = M.1 17 j) ∧ (∀ j, j < 9 → M'.1 56 j = M.1 18 j) ∧ (∀ j, j < 72 → M'.1 57 j = M.1 19 j) ∧ (∀ j, j < 72 → M'.1 58 j = M.1 20 j) ∧ (∀ j, j < 72 → M'.1 59 j = M.1 21 j) ∧ (∀ j, j < 72 → M'.1 60 j = M.1 22 j) ∧ M'.1 52 1 = M.1 14 1 ∧ M'.1 52 9 = M.1 14 9) ?_
  intro M10 h10 g10 k10
  refine ⟨M10, rfl, fun x hx => ?_, ?_, ?_, ?_, ?_, ?_, ?_, ?_, ?_, ?_, ?_⟩
  · rw [h10 x (by omega), h9 x (by omega), h8 x (by omega), h7 x (by omega), h6 x (by omega), h5 x (by omega), h4 x (by omega), h3 x (by omega), h2 x (by omega), h1 x (by omega)]
  · intro j hj; rw [h10 53 (by omega), h9 53 (by omega), h8 53 (by omega), h7 53 (by omega), h6 53 (by omega), h5 53 (by omega), h4 53 (by omega), h3 53 (by omega), h2 53 (by omega), g1 j hj]
  · intro j hj; rw [h10 54 (by omega), h9 54 (by omega), h8 54 (by omega), h7 54 (by omega), h6 54 (by omega), h5 54 (by omega), h4 54 (by omega), h3 54 (by omega), g2 j hj, h1 16 (by omega)]
  · intro j hj; rw [h10 55 (by omega), h9 55 (by omega), h8 55 (by omega), h7 55 (by omega), h6 55 (by omega), h5 55 (by omega), h4 55 (by omega), g3 j hj, h2 17 (by omega), h1 17 (by omega)]
  · intro j hj; rw [h10 56 (by omega), h9 56 (by omega), h8 56 (by omega), h7 56 (by omega), h6 56 (by omega), h5 56 (by omega), g4 j hj, h3 18 (by omega), h2 18 (by omega), h1 18 (by omega)]
  · intro j hj; rw [h10 57 (by omega), h9 57 (by omega), h8 57 (by omega), h7 57 (by omega), h6 57 (by omega), g5 j hj, h4 19 (by omega), h3 19 (by omega), h2 19 (by omega), h1 19 (by omega)]
  · intro j hj; rw [h10 58 (by omega), h9 58 (by omega), h8 58 (by omega), h7 58 (by omega), g6 j hj, h5 20 (by omega), h4 20 (by omega), h3 20 (by omega), h2 20 (by omega), h1 20 (by omega)]
  · intro j hj; rw [h10 59 (by omega), h9 59 (by omega), h8 59 (by omega), g7 j hj, h6 21 (by omega), h5 21 (by omega), h4 21 (by omega), h3 21 (by omega), h2 21 (by omega), h1 21 (by omega)]
  · intro j hj; rw [h10 60 (by omega), h9 60 (by omega), g8 j hj, h7 22 (by omega), h6 22 (by omega), h5 22 (by omega), h4 22 (by omega), h3 22 (by omega), h2 22 (by omega), h1 22 (by omega)]
  · rw [k10 1 (by omega), g9, h8 14 (by omega), h7 14 (by omega), h6 14 (by omega), h5 14 (by omega), h4 14 (by omega), h3 14 (by omega), h2 14 (by omega), h1 14 (by omega)]
  · rw [g10, h9 14 (by omega), h8 14 (by omega), h7 14 (by omega), h6 14 (by omega), h5 14 (by omega), h4 14 (by omega), h3 14 (by omega), h2 14 (by omega), h1 14 (by omega)]

theorem e_Line_take_62_24 (M : Mem) : ∃ M', f_Line_take_62_24 M = some M' ∧ (∀ x, (x < 62 ∨ 64 < x) → M'.1 x = M.1 x) ∧ (∀ j, j < 48 → M'.1 63 j = M.1 25 j) ∧ (∀ j, j < 48 → M'.1 64 j = M.1 26 j) ∧ M'.1 62 2 = M.1 24 2 ∧ M'.1 62 3 = M.1 24 3 ∧ M'.1 62 4 = M.1 24 4 := by
  unfold f_Line_take_62_24
  refine cp_w (Q := fun M' => (∀ x, (x < 62 ∨ 64 < x) → M'.1 x = M.1 x) ∧ (∀ j, j < 48 → M'.1 63 j = M.1 25 j) ∧ (∀ j, j < 48 → M'.1 64 j = M.1 26 j) ∧ M'.1 62 2 = M.1 24 2 ∧ M'.1 62 3 = M.1 24 3 ∧ M'.1 62 4 = M.1 24 4) ?_
  intro M1 h1 g1
  refine cp_w (Q := fun M' => (∀ x, (x < 62 ∨ 64 < x) → M'.1 x = M.1 x) ∧ (∀ j, j < 48 → M'.1 63 j = M.1 25 j) ∧ (∀ j, j < 48 → M'.1 64 j = M.1 26 j) ∧ M'.1 62 2 = M.1 24 2 ∧ M'.1 62 3 = M.1 24 3 ∧ M'.1 62 4 = M.1 24 4) ?_
  intro M2 h2 g2
  refine cp_i (Q := fun M' => (∀ x, (x < 62 ∨ 64 < x) → M'.1 x = M.1 x) ∧ (∀ j, j < 48 → M'.1 63 j = M.1 25 j) ∧ (∀ j, j < 48 → M'.1 64 j = M.1 26 j) ∧ M'.1 62 2 = M.1 24 2 ∧ M'.1 62 3 = M.1 24 3 ∧ M'.1 62 4 = M.1 24 4) ?_
  intro M3 h3 g3 k3
  refine cp_i (Q := fun M' => (∀ x, (x < 62 ∨ 64 < x) → M'.1 x = M.1 x) ∧ (∀ j, j < 48 → M'.1 63 j = M.1 25 j) ∧ (∀ j, j < 48 → M'.1 64 j = M.1 26 j) ∧ M'.1 62 2 = M.1 24 2 ∧ M'.1 62 3 = M.1 24 3 ∧ M'.1 62 4 = M.1 24 4) ?_
  intro M4 h4 g4 k4
  refine cp_i (Q := fun M' => (∀ x, (x < 62 ∨ 64 < x) → M'.1 x = M.1 x) ∧ (∀ j, j < 48 → M'.1 63 j = M.1 25 j) ∧ (∀ j, j < 48 → M'.1 64 j = M.1 26 j) ∧ M'.1 62 2 = M.1 24 2 ∧ M'.1 62 3 = M.1 24 3 ∧ M'.1 62 4 = M.1 24 4) ?_
  intro M5 h5 g5 k5
  refine ⟨M5, rfl, fun x hx => ?_, ?_, ?_, ?_, ?_, ?_⟩
  · rw [h5 x (by omega), h4 x (by omega), h3 x (by omega), h2 x (by omega), h1 x (by omega)]
  · intro j hj; rw [h5 63 (by omega), h4 63 (by omega), h3 63 (by omega), h2 63 (by omega), g1 j hj]
  · intro j hj; rw [h5 64 (by omega), h4 64 (by omega), h3 64 (by omega), g2 j hj, h1 26 (by omega)]
  · rw [k5 2 (by omega), k4 2 (by omega), g3, h2 24 (by omega), h1 24 (by omega)]
  · rw [k5 3 (by omega), g4, h3 24 (by omega), h2 24 (by omega), h1 24 (by omega)]
  · rw [g5, h4 24 (by omega), h3 24 (by omega), h2 24 (by omega), h1 24 (by omega)]

theorem e_Breaks_take_67_29 (M : Mem) : ∃ M', f_Breaks_take_67_29 M = some M' ∧ (∀ x, (x < 67 ∨ 69 < x) → M'.1 x = M.1 x) ∧ (∀ j, j < 6 → M'.1 68 j = M.1 30 j) ∧ (∀ j, j < 6 → M'.1 69 j = M.1 31 j) ∧ M'.1 67 2 = M.1 29 2 := by
  unfold f_Breaks_take_67_29
  refine cp_w (Q := fun M' => (∀ x, (x < 67 ∨ 69 < x) → M'.1 x = M.1 x) ∧ (∀ j, j < 6 → M'.1 68 j = M.1 30 j) ∧ (∀ j, j < 6 → M'.1 69 j = M.1 31 j) ∧ M'.1 67 2 = M.1 29 2) ?_
  intro M1 h1 g1
  refine cp_w (Q := fun M' => (∀ x, (x < 67 ∨ 69 < x) → M'.1 x = M.1 x) ∧ (∀ j, j < 6 → M'.1 68 j = M.1 30 j) ∧ (∀ j, j < 6 → M'.1 69 j = M.1 31 j) ∧ M'.1 67 2 = M.1 29 2) ?_
  intro M2 h2 g2
  refine cp_i (Q := fun M' => (∀ x, (x < 67 ∨ 69 < x) → M'.1 x = M.1 x) ∧ (∀ j, j < 6 → M'.1 68 j = M.1 30 j) ∧ (∀ j, j < 6 → M'.1 69 j = M.1 31 j) ∧ M'.1 67 2 = M.1 29 2) ?_
  intro M3 h3 g3 k3
  refine ⟨M3, rfl, fun x hx => ?_, ?_, ?_, ?_⟩
  · rw [h3 x (by omega), h2 x (by omega), h1 x (by omega)]
  · intro j hj; rw [h3 68 (by omega), h2 68 (by omega), g1 j hj]
  · intro j hj; rw [h3 69 (by omega), g2 j hj, h1 31 (by omega)]
  · rw [g3, h2 29 (by omega), h1 29 (by omega)]

theorem e_Coins_take_74_36 (M : Mem) : ∃ M', f_Coins_take_74_36 M = some M' ∧ (∀ x, (x < 74 ∨ 76 < x) → M'.1 x = M.1 x) ∧ (∀ j, j < 1210 → M'.1 75 j = M.1 37 j) ∧ (∀ j, j < 1210 → M'.1 76 j = M.1 38 j) ∧ M'.1 74 2 = M.1 36 2 ∧ M'.1 74 3 = M.1 36 3 ∧ M'.1 74 4 = M.1 36 4 ∧ M'.1 74 5 = M.1 36 5 ∧ M'.1 74 6 = M.1 36 6 := by
  unfold f_Coins_take_74_36
  refine cp_w (Q := fun M' => (∀ x, (x < 74 ∨ 76 < x) → M'.1 x = M.1 x) ∧ (∀ j, j < 1210 → M'.1 75 j = M.1 37 j) ∧ (∀ j, j < 1210 → M'.1 76 j = M.1 38 j) ∧ M'.1 74 2 = M.1 36 2 ∧ M'.1 74 3 = M.1 36 3 ∧ M'.1 74 4 = M.1 36 4 ∧ M'.1 74 5 = M.1 36 5 ∧ M'.1 74 6 = M.1 36 6) ?_
  intro M1 h1 g1
  refine cp_w (Q := fun M' => (∀ x, (x < 74 ∨ 76 < x) → M'.1 x = M.1 x) ∧ (∀ j, j < 1210 → M'.1 75 j = M.1 37 j) ∧ (∀ j, j < 1210 → M'.1 76 j = M.1 38 j) ∧ M'.1 74 2 = M.1 36 2 ∧ M'.1 74 3 = M.1 36 3 ∧ M'.1 74 4 = M.1 36 4 ∧ M'.1 74 5 = M.1 36 5 ∧ M'.1 74 6 = M.1 36 6) ?_
  intro M2 h2 g2
  refine cp_i (Q := fun M' => (∀ x, (x < 74 ∨ 76 < x) → M'.1 x = M.1 x) ∧ (∀ j, j < 1210 → M'.1 75 j = M.1 37 j) ∧ (∀ j, j < 1210 → M'.1 76 j = M.1 38 j) ∧ M'.1 74 2 = M.1 36 2 ∧ M'.1 74 3 = M.1 36 3 ∧ M'.1 74 4 = M.1 36 4 ∧ M'.1 74 5 = M.1 36 5 ∧ M'.1 74 6 = M.1 36 6) ?_
  intro M3 h3 g3 k3
  refine cp_i (Q := fun M' => (∀ x, (x < 74 ∨ 76 < x) → M'.1 x = M.1 x) ∧ (∀ j, j < 1210 → M'.1 75 j = M.1 37 j) ∧ (∀ j, j < 1210 → M'.1 76 j = M.1 38 j) ∧ M'.1 74 2 = M.1 36 2 ∧ M'.1 74 3 = M.1 36 3 ∧ M'.1 74 4 = M.1 36 4 ∧ M'.1 74 5 = M.1 36 5 ∧ M'.1 74 6 = M.1 36 6) ?_
  intro M4 h4 g4 k4
  refine cp_i (Q := fun M' => (∀ x, (x < 74 ∨ 76 < x) → M'.1 x = M.1 x) ∧ (∀ j, j < 1210 → M'.1 75 j = M.1 37 j) ∧ (∀ j, j < 1210 → M'.1 76 j = M.1 38 j) ∧ M'.1 74 2 = M.1 36 2 ∧ M'.1 74 3 = M.1 36 3 ∧ M'.1 74 4 = M.1 36 4 ∧ M'.1 74 5 = M.1 36 5 ∧ M'.1 74 6 = M.1 36 6) ?_
  intro M5 h5 g5 k5
  refine cp_i (Q := fun M' => (∀ x, (x < 74 ∨ 76 < x) → M'.1 x = M.1 x) ∧ (∀ j, j < 1210 → M'.1 75 j = M.1 37 j) ∧ (∀ j, j < 1210 → M'.1 76 j = M.1 38 j) ∧ M'.1 74 2 = M.1 36 2 ∧ M'.1 74 3 = M.1 36 3 ∧ M'.1 74 4 = M.1 36 4 ∧ M'.1 74 5 = M.1 36 5 ∧ M'.1 74 6 = M.1 36 6) ?_
  intro M6 h6 g6 k6
  refine cp_i (Q := fun M' => (∀ x, (x < 74 ∨ 76 < x) → M'.1 x = M.1 x) ∧ (∀ j, j < 1210 → M'.1 75 j = M.1 37 j) ∧ (∀ j, j < 1210 → M'.1 76 j = M.1 38 j) ∧ M'.1 74 2 = M.1 36 2 ∧ M'.1 74 3 = M.1 36 3 ∧ M'.1 74 4 = M.1 36 4 ∧ M'.1 74 5 = M.1 36 5 ∧ M'.1 74 6 = M.1 36 6) ?_
  intro M7 h7 g7 k7
  refine ⟨M7, rfl, fun x hx => ?_, ?_, ?_, ?_, ?_, ?_, ?_, ?_⟩
  · rw [h7 x (by omega), h6 x (by omega), h5 x (by omega), h4 x (by omega), h3 x (by omega), h2 x (by omega), h1 x (by omega)]
  · intro j hj; rw [h7 75 (by omega), h6 75 (by omega), h5 75 (by omega), h4 75 (by omega), h3 75 (by omega), h2 75 (by omega), g1 j hj]
  · intro j hj; rw [h7 76 (by omega), h6 76 (by omega), h5 76 (by omega), h4 76 (by omega), h3 76 (by omega), g2 j hj, h1 38 (by omega)]
  · rw [k7 2 (by omega), k6 2 (by omega), k5 2 (by omega), k4 2 (by omega), g3, h2 36 (by omega), h1 36 (by omega)]
  · rw [k7 3 (by omega), k6 3 (by omega), k5 3 (by omega), g4, h3 36 (by omega), h2 36 (by omega), h1 36 (by omega)]
  · rw [k7 4 (by omega), k6 4 (by omega), g5, h4 36 (by omega), h3 36 (by omega), h2 36 (by omega), h1 36 (by omega)]
  · rw [k7 5 (by omega), g6, h5 36 (by omega), h4 36 (by omega), h3 36 (by omega), h2 36 (by omega), h1 36 (by omega)]
  · rw [g7, h6 36 (by omega), h5 36 (by omega), h4 36 (by omega), h3 36 (by omega), h2 36 (by omega), h1 36 (by omega)]

theorem e_Land_take_2_40 (M : Mem) : ∃ M', f_Land_take_2_40 M = some M' ∧ (∀ x, (x < 2 ∨ 6 < x) → M'.1 x = M.1 x) ∧ (∀ j, j < 48 → M'.1 3 j = M.1 41 j) ∧ (∀ j, j < 48 → M'.1 4 j = M.1 42 j) ∧ (∀ j, j < 10 → M'.1 5 j = M.1 43 j) ∧ (∀ j, j < 10 → M'.1 6 j = M.1 44 j) ∧ M'.1 2 4 = M.1 40 4 ∧ M'.1 2 5 = M.1 40 5 := by
  unfold f_Land_take_2_40
  refine cp_w (Q := fun M' => (∀ x, (x < 2 ∨ 6 < x) → M'.1 x = M.1 x) ∧ (∀ j, j < 48 → M'.1 3 j = M.1 41 j) ∧ (∀ j, j < 48 → M'.1 4 j = M.1 42 j) ∧ (∀ j, j < 10 → M'.1 5 j = M.1 43 j) ∧ (∀ j, j < 10 → M'.1 6 j = M.1 44 j) ∧ M'.1 2 4 = M.1 40 4 ∧ M'.1 2 5 = M.1 40 5) ?_
  intro M1 h1 g1
  refine cp_w (Q := fun M' => (∀ x, (x < 2 ∨ 6 < x) → M'.1 x = M.1 x) ∧ (∀ j, j < 48 → M'.1 3 j = M.1 41 j) ∧ (∀ j, j < 48 → M'.1 4 j = M.1 42 j) ∧ (∀ j, j < 10 → M'.1 5 j = M.1 43 j) ∧ (∀ j, j < 10 → M'.1 6 j = M.1 44 j) ∧ M'.1 2 4 = M.1 40 4 ∧ M'.1 2 5 = M.1 40 5) ?_
  intro M2 h2 g2
  refine cp_w (Q := fun M' => (∀ x, (x < 2 ∨ 6 < x) → M'.1 x = M.1 x) ∧ (∀ j, j < 48 → M'.1 3 j = M.1 41 j) ∧ (∀ j, j < 48 → M'.1 4 j = M.1 42 j) ∧ (∀ j, j < 10 → M'.1 5 j = M.1 43 j) ∧ (∀ j, j < 10 → M'.1 6 j = M.1 44 j) ∧ M'.1 2 4 = M.1 40 4 ∧ M'.1 2 5 = M.1 40 5) ?_
  intro M3 h3 g3
  refine cp_w (Q := fun M' => (∀ x, (x < 2 ∨ 6 < x) → M'.1 x = M.1 x) ∧ (∀ j, j < 48 → M'.1 3 j = M.1 41 j) ∧ (∀ j, j < 48 → M'.1 4 j = M.1 42 j) ∧ (∀ j, j < 10 → M'.1 5 j = M.1 43 j) ∧ (∀ j, j < 10 → M'.1 6 j = M.1 44 j) ∧ M'.1 2 4 = M.1 40 4 ∧ M'.1 2 5 = M.1 40 5) ?_
  intro M4 h4 g4
  refine cp_i (Q := fun M' => (∀ x, (x < 2 ∨ 6 < x) → M'.1 x = M.1 x) ∧ (∀ j, j < 48 → M'.1 3 j = M.1 41 j) ∧ (∀ j, j < 48 → M'.1 4 j = M.1 42 j) ∧ (∀ j, j < 10 → M'.1 5 j = M.1 43 j) ∧ (∀ j, j < 10 → M'.1 6 j = M.1 44 j) ∧ M'.1 2 4 = M.1 40 4 ∧ M'.1 2 5 = M.1 40 5) ?_
  intro M5 h5 g5 k5
  refine cp_i (Q := fun M' => (∀ x, (x < 2 ∨ 6 < x) → M'.1 x = M.1 x) ∧ (∀ j, j < 48 → M'.1 3 j = M.1 41 j) ∧ (∀ j, j < 48 → M'.1 4 j = M.1 42 j) ∧ (∀ j, j < 10 → M'.1 5 j = M.1 43 j) ∧ (∀ j, j < 10 → M'.1 6 j = M.1 44 j) ∧ M'.1 2 4 = M.1 40 4 ∧ M'.1 2 5 = M.1 40 5) ?_
  intro M6 h6 g6 k6
  refine ⟨M6, rfl, fun x hx => ?_, ?_, ?_, ?_, ?_, ?_, ?_⟩
  · rw [h6 x (by omega), h5 x (by omega), h4 x (by omega), h3 x (by omega), h2 x (by omega), h1 x (by omega)]
  · intro j hj; rw [h6 3 (by omega), h5 3 (by omega), h4 3 (by omega), h3 3 (by omega), h2 3 (by omega), g1 j hj]
  · intro j hj; rw [h6 4 (by omega), h5 4 (by omega), h4 4 (by omega), h3 4 (by omega), g2 j hj, h1 42 (by omega)]
  · intro j hj; rw [h6 5 (by omega), h5 5 (by omega), h4 5 (by omega), g3 j hj, h2 43 (by omega), h1 43 (by omega)]
  · intro j hj; rw [h6 6 (by omega), h5 6 (by omega), g4 j hj, h3 44 (by omega), h2 44 (by omega), h1 44 (by omega)]
  · rw [k6 4 (by omega), g5, h4 40 (by omega), h3 40 (by omega), h2 40 (by omega), h1 40 (by omega)]
  · rw [g6, h5 40 (by omega), h4 40 (by omega), h3 40 (by omega), h2 40 (by omega), h1 40 (by omega)]

theorem e_Book_take_7_45 (M : Mem) : ∃ M', f_Book_take_7_45 M = some M' ∧ (∀ x, (x < 7 ∨ 12 < x) → M'.1 x = M.1 x) ∧ (∀ j, j < 120 → M'.1 8 j = M.1 46 j) ∧ (∀ j, j < 120 → M'.1 9 j = M.1 47 j) ∧ (∀ j, j < 120 → M'.1 10 j = M.1 48 j) ∧ (∀ j, j < 120 → M'.1 11 j = M.1 49 j) ∧ (∀ j, j < 120 → M'.1 12 j = M.1 50 j) ∧ M'.1 7 5 = M.1 45 5 := by
  unfold f_Book_take_7_45
  refine cp_w (Q := fun M' => (∀ x, (x < 7 ∨ 12 < x) → M'.1 x = M.1 x) ∧ (∀ j, j < 120 → M'.1 8 j = M.1 46 j) ∧ (∀ j, j < 120 → M'.1 9 j = M.1 47 j) ∧ (∀ j, j < 120 → M'.1 10 j = M.1 48 j) ∧ (∀ j, j < 120 → M'.1 11 j = M.1 49 j) ∧ (∀ j, j < 120 → M'.1 12 j = M.1 50 j) ∧ M'.1 7 5 = M.1 45 5) ?_
  intro M1 h1 g1
  refine cp_w (Q := fun M' => (∀ x, (x < 7 ∨ 12 < x) → M'.1 x = M.1 x) ∧ (∀ j, j < 120 → M'.1 8 j = M.1 46 j) ∧ (∀ j, j < 120 → M'.1 9 j = M.1 47 j) ∧ (∀ j, j < 120 → M'.1 10 j = M.1 48 j) ∧ (∀ j, j < 120 → M'.1 11 j = M.1 49 j) ∧ (∀ j, j < 120 → M'.1 12 j = M.1 50 j) ∧ M'.1 7 5 = M.1 45 5) ?_
  intro M2 h2 g2
  refine cp_w (Q := fun M' => (∀ x, (x < 7 ∨ 12 < x) → M'.1 x = M.1 x) ∧ (∀ j, j < 120 → M'.1 8 j = M.1 46 j) ∧ (∀ j, j < 120 → M'.1 9 j = M.1 47 j) ∧ (∀ j, j < 120 → M'.1 10 j = M.1 48 j) ∧ (∀ j, j < 120 → M'.1 11 j = M.1 49 j) ∧ (∀ j, j < 120 → M'.1 12 j = M.1 50 j) ∧ M'.1 7 5 = M.1 45 5) ?_
  intro M3 h3 g3
  refine cp_w (Q := fun M' => (∀ x, (x < 7 ∨ 12 < x) → M'.1 x = M.1 x) ∧ (∀ j, j < 120 → M'.1 8 j = M.1 46 j) ∧ (∀ j, j < 120 → M'.1 9 j = M.1 47 j) ∧ (∀ j, j < 120 → M'.1 10 j = M.1 48 j) ∧ (∀ j, j < 120 → M'.1 11 j = M.1 49 j) ∧ (∀ j, j < 120 → M'.1 12 j = M.1 50 j) ∧ M'.1 7 5 = M.1 45 5) ?_
  intro M4 h4 g4
  refine cp_w (Q := fun M' => (∀ x, (x < 7 ∨ 12 < x) → M'.1 x = M.1 x) ∧ (∀ j, j < 120 → M'.1 8 j = M.1 46 j) ∧ (∀ j, j < 120 → M'.1 9 j = M.1 47 j) ∧ (∀ j, j < 120 → M'.1 10 j = M.1 48 j) ∧ (∀ j, j < 120 → M'.1 11 j = M.1 49 j) ∧ (∀ j, j < 120 → M'.1 12 j = M.1 50 j) ∧ M'.1 7 5 = M.1 45 5) ?_
  intro M5 h5 g5
  refine cp_i (Q := fun M' => (∀ x, (x < 7 ∨ 12 < x) → M'.1 x = M.1 x) ∧ (∀ j, j < 120 → M'.1 8 j = M.1 46 j) ∧ (∀ j, j < 120 → M'.1 9 j = M.1 47 j) ∧ (∀ j, j < 120 → M'.1 10 j = M.1 48 j) ∧ (∀ j, j < 120 → M'.1 11 j = M.1 49 j) ∧ (∀ j, j < 120 → M'.1 12 j = M.1 50 j) ∧ M'.1 7 5 = M.1 45 5) ?_
  intro M6 h6 g6 k6
  refine ⟨M6, rfl, fun x hx => ?_, ?_, ?_, ?_, ?_, ?_, ?_⟩
  · rw [h6 x (by omega), h5 x (by omega), h4 x (by omega), h3 x (by omega), h2 x (by omega), h1 x (by omega)]
  · intro j hj; rw [h6 8 (by omega), h5 8 (by omega), h4 8 (by omega), h3 8 (by omega), h2 8 (by omega), g1 j hj]
  · intro j hj; rw [h6 9 (by omega), h5 9 (by omega), h4 9 (by omega), h3 9 (by omega), g2 j hj, h1 47 (by omega)]
  · intro j hj; rw [h6 10 (by omega), h5 10 (by omega), h4 10 (by omega), g3 j hj, h2 48 (by omega), h1 48 (by omega)]
  · intro j hj; rw [h6 11 (by omega), h5 11 (by omega), g4 j hj, h3 49 (by omega), h2 49 (by omega), h1 49 (by omega)]
  · intro j hj; rw [h6 12 (by omega), g5 j hj, h4 50 (by omega), h3 50 (by omega), h2 50 (by omega), h1 50 (by omega)]
  · rw [g6, h5 45 (by omega), h4 45 (by omega), h3 45 (by omega), h2 45 (by omega), h1 45 (by omega)]

theorem e_Rules_take_14_52 (M : Mem) : ∃ M', f_Rules_take_14_52 M = some M' ∧ (∀ x, (x < 14 ∨ 22 < x) → M'.1 x = M.1 x) ∧ (∀ j, j < 120 → M'.1 15 j = M.1 53 j) ∧ (∀ j, j < 1080 → M'.1 16 j = M.1 54 j) ∧ (∀ j, j < 9 → M'.1 17 j = M.1 55 j) ∧ (∀ j, j < 9 → M'.1 18 j = M.1 56 j) ∧ (∀ j, j < 72 → M'.1 19 j = M.1 57 j) ∧ (∀ j, j < 72 → M'.1 20 j = M.1 58 j) ∧ (∀ j, j < 72 → M'.1 21 j = M.1 59 j) ∧ (∀ j, j < 72 → M'.1 22 j = M.1 60 j) ∧ M'.1 14 1 = M.1 52 1 ∧ M'.1 14 9 = M.1 52 9 := by
  unfold f_Rules_take_14_52
  refine cp_w (Q := fun M' => (∀ x, (x < 14 ∨ 22 < x) → M'.1 x = M.1 x) ∧ (∀ j, j < 120 → M'.1 15 j = M.1 53 j) ∧ (∀ j, j < 1080 → M'.1 16 j = M.1 54 j) ∧ (∀ j, j < 9 → M'.1 17 j = M.1 55 j) ∧ (∀ j, j < 9 → M'.1 18 j = M.1 56 j) ∧ (∀ j, j < 72 → M'.1 19 j = M.1 57 j) ∧ (∀ j, j < 72 → M'.1 20 j = M.1 58 j) ∧ (∀ j, j < 72 → M'.1 21 j = M.1 59 j) ∧ (∀ j, j < 72 → M'.1 22 j = M.1 60 j) ∧ M'.1 14 1 = M.1 52 1 ∧ M'.1 14 9 = M.1 52 9) ?_
  intro M1 h1 g1
  refine cp_w (Q := fun M' => (∀ x, (x < 14 ∨ 22 < x) → M'.1 x = M.1 x) ∧ (∀ j, j < 120 → M'.1 15 j = M.1 53 j) ∧ (∀ j, j < 1080 → M'.1 16 j = M.1 54 j) ∧ (∀ j, j < 9 → M'.1 17 j = M.1 55 j) ∧ (∀ j, j < 9 → M'.1 18 j = M.1 56 j) ∧ (∀ j, j < 72 → M'.1 19 j = M.1 57 j) ∧ (∀ j, j < 72 → M'.1 20 j = M.1 58 j) ∧ (∀ j, j < 72 → M'.1 21 j = M.1 59 j) ∧ (∀ j, j < 72 → M'.1 22 j = M.1 60 j) ∧ M'.1 14 1 = M.1 52 1 ∧ M'.1 14 9 = M.1 52 9) ?_
  intro M2 h2 g2
  refine cp_w (Q := fun M' => (∀ x, (x < 14 ∨ 22 < x) → M'.1 x = M.1 x) ∧ (∀ j, j < 120 → M'.1 15 j = M.1 53 j) ∧ (∀ j, j < 1080 → M'.1 16 j = M.1 54 j) ∧ (∀ j, j < 9 → M'.1 17 j = M.1 55 j) ∧ (∀ j, j < 9 → M'.1 18 j = M.1 56 j) ∧ (∀ j, j < 72 → M'.1 19 j = M.1 57 j) ∧ (∀ j, j < 72 → M'.1 20 j = M.1 58 j) ∧ (∀ j, j < 72 → M'.1 21 j = M.1 59 j) ∧ (∀ j, j < 72 → M'.1 22 j = M.1 60 j) ∧ M'.1 14 1 = M.1 52 1 ∧ M'.1 14 9 = M.1 52 9) ?_
  intro M3 h3 g3
  refine cp_w (Q := fun M' => (∀ x, (x < 14 ∨ 22 < x) → M'.1 x = M.1 x) ∧ (∀ j, j < 120 → M'.1 15 j = M.1 53 j) ∧ (∀ j, j < 1080 → M'.1 16 j = M.1 54 j) ∧ (∀ j, j < 9 → M'.1 17 j = M.1 55 j) ∧ (∀ j, j < 9 → M'.1 18 j = M.1 56 j) ∧ (∀ j, j < 72 → M'.1 19 j = M.1 57 j) ∧ (∀ j, j < 72 → M'.1 20 j = M.1 58 j) ∧ (∀ j, j < 72 → M'.1 21 j = M.1 59 j) ∧ (∀ j, j < 72 → M'.1 22 j = M.1 60 j) ∧ M'.1 14 1 = M.1 52 1 ∧ M'.1 14 9 = M.1 52 9) ?_
  intro M4 h4 g4
  refine cp_w (Q := fun M' => (∀ x, (x < 14 ∨ 22 < x) → M'.1 x = M.1 x) ∧ (∀ j, j < 120 → M'.1 15 j = M.1 53 j) ∧ (∀ j, j < 1080 → M'.1 16 j = M.1 54 j) ∧ (∀ j, j < 9 → M'.1 17 j = M.1 55 j) ∧ (∀ j, j < 9 → M'.1 18 j = M.1 56 j) ∧ (∀ j, j < 72 → M'.1 19 j = M.1 57 j) ∧ (∀ j, j < 72 → M'.1 20 j = M.1 58 j) ∧ (∀ j, j < 72 → M'.1 21 j = M.1 59 j) ∧ (∀ j, j < 72 → M'.1 22 j = M.1 60 j) ∧ M'.1 14 1 = M.1 52 1 ∧ M'.1 14 9 = M.1 52 9) ?_
  intro M5 h5 g5
  refine cp_w (Q := fun M' => (∀ x, (x < 14 ∨ 22 < x) → M'.1 x = M.1 x) ∧ (∀ j, j < 120 → M'.1 15 j = M.1 53 j) ∧ (∀ j, j < 1080 → M'.1 16 j = M.1 54 j) ∧ (∀ j, j < 9 → M'.1 17 j = M.1 55 j) ∧ (∀ j, j < 9 → M'.1 18 j = M.1 56 j) ∧ (∀ j, j < 72 → M'.1 19 j = M.1 57 j) ∧ (∀ j, j < 72 → M'.1 20 j = M.1 58 j) ∧ (∀ j, j < 72 → M'.1 21 j = M.1 59 j) ∧ (∀ j, j < 72 → M'.1 22 j = M.1 60 j) ∧ M'.1 14 1 = M.1 52 1 ∧ M'.1 14 9 = M.1 52 9) ?_
  intro M6 h6 g6
  refine cp_w (Q := fun M' => (∀ x, (x < 14 ∨ 22 < x) → M'.1 x = M.1 x) ∧ (∀ j, j < 120 → M'.1 15 j = M.1 53 j) ∧ (∀ j, j < 1080 → M'.1 16 j = M.1 54 j) ∧ (∀ j, j < 9 → M'.1 17 j = M.1 55 j) ∧ (∀ j, j < 9 → M'.1 18 j = M.1 56 j) ∧ (∀ j, j < 72 → M'.1 19 j = M.1 57 j) ∧ (∀ j, j < 72 → M'.1 20 j = M.1 58 j) ∧ (∀ j, j < 72 → M'.1 21 j = M.1 59 j) ∧ (∀ j, j < 72 → M'.1 22 j = M.1 60 j) ∧ M'.1 14 1 = M.1 52 1 ∧ M'.1 14 9 = M.1 52 9) ?_
  intro M7 h7 g7
  refine cp_w (Q := fun M' => (∀ x, (x < 14 ∨ 22 < x) → M'.1 x = M.1 x) ∧ (∀ j, j < 120 → M'.1 15 j = M.1 53 j) ∧ (∀ j, j < 1080 → M'.1 16 j = M.1 54 j) ∧ (∀ j, j < 9 → M'.1 17 j = M.1 55 j) ∧ (∀ j, j < 9 → M'.1 18 j = M.1 56 j) ∧ (∀ j, j < 72 → M'.1 19 j = M.1 57 j) ∧ (∀ j, j < 72 → M'.1 20 j = M.1 58 j) ∧ (∀ j, j < 72 → M'.1 21 j = M.1 59 j) ∧ (∀ j, j < 72 → M'.1 22 j = M.1 60 j) ∧ M'.1 14 1 = M.1 52 1 ∧ M'.1 14 9 = M.1 52 9) ?_
  intro M8 h8 g8
  refine cp_i (Q := fun M' => (∀ x, (x < 14 ∨ 22 < x) → M'.1 x = M.1 x) ∧ (∀ j, j < 120 → M'.1 15 j = M.1 53 j) ∧ (∀ j, j < 1080 → M'.1 16 j = M.1 54 j) ∧ (∀ j, j < 9 → M'.1 17 j = M.1 55 j) ∧ (∀ j, j < 9 → M'.1 18 j = M.1 56 j) ∧ (∀ j, j < 72 → M'.1 19 j = M.1 57 j) ∧ (∀ j, j < 72 → M'.1 20 j = M.1 58 j) ∧ (∀ j, j < 72 → M'.1 21 j = M.1 59 j) ∧ (∀ j, j < 72 → M'.1 22 j = M.1 60 j) ∧ M'.1 14 1 = M.1 52 1 ∧ M'.1 14 9 = M.1 52 9) ?_
  intro M9 h9 g9 k9
  refine cp_i (Q := fun M' => (∀ x, (x < 14 ∨ 22 < x) → M'.1 x = M.1 x) ∧ (∀ j, j < 120 → M'.1 15 j = M.1 53 j) ∧ (∀ j, j < 1080 → M'.1 16 j = M.1 54 j) ∧ (∀ j, j < 9 → M'.1 17 j = M.1 55 j) ∧ (∀ j, j < 9 → M'.1 18 j = M.1 56 j) ∧ (∀ j, j < 72 → M'.1 19 j = M.1 57 j) ∧ (∀ j, j < 72 → M'.1 20 j = M.1 58 j) ∧ (∀ j, j < 72 → M'.1 21 j = M.1 59 j) ∧ (∀ j, j < 72 → M'.1 22 j = M.1 60 j) ∧ M'.1 14 1 = M.1 52 1 ∧ M'.1 14 9 = M.1 52 9) ?_
  intro M10 h10 g10 k10
  refine ⟨M10, rfl, fun x hx => ?_, ?_, ?_, ?_, ?_, ?_, ?_, ?_, ?_, ?_, ?_⟩
  · rw [h10 x (by omega), h9 x (by omega), h8 x (by omega), h7 x (by omega), h6 x (by omega), h5 x (by omega), h4 x (by omega), h3 x (by omega), h2 x (by omega), h1 x (by omega)]
  · intro j hj; rw [h10 15 (by omega), h9 15 (by omega), h8 15 (by omega), h7 15 (by omega), h6 15 (by omega), h5 15 (by omega), h4 15 (by omega), h3 15 (by omega), h2 15 (by omega), g1 j hj]
  · intro j hj; rw [h10 16 (by omega), h9 16 (by omega), h8 16 (by omega), h7 16 (by omega), h6 16 (by omega), h5 16 (by omega), h4 16 (by omega), h3 16 (by omega), g2 j hj, h1 54 (by omega)]
  · intro j hj; rw [h10 17 (by omega), h9 17 (by omega), h8 17 (by omega), h7 17 (by omega), h6 17 (by omega), h5 17 (by omega), h4 17 (by omega), g3 j hj, h2 55 (by omega), h1 55 (by omega)]
  · intro j hj; rw [h10 18 (by omega), h9 18 (by omega), h8 18 (by omega), h7 18 (by omega), h6 18 (by omega), h5 18 (by omega), g4 j hj, h3 56 (by omega), h2 56 (by omega), h1 56 (by omega)]
  · intro j hj; rw [h10 19 (by omega), h9 19 (by omega), h8 19 (by omega), h7 19 (by omega), h6 19 (by omega), g5 j hj, h4 57 (by omega), h3 57 (by omega), h2 57 (by omega), h1 57 (by omega)]
  · intro j hj; rw [h10 20 (by omega), h9 20 (by omega), h8 20 (by omega), h7 20 (by omega), g6 j hj, h5 58 (by omega), h4 58 (by omega), h3 58 (by omega), h2 58 (by omega), h1 58 (by omega)]
  · intro j hj; rw [h10 21 (by omega), h9 21 (by omega), h8 21 (by omega), g7 j hj, h6 59 (by omega), h5 59 (by omega), h4 59 (by omega), h3 59 (by omega), h2 59 (by omega), h1 59 (by omega)]
  · intro j hj; rw [h10 22 (by omega), h9 22 (by omega), g8 j hj, h7 60 (by omega), h6 60 (by omega), h5 60 (by omega), h4 60 (by omega), h3 60 (by omega), h2 60 (by omega), h1 60 (by omega)]
  · rw [k10 1 (by omega), g9, h8 52 (by omega), h7 52 (by omega), h6 52 (by omega), h5 52 (by omega), h4 52 (by omega), h3 52 (by omega), h2 52 (by omega), h1 52 (by omega)]
  · rw [g10, h9 52 (by omega), h8 52 (by omega), h7 52 (by omega), h6 52 (by omega), h5 52 (by omega), h4 52 (by omega), h3 52 (by omega), h2 52 (by omega), h1 52 (by omega)]

theorem e_Line_take_24_62 (M : Mem) : ∃ M', f_Line_take_24_62 M = some M' ∧ (∀ x, (x < 24 ∨ 26 < x) → M'.1 x = M.1 x) ∧ (∀ j, j < 48 → M'.1 25 j = M.1 63 j) ∧ (∀ j, j < 48 → M'.1 26 j = M.1 64 j) ∧ M'.1 24 2 = M.1 62 2 ∧ M'.1 24 3 = M.1 62 3 ∧ M'.1 24 4 = M.1 62 4 := by
  unfold f_Line_take_24_62
  refine cp_w (Q := fun M' => (∀ x, (x < 24 ∨ 26 < x) → M'.1 x = M.1 x) ∧ (∀ j, j < 48 → M'.1 25 j = M.1 63 j) ∧ (∀ j, j < 48 → M'.1 26 j = M.1 64 j) ∧ M'.1 24 2 = M.1 62 2 ∧ M'.1 24 3 = M.1 62 3 ∧ M'.1 24 4 = M.1 62 4) ?_
  intro M1 h1 g1
  refine cp_w (Q := fun M' => (∀ x, (x < 24 ∨ 26 < x) → M'.1 x = M.1 x) ∧ (∀ j, j < 48 → M'.1 25 j = M.1 63 j) ∧ (∀ j, j < 48 → M'.1 26 j = M.1 64 j) ∧ M'.1 24 2 = M.1 62 2 ∧ M'.1 24 3 = M.1 62 3 ∧ M'.1 24 4 = M.1 62 4) ?_
  intro M2 h2 g2
  refine cp_i (Q := fun M' => (∀ x, (x < 24 ∨ 26 < x) → M'.1 x = M.1 x) ∧ (∀ j, j < 48 → M'.1 25 j = M.1 63 j) ∧ (∀ j, j < 48 → M'.1 26 j = M.1 64 j) ∧ M'.1 24 2 = M.1 62 2 ∧ M'.1 24 3 = M.1 62 3 ∧ M'.1 24 4 = M.1 62 4) ?_
  intro M3 h3 g3 k3
  refine cp_i (Q := fun M' => (∀ x, (x < 24 ∨ 26 < x) → M'.1 x = M.1 x) ∧ (∀ j, j < 48 → M'.1 25 j = M.1 63 j) ∧ (∀ j, j < 48 → M'.1 26 j = M.1 64 j) ∧ M'.1 24 2 = M.1 62 2 ∧ M'.1 24 3 = M.1 62 3 ∧ M'.1 24 4 = M.1 62 4) ?_
  intro M4 h4 g4 k4
  refine cp_i (Q := fun M' => (∀ x, (x < 24 ∨ 26 < x) → M'.1 x = M.1 x) ∧ (∀ j, j < 48 → M'.1 25 j = M.1 63 j) ∧ (∀ j, j < 48 → M'.1 26 j = M.1 64 j) ∧ M'.1 24 2 = M.1 62 2 ∧ M'.1 24 3 = M.1 62 3 ∧ M'.1 24 4 = M.1 62 4) ?_
  intro M5 h5 g5 k5
  refine ⟨M5, rfl, fun x hx => ?_, ?_, ?_, ?_, ?_, ?_⟩
  · rw [h5 x (by omega), h4 x (by omega), h3 x (by omega), h2 x (by omega), h1 x (by omega)]
  · intro j hj; rw [h5 25 (by omega), h4 25 (by omega), h3 25 (by omega), h2 25 (by omega), g1 j hj]
  · intro j hj; rw [h5 26 (by omega), h4 26 (by omega), h3 26 (by omega), g2 j hj, h1 64 (by omega)]
  · rw [k5 2 (by omega), k4 2 (by omega), g3, h2 62 (by omega), h1 62 (by omega)]
  · rw [k5 3 (by omega), g4, h3 62 (by omega), h2 62 (by omega), h1 62 (by omega)]
  · rw [g5, h4 62 (by omega), h3 62 (by omega), h2 62 (by omega), h1 62 (by omega)]

theorem e_Breaks_take_29_67 (M : Mem) : ∃ M', f_Breaks_take_29_67 M = some M' ∧ (∀ x, (x < 29 ∨ 31 < x) → M'.1 x = M.1 x) ∧ (∀ j, j < 6 → M'.1 30 j = M.1 68 j) ∧ (∀ j, j < 6 → M'.1 31 j = M.1 69 j) ∧ M'.1 29 2 = M.1 67 2 := by
  unfold f_Breaks_take_29_67
  refine cp_w (Q := fun M' => (∀ x, (x < 29 ∨ 31 < x) → M'.1 x = M.1 x) ∧ (∀ j, j < 6 → M'.1 30 j = M.1 68 j) ∧ (∀ j, j < 6 → M'.1 31 j = M.1 69 j) ∧ M'.1 29 2 = M.1 67 2) ?_
  intro M1 h1 g1
  refine cp_w (Q := fun M' => (∀ x, (x < 29 ∨ 31 < x) → M'.1 x = M.1 x) ∧ (∀ j, j < 6 → M'.1 30 j = M.1 68 j) ∧ (∀ j, j < 6 → M'.1 31 j = M.1 69 j) ∧ M'.1 29 2 = M.1 67 2) ?_
  intro M2 h2 g2
  refine cp_i (Q := fun M' => (∀ x, (x < 29 ∨ 31 < x) → M'.1 x = M.1 x) ∧ (∀ j, j < 6 → M'.1 30 j = M.1 68 j) ∧ (∀ j, j < 6 → M'.1 31 j = M.1 69 j) ∧ M'.1 29 2 = M.1 67 2) ?_
  intro M3 h3 g3 k3
  refine ⟨M3, rfl, fun x hx => ?_, ?_, ?_, ?_⟩
  · rw [h3 x (by omega), h2 x (by omega), h1 x (by omega)]
  · intro j hj; rw [h3 30 (by omega), h2 30 (by omega), g1 j hj]
  · intro j hj; rw [h3 31 (by omega), g2 j hj, h1 69 (by omega)]
  · rw [g3, h2 67 (by omega), h1 67 (by omega)]

theorem e_Coins_take_36_74 (M : Mem) : ∃ M', f_Coins_take_36_74 M = some M' ∧ (∀ x, (x < 36 ∨ 38 < x) → M'.1 x = M.1 x) ∧ (∀ j, j < 1210 → M'.1 37 j = M.1 75 j) ∧ (∀ j, j < 1210 → M'.1 38 j = M.1 76 j) ∧ M'.1 36 2 = M.1 74 2 ∧ M'.1 36 3 = M.1 74 3 ∧ M'.1 36 4 = M.1 74 4 ∧ M'.1 36 5 = M.1 74 5 ∧ M'.1 36 6 = M.1 74 6 := by
  unfold f_Coins_take_36_74
  refine cp_w (Q := fun M' => (∀ x, (x < 36 ∨ 38 < x) → M'.1 x = M.1 x) ∧ (∀ j, j < 1210 → M'.1 37 j = M.1 75 j) ∧ (∀ j, j < 1210 → M'.1 38 j = M.1 76 j) ∧ M'.1 36 2 = M.1 74 2 ∧ M'.1 36 3 = M.1 74 3 ∧ M'.1 36 4 = M.1 74 4 ∧ M'.1 36 5 = M.1 74 5 ∧ M'.1 36 6 = M.1 74 6) ?_
  intro M1 h1 g1
  refine cp_w (Q := fun M' => (∀ x, (x < 36 ∨ 38 < x) → M'.1 x = M.1 x) ∧ (∀ j, j < 1210 → M'.1 37 j = M.1 75 j) ∧ (∀ j, j < 1210 → M'.1 38 j = M.1 76 j) ∧ M'.1 36 2 = M.1 74 2 ∧ M'.1 36 3 = M.1 74 3 ∧ M'.1 36 4 = M.1 74 4 ∧ M'.1 36 5 = M.1 74 5 ∧ M'.1 36 6 = M.1 74 6) ?_
  intro M2 h2 g2
  refine cp_i (Q := fun M' => (∀ x, (x < 36 ∨ 38 < x) → M'.1 x = M.1 x) ∧ (∀ j, j < 1210 → M'.1 37 j = M.1 75 j) ∧ (∀ j, j < 1210 → M'.1 38 j = M.1 76 j) ∧ M'.1 36 2 = M.1 74 2 ∧ M'.1 36 3 = M.1 74 3 ∧ M'.1 36 4 = M.1 74 4 ∧ M'.1 36 5 = M.1 74 5 ∧ M'.1 36 6 = M.1 74 6) ?_
  intro M3 h3 g3 k3
  refine cp_i (Q := fun M' => (∀ x, (x < 36 ∨ 38 < x) → M'.1 x = M.1 x) ∧ (∀ j, j < 1210 → M'.1 37 j = M.1 75 j) ∧ (∀ j, j < 1210 → M'.1 38 j = M.1 76 j) ∧ M'.1 36 2 = M.1 74 2 ∧ M'.1 36 3 = M.1 74 3 ∧ M'.1 36 4 = M.1 74 4 ∧ M'.1 36 5 = M.1 74 5 ∧ M'.1 36 6 = M.1 74 6) ?_
  intro M4 h4 g4 k4
  refine cp_i (Q := fun M' => (∀ x, (x < 36 ∨ 38 < x) → M'.1 x = M.1 x) ∧ (∀ j, j < 1210 → M'.1 37 j = M.1 75 j) ∧ (∀ j, j < 1210 → M'.1 38 j = M.1 76 j) ∧ M'.1 36 2 = M.1 74 2 ∧ M'.1 36 3 = M.1 74 3 ∧ M'.1 36 4 = M.1 74 4 ∧ M'.1 36 5 = M.1 74 5 ∧ M'.1 36 6 = M.1 74 6) ?_
  intro M5 h5 g5 k5
  refine cp_i (Q := fun M' => (∀ x, (x < 36 ∨ 38 < x) → M'.1 x = M.1 x) ∧ (∀ j, j < 1210 → M'.1 37 j = M.1 75 j) ∧ (∀ j, j < 1210 → M'.1 38 j = M.1 76 j) ∧ M'.1 36 2 = M.1 74 2 ∧ M'.1 36 3 = M.1 74 3 ∧ M'.1 36 4 = M.1 74 4 ∧ M'.1 36 5 = M.1 74 5 ∧ M'.1 36 6 = M.1 74 6) ?_
  intro M6 h6 g6 k6
  refine cp_i (Q := fun M' => (∀ x, (x < 36 ∨ 38 < x) → M'.1 x = M.1 x) ∧ (∀ j, j < 1210 → M'.1 37 j = M.1 75 j) ∧ (∀ j, j < 1210 → M'.1 38 j = M.1 76 j) ∧ M'.1 36 2 = M.1 74 2 ∧ M'.1 36 3 = M.1 74 3 ∧ M'.1 36 4 = M.1 74 4 ∧ M'.1 36 5 = M.1 74 5 ∧ M'.1 36 6 = M.1 74 6) ?_
  intro M7 h7 g7 k7
  refine ⟨M7, rfl, fun x hx => ?_, ?_, ?_, ?_, ?_, ?_, ?_, ?_⟩
  · rw [h7 x (by omega), h6 x (by omega), h5 x (by omega), h4 x (by omega), h3 x (by omega), h2 x (by omega), h1 x (by omega)]
  · intro j hj; rw [h7 37 (by omega), h6 37 (by omega), h5 37 (by omega), h4 37 (by omega), h3 37 (by omega), h2 37 (by omega), g1 j hj]
  · intro j hj; rw [h7 38 (by omega), h6 38 (by omega), h5 38 (by omega), h4 38 (by omega), h3 38 (by omega), g2 j hj, h1 76 (by omega)]
  · rw [k7 2 (by omega), k6 2 (by omega), k5 2 (by omega), k4 2 (by omega), g3, h2 74 (by omega), h1 74 (by omega)]
  · rw [k7 3 (by omega), k6 3 (by omega), k5 3 (by omega), g4, h3 74 (by omega), h2 74 (by omega), h1 74 (by omega)]
  · rw [k7 4 (by omega), k6 4 (by omega), g5, h4 74 (by omega), h3 74 (by omega), h2 74 (by omega), h1 74 (by omega)]
  · rw [k7 5 (by omega), g6, h5 74 (by omega), h4 74 (by omega), h3 74 (by omega), h2 74 (by omega), h1 74 (by omega)]
  · rw [g7, h6 74 (by omega), h5 74 (by omega), h4 74 (by omega), h3 74 (by omega), h2 74 (by omega), h1 74 (by omega)]

theorem e_State_take_39_1 (M : Mem) : ∃ M', f_State_take_39_1 M = some M' ∧ (∀ x, (x < 39 ∨ 76 < x) → M'.1 x = M.1 x) ∧ Kp M.1 (fun a => M'.1 (a + 38)) := by
  obtain ⟨M1, p1, h1, q1_0, q1_1, q1_2, q1_3, q1_4, q1_5⟩ := e_Land_take_40_2 M
  obtain ⟨M2, p2, h2, q2_0, q2_1, q2_2, q2_3, q2_4, q2_5⟩ := e_Book_take_45_7 M1
  obtain ⟨M3, p3, h3, q3_0, q3_1, q3_2, q3_3, q3_4, q3_5, q3_6, q3_7, q3_8, q3_9⟩ := e_Rules_take_52_14 M2
  obtain ⟨M4, p4, h4, q4_0, q4_1, q4_2, q4_3, q4_4⟩ := e_Line_take_62_24 M3
  obtain ⟨M5, p5, h5, q5_0, q5_1, q5_2⟩ := e_Breaks_take_67_29 M4
  obtain ⟨M6, p6, h6, q6_0, q6_1, q6_2, q6_3, q6_4, q6_5, q6_6⟩ := e_Coins_take_74_36 M5
  refine ⟨wI M6 39 6 (M6.1 1 6), ?_, fun x hx => ?_, ?_, ?_, ?_, ?_, ?_, ?_, ?_, ?_, ?_, ?_, ?_, ?_, ?_, ?_, ?_, ?_, ?_, ?_, ?_, ?_, ?_, ?_, ?_, ?_, ?_, ?_, ?_, ?_, ?_, ?_, ?_, ?_, ?_, ?_, ?_, ?_, ?_, ?_⟩
  · unfold f_State_take_39_1 jv_
    rw [p1, Option.bind_some, p2, Option.bind_some, p3, Option.bind_some, p4, Option.bind_some, p5, Option.bind_some, p6, Option.bind_some]
  · rw [rdk (by omega), h6 x (by omega), h5 x (by omega), h4 x (by omega), h3 x (by omega), h2 x (by omega), h1 x (by omega)]
  · show (wI M6 39 6 _).1 39 _ = _
    rw [rde, h6 1 (by omega), h5 1 (by omega), h4 1 (by omega), h3 1 (by omega), h2 1 (by omega), h1 1 (by omega)]
  · show (wI M6 39 6 _).1 40 _ = _
    rw [rdk (by omega), h6 40 (by omega), h5 40 (by omega), h4 40 (by omega), h3 40 (by omega), h2 40 (by omega), q1_4]
  · show (wI M6 39 6 _).1 40 _ = _
    rw [rdk (by omega), h6 40 (by omega), h5 40 (by omega), h4 40 (by omega), h3 40 (by omega), h2 40 (by omega), q1_5]
  · intro j hj
    show (wI M6 39 6 _).1 41 _ = _
    rw [rdk (by omega), h6 41 (by omega), h5 41 (by omega), h4 41 (by omega), h3 41 (by omega), h2 41 (by omega), q1_0 j hj]
  · intro j hj
    show (wI M6 39 6 _).1 42 _ = _
    rw [rdk (by omega), h6 42 (by omega), h5 42 (by omega), h4 42 (by omega), h3 42 (by omega), h2 42 (by omega), q1_1 j hj]
  · intro j hj
    show (wI M6 39 6 _).1 43 _ = _
    rw [rdk (by omega), h6 43 (by omega), h5 43 (by omega), h4 43 (by omega), h3 43 (by omega), h2 43 (by omega), q1_2 j hj]
  · intro j hj
    show (wI M6 39 6 _).1 44 _ = _
    rw [rdk (by omega), h6 44 (by omega), h5 44 (by omega), h4 44 (by omega), h3 44 (by omega), h2 44 (by omega), q1_3 j hj]
  · show (wI M6 39 6 _).1 45 _ = _
    rw [rdk (by omega), h6 45 (by omega), h5 45 (by omega), h4 45 (by omega), h3 45 (by omega), q2_5, h1 7 (by omega)]
  · intro j hj
    show (wI M6 39 6 _).1 46 _ = _
    rw [rdk (by omega), h6 46 (by omega), h5 46 (by omega), h4 46 (by omega), h3 46 (by omega), q2_0 j hj, h1 8 (by omega)]
  · intro j hj
    show (wI M6 39 6 _).1 47 _ = _
    rw [rdk (by omega), h6 47 (by omega), h5 47 (by omega), h4 47 (by omega), h3 47 (by omega), q2_1 j hj, h1 9 (by omega)]
  · intro j hj
    show (wI M6 39 6 _).1 48 _ = _
    rw [rdk (by omega), h6 48 (by omega), h5 48 (by omega), h4 48 (by omega), h3 48 (by omega), q2_2 j hj, h1 10 (by omega)]
  · intro j hj
    show (wI M6 39 6 _).1 49 _ = _
    rw [rdk (by omega), h6 49 (by omega), h5 49 (by omega), h4 49 (by omega), h3 49 (by omega), q2_3 j hj, h1 11 (by omega)]
  · intro j hj
    show (wI M6 39 6 _).1 50 _ = _
    rw [rdk (by omega), h6 50 (by omega), h5 50 (by omega), h4 50 (by omega), h3 50 (by omega), q2_4 j hj, h1 12 (by omega)]
  · show (wI M6 39 6 _).1 52 _ = _
    rw [rdk (by omega), h6 52 (by omega), h5 52 (by omega), h4 52 (by omega), q3_8, h2 14 (by omega), h1 14 (by omega)]
  · show (wI M6 39 6 _).1 52 _ = _
    rw [rdk (by omega), h6 52 (by omega), h5 52 (by omega), h4 52 (by omega), q3_9, h2 14 (by omega), h1 14 (by omega)]
  · intro j hj
    show (wI M6 39 6 _).1 53 _ = _
    rw [rdk (by omega), h6 53 (by omega), h5 53 (by omega), h4 53 (by omega), q3_0 j hj, h2 15 (by omega), h1 15 (by omega)]
  · intro j hj
    show (wI M6 39 6 _).1 54 _ = _
    rw [rdk (by omega), h6 54 (by omega), h5 54 (by omega), h4 54 (by omega), q3_1 j hj, h2 16 (by omega), h1 16 (by omega)]
  · intro j hj
    show (wI M6 39 6 _).1 55 _ = _
    rw [rdk (by omega), h6 55 (by omega), h5 55 (by omega), h4 55 (by omega), q3_2 j hj, h2 17 (by omega), h1 17 (by omega)]
  · intro j hj
    show (wI M6 39 6 _).1 56 _ = _
    rw [rdk (by omega), h6 56 (by omega), h5 56 (by omega), h4 56 (by omega), q3_3 j hj, h2 18 (by omega), h1 18 (by omega)]
  · intro j hj
    show (wI M6 39 6 _).1 57 _ = _
    rw [rdk (by omega), h6 57 (by omega), h5 57 (by omega), h4 57 (by omega), q3_4 j hj, h2 19 (by omega), h1 19 (by omega)]
  · intro j hj
    show (wI M6 39 6 _).1 58 _ = _
    rw [rdk (by omega), h6 58 (by omega), h5 58 (by omega), h4 58 (by omega), q3_5 j hj, h2 20 (by omega), h1 20 (by omega)]
  · intro j hj
    show (wI M6 39 6 _).1 59 _ = _
    rw [rdk (by omega), h6 59 (by omega), h5 59 (by omega), h4 59 (by omega), q3_6 j hj, h2 21 (by omega), h1 21 (by omega)]
  · intro j hj
    show (wI M6 39 6 _).1 60 _ = _
    rw [rdk (by omega), h6 60 (by omega), h5 60 (by omega), h4 60 (by omega), q3_7 j hj, h2 22 (by omega), h1 22 (by omega)]
  · show (wI M6 39 6 _).1 62 _ = _
    rw [rdk (by omega), h6 62 (by omega), h5 62 (by omega), q4_2, h3 24 (by omega), h2 24 (by omega), h1 24 (by omega)]
  · show (wI M6 39 6 _).1 62 _ = _
    rw [rdk (by omega), h6 62 (by omega), h5 62 (by omega), q4_3, h3 24 (by omega), h2 24 (by omega), h1 24 (by omega)]
  · show (wI M6 39 6 _).1 62 _ = _
    rw [rdk (by omega), h6 62 (by omega), h5 62 (by omega), q4_4, h3 24 (by omega), h2 24 (by omega), h1 24 (by omega)]
  · intro j hj
    show (wI M6 39 6 _).1 63 _ = _
    rw [rdk (by omega), h6 63 (by omega), h5 63 (by omega), q4_0 j hj, h3 25 (by omega), h2 25 (by omega), h1 25 (by omega)]
  · intro j hj
    show (wI M6 39 6 _).1 64 _ = _
    rw [rdk (by omega), h6 64 (by omega), h5 64 (by omega), q4_1 j hj, h3 26 (by omega), h2 26 (by omega), h1 26 (by omega)]
  · show (wI M6 39 6 _).1 67 _ = _
    rw [rdk (by omega), h6 67 (by omega), q5_2, h4 29 (by omega), h3 29 (by omega), h2 29 (by omega), h1 29 (by omega)]
  · intro j hj
    show (wI M6 39 6 _).1 68 _ = _
    rw [rdk (by omega), h6 68 (by omega), q5_0 j hj, h4 30 (by omega), h3 30 (by omega), h2 30 (by omega), h1 30 (by omega)]
  · intro j hj
    show (wI M6 39 6 _).1 69 _ = _
    rw [rdk (by omega), h6 69 (by omega), q5_1 j hj, h4 31 (by omega), h3 31 (by omega), h2 31 (by omega), h1 31 (by omega)]
  · show (wI M6 39 6 _).1 74 _ = _
    rw [rdk (by omega), q6_2, h5 36 (by omega), h4 36 (by omega), h3 36 (by omega), h2 36 (by omega), h1 36 (by omega)]
  · show (wI M6 39 6 _).1 74 _ = _
    rw [rdk (by omega), q6_3, h5 36 (by omega), h4 36 (by omega), h3 36 (by omega), h2 36 (by omega), h1 36 (by omega)]
  · show (wI M6 39 6 _).1 74 _ = _
    rw [rdk (by omega), q6_4, h5 36 (by omega), h4 36 (by omega), h3 36 (by omega), h2 36 (by omega), h1 36 (by omega)]
  · show (wI M6 39 6 _).1 74 _ = _
    rw [rdk (by omega), q6_5, h5 36 (by omega), h4 36 (by omega), h3 36 (by omega), h2 36 (by omega), h1 36 (by omega)]
  · show (wI M6 39 6 _).1 74 _ = _
    rw [rdk (by omega), q6_6, h5 36 (by omega), h4 36 (by omega), h3 36 (by omega), h2 36 (by omega), h1 36 (by omega)]
  · intro j hj
    show (wI M6 39 6 _).1 75 _ = _
    rw [rdk (by omega), q6_0 j hj, h5 37 (by omega), h4 37 (by omega), h3 37 (by omega), h2 37 (by omega), h1 37 (by omega)]
  · intro j hj
    show (wI M6 39 6 _).1 76 _ = _
    rw [rdk (by omega), q6_1 j hj, h5 38 (by omega), h4 38 (by omega), h3 38 (by omega), h2 38 (by omega), h1 38 (by omega)]

theorem e_State_take_1_39 (M : Mem) : ∃ M', f_State_take_1_39 M = some M' ∧ (∀ x, (x < 1 ∨ 38 < x) → M'.1 x = M.1 x) ∧ Kp (fun a => M.1 (a + 38)) M'.1 := by
  obtain ⟨M1, p1, h1, q1_0, q1_1, q1_2, q1_3, q1_4, q1_5⟩ := e_Land_take_2_40 M
  obtain ⟨M2, p2, h2, q2_0, q2_1, q2_2, q2_3, q2_4, q2_5⟩ := e_Book_take_7_45 M1
  obtain ⟨M3, p3, h3, q3_0, q3_1, q3_2, q3_3, q3_4, q3_5, q3_6, q3_7, q3_8, q3_9⟩ := e_Rules_take_14_52 M2
  obtain ⟨M4, p4, h4, q4_0, q4_1, q4_2, q4_3, q4_4⟩ := e_Line_take_24_62 M3
  obtain ⟨M5, p5, h5, q5_0, q5_1, q5_2⟩ := e_Breaks_take_29_67 M4
  obtain ⟨M6, p6, h6, q6_0, q6_1, q6_2, q6_3, q6_4, q6_5, q6_6⟩ := e_Coins_take_36_74 M5
  refine ⟨wI M6 1 6 (M6.1 39 6), ?_, fun x hx => ?_, ?_, ?_, ?_, ?_, ?_, ?_, ?_, ?_, ?_, ?_, ?_, ?_, ?_, ?_, ?_, ?_, ?_, ?_, ?_, ?_, ?_, ?_, ?_, ?_, ?_, ?_, ?_, ?_, ?_, ?_, ?_, ?_, ?_, ?_, ?_, ?_, ?_, ?_⟩
  · unfold f_State_take_1_39 jv_
    rw [p1, Option.bind_some, p2, Option.bind_some, p3, Option.bind_some, p4, Option.bind_some, p5, Option.bind_some, p6, Option.bind_some]
  · rw [rdk (by omega), h6 x (by omega), h5 x (by omega), h4 x (by omega), h3 x (by omega), h2 x (by omega), h1 x (by omega)]
  · show _ = M.1 39 _
    rw [rde, h6 39 (by omega), h5 39 (by omega), h4 39 (by omega), h3 39 (by omega), h2 39 (by omega), h1 39 (by omega)]
  · show _ = M.1 40 _
    rw [rdk (by omega), h6 2 (by omega), h5 2 (by omega), h4 2 (by omega), h3 2 (by omega), h2 2 (by omega), q1_4]
  · show _ = M.1 40 _
    rw [rdk (by omega), h6 2 (by omega), h5 2 (by omega), h4 2 (by omega), h3 2 (by omega), h2 2 (by omega), q1_5]
  · intro j hj
    show _ = M.1 41 _
    rw [rdk (by omega), h6 3 (by omega), h5 3 (by omega), h4 3 (by omega), h3 3 (by omega), h2 3 (by omega), q1_0 j hj]
  · intro j hj
    show _ = M.1 42 _
    rw [rdk (by omega), h6 4 (by omega), h5 4 (by omega), h4 4 (by omega), h3 4 (by omega), h2 4 (by omega), q1_1 j hj]
  · intro j hj
    show _ = M.1 43 _
    rw [rdk (by omega), h6 5 (by omega), h5 5 (by omega), h4 5 (by omega), h3 5 (by omega), h2 5 (by omega), q1_2 j hj]
  · intro j hj
    show _ = M.1 44 _
    rw [rdk (by omega), h6 6 (by omega), h5 6 (by omega), h4 6 (by omega), h3 6 (by omega), h2 6 (by omega), q1_3 j hj]
  · show _ = M.1 45 _
    rw [rdk (by omega), h6 7 (by omega), h5 7 (by omega), h4 7 (by omega), h3 7 (by omega), q2_5, h1 45 (by omega)]
  · intro j hj
    show _ = M.1 46 _
    rw [rdk (by omega), h6 8 (by omega), h5 8 (by omega), h4 8 (by omega), h3 8 (by omega), q2_0 j hj, h1 46 (by omega)]
  · intro j hj
    show _ = M.1 47 _
    rw [rdk (by omega), h6 9 (by omega), h5 9 (by omega), h4 9 (by omega), h3 9 (by omega), q2_1 j hj, h1 47 (by omega)]
  · intro j hj
    show _ = M.1 48 _
    rw [rdk (by omega), h6 10 (by omega), h5 10 (by omega), h4 10 (by omega), h3 10 (by omega), q2_2 j hj, h1 48 (by omega)]
  · intro j hj
    show _ = M.1 49 _
    rw [rdk (by omega), h6 11 (by omega), h5 11 (by omega), h4 11 (by omega), h3 11 (by omega), q2_3 j hj, h1 49 (by omega)]
  · intro j hj
    show _ = M.1 50 _
    rw [rdk (by omega), h6 12 (by omega), h5 12 (by omega), h4 12 (by omega), h3 12 (by omega), q2_4 j hj, h1 50 (by omega)]
  · show _ = M.1 52 _
    rw [rdk (by omega), h6 14 (by omega), h5 14 (by omega), h4 14 (by omega), q3_8, h2 52 (by omega), h1 52 (by omega)]
  · show _ = M.1 52 _
    rw [rdk (by omega), h6 14 (by omega), h5 14 (by omega), h4 14 (by omega), q3_9, h2 52 (by omega), h1 52 (by omega)]
  · intro j hj
    show _ = M.1 53 _
    rw [rdk (by omega), h6 15 (by omega), h5 15 (by omega), h4 15 (by omega), q3_0 j hj, h2 53 (by omega), h1 53 (by omega)]
  · intro j hj
    show _ = M.1 54 _
    rw [rdk (by omega), h6 16 (by omega), h5 16 (by omega), h4 16 (by omega), q3_1 j hj, h2 54 (by omega), h1 54 (by omega)]
  · intro j hj
    show _ = M.1 55 _
    rw [rdk (by omega), h6 17 (by omega), h5 17 (by omega), h4 17 (by omega), q3_2 j hj, h2 55 (by omega), h1 55 (by omega)]
  · intro j hj
    show _ = M.1 56 _
    rw [rdk (by omega), h6 18 (by omega), h5 18 (by omega), h4 18 (by omega), q3_3 j hj, h2 56 (by omega), h1 56 (by omega)]
  · intro j hj
    show _ = M.1 57 _
    rw [rdk (by omega), h6 19 (by omega), h5 19 (by omega), h4 19 (by omega), q3_4 j hj, h2 57 (by omega), h1 57 (by omega)]
  · intro j hj
    show _ = M.1 58 _
    rw [rdk (by omega), h6 20 (by omega), h5 20 (by omega), h4 20 (by omega), q3_5 j hj, h2 58 (by omega), h1 58 (by omega)]
  · intro j hj
    show _ = M.1 59 _
    rw [rdk (by omega), h6 21 (by omega), h5 21 (by omega), h4 21 (by omega), q3_6 j hj, h2 59 (by omega), h1 59 (by omega)]
  · intro j hj
    show _ = M.1 60 _
    rw [rdk (by omega), h6 22 (by omega), h5 22 (by omega), h4 22 (by omega), q3_7 j hj, h2 60 (by omega), h1 60 (by omega)]
  · show _ = M.1 62 _
    rw [rdk (by omega), h6 24 (by omega), h5 24 (by omega), q4_2, h3 62 (by omega), h2 62 (by omega), h1 62 (by omega)]
  · show _ = M.1 62 _
    rw [rdk (by omega), h6 24 (by omega), h5 24 (by omega), q4_3, h3 62 (by omega), h2 62 (by omega), h1 62 (by omega)]
  · show _ = M.1 62 _
    rw [rdk (by omega), h6 24 (by omega), h5 24 (by omega), q4_4, h3 62 (by omega), h2 62 (by omega), h1 62 (by omega)]
  · intro j hj
    show _ = M.1 63 _
    rw [rdk (by omega), h6 25 (by omega), h5 25 (by omega), q4_0 j hj, h3 63 (by omega), h2 63 (by omega), h1 63 (by omega)]
  · intro j hj
    show _ = M.1 64 _
    rw [rdk (by omega), h6 26 (by omega), h5 26 (by omega), q4_1 j hj, h3 64 (by omega), h2 64 (by omega), h1 64 (by omega)]
  · show _ = M.1 67 _
    rw [rdk (by omega), h6 29 (by omega), q5_2, h4 67 (by omega), h3 67 (by omega), h2 67 (by omega), h1 67 (by omega)]
  · intro j hj
    show _ = M.1 68 _
    rw [rdk (by omega), h6 30 (by omega), q5_0 j hj, h4 68 (by omega), h3 68 (by omega), h2 68 (by omega), h1 68 (by omega)]
  · intro j hj
    show _ = M.1 69 _
    rw [rdk (by omega), h6 31 (by omega), q5_1 j hj, h4 69 (by omega), h3 69 (by omega), h2 69 (by omega), h1 69 (by omega)]
  · show _ = M.1 74 _
    rw [rdk (by omega), q6_2, h5 74 (by omega), h4 74 (by omega), h3 74 (by omega), h2 74 (by omega), h1 74 (by omega)]
  · show _ = M.1 74 _
    rw [rdk (by omega), q6_3, h5 74 (by omega), h4 74 (by omega), h3 74 (by omega), h2 74 (by omega), h1 74 (by omega)]
  · show _ = M.1 74 _
    rw [rdk (by omega), q6_4, h5 74 (by omega), h4 74 (by omega), h3 74 (by omega), h2 74 (by omega), h1 74 (by omega)]
  · show _ = M.1 74 _
    rw [rdk (by omega), q6_5, h5 74 (by omega), h4 74 (by omega), h3 74 (by omega), h2 74 (by omega), h1 74 (by omega)]
  · show _ = M.1 74 _
    rw [rdk (by omega), q6_6, h5 74 (by omega), h4 74 (by omega), h3 74 (by omega), h2 74 (by omega), h1 74 (by omega)]
  · intro j hj
    show _ = M.1 75 _
    rw [rdk (by omega), q6_0 j hj, h5 75 (by omega), h4 75 (by omega), h3 75 (by omega), h2 75 (by omega), h1 75 (by omega)]
  · intro j hj
    show _ = M.1 76 _
    rw [rdk (by omega), q6_1 j hj, h5 76 (by omega), h4 76 (by omega), h3 76 (by omega), h2 76 (by omega), h1 76 (by omega)]

theorem e_MoImg (X : Mem) : itr b_Mo_image_94_2 FU (0, X) = some (wR X 96 (fun j => if j < 4700 then X.1 95 j else X.1 96 j)) := by
  obtain ⟨r, h1, h2⟩ := itr_cnt (body := b_Mo_image_94_2) (s0 := (0, X)) (fun k s => s = (nI k, wR X 96 (fun j => if j < k then X.1 95 j else X.1 96 j))) (fun r => r = wR X 96 (fun j => if j < 4700 then X.1 95 j else X.1 96 j)) 4700 (by omega) (by
    have : (fun j => if j < 0 then X.1 95 j else X.1 96 j) = X.1 96 := by
      funext j
      exact if_neg (by omega)
    rw [this, wR_same]; rfl) (by
    rintro k s hk rfl
    left
    refine ⟨(nI (k + 1), wR X 96 (fun j => if j < k + 1 then X.1 95 j else X.1 96 j)), ?_, rfl⟩
    have : upd (fun j => if j < k then X.1 95 j else X.1 96 j) k (X.1 95 k) = (fun j => if j < k + 1 then X.1 95 j else X.1 96 j) := by
      funext j
      show (if j = k then X.1 95 k else if j < k then X.1 95 j else X.1 96 j) = _
      by_cases h : j = k
      · rw [if_pos h, if_pos (by omega), h]
      · rw [if_neg h]
        by_cases g : j < k
        · rw [if_pos g, if_pos (by omega)]
        · rw [if_neg g, if_neg (by omega)]
    unfold b_Mo_image_94_2 jv_
    dsimp only
    rw [show (4700 : Int32) = nI 4700 from rfl, dlt_t hk (by omega), ite_tt, inb_t (by omega) (by omega), ite_tt, ite_tt, nI_cl (by omega), rRk (by omega), wI_wR, this, nI_one]) (by
    rintro s rfl
    refine ⟨_, ?_, rfl⟩
    unfold b_Mo_image_94_2
    dsimp only
    rw [show (4700 : Int32) = nI 4700 from rfl, dlt_f (Nat.le_refl _) (by omega), ite_ff])
  rw [h1, h2]
theorem e_MoUnd (X : Mem) : itr b_Mo_undo_94_12 FU (0, X) = some (wR X 95 (fun j => if j < 4700 then X.1 96 j else X.1 95 j)) := by
  obtain ⟨r, h1, h2⟩ := itr_cnt (body := b_Mo_undo_94_12) (s0 := (0, X)) (fun k s => s = (nI k, wR X 95 (fun j => if j < k then X.1 96 j else X.1 95 j))) (fun r => r = wR X 95 (fun j => if j < 4700 then X.1 96 j else X.1 95 j)) 4700 (by omega) (by
    have : (fun j => if j < 0 then X.1 96 j else X.1 95 j) = X.1 95 := by
      funext j
      exact if_neg (by omega)
    rw [this, wR_same]; rfl) (by
    rintro k s hk rfl
    left
    refine ⟨(nI (k + 1), wR X 95 (fun j => if j < k + 1 then X.1 96 j else X.1 95 j)), ?_, rfl⟩
    have : upd (fun j => if j < k then X.1 96 j else X.1 95 j) k (X.1 96 k) = (fun j => if j < k + 1 then X.1 96 j else X.1 95 j) := by
      funext j
      show (if j = k then X.1 96 k else if j < k then X.1 96 j else X.1 95 j) = _
      by_cases h : j = k
      · rw [if_pos h, if_pos (by omega), h]
      · rw [if_neg h]
        by_cases g : j < k
        · rw [if_pos g, if_pos (by omega)]
        · rw [if_neg g, if_neg (by omega)]
    unfold b_Mo_undo_94_12 jv_
    dsimp only
    rw [show (4700 : Int32) = nI 4700 from rfl, dlt_t hk (by omega), ite_tt, inb_t (by omega) (by omega), ite_tt, ite_tt, nI_cl (by omega), rRk (by omega), wI_wR, this, nI_one]) (by
    rintro s rfl
    refine ⟨_, ?_, rfl⟩
    unfold b_Mo_undo_94_12
    dsimp only
    rw [show (4700 : Int32) = nI 4700 from rfl, dlt_f (Nat.le_refl _) (by omega), ite_ff])
  rw [h1, h2]
theorem op_image : Op_image Rel := by
  intro n M hn H
  obtain ⟨H1, H2, H3, k, k1, k2, k3, k4, k5⟩ := H
  obtain ⟨M1, p1, p2, p3⟩ := e_State_take_39_1 M
  have e95 : M1.1 95 = M.1 95 := p2 95 (by omega)
  have e16 : M.1 1 6 = M.1 95 0 := H1.2.2.2.2.1
  refine ⟨M.1 1 6, wI M1 0 2 1, wI (wR (wI M1 0 2 1) 96 (fun j => if j < 4700 then M.1 95 j else M1.1 96 j)) 94 3 1, ?_, ?_, ?_⟩
  · unfold f_CF_image_0 jv_
    rw [p1, Option.bind_some]
    dsimp only
    rw [rdk (by omega), p2 1 (by omega)]
  · unfold f_Mo_image_94 jv_
    rw [e_MoImg, Option.bind_some]
    dsimp only
    rw [rdk (m := M1) (k := 0) (a := 95) (by omega), rdk (m := M1) (k := 0) (a := 96) (by omega), rdk (k := 94) (by omega), rRk (by omega), rdk (by omega), e95, e16]
  · have eC : ∀ a, (a ≠ 0 ∧ a ≠ 94 ∧ a ≠ 96 ∧ (a < 39 ∨ 76 < a)) → (wI (wR (wI M1 0 2 1) 96 (fun j => if j < 4700 then M.1 95 j else M1.1 96 j)) 94 3 1).1 a = M.1 a := fun a ha => by
      rw [rdk (by omega), rRk (by omega), rdk (by omega), p2 a (by omega)]
    have U := Cv_ag (M := M) (M' := wI (wR (wI M1 0 2 1) 96 (fun j => if j < 4700 then M.1 95 j else M1.1 96 j)) 94 3 1) (k := k) (by rw [eC 95 (by omega)]; exact ⟨⟨rfl, rfl, rfl⟩, fun _ _ _ => rfl, fun r hr => ⟨rfl, rfl, rfl, fun s hs => rfl, fun k hk => ⟨rfl, rfl, rfl⟩⟩, fun _ _ => rfl⟩) (Rel_Wm (by omega) H1) (by rw [eC 95 (by omega)]) (eC 108 (by omega)) (eC 109 (by omega)) (eC 110 (by omega)) (eC 111 (by omega)) k4 k5
    refine ⟨?_, ?_, Or.inr ⟨rde, ?_⟩, k, k1, by omega, ?_, U.1, U.2⟩
    · rw [eC 95 (by omega)]
      exact RS1_congr (fun a i ha => by rw [eC a (by omega)]) (RS1_mono H1 (Nat.le_succ n))
    · rw [rde, rdk (by omega), rRk (by omega), rde]
    · refine RS1_cp (C := M.1) (σ := M.1 95) (Kp_tr p3 (fun a ha1 ha2 => ?_)) (fun j hj => ?_) (RS1_mono H1 (Nat.le_succ n))
      · funext j
        show (wI (wR (wI M1 0 2 1) 96 _) 94 3 1).1 (a + 38) j = M1.1 (a + 38) j
        rw [rdk (by omega), rRk (by omega), rdk (by omega)]
      · rw [rdk (by omega), rRe]
        exact if_pos hj
    · rw [rdi (by omega), rRk (by omega), rdk (by omega), p2 94 (by omega)]; exact k3
theorem op_undo : Op_undo Rel := by
  intro n M hn H
  have H' := H
  obtain ⟨H1, H2, H3, k, k1, k2, k3, k4, k5⟩ := H
  rcases H3 with h3 | ⟨h3, h4⟩
  · refine ⟨-3, M, M, ?_, ?_, Rel_mono H' (by omega)⟩
    · unfold f_CF_undo_0
      rw [H2, h3]; rfl
    · unfold f_Mo_undo_94
      rw [h3]; rfl
  · obtain ⟨M1, p1, p2, p3⟩ := e_State_take_1_39 M
    have e16 : M1.1 1 6 = M.1 96 0 := p3.1.trans h4.2.2.2.2.1
    refine ⟨M.1 96 0, M1, wI (wR M1 95 (fun j => if j < 4700 then M1.1 96 j else M1.1 95 j)) 94 21 (nI (k + 1)), ?_, ?_, ?_⟩
    · unfold f_CF_undo_0
      rw [H2, h3, show isb 1 = true from rfl, ite_tt, if_pos (by decide), p1, Option.bind_some, e16]
    · unfold f_Mo_undo_94 jv_
      rw [p2 94 (by omega), h3, show isb 1 = true from rfl, ite_tt, if_pos (by decide), e_MoUnd, Option.bind_some]
      dsimp only
      rw [rdk (by omega), rRe, rRk (by omega), p2 94 (by omega), k3, nI_one, if_pos (by omega), p2 96 (by omega)]
    · have eC : ∀ a, (a ≠ 94 ∧ a ≠ 95 ∧ (a < 1 ∨ 38 < a)) → (wI (wR M1 95 (fun j => if j < 4700 then M1.1 96 j else M1.1 95 j)) 94 21 (nI (k + 1))).1 a = M.1 a := fun a ha => by
        rw [rdk (by omega), rRk (by omega), p2 a (by omega)]
      have R : RS1 (n + 1) (wI (wR M1 95 (fun j => if j < 4700 then M1.1 96 j else M1.1 95 j)) 94 21 (nI (k + 1))).1 ((wI (wR M1 95 (fun j => if j < 4700 then M1.1 96 j else M1.1 95 j)) 94 21 (nI (k + 1))).1 95) := by
        refine RS1_cp (Kp_tr p3 (fun a ha1 ha2 => ?_)) (fun j hj => ?_) (RS1_mono h4 (Nat.le_succ n))
        · rw [rdk (by omega), rRk (by omega)]
        · rw [rdk (by omega), rRe, if_pos hj, p2 96 (by omega)]
      refine Rel_new hn H' R (d := 1) (by omega) (by omega) ?_ ?_ (fun a ha => eC a (by omega))
      · rw [rde, k3, nI_addn]
      · rw [rdi (by omega), rRk (by omega), p2 94 (by omega)]
end O17
