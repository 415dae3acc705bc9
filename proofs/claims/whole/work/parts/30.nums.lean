theorem nI_of_inb {x : Int32} {n : Nat} (h : inb x n = true) : x = nI x.toNatClampNeg ∧ x.toNatClampNeg < n := by
  have h1 := inb_iff.mp h
  have h2 := Int32.toInt_lt x
  refine ⟨Int32.toInt_inj.mp ?_, by rw [i_cl]; omega⟩
  rw [nI_toI (by rw [i_cl]; omega), i_cl]; omega
theorem nI_inj {a b : Nat} (ha : a < 2147483648) (hb : b < 2147483648) : nI a = nI b ↔ a = b := by
  constructor
  · intro h
    have h1 : (nI a).toInt = (nI b).toInt := by rw [h]
    rw [nI_toI ha, nI_toI hb] at h1
    omega
  · intro h; rw [h]
theorem nI_addn (a b : Nat) : nI a + nI b = nI (a + b) := by unfold nI; rw [Int32.ofNat_add]
theorem nI_muln (a b : Nat) : nI a * nI b = nI (a * b) := by unfold nI; rw [Int32.ofNat_mul]
theorem nI_subn {a b : Nat} (h : b ≤ a) (ha : a < 2147483648) : nI a - nI b = nI (a - b) := by
  apply Int32.toInt_inj.mp
  rw [Int32.toInt_sub, nI_toI ha, nI_toI (by omega), nI_toI (by omega)]
  rw [show ((a : Int) - (b : Int)) = ((a - b : Nat) : Int) by omega]
  exact Int.bmod_eq_of_le (by omega) (by omega)
theorem d_lt {a b : Nat} (ha : a < 2147483648) (hb : b < 2147483648) : decide (nI a < nI b) = decide (a < b) := by
  rw [Bool.eq_iff_iff, decide_eq_true_eq, decide_eq_true_eq, nI_lt_iff ha hb]
theorem d_le {a b : Nat} (ha : a < 2147483648) (hb : b < 2147483648) : decide (nI a ≤ nI b) = decide (a ≤ b) := by
  rw [Bool.eq_iff_iff, decide_eq_true_eq, decide_eq_true_eq, nI_le_iff ha hb]
theorem d_eq {a b : Nat} (ha : a < 2147483648) (hb : b < 2147483648) : decide (nI a = nI b) = decide (a = b) := by
  rw [Bool.eq_iff_iff, decide_eq_true_eq, decide_eq_true_eq, nI_inj ha hb]
theorem atv_nI {f : Nat → Int32} {n i : Nat} (h : i < n) (hi : i < 2147483648) : atv f n (nI i) = f i := by
  unfold atv
  rw [inb_nI hi, decide_eq_true h, if_pos rfl, nI_cl hi]
theorem putv_nI {m : Mem} {k n i : Nat} {v : Int32} (h : i < n) (hi : i < 2147483648) : putv m k n (nI i) v = wI m k i v := by
  unfold putv
  rw [inb_nI hi, decide_eq_true h, if_pos rfl, nI_cl hi]
theorem wthn_iff {x a b : Int32} : wthn x a b = true ↔ a.toInt ≤ x.toInt ∧ x.toInt ≤ b.toInt := by
  unfold wthn
  rw [Bool.and_eq_true, decide_eq_true_eq, decide_eq_true_eq, i_le, i_le]
theorem inb_wthn {x : Int32} {n : Nat} (hn : n < 2147483648) : wthn x 0 (nI n) = inb x (n + 1) := by
  rw [Bool.eq_iff_iff, wthn_iff, inb_iff, i_0, nI_toI hn]; omega
theorem rd_I (m : Mem) (k i : Nat) (v : Int32) (a j : Nat) : (wI m k i v).1 a j = if a = k then (if j = i then v else m.1 a j) else m.1 a j := by
  by_cases h : a = k
  · subst h
    rw [if_pos rfl, wI_at]; rfl
  · rw [if_neg h, wI_ne m i v h]
theorem rd_R (m : Mem) (k : Nat) (f : Nat → Int32) (a j : Nat) : (wR m k f).1 a j = if a = k then f j else m.1 a j := by
  by_cases h : a = k
  · subst h
    rw [if_pos rfl, wR_at]
  · rw [if_neg h, wR_ne m f h]
/-- the model's small tests are the class's -/
theorem e_Mo_in (a b c : Int32) : f_Mo_in a b c = some (wthn a b c) := by
  unfold f_Mo_in wthn
  by_cases h1 : a < b
  · have h3 : ¬ b ≤ a := Int32.not_le.mpr h1
    simp [h1, h3]
  · have h3 : b ≤ a := Int32.not_lt.mp h1
    by_cases h2 : a ≤ c <;> simp [h1, h2, h3]
theorem e_Mo_isCell (a : Int32) : f_Mo_isCell a = some (wthn a 0 47) := by
  unfold f_Mo_isCell
  rw [e_Mo_in]; rfl
theorem rdk {m : Mem} {k i : Nat} {v : Int32} {a : Nat} (h : a ≠ k) : (wI m k i v).1 a = m.1 a := wI_ne m i v h
theorem rdi {m : Mem} {k i : Nat} {v : Int32} {j : Nat} (h : j ≠ i) : (wI m k i v).1 k j = m.1 k j := by rw [rd_I, if_pos rfl, if_neg h]
theorem rde {m : Mem} {k i : Nat} {v : Int32} : (wI m k i v).1 k i = v := by rw [rd_I, if_pos rfl, if_pos rfl]
theorem rRk {m : Mem} {k : Nat} {f : Nat → Int32} {a : Nat} (h : a ≠ k) : (wR m k f).1 a = m.1 a := wR_ne m f h
theorem rRe {m : Mem} {k : Nat} {f : Nat → Int32} : (wR m k f).1 k = f := wR_at m k f
