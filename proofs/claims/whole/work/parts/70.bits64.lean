def btL (x : Int64) (i : Nat) : Bool := x.toBitVec.getLsbD i
theorem bL_or (x y : Int64) (i : Nat) : btL (x ||| y) i = (btL x i || btL y i) := by unfold btL; rw [Int64.toBitVec_or, BitVec.getLsbD_or]
theorem bL_and (x y : Int64) (i : Nat) : btL (x &&& y) i = (btL x i && btL y i) := by unfold btL; rw [Int64.toBitVec_and, BitVec.getLsbD_and]
theorem bL_xor (x y : Int64) (i : Nat) : btL (x ^^^ y) i = (btL x i ^^ btL y i) := by unfold btL; rw [Int64.toBitVec_xor, BitVec.getLsbD_xor]
theorem bL_0 (i : Nat) : btL 0 i = false := BitVec.getLsbD_zero
theorem bL_ext {x y : Int64} (h : ∀ i, i < 64 → btL x i = btL y i) : x = y := Int64.toBitVec_inj.mp (BitVec.eq_of_getLsbD_eq (fun i hi => h i hi))
theorem sL_l : ∀ n, n < 64 → (((nI n).toInt64 &&& 63).toBitVec.smod 64).toNat = n := by decide +kernel
theorem bL_1 : ∀ i, i < 64 → btL 1 i = decide (i = 0) := by decide +kernel
theorem bL_one (k : Nat) (hk : k < 64) {i : Nat} (hi : i < 64) : btL ((1 : Int64) <<< ((nI k).toInt64 &&& 63)) i = decide (i = k) := by
  unfold btL
  rw [Int64.toBitVec_shiftLeft]
  show ((1 : Int64).toBitVec <<< (((nI k).toInt64 &&& 63).toBitVec.smod 64).toNat).getLsbD i = _
  rw [sL_l k hk, BitVec.getLsbD_shiftLeft]
  have h1 := fun h => bL_1 (i - k) h
  unfold btL at h1
  rw [h1 (by omega), Bool.eq_iff_iff]
  simp only [Bool.and_eq_true, decide_eq_true_eq, Bool.not_eq_true', decide_eq_false_iff_not]
  omega
theorem bL_shr (x : Int64) {k : Nat} (hk : k < 64) : btL (x >>> ((nI k).toInt64 &&& 63)) 0 = btL x k := by
  unfold btL
  rw [Int64.toBitVec_shiftRight]
  show (x.toBitVec.sshiftRight (((nI k).toInt64 &&& 63).toBitVec.smod 64).toNat).getLsbD 0 = _
  rw [sL_l k hk, BitVec.getLsbD_sshiftRight]
  simp [hk]
theorem bL_and1 (x : Int64) : x &&& 1 = if btL x 0 then 1 else 0 := by
  apply bL_ext
  intro i hi
  rw [bL_and, bL_1 i hi]
  by_cases h : i = 0
  · subst h
    cases btL x 0 <;> rfl
  · rw [decide_eq_false h, Bool.and_false]
    cases btL x 0
    · exact (bL_0 i).symm
    · rw [if_pos rfl, bL_1 i hi, decide_eq_false h]
theorem bL_bit (x : Int64) {k : Nat} (hk : k < 64) : decide (lg_cmp ((x >>> ((nI k).toInt64 &&& 63)) &&& 1) 1 = 0) = btL x k := by
  rw [bL_and1, bL_shr x hk]
  cases btL x k <;> decide
section LB
variable {M : Mem} {σ : Nat → Int32}
/-- farms in cells of a mask -/
theorem e_farmsOn (R : Rland M.1 σ) (n1 : inb (σ 1) 11 = true) (W : wLand σ) (x : Int64) : f_Land_farmsOn_2 x M = some (msk (fun f => decide (f < nt σ 1) && btL x (cel σ f)) 10) := by
  obtain ⟨e1, l1⟩ := nt_inb n1
  have e3 : msk (fun f => decide (f < nt σ 1) && btL x (cel σ f)) 10 = msk (fun f => decide (f < nt σ 1) && btL x (cel σ f)) (nt σ 1) := by
    have := msk_more (p := fun f => decide (f < nt σ 1) && btL x (cel σ f)) (n := nt σ 1) (10 - nt σ 1) (fun i h1 h2 => by rw [decide_eq_false (by omega)]; rfl)
    rw [show nt σ 1 + (10 - nt σ 1) = 10 by omega] at this
    exact this
  unfold f_Land_farmsOn_2
  have key := itr_for' (body := b_Land_farmsOn_2_5 x M) (fun k => (msk (fun f => decide (f < nt σ 1) && btL x (cel σ f)) k, nI k)) (nt σ 1) (by omega) (e := msk (fun f => decide (f < nt σ 1) && btL x (cel σ f)) (nt σ 1)) (fun k hk => by
    unfold b_Land_farmsOn_2_5 f_Land_cellOf_2
    dsimp only
    obtain ⟨ec, lc⟩ := nI_of_inb (W.2.1 k hk).1
    have hcell : M.1 5 k = nI (cel σ k) := (R.2.2.2 k (by omega)).1.trans ec
    have lc : cel σ k < 48 := lc
    rw [R.1, e1, dlt_t hk (by omega), ite_tt, atv_nI (by omega) (by omega), hcell, Option.bind_some, bL_bit x (by omega), msk_s (k := k), decide_eq_true hk, Bool.true_and, nI_one]
    cases btL x (cel σ k) <;> rfl) (by
    unfold b_Land_farmsOn_2_5
    dsimp only
    rw [R.1, e1, dlt_f (Nat.le_refl _) (by omega), ite_ff])
  show (itr _ FU (msk (fun f => decide (f < nt σ 1) && btL x (cel σ f)) 0, nI 0)).bind _ = _
  rw [key, e3]; rfl
/-- the line's cells as a mask -/
theorem e_cells (R : Rline M.1 σ) (h9 : inb (σ 9) 48 = true) (h5 : inb (σ 5) 48 = true) : ∃ x, f_Line_cells_24 (σ 9) M = some x ∧ ∀ c, c < 48 → btL x c = onL σ c := by
  obtain ⟨r2, r3, r4, r5, T⟩ := R
  obtain ⟨e5, l5⟩ := nt_inb h5
  obtain ⟨e9, l9⟩ := nt_inb h9
  obtain ⟨x, k1, k2⟩ := itr_cnt (body := b_Line_cells_24_7 M) (s0 := ((1 : Int64) <<< ((σ 9).toInt64 &&& 63), 0)) (fun k s => s.2 = nI k ∧ ∀ c, c < 48 → (btL s.1 c = true ↔ nI c = σ 9 ∨ ∃ i, i < k ∧ M.1 26 i = nI c)) (fun x => ∀ c, c < 48 → (btL x c = true ↔ nI c = σ 9 ∨ ∃ i, i < nt σ 5 ∧ M.1 26 i = nI c)) (nt σ 5) (by omega) ⟨rfl, fun c hc => by
      dsimp only
      rw [e9, bL_one _ (by omega) (by omega), decide_eq_true_eq, nI_inj (by omega) (by omega)]
      constructor
      · intro h; exact .inl h
      · rintro (h | ⟨i, hi, -⟩)
        · exact h
        · omega⟩ (by
    rintro k ⟨y, i⟩ hk ⟨rfl, hy⟩
    left
    dsimp only at hy
    obtain ⟨c', c1, c2, -⟩ := T.1 k hk
    refine ⟨(y ||| (1 : Int64) <<< ((nI c').toInt64 &&& 63), nI (k + 1)), ?_, rfl, fun c hc => ?_⟩
    · unfold b_Line_cells_24_7
      dsimp only
      rw [r2, e5, dlt_t hk (by omega), ite_tt, atv_nI (by omega) (by omega), c2, nI_one]
    · dsimp only
      rw [bL_or, bL_one _ (by omega) (by omega), Bool.or_eq_true, hy c hc, decide_eq_true_eq]
      constructor
      · rintro ((h | ⟨i, h1, h2⟩) | h)
        · exact .inl h
        · exact .inr ⟨i, by omega, h2⟩
        · exact .inr ⟨k, by omega, by rw [c2, h]⟩
      · rintro (h | ⟨i, h1, h2⟩)
        · exact .inl (.inl h)
        · by_cases d : i = k
          · subst d
            rw [c2] at h2
            exact .inr ((nI_inj (by omega) (by omega)).mp h2).symm
          · exact .inl (.inr ⟨i, by omega, h2⟩)) (by
    rintro ⟨y, i⟩ ⟨rfl, hy⟩
    refine ⟨y, ?_, hy⟩
    unfold b_Line_cells_24_7
    dsimp only
    rw [r2, e5, dlt_f (Nat.le_refl _) (by omega), ite_ff])
  refine ⟨x, ?_, fun c hc => ?_⟩
  · unfold f_Line_cells_24
    rw [k1]; rfl
  · rw [Bool.eq_iff_iff, k2 c hc]
    unfold onL
    rw [Bool.or_eq_true, decide_eq_true_eq, Bool.not_eq_true', decide_eq_false_iff_not]
    constructor
    · rintro (h | h)
      · exact .inl h
      · exact .inr ((T.2.2 c hc).mpr h)
    · rintro (h | h)
      · exact .inl h
      · exact .inr ((T.2.2 c hc).mp h)
/-- farms on the line -/
def onF (σ : Nat → Int32) (f : Nat) : Bool := decide (f < nt σ 1) && onL σ (cel σ f)
theorem e_farmsOnLine (R : Rc0 M.1 σ) (W : Wm σ) : f_CF_farmsOnLine_0 M = some (msk (onF σ) 10) := by
  obtain ⟨x, h1, h2⟩ := e_cells R.2.2.1 W.1.2.2.2.2.2.2.2.2.2 W.1.2.2.2.2.2.1
  unfold f_CF_farmsOnLine_0
  rw [R.2.1.2.1, h1, Option.bind_some, e_farmsOn R.2.1 W.1.2.1 W.2.2.1, Option.bind_some]
  congr 1
  apply msk_congr
  intro f hf
  unfold onF
  by_cases c : f < nt σ 1
  · rw [h2 (cel σ f) (nI_of_inb (W.2.2.1.2.1 f c).1).2]
  · rw [decide_eq_false c]; rfl
end LB
