theorem rdk {m : Mem} {k i : Nat} {v : Int32} {a : Nat} (h : a ≠ k) : (wI m k i v).1 a = m.1 a := wI_ne m i v h
theorem rdi {m : Mem} {k i : Nat} {v : Int32} {j : Nat} (h : j ≠ i) : (wI m k i v).1 k j = m.1 k j := by rw [rd_I, if_pos rfl, if_neg h]
theorem rde {m : Mem} {k i : Nat} {v : Int32} : (wI m k i v).1 k i = v := by rw [rd_I, if_pos rfl, if_pos rfl]
theorem rRk {m : Mem} {k : Nat} {f : Nat → Int32} {a : Nat} (h : a ≠ k) : (wR m k f).1 a = m.1 a := wR_ne m f h
theorem rRe {m : Mem} {k : Nat} {f : Nat → Int32} : (wR m k f).1 k = f := wR_at m k f
def gLand (M : Mem) (o h g fc ld : Nat) (σ : Nat → Int32) : Prop := M.1 o 4 = σ 1 ∧ M.1 o 5 = σ 9 ∧ (∀ c, c < 48 → M.1 h c = σ (20 + c)) ∧ (∀ c, c < 48 → M.1 g c = σ (68 + c)) ∧ (∀ f, f < 10 → M.1 fc f = σ (164 + f)) ∧ (∀ f, f < 10 → M.1 ld f = σ (174 + f))
def gBook (M : Mem) (o fa wh mo ne sk : Nat) (σ : Nat → Int32) : Prop := M.1 o 5 = σ 2 ∧ ∀ e, e < (σ 2).toNatClampNeg → M.1 wh e = σ (190 + e) ∧ (σ (190 + e) ≠ 5 → M.1 fa e = σ (310 + e) ∧ M.1 mo e = σ (430 + e)) ∧ (σ (190 + e) = 1 → M.1 ne e = σ (550 + e)) ∧ M.1 sk e = (if σ (670 + e) = 999 then 0 else σ (670 + e))
def gTape (M : Mem) (o tp : Nat) (σ : Nat → Int32) : Prop := M.1 o 1 = σ 4 ∧ ∀ j, j < 120 → M.1 tp j = σ (2140 + j)
/-- told: an order of the line's cells in which what one hangs on comes first -/
def Tree (σ τ : Nat → Int32) : Prop := (∀ i, i < (σ 5).toNatClampNeg → inb (τ i) 48 = true ∧ τ i ≠ σ 9 ∧ (σ (116 + (τ i).toNatClampNeg) = σ 9 ∨ ∃ j, j < i ∧ σ (116 + (τ i).toNatClampNeg) = τ j)) ∧ (∀ i j, i < (σ 5).toNatClampNeg → j < (σ 5).toNatClampNeg → τ i = τ j → i = j) ∧ ∀ c, c < 48 → (σ (116 + c) ≠ -1 ↔ ∃ i, i < (σ 5).toNatClampNeg ∧ τ i = nI c)
def gLine (M : Mem) (o up td : Nat) (σ : Nat → Int32) : Prop := M.1 o 2 = σ 5 ∧ M.1 o 3 = σ 7 ∧ M.1 o 4 = σ 8 ∧ (∀ c, c < 48 → M.1 up c = σ (116 + c)) ∧ Tree σ (M.1 td)
def gBrk (M : Mem) (o ce ho : Nat) (σ : Nat → Int32) : Prop := M.1 o 2 = σ 6 ∧ ∀ i, i < 6 → M.1 ce i = σ (2260 + i) ∧ M.1 ho i = σ (2270 + i)
def gCoin (M : Mem) (o rd pd : Nat) (σ : Nat → Int32) : Prop := (∀ k, k < 1210 → M.1 rd k = (if σ (2280 + k) = -1 then -5 else σ (2280 + k))) ∧ (∀ k, k < 1210 → M.1 pd k = σ (3490 + k)) ∧ (σ 10 = 0 → M.1 o 3 = 0 ∧ M.1 o 5 = 0) ∧ (σ 10 = 1 → M.1 o 2 = σ 11 ∧ M.1 o 3 = σ 12 ∧ M.1 o 4 = σ 13 ∧ M.1 o 5 = σ 14 ∧ M.1 o 6 = σ 15)
/-- the row's bounds -/
def WF (σ : Nat → Int32) : Prop := inb (σ 0) 121 = true ∧ inb (σ 1) 11 = true ∧ inb (σ 2) 121 = true ∧ inb (σ 3) 9 = true ∧ inb (σ 4) 121 = true ∧ inb (σ 5) 48 = true ∧ inb (σ 6) 7 = true ∧ (inb (σ 7) 6 = true ∧ σ 7 ≠ 0) ∧ (inb (σ 8) 10 = true ∧ σ 8 ≠ 0) ∧ inb (σ 9) 48 = true ∧
  (σ 10 = 0 ∨ (σ 10 = 1 ∧ inb (σ 11) 100000 = true ∧ inb (σ 12) 121 = true ∧ inb (σ 13) 21 = true ∧ (inb (σ 14) 61 = true ∧ σ 14 ≠ 0) ∧ inb (σ 15) 100000 = true)) ∧
  (∀ c, c < 48 → inb (σ (20 + c)) 10 = true ∧ inb (σ (68 + c)) 4 = true) ∧ (∀ c, c < 48 → σ (116 + c) = -1 ∨ inb (σ (116 + c)) 48 = true) ∧
  (∀ f, f < (σ 1).toNatClampNeg → inb (σ (164 + f)) 48 = true ∧ inb (σ (174 + f)) 51 = true ∧ σ (174 + f) ≠ 0) ∧
  (∀ e, e < (σ 2).toNatClampNeg → inb (σ (190 + e)) 6 = true ∧ (σ (190 + e) ≠ 5 → inb (σ (310 + e)) (σ 1).toNatClampNeg = true ∧ inb (σ (430 + e)) 121 = true) ∧ (σ (190 + e) = 1 → inb (σ (550 + e)) 11 = true ∧ σ (550 + e) ≠ 0) ∧ (σ (670 + e) = 999 ∨ (inb (σ (670 + e)) (σ 2).toNatClampNeg = true ∧ σ (670 + e) ≠ 0))) ∧
  (∀ j, j < 120 → inb (σ (2140 + j)) 256 = true) ∧ (∀ i, i < (σ 6).toNatClampNeg → inb (σ (2260 + i)) 48 = true ∧ inb (σ (2270 + i)) 21 = true ∧ σ (2270 + i) ≠ 0 ∧ σ (116 + (σ (2260 + i)).toNatClampNeg) ≠ -1) ∧
  (∀ k, k < 1210 → σ (2280 + k) = -1 ∨ inb (σ (2280 + k)) 10000 = true)
theorem gLand_go {M M' : Mem} {o h g fc ld : Nat} {σ τ : Nat → Int32} (H : gLand M o h g fc ld σ) (a1 : M'.1 o 4 = M.1 o 4) (a2 : M'.1 o 5 = M.1 o 5) (a3 : M'.1 h = M.1 h) (a4 : M'.1 g = M.1 g) (a5 : M'.1 fc = M.1 fc) (a6 : M'.1 ld = M.1 ld) (b1 : τ 1 = σ 1) (b2 : τ 9 = σ 9) (b3 : ∀ j, 20 ≤ j → j < 116 → τ j = σ j) (b4 : ∀ j, 164 ≤ j → j < 184 → τ j = σ j) : gLand M' o h g fc ld τ := by
  obtain ⟨h1, h2, h3, h4, h5, h6⟩ := H
  refine ⟨by rw [a1, b1, h1], by rw [a2, b2, h2], fun c hc => ?_, fun c hc => ?_, fun f hf => ?_, fun f hf => ?_⟩
  · rw [a3, b3 _ (by omega) (by omega)]; exact h3 c hc
  · rw [a4, b3 _ (by omega) (by omega)]; exact h4 c hc
  · rw [a5, b4 _ (by omega) (by omega)]; exact h5 f hf
  · rw [a6, b4 _ (by omega) (by omega)]; exact h6 f hf
theorem try_month {M : Mem} {a : Int32} (H : gLand M 2 3 4 5 6 (M.1 95)) : gLand (wI (wI M 1 6 a) 95 0 a) 2 3 4 5 6 ((wI (wI M 1 6 a) 95 0 a).1 95) := by
  refine gLand_go H ?_ ?_ ?_ ?_ ?_ ?_ ?_ ?_ ?_ ?_ <;> (first | (simp (disch := omega) only [rdk, rdi]; done) | (intro j h1 h2; simp (disch := omega) only [rdk, rdi]))
