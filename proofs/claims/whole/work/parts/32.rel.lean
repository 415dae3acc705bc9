theorem itr_cnt_go {S E : Type} {body : S → Option (S ⊕ E)} (I : Nat → S → Prop) (P : E → Prop) (N : Nat) (step : ∀ k s, k < N → I k s → (∃ s', body s = some (.inl s') ∧ I (k + 1) s') ∨ (∃ e, body s = some (.inr e) ∧ P e)) (last : ∀ s, I N s → ∃ e, body s = some (.inr e) ∧ P e) : ∀ (d k n : Nat) (s : S), k + d = N → d < n → I k s → ∃ e, itr body n s = some e ∧ P e
  | d, k, 0, s, _, h, _ => by omega
  | 0, k, n + 1, s, h1, _, hI => by
    rw [Nat.add_zero] at h1
    subst h1
    obtain ⟨e, h3, h4⟩ := last s hI
    exact ⟨e, by show (body s).bind _ = _; rw [h3]; rfl, h4⟩
  | d + 1, k, n + 1, s, h1, h2, hI => by
    rcases step k s (by omega) hI with ⟨s', h3, h4⟩ | ⟨e, h3, h4⟩
    · obtain ⟨e, h5, h6⟩ := itr_cnt_go I P N step last d (k + 1) n s' (by omega) (by omega) h4
      exact ⟨e, by show (body s).bind _ = _; rw [h3]; exact h5, h6⟩
    · exact ⟨e, by show (body s).bind _ = _; rw [h3]; rfl, h4⟩
/-- a loop that counts from 0 to N, by an invariant; it may end earlier -/
theorem itr_cnt {S E : Type} {body : S → Option (S ⊕ E)} (I : Nat → S → Prop) (P : E → Prop) (N : Nat) (hN : N < 1000000000) {s0 : S} (h0 : I 0 s0) (step : ∀ k s, k < N → I k s → (∃ s', body s = some (.inl s') ∧ I (k + 1) s') ∨ (∃ e, body s = some (.inr e) ∧ P e)) (last : ∀ s, I N s → ∃ e, body s = some (.inr e) ∧ P e) : ∃ e, itr body FU s0 = some e ∧ P e :=
  itr_cnt_go I P N step last N 0 FU s0 (by omega) (by unfold FU; omega) h0
theorem itr_inv' {S E : Type} {body : S → Option (S ⊕ E)} (I : S → Prop) (μ : S → Nat) (P : E → Prop) (step : ∀ s, I s → (∃ s', body s = some (.inl s') ∧ I s' ∧ μ s' < μ s) ∨ (∃ e, body s = some (.inr e) ∧ P e)) {s : S} (h0 : I s) (h1 : μ s < 1000000000) : ∃ e, itr body FU s = some e ∧ P e :=
  itr_inv I μ P step FU s h0 (by unfold FU; omega)
theorem ite_tt {α : Sort _} {a b : α} : (if true = true then a else b) = a := if_pos rfl
theorem ite_ff {α : Sort _} {a b : α} : (if false = true then a else b) = b := if_neg (by decide)
theorem inb_t {a n : Nat} (h : a < n) (ha : a < 2147483648) : inb (nI a) n = true := by rw [inb_nI ha]; exact decide_eq_true h
theorem dlt_t {a b : Nat} (h : a < b) (hb : b < 2147483648) : decide (nI a < nI b) = true := by rw [d_lt (by omega) hb]; exact decide_eq_true h
theorem dlt_f {a b : Nat} (h : b ≤ a) (ha : a < 2147483648) : decide (nI a < nI b) = false := by rw [d_lt ha (by omega)]; exact decide_eq_false (by omega)
theorem dle_t {a b : Nat} (h : a ≤ b) (hb : b < 2147483648) : decide (nI a ≤ nI b) = true := by rw [d_le (by omega) hb]; exact decide_eq_true h
theorem dle_f {a b : Nat} (h : b < a) (ha : a < 2147483648) : decide (nI a ≤ nI b) = false := by rw [d_le ha (by omega)]; exact decide_eq_false (by omega)
theorem m1_toI : (-1 : Int32).toInt = -1 := by decide
theorem nI_ne_m1 {a : Nat} (h : a < 2147483648) : nI a ≠ -1 := fun e => by
  have := congrArg Int32.toInt e
  rw [nI_toI h, m1_toI] at this; omega
theorem nI_eqm1 {a : Nat} (h : a < 2147483648) : decide (nI a = -1) = false := decide_eq_false (nI_ne_m1 h)
theorem nI_nneg {a : Nat} (h : a < 2147483648) : decide (nI a < 0) = false := decide_eq_false (by rw [i_lt, i_0, nI_toI h]; omega)
theorem nI_ge0 {a : Nat} (h : a < 2147483648) : decide (0 ≤ nI a) = true := decide_eq_true (by rw [i_le, i_0, nI_toI h]; omega)
theorem m1_neg : decide ((-1 : Int32) < 0) = true := by decide
theorem nI_one (a : Nat) : nI a + 1 = nI (a + 1) := (nI_succ a).symm
def nt (σ : Nat → Int32) (j : Nat) : Nat := (σ j).toNatClampNeg
theorem nt_inb {σ : Nat → Int32} {j b : Nat} (h : inb (σ j) b = true) : σ j = nI (nt σ j) ∧ nt σ j < b := nI_of_inb h
/-- class's groups against a row -/
def Rbook (C : Nat → Nat → Int32) (σ : Nat → Int32) : Prop := C 7 5 = σ 2 ∧ ∀ e, e < nt σ 2 → C 9 e = σ (190 + e) ∧ (σ (190 + e) ≠ 5 → C 8 e = σ (310 + e) ∧ C 10 e = σ (430 + e)) ∧ C 11 e = σ (550 + e) ∧ C 12 e = (if σ (670 + e) = 999 then 0 else σ (670 + e))
def Rland (C : Nat → Nat → Int32) (σ : Nat → Int32) : Prop := C 2 4 = σ 1 ∧ C 2 5 = σ 9 ∧ (∀ c, c < 48 → C 3 c = σ (20 + c) ∧ C 4 c = σ (68 + c)) ∧ ∀ f, f < 10 → C 5 f = σ (164 + f) ∧ C 6 f = σ (174 + f)
def Rtape (C : Nat → Nat → Int32) (σ : Nat → Int32) : Prop := C 14 1 = σ 4 ∧ ∀ j, j < 120 → C 15 j = σ (2140 + j)
/-- told: an order of the line's cells in which what one hangs on comes first -/
def Tree (σ τ : Nat → Int32) : Prop := (∀ i, i < nt σ 5 → ∃ c, c < 48 ∧ τ i = nI c ∧ nI c ≠ σ 9 ∧ (σ (116 + c) = σ 9 ∨ ∃ j, j < i ∧ σ (116 + c) = τ j)) ∧ (∀ i j, i < nt σ 5 → j < nt σ 5 → τ i = τ j → i = j) ∧ ∀ c, c < 48 → (σ (116 + c) ≠ -1 ↔ ∃ i, i < nt σ 5 ∧ τ i = nI c)
def Rline (C : Nat → Nat → Int32) (σ : Nat → Int32) : Prop := C 24 2 = σ 5 ∧ C 24 3 = σ 7 ∧ C 24 4 = σ 8 ∧ (∀ c, c < 48 → C 25 c = σ (116 + c)) ∧ Tree σ (C 26)
def Rbrk (C : Nat → Nat → Int32) (σ : Nat → Int32) : Prop := C 29 2 = σ 6 ∧ ∀ i, i < 6 → C 30 i = σ (2260 + i) ∧ C 31 i = σ (2270 + i)
def Rcoin (C : Nat → Nat → Int32) (σ : Nat → Int32) : Prop := (∀ k, k < 1210 → C 37 k = (if σ (2280 + k) = -1 then -5 else σ (2280 + k)) ∧ C 38 k = σ (3490 + k)) ∧ (σ 10 = 0 → C 36 3 = 0 ∧ C 36 5 = 0) ∧ (σ 10 = 1 → C 36 2 = σ 11 ∧ C 36 3 = σ 12 ∧ C 36 4 = σ 13 ∧ C 36 5 = σ 14 ∧ C 36 6 = σ 15)
/-- the row's bounds -/
def wNum (σ : Nat → Int32) : Prop := inb (σ 0) 121 = true ∧ inb (σ 1) 11 = true ∧ inb (σ 2) 121 = true ∧ inb (σ 3) 10 = true ∧ inb (σ 4) 121 = true ∧ inb (σ 5) 48 = true ∧ inb (σ 6) 7 = true ∧ (inb (σ 7) 6 = true ∧ σ 7 ≠ 0) ∧ inb (σ 8) 10 = true ∧ inb (σ 9) 48 = true
def wBook (σ : Nat → Int32) : Prop := ∀ e, e < nt σ 2 → inb (σ (190 + e)) 6 = true ∧ (σ (190 + e) ≠ 5 → inb (σ (310 + e)) (nt σ 1) = true ∧ inb (σ (430 + e)) 121 = true) ∧ (σ (190 + e) = 1 → inb (σ (550 + e)) 11 = true ∧ σ (550 + e) ≠ 0) ∧ (σ (670 + e) = 999 ∨ (inb (σ (670 + e)) (nt σ 2) = true ∧ σ (670 + e) ≠ 0))
def wLand (σ : Nat → Int32) : Prop := (∀ c, c < 48 → inb (σ (20 + c)) 10 = true ∧ inb (σ (68 + c)) 4 = true) ∧ (∀ f, f < nt σ 1 → inb (σ (164 + f)) 48 = true ∧ inb (σ (174 + f)) 51 = true ∧ σ (174 + f) ≠ 0) ∧ ∀ c, c < 48 → σ (116 + c) = -1 ∨ inb (σ (116 + c)) 48 = true
def wTape (σ : Nat → Int32) : Prop := ∀ j, j < 120 → inb (σ (2140 + j)) 256 = true
def wBrk (σ : Nat → Int32) : Prop := (∀ i, i < nt σ 6 → inb (σ (2260 + i)) 48 = true ∧ inb (σ (2270 + i)) 21 = true ∧ σ (2270 + i) ≠ 0 ∧ σ (116 + nt σ (2260 + i)) ≠ -1) ∧ ∀ i j, i < nt σ 6 → j < nt σ 6 → σ (2260 + i) = σ (2260 + j) → i = j
def wCoin (n : Nat) (σ : Nat → Int32) : Prop := (∀ k, k < 1210 → (σ (2280 + k) = -1 ∨ inb (σ (2280 + k)) 10000 = true) ∧ inb (σ (3490 + k)) (1 + 10000 * n) = true) ∧ (σ 10 = 0 ∨ (σ 10 = 1 ∧ inb (σ 11) 100000 = true ∧ inb (σ 12) 121 = true ∧ inb (σ 13) 21 = true ∧ (inb (σ 14) 61 = true ∧ σ 14 ≠ 0) ∧ inb (σ 15) 100000 = true)) ∧ ∀ f m, nt σ 1 ≤ f → f < 10 → m < 121 → σ (3490 + (121 * f + m)) = 0
