/-- a rule's clause: fault, or where it ends, word, place of its sum, its codes, and those behind unless with their place -/
def pUnl (ch : Nat → Int32) (s : Nat) : Nat ⊕ (Nat × Option (Nat × List Int32)) :=
  if ch s = 32 then Sum.elim (fun e => .inl e) (fun s2 => Sum.elim (fun e => .inl e) (fun q => .inr (q.1, some (s2, q.2))) (PC ch 500 0 s2)) (lit ch (sr_byt.getD 13 []) s)
  else .inr (s, none)
def pHead (ch : Nat → Int32) (s : Nat) : Nat ⊕ Nat :=
  if wdOf (ch s) < 6 then Sum.elim (fun e => .inl e) (fun s1 => lit ch [61] s1) (lit ch (sr_byt.getD (wdOf (ch s)) []) s) else .inl s
def pCl (ch : Nat → Int32) (s : Nat) : Nat ⊕ (Nat × Nat × List Int32 × Option (Nat × List Int32)) :=
  Sum.elim (fun e => .inl e) (fun s1 => Sum.elim (fun e => .inl e) (fun q => Sum.elim (fun e => .inl e) (fun r => .inr (r.1, s1, q.2, r.2)) (pUnl ch q.1)) (PC ch 500 0 s1)) (pHead ch s)
/-- class's row of a clause -/
def Rcl (M : Mem) (k b : Nat) (w : Nat) (c : List Int32) (u : Option (Nat × List Int32)) : Prop :=
  M.1 19 k = nI w ∧ ∃ fr, b ≤ fr ∧ M.1 20 k = nI fr ∧ M.1 21 k = nI (fr + c.length) ∧ fr + c.length ≤ b + 120 ∧ (∀ i, i < c.length → M.1 16 (fr + i) = c.getD i 0) ∧ match u with
    | none => M.1 22 k = nI (fr + c.length)
    | some (_, c2) => M.1 22 k = nI (fr + c.length + c2.length) ∧ fr + c.length + c2.length ≤ b + 120 ∧ ∀ i, i < c2.length → M.1 16 (fr + c.length + i) = c2.getD i 0
def sCl (b k a i : Nat) : Bool := a == 77 || (a == 78 || ((a == 16 && decide (b ≤ i)) || ((a == 19 || (a == 20 || (a == 21 || a == 22))) && i == k)))
theorem sRd_sCl (b k : Nat) : ∀ a i, sRd b a i = true → sCl b k a i = true := by
  intro a i h
  unfold sRd at h
  unfold sCl
  simp only [Bool.or_eq_true, Bool.and_eq_true, beq_iff_eq, decide_eq_true_eq] at h ⊢
  omega
section CLA
variable {M : Mem} {L b k : Nat} {ch : Nat → Int32}
theorem TC.fr2 {M' : Mem} (T : TC M L ch) (h : Fr (sCl b k) M M') : TC M' L ch := by
  obtain ⟨h1, h2, h3⟩ := T
  refine ⟨(h.at_ rfl).trans h1, h2, fun s => ?_⟩
  rw [h3 s, h.at_ (a := 15) rfl]
theorem pHead_lt (hc : ∀ s, L ≤ s → ch s = -1) {s s1 : Nat} (h : pHead ch s = .inr s1) : s < s1 ∧ s1 ≤ L := by
  unfold pHead at h
  by_cases c : wdOf (ch s) < 6
  · rw [if_pos c] at h
    cases hl : lit ch (sr_byt.getD (wdOf (ch s)) []) s with
    | inl e => rw [hl] at h; cases h
    | inr s2 =>
      rw [hl] at h
      have h : lit ch [61] s2 = .inr s1 := h
      have h1 := lit_len ch _ _ _ hl
      have h2 := lit_len ch _ _ _ h
      have h3 := lit_hi hc _ _ _ (by decide) (by decide) h
      have : ([61] : List Int32).length = 1 := rfl
      omega
  · rw [if_neg c] at h; cases h
theorem pUnl_le (hc : ∀ s, L ≤ s → ch s = -1) (hL : L ≤ 120) {s s' : Nat} {u : Option (Nat × List Int32)} (hs : s ≤ L) (h : pUnl ch s = .inr (s', u)) : s ≤ s' ∧ s' ≤ L := by
  unfold pUnl at h
  by_cases c : ch s = 32
  · rw [if_pos c] at h
    cases hl : lit ch (sr_byt.getD 13 []) s with
    | inl e => rw [hl] at h; cases h
    | inr s2 =>
      rw [hl] at h
      have h1 := lit_len ch _ _ _ hl
      have h3 := lit_hi hc _ _ _ (sr_nm1 13 (by omega)) (by decide) hl
      cases hp : PC ch 500 0 s2 with
      | inl e =>
        have h : Sum.elim (fun e => Sum.inl e) (fun q => Sum.inr (q.1, some (s2, q.2))) (PC ch 500 0 s2) = (.inr (s', u) : Nat ⊕ (Nat × Option (Nat × List Int32))) := h
        rw [hp] at h; cases h
      | inr q =>
        have h : Sum.elim (fun e => Sum.inl e) (fun q => Sum.inr (q.1, some (s2, q.2))) (PC ch 500 0 s2) = (.inr (s', u) : Nat ⊕ (Nat × Option (Nat × List Int32))) := h
        rw [hp] at h
        cases h
        obtain ⟨g1, g2, -⟩ := (sy_whole hc hL h3 []).2 q.1 q.2 hp
        omega
  · rw [if_neg c] at h
    cases h
    omega
/-- class's clause -/
theorem e_clause (T : TC M L ch) {s : Nat} {out : List Int32} (R : RF b M s out) (ho : out.length ≤ s) (hs : s ≤ L) (hb : b + 120 ≤ 1080) (hk : k < 72) : (∀ e, pCl ch s = .inl e → ∃ M' out', f_Reader_clause_77 (nI k) M = some (false, M') ∧ RF b M' e out' ∧ Fr (sCl b k) M M') ∧ ∀ s' s1 c u, pCl ch s = .inr (s', s1, c, u) → s < s' ∧ s' ≤ L ∧ ∃ M' out', f_Reader_clause_77 (nI k) M = some (true, M') ∧ RF b M' s' out' ∧ out'.length ≤ s' ∧ Fr (sCl (b + out.length) k) M M' ∧ Rcl M' k b (wdOf (ch s)) c u := by
  sorry
end CLA
