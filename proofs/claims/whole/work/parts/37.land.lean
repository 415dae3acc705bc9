def cG (h1 h2 g1 g2 : Int32) : Int32 := if g1 = 3 then -5 else if g2 = 3 then -5 else jmax 1 (((10 + 2 * jabs (h1 - h2)) + 6 * (bI (decide (g1 = 1)) + bI (decide (g2 = 1)))) - 4 * (bI (decide (g1 = 2)) + bI (decide (g2 = 2))))
def cst (σ : Nat → Int32) (a b : Nat) : Int32 := cG (σ (20 + a)) (σ (20 + b)) (σ (68 + a)) (σ (68 + b))
def cM (h1 h2 g1 g2 : Int32) : Int32 := if g1 = 3 then -5 else if g2 = 3 then -5 else
  (if (10 + 2 * (if h1 - h2 < 0 then -(h1 - h2) else h1 - h2)) + (if g1 = 1 then 6 else if g1 = 2 then -4 else 0) + (if g2 = 1 then 6 else if g2 = 2 then -4 else 0) < 1 then 1 else (10 + 2 * (if h1 - h2 < 0 then -(h1 - h2) else h1 - h2)) + (if g1 = 1 then 6 else if g1 = 2 then -4 else 0) + (if g2 = 1 then 6 else if g2 = 2 then -4 else 0))
set_option maxRecDepth 20000 in
theorem cMG_fin : ∀ p, p < 10 → ∀ q, q < 10 → ∀ a, a < 4 → ∀ b, b < 4 → cM (nI p) (nI q) (nI a) (nI b) = cG (nI p) (nI q) (nI a) (nI b) := by decide +kernel
theorem cMG {h1 h2 g1 g2 : Int32} (a1 : inb h1 10 = true) (a2 : inb h2 10 = true) (a3 : inb g1 4 = true) (a4 : inb g2 4 = true) : cM h1 h2 g1 g2 = cG h1 h2 g1 g2 := by
  obtain ⟨e1, l1⟩ := nI_of_inb a1
  obtain ⟨e2, l2⟩ := nI_of_inb a2
  obtain ⟨e3, l3⟩ := nI_of_inb a3
  obtain ⟨e4, l4⟩ := nI_of_inb a4
  rw [e1, e2, e3, e4]
  exact cMG_fin _ l1 _ l2 _ l3 _ l4
theorem e_stretch {M : Mem} {σ : Nat → Int32} (H : Rland M.1 σ) {a b : Nat} (ha : a < 48) (hb : b < 48) : f_Land_stretch_2 (nI a) (nI b) M = some (cst σ a b) := by
  obtain ⟨-, -, h34, -⟩ := H
  have h3 := fun c hc => (h34 c hc).1
  have h4 := fun c hc => (h34 c hc).2
  unfold f_Land_stretch_2 cst cG jv_
  rw [atv_nI ha (by omega), atv_nI hb (by omega), atv_nI ha (by omega), atv_nI hb (by omega), h3 a ha, h3 b hb, h4 a ha, h4 b hb]
  by_cases c1 : σ (68 + a) = 3
  · rw [if_pos (decide_eq_true c1), if_pos c1]
  · rw [if_neg (by simp [c1]), if_neg c1]
    by_cases c2 : σ (68 + b) = 3
    · rw [if_pos (decide_eq_true c2), if_pos c2]
    · rw [if_neg (by simp [c2]), if_neg c2]
theorem e_Mo_size (x : Int32) : f_Mo_size x = some (if x < 0 then -x else x) := by
  unfold f_Mo_size
  by_cases h : x < 0 <;> simp [h]
theorem ix (b i : Nat) (h : b + i < 2147483648) : (nI b + nI i).toNatClampNeg = b + i := by rw [nI_addn, nI_cl h]
theorem ixb (b i n : Nat) (h : b + i < 2147483648) (hn : b + i < n) : inb (nI b + nI i) n = true := by rw [nI_addn, inb_nI h]; exact decide_eq_true hn
theorem e_Mo_extra (M : Mem) {a : Nat} (ha : a < 48) : f_Mo_extra_94 (nI a) M = some (if M.1 95 (68 + a) = 1 then 6 else if M.1 95 (68 + a) = 2 then -4 else 0) := by
  unfold f_Mo_extra_94
  rw [show (68 : Int32) = nI 68 from rfl, ix 68 a (by omega), if_pos (ixb 68 a 4700 (by omega) (by omega)), if_pos (ixb 68 a 4700 (by omega) (by omega))]
  by_cases c1 : M.1 95 (68 + a) = 1
  · rw [if_pos (decide_eq_true c1), if_pos c1]
  · rw [if_neg (by simp [c1]), if_neg c1]
    by_cases c2 : M.1 95 (68 + a) = 2
    · rw [if_pos (decide_eq_true c2), if_pos c2]
    · rw [if_neg (by simp [c2]), if_neg c2]
theorem e_Mo_costOf {M : Mem} {a b : Nat} (ha : a < 48) (hb : b < 48) (w : ∀ c, c < 48 → inb (M.1 95 (20 + c)) 10 = true ∧ inb (M.1 95 (68 + c)) 4 = true) : f_Mo_costOf_94 (nI a) (nI b) M = some (cst (M.1 95) a b) := by
  have e : cst (M.1 95) a b = cM (M.1 95 (20 + a)) (M.1 95 (20 + b)) (M.1 95 (68 + a)) (M.1 95 (68 + b)) := (cMG (w a ha).1 (w b hb).1 (w a ha).2 (w b hb).2).symm
  rw [e]
  unfold f_Mo_costOf_94 cM
  rw [e_Mo_extra M ha, e_Mo_extra M hb, show (68 : Int32) = nI 68 from rfl, show (20 : Int32) = nI 20 from rfl, ix 68 a (by omega), ix 68 b (by omega), ix 20 a (by omega), ix 20 b (by omega), if_pos (ixb 68 a 4700 (by omega) (by omega))]
  by_cases c1 : M.1 95 (68 + a) = 3
  · rw [if_pos (decide_eq_true c1), if_pos c1]
  · rw [if_neg (by simp [c1]), if_neg c1, if_pos (ixb 68 b 4700 (by omega) (by omega))]
    by_cases c2 : M.1 95 (68 + b) = 3
    · rw [if_pos (decide_eq_true c2), if_pos c2]
    · rw [if_neg (by simp [c2]), if_neg c2, if_pos (ixb 20 a 4700 (by omega) (by omega)), if_pos (ixb 20 b 4700 (by omega) (by omega)), e_Mo_size]
      simp only [Option.bind_some, decide_eq_true_eq]
      exact (apply_ite some _ _ _).symm
set_option maxRecDepth 20000 in
theorem bs_fin : ∀ a, a < 48 → ∀ b, b < 48 → f_Mo_areBeside (nI a) (nI b) = some (bsd (nI a) (nI b)) := by decide +kernel
