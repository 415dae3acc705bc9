theorem q20 : (20 : Int32) = nI 20 := rfl
theorem q68 : (68 : Int32) = nI 68 := rfl
theorem q116 : (116 : Int32) = nI 116 := rfl
theorem q164 : (164 : Int32) = nI 164 := rfl
theorem q174 : (174 : Int32) = nI 174 := rfl
theorem q190 : (190 : Int32) = nI 190 := rfl
theorem q310 : (310 : Int32) = nI 310 := rfl
theorem q430 : (430 : Int32) = nI 430 := rfl
theorem q550 : (550 : Int32) = nI 550 := rfl
theorem q670 : (670 : Int32) = nI 670 := rfl
def okE (σ : Nat → Int32) (m : Int32) (n k : Nat) : Bool := !decide (σ (190 + k) = 5) && (decide (nI n ≤ σ (670 + k)) && decide (σ (430 + k) ≤ m))
/-- the ENTRY that decides of a farm, by the first n entries, of which k have been looked at -/
def dk (σ : Nat → Int32) (m : Int32) (n : Nat) : Nat → Nat → Int32
  | 0, _ => -1
  | k + 1, f => if okE σ m n k = true ∧ σ (310 + k) = nI f ∧ (dk σ m n k f = -1 ∨ σ (430 + (dk σ m n k f).toNatClampNeg) ≤ σ (430 + k)) then nI k else dk σ m n k f
theorem dk_spec (σ : Nat → Int32) (m : Int32) (n f : Nat) : ∀ k, k < 2147483648 → dk σ m n k f = -1 ∨ ∃ j, j < k ∧ dk σ m n k f = nI j ∧ okE σ m n j = true ∧ σ (310 + j) = nI f
  | 0, _ => .inl rfl
  | k + 1, hk => by
    unfold dk
    by_cases h : okE σ m n k = true ∧ σ (310 + k) = nI f ∧ (dk σ m n k f = -1 ∨ σ (430 + (dk σ m n k f).toNatClampNeg) ≤ σ (430 + k))
    · rw [if_pos h]
      exact .inr ⟨k, by omega, rfl, h.1, h.2.1⟩
    · rw [if_neg h]
      rcases dk_spec σ m n f k (by omega) with h1 | ⟨j, h1, h2, h3, h4⟩
      · exact .inl h1
      · exact .inr ⟨j, by omega, h2, h3, h4⟩
theorem okE_5 {σ : Nat → Int32} {m : Int32} {n k : Nat} (h : okE σ m n k = true) : σ (190 + k) ≠ 5 := by
  unfold okE at h
  simp only [Bool.and_eq_true, Bool.not_eq_true', decide_eq_false_iff_not] at h
  exact h.1
def dA (g : Nat → Int32) (σ : Nat → Int32) (m : Int32) (n k : Nat) : Nat → Int32 := fun j => if j < 10 then dk σ m n k j else g j
theorem stk_eq {σ : Nat → Int32} {n k : Nat} (hn : n ≤ nt σ 2) (hE : nt σ 2 ≤ 120) (hw : σ (670 + k) = 999 ∨ (inb (σ (670 + k)) (nt σ 2) = true ∧ σ (670 + k) ≠ 0)) : (decide ((if σ (670 + k) = 999 then 0 else σ (670 + k)) = 0) || !decide ((if σ (670 + k) = 999 then 0 else σ (670 + k)) < nI n)) = decide (nI n ≤ σ (670 + k)) := by
  by_cases h : σ (670 + k) = 999
  · rw [if_pos h, h, show (999 : Int32) = nI 999 from rfl, dle_t (by omega) (by omega)]; rfl
  · rw [if_neg h]
    rcases hw with h1 | ⟨h1, h2⟩
    · exact absurd h1 h
    · obtain ⟨e1, l1⟩ := nI_of_inb h1
      rw [decide_eq_false h2, Bool.false_or]
      rw [e1, d_lt (by omega) (by omega), d_le (by omega) (by omega), Bool.eq_iff_iff]
      simp only [Bool.not_eq_true', decide_eq_false_iff_not, decide_eq_true_eq]; omega
theorem look_step {M : Mem} {σ : Nat → Int32} {m : Int32} {n k : Nat} (hn : n ≤ nt σ 2) (hk : k < n) (B : Rbook M.1 σ) (hF : nt σ 1 ≤ 10) (hE : nt σ 2 ≤ 120) (W : wBook σ) : b_Book_look_7_24 m (nI n) (nI k, wR M 13 (dA (M.1 13) σ m n k)) = some (.inl (nI (k + 1), wR M 13 (dA (M.1 13) σ m n (k + 1)))) := by
  obtain ⟨-, B⟩ := B
  obtain ⟨b9, b8, -, b12⟩ := B k (by omega)
  obtain ⟨-, w1, -, w3⟩ := W k (by omega)
  have e8 : ∀ g, (wR M 13 g).1 8 = M.1 8 := fun g => rfl
  have e9 : ∀ g, (wR M 13 g).1 9 = M.1 9 := fun g => rfl
  have e10 : ∀ g, (wR M 13 g).1 10 = M.1 10 := fun g => rfl
  have e12 : ∀ g, (wR M 13 g).1 12 = M.1 12 := fun g => rfl
  have e13 : ∀ g, (wR M 13 g).1 13 = g := fun g => rfl
  unfold b_Book_look_7_24 jv_
  simp (disch := omega) only [dlt_t, ite_tt, e8, e9, e10, e12, e13, atv_nI, b9, b12]
  rw [stk_eq hn hE w3]
  have skip : okE σ m n k = false → dA (M.1 13) σ m n k = dA (M.1 13) σ m n (k + 1) := fun h => by
    funext j
    unfold dA
    by_cases hj : j < 10
    · rw [if_pos hj, if_pos hj]
      show _ = if _ then _ else _
      rw [if_neg (by rw [h]; simp)]
    · rw [if_neg hj, if_neg hj]
  by_cases c5 : σ (190 + k) = 5
  · have h0 : okE σ m n k = false := by unfold okE; rw [decide_eq_true c5]; rfl
    rw [decide_eq_true c5, skip h0, nI_one]; rfl
  · rw [decide_eq_false c5]
    obtain ⟨b8a, b10⟩ := b8 c5
    obtain ⟨w1a, w1b⟩ := w1 c5
    by_cases cs : nI n ≤ σ (670 + k)
    · rw [decide_eq_true cs, b10]
      by_cases cm : σ (430 + k) ≤ m
      · have h1 : okE σ m n k = true := by unfold okE; rw [decide_eq_false c5, decide_eq_true cs, decide_eq_true cm]; rfl
        obtain ⟨ef, lf⟩ := nI_of_inb w1a
        generalize (σ (310 + k)).toNatClampNeg = f at ef lf
        rw [decide_eq_true cm, b8a, ef]
        have eA : atv (dA (M.1 13) σ m n k) 10 (nI f) = dk σ m n k f := by
          rw [atv_nI (by omega) (by omega)]; unfold dA; rw [if_pos (by omega)]
        have eP : putv (wR M 13 (dA (M.1 13) σ m n k)) 13 10 (nI f) (nI k) = wR M 13 (upd (dA (M.1 13) σ m n k) f (nI k)) := by
          rw [putv_nI (by omega) (by omega), wI_wR]
        rw [eA, eP]
        have yes : (dk σ m n k f = -1 ∨ σ (430 + (dk σ m n k f).toNatClampNeg) ≤ σ (430 + k)) → upd (dA (M.1 13) σ m n k) f (nI k) = dA (M.1 13) σ m n (k + 1) := fun hc => by
          funext j
          unfold upd dA
          by_cases hj : j = f
          · subst hj
            rw [if_pos rfl, if_pos (by omega)]
            show _ = if _ then _ else _
            rw [if_pos ⟨h1, ef, hc⟩]
          · rw [if_neg hj]
            by_cases hj2 : j < 10
            · rw [if_pos hj2, if_pos hj2]
              show _ = if _ then _ else _
              rw [if_neg]
              rintro ⟨-, h2, -⟩
              rw [ef] at h2
              exact hj ((nI_inj (by omega) (by omega)).mp h2).symm
            · rw [if_neg hj2, if_neg hj2]
        rcases dk_spec σ m n f k (by omega) with hd | ⟨j, j1, j2, j3, j4⟩
        · rw [hd, m1_neg, ← yes (.inl hd), nI_one]; rfl
        · obtain ⟨-, bj, -, -⟩ := B j (by omega)
          obtain ⟨-, bj10⟩ := bj (okE_5 j3)
          rw [j2, nI_nneg (by omega), atv_nI (by omega) (by omega), bj10]
          by_cases hc : σ (430 + k) < σ (430 + j)
          · rw [decide_eq_true hc]
            have no : dA (M.1 13) σ m n k = dA (M.1 13) σ m n (k + 1) := by
              funext i
              unfold dA
              by_cases hi : i < 10
              · rw [if_pos hi, if_pos hi]
                show _ = if _ then _ else _
                rw [if_neg]
                rintro ⟨-, h2, h3⟩
                rw [ef] at h2
                have := (nI_inj (by omega) (by omega)).mp h2
                subst this
                rw [j2, nI_cl (by omega)] at h3
                rcases h3 with h3 | h3
                · exact nI_ne_m1 (by omega) h3
                · exact Int32.not_le.mpr hc h3
              · rw [if_neg hi, if_neg hi]
            rw [← no, nI_one]; rfl
          · rw [decide_eq_false hc, ← yes (.inr (by rw [j2, nI_cl (by omega)]; exact Int32.not_lt.mp hc)), nI_one]; rfl
      · have h0 : okE σ m n k = false := by unfold okE; rw [decide_eq_false c5, decide_eq_true cs, decide_eq_false cm]; rfl
        rw [decide_eq_false cm, skip h0, nI_one]; rfl
    · have h0 : okE σ m n k = false := by unfold okE; rw [decide_eq_false c5, decide_eq_false cs]; rfl
      rw [decide_eq_false cs, skip h0, nI_one]; rfl
/-- by e: how many entries -/
def kn (σ : Nat → Int32) (e : Int32) : Nat := if e = -1 then nt σ 2 else e.toNatClampNeg
theorem e_look {M : Mem} {σ : Nat → Int32} (m e : Int32) (he : e = -1 ∨ inb e (nt σ 2 + 1) = true) (B : Rbook M.1 σ) (N : wNum σ) (W : wBook σ) : f_Book_look_7 m e M = some (wR M 13 (dA (M.1 13) σ m (kn σ e) (kn σ e))) := by
  obtain ⟨-, n1, n2, -⟩ := N
  obtain ⟨e1, l1⟩ := nt_inb n1
  obtain ⟨e2, l2⟩ := nt_inb n2
  unfold f_Book_look_7 jv_
  have hu : (if decide (e < 0) = true then M.1 7 5 else e) = nI (kn σ e) := by
    unfold kn
    rcases he with he | he
    · subst he
      rw [m1_neg, if_pos rfl, if_pos rfl, B.1, ← e2]
    · obtain ⟨ee, le⟩ := nI_of_inb he
      rw [ee, nI_nneg (by omega), if_neg (by decide), if_neg (nI_ne_m1 (by omega)), nI_cl (by omega)]
  have hk : kn σ e ≤ nt σ 2 := by
    unfold kn
    rcases he with he | he
    · rw [if_pos he]; omega
    · have := (nI_of_inb he).2
      split <;> omega
  rw [hu]
  have key := itr_for (s0 := (0, wR M 13 (filv (M.1 13) 10 (-1)))) (fun k => (nI k, wR M 13 (dA (M.1 13) σ m (kn σ e) k))) (kn σ e) (by omega) rfl (fun k h => look_step hk h B (by omega) (by omega) W) (e := wR M 13 (dA (M.1 13) σ m (kn σ e) (kn σ e))) (by
    unfold b_Book_look_7_24
    rw [dlt_f (Nat.le_refl _) (by omega)]; rfl)
  show (itr _ FU (0, wR M 13 (filv (M.1 13) 10 (-1)))).bind _ = _
  rw [key]; rfl
/-- what decides; -1: nothing -/
def wh (σ : Nat → Int32) (m : Int32) (n f : Nat) : Int32 := if dk σ m n n f = -1 then -1 else σ (190 + (dk σ m n n f).toNatClampNeg)
def nd (σ : Nat → Int32) (m : Int32) (n f : Nat) : Int32 := σ (550 + (dk σ m n n f).toNatClampNeg)
/-- class's memory after a look -/
def Lk (σ : Nat → Int32) (m : Int32) (n : Nat) (M : Mem) : Prop := ∀ f, f < 10 → M.1 13 f = dk σ m n n f
theorem e_decided {M : Mem} {σ : Nat → Int32} {m : Int32} {n f : Nat} (hf : f < 10) (hn : n ≤ nt σ 2) (hE : nt σ 2 ≤ 120) (B : Rbook M.1 σ) (L : Lk σ m n M) : f_Book_decided_7 (nI f) M = some (wh σ m n f) := by
  unfold f_Book_decided_7 wh
  rw [atv_nI hf (by omega), L f hf]
  rcases dk_spec σ m n f n (by omega) with h | ⟨j, j1, j2, -, -⟩
  · rw [h, m1_neg]; rfl
  · rw [j2, nI_nneg (by omega), if_neg (by decide), if_neg (nI_ne_m1 (by omega)), atv_nI (by omega) (by omega), nI_cl (by omega), (B.2 j (by omega)).1]
theorem e_look' {M : Mem} {σ : Nat → Int32} (m e : Int32) (he : e = -1 ∨ inb e (nt σ 2 + 1) = true) (B : Rbook M.1 σ) (N : wNum σ) (W : wBook σ) : ∃ M', f_Book_look_7 m e M = some M' ∧ Lk σ m (kn σ e) M' ∧ Fr (fun a _ => a == 13) M M' ∧ Rbook M'.1 σ := by
  refine ⟨_, e_look m e he B N W, fun f hf => ?_, (Fr.refl M).wR (fun _ => rfl), B⟩
  show dA _ _ _ _ _ f = _
  unfold dA
  rw [if_pos hf]
