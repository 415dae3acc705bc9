def Rloan (C : Nat → Nat → Int32) (σ : Nat → Int32) : Prop := (σ 10 = 0 → C 36 3 = 0 ∧ C 36 5 = 0) ∧ (σ 10 = 1 → C 36 2 = σ 11 ∧ C 36 3 = σ 12 ∧ C 36 4 = σ 13 ∧ C 36 5 = σ 14 ∧ C 36 6 = σ 15)
/-- class's state against a row; n calls so far -/
def RS1 (n : Nat) (C : Nat → Nat → Int32) (σ : Nat → Int32) : Prop := Rc0 C σ ∧ Rtape C σ ∧ Rbrk C σ ∧ Rloan C σ ∧ C 1 6 = σ 0 ∧ wNum σ ∧ inb (σ 3) 9 = true ∧ wBook σ ∧ wLand σ ∧ wTape σ ∧ wBrk σ ∧ wCoin n σ
def Kst (n : Nat) (M : Mem) : Prop := ∃ k, 1 ≤ k ∧ k ≤ 1 + 40 * n ∧ M.1 94 21 = nI k ∧ CvU M k ∧ CvA M k
def Rel (n : Nat) (M : Mem) : Prop := RS1 n M.1 (M.1 95) ∧ M.1 0 2 = M.1 94 3 ∧ (M.1 94 3 = 0 ∨ (M.1 94 3 = 1 ∧ RS1 n (fun a => M.1 (a + 38)) (M.1 96))) ∧ Kst n M
theorem inb_mono {x : Int32} {a b : Nat} (h : inb x a = true) (hab : a ≤ b) : inb x b = true := by
  rw [inb_iff] at h ⊢; omega
theorem wCoin_mono {n n' : Nat} {σ : Nat → Int32} (h : wCoin n σ) (hn : n ≤ n') : wCoin n' σ := by
  obtain ⟨h1, h2, h3⟩ := h
  exact ⟨fun k hk => ⟨(h1 k hk).1, inb_mono (h1 k hk).2 (by omega)⟩, h2, h3⟩
theorem RS1_mono {n n' : Nat} {C : Nat → Nat → Int32} {σ : Nat → Int32} (h : RS1 n C σ) (hn : n ≤ n') : RS1 n' C σ := by
  obtain ⟨h1, h2, h3, h4, h5, h6, h7, h8, h9, h10, h11, h12⟩ := h
  exact ⟨h1, h2, h3, h4, h5, h6, h7, h8, h9, h10, h11, wCoin_mono h12 hn⟩
theorem Rel_mono {n n' : Nat} {M : Mem} (h : Rel n M) (hn : n ≤ n') : Rel n' M := by
  obtain ⟨h1, h2, h3, k, k1, k2, k3, k4⟩ := h
  refine ⟨RS1_mono h1 hn, h2, ?_, k, k1, by omega, k3, k4⟩
  rcases h3 with h | ⟨h, h'⟩
  · exact .inl h
  · exact .inr ⟨h, RS1_mono h' hn⟩
theorem Rel_Wm {n : Nat} (hn : n ≤ 512) {C : Nat → Nat → Int32} {σ : Nat → Int32} (h : RS1 n C σ) : Wm σ := by
  obtain ⟨h1, h2, h3, h4, h5, h6, h7, h8, h9, h10, h11, h12⟩ := h
  exact ⟨h6, h8, h9, fun k hk => (h12.1 k hk).1, fun k hk => inb_mono (h12.1 k hk).2 (by omega), ⟨_, h1.2.2.1.2.2.2.2⟩, ⟨C, h1.2.2.2.1⟩⟩
/-- class's places that no call leaves anything in -/
def sCs (a i : Nat) : Bool := a == 13 || (a == 23 || (a == 27 || (a == 28 || ((a == 14 && i == 11) || ((a == 29 && i == 5) || ((decide (32 ≤ a) && decide (a ≤ 35)) || (decide (77 ≤ a) && decide (a ≤ 93))))))))
/-- the model's -/
def sMs (a i : Nat) : Bool := (decide (97 ≤ a) && decide (a ≤ 107)) || ((decide (112 ≤ a) && decide (a ≤ 116)) || (a == 94 && (i == 6 || (i == 7 || (i == 8 || (i == 15 || (i == 19 || (i == 20 || i == 30))))))))
def sMc (a i : Nat) : Bool := sMs a i || (decide (108 ≤ a) && decide (a ≤ 111))
theorem sAc_sCs : ∀ a i, sAc a i = true → sCs a i = true := fun a i h => by
  unfold sAc at h; unfold sCs
  simp only [Bool.or_eq_true, Bool.and_eq_true, beq_iff_eq, decide_eq_true_eq] at h ⊢; omega
theorem s13_sCs : ∀ a i : Nat, (a == 13) = true → sCs a i = true := fun a i h => by unfold sCs; rw [h]; rfl
theorem s27_sCs : ∀ a i : Nat, s27 a i = true → sCs a i = true := fun a i h => sAc_sCs a i (s27_sAc a i h)
theorem sNm_sMs : ∀ a i, sNm a i = true → sMs a i = true := fun a i h => by
  unfold sNm at h; unfold sMs
  simp only [Bool.or_eq_true, Bool.and_eq_true, beq_iff_eq, decide_eq_true_eq] at h ⊢; omega
theorem sLk_sMs : ∀ a i, sLk a i = true → sMs a i = true := fun a i h => sNm_sMs a i (sLk_sNm a i h)
theorem sMs_sMc : ∀ a i, sMs a i = true → sMc a i = true := fun a i h => by unfold sMc; rw [h]; rfl
theorem sAr_sMc : ∀ a i, sAr a i = true → sMc a i = true := fun a i h => by
  unfold sAr sB sNm at h; unfold sMc sMs
  simp only [Bool.or_eq_true, Bool.and_eq_true, beq_iff_eq, decide_eq_true_eq] at h ⊢; omega
theorem sCs_lo {a : Nat} (h : (36 ≤ a ∧ a ≤ 76) ∨ (94 ≤ a)) (i : Nat) : sCs a i = false := by
  unfold sCs
  simp only [Bool.or_eq_false_iff, Bool.and_eq_false_iff, beq_eq_false_iff_ne, decide_eq_false_iff_not]
  omega
theorem sMc_lo {a : Nat} (h : a ≤ 93 ∨ a = 95 ∨ a = 96) (i : Nat) : sMc a i = false := by
  unfold sMc sMs
  simp only [Bool.or_eq_false_iff, Bool.and_eq_false_iff, beq_eq_false_iff_ne, decide_eq_false_iff_not]
  omega
theorem RS1_congr {n : Nat} {C C' : Nat → Nat → Int32} {σ : Nat → Int32} (h : ∀ a i, (a ≤ 12 ∧ 1 ≤ a) ∨ (a = 14 ∧ i ≠ 11) ∨ (15 ≤ a ∧ a ≤ 22) ∨ (24 ≤ a ∧ a ≤ 26) ∨ (a = 29 ∧ i ≠ 5) ∨ (30 ≤ a ∧ a ≤ 31) ∨ (36 ≤ a ∧ a ≤ 38) → C' a i = C a i) (H : RS1 n C σ) : RS1 n C' σ := by
  obtain ⟨⟨r1, r2, r3, r4, r5⟩, h2, h3, h4, h5, h6, h7, h8, h9, h10, h11, h12⟩ := H
  have e : ∀ a, ((a ≤ 12 ∧ 1 ≤ a) ∨ (15 ≤ a ∧ a ≤ 22) ∨ (24 ≤ a ∧ a ≤ 26) ∨ (30 ≤ a ∧ a ≤ 31) ∨ (36 ≤ a ∧ a ≤ 38)) → C' a = C a := fun a ha => funext fun i => h a i (by omega)
  refine ⟨⟨?_, ?_, ?_, Rrule_congr (h 14 9 (by omega)) (fun a h1 h2 => e a (by omega)) r4, ?_⟩, ?_, ?_, ?_, ?_, h6, h7, h8, h9, h10, h11, h12⟩
  · unfold Rbook; rw [e 7 (by omega), e 8 (by omega), e 9 (by omega), e 10 (by omega), e 11 (by omega), e 12 (by omega)]; exact r1
  · unfold Rland; rw [e 2 (by omega), e 3 (by omega), e 4 (by omega), e 5 (by omega), e 6 (by omega)]; exact r2
  · unfold Rline; rw [e 24 (by omega), e 25 (by omega), e 26 (by omega)]; exact r3
  · rw [e 37 (by omega), e 38 (by omega)]; exact r5
  · unfold Rtape; rw [h 14 1 (by omega), e 15 (by omega)]; exact h2
  · unfold Rbrk; rw [h 29 2 (by omega), e 30 (by omega), e 31 (by omega)]; exact h3
  · unfold Rloan; rw [e 36 (by omega)]; exact h4
  · rw [e 1 (by omega)]; exact h5
theorem RelC {n : Nat} {M M' : Mem} (H : Rel n M) (F : Fr sCs M M') : Rel n M' := by
  obtain ⟨h1, h2, h3, k, k1, k2, k3, k5, k6⟩ := H
  have e : ∀ a, (36 ≤ a ∧ a ≤ 76) ∨ 94 ≤ a → M'.1 a = M.1 a := fun a ha => F.row (fun i => sCs_lo ha i)
  have e0 : ∀ i, M'.1 0 i = M.1 0 i := fun i => F.at_ (by unfold sCs; rfl)
  refine ⟨?_, ?_, ?_, k, k1, k2, ?_, ?_, ?_⟩
  · rw [e 95 (by omega)]
    refine RS1_congr (fun a i ha => F.at_ ?_) h1
    unfold sCs
    simp only [Bool.or_eq_false_iff, Bool.and_eq_false_iff, beq_eq_false_iff_ne, decide_eq_false_iff_not]
    omega
  · rw [e0, e 94 (by omega)]; exact h2
  · rw [e 94 (by omega), e 96 (by omega)]
    rcases h3 with h | ⟨h, h'⟩
    · exact .inl h
    · refine .inr ⟨h, RS1_congr (fun a i ha => ?_) h'⟩
      show M'.1 (a + 38) i = M.1 (a + 38) i
      rw [e (a + 38) (by omega)]
  · rw [e 94 (by omega)]; exact k3
  · unfold CvU; rw [e 95 (by omega), e 109 (by omega), e 108 (by omega)]; exact k5
  · unfold CvA; rw [e 95 (by omega), e 111 (by omega), e 110 (by omega)]; exact k6
theorem RelM {n : Nat} {M M' : Mem} (H : Rel n M) (F : Fr sMc M M') (hk : ∀ k, k ≤ 1 + 40 * n → M.1 94 21 = nI k → CvU M k → CvA M k → CvU M' k ∧ CvA M' k) : Rel n M' := by
  obtain ⟨h1, h2, h3, k, k1, k2, k3, k5, k6⟩ := H
  have e : ∀ a, a ≤ 93 ∨ a = 95 ∨ a = 96 → M'.1 a = M.1 a := fun a ha => F.row (fun i => sMc_lo ha i)
  obtain ⟨q1, q2⟩ := hk k k2 k3 k5 k6
  have e3 : M'.1 94 3 = M.1 94 3 := F.at_ rfl
  refine ⟨?_, ?_, ?_, k, k1, k2, ?_, q1, q2⟩
  · rw [e 95 (by omega)]
    exact RS1_congr (fun a i ha => by rw [e a (by omega)]) h1
  · rw [e 0 (by omega), e3]; exact h2
  · rw [e3, e 96 (by omega)]
    rcases h3 with h | ⟨h, h'⟩
    · exact .inl h
    · refine .inr ⟨h, RS1_congr (fun a i ha => ?_) h'⟩
      show M'.1 (a + 38) i = M.1 (a + 38) i
      rw [e (a + 38) (by omega)]
  · rw [F.at_ rfl]; exact k3
/-- a call of the model that leaves nothing but scratch -/
theorem RelMs {n : Nat} {M M' : Mem} (H : Rel n M) (F : Fr sMs M M') : Rel n M' := by
  refine RelM H (F.mono sMs_sMc) (fun k _ h1 h3 h4 => ?_)
  have e : ∀ a, a = 95 ∨ (108 ≤ a ∧ a ≤ 111) → M'.1 a = M.1 a := fun a ha => F.row (fun i => by
    unfold sMs
    simp only [Bool.or_eq_false_iff, Bool.and_eq_false_iff, beq_eq_false_iff_ne, decide_eq_false_iff_not]
    omega)
  refine ⟨?_, ?_⟩
  · unfold CvU; rw [e 95 (by omega), e 109 (by omega), e 108 (by omega)]; exact h3
  · unfold CvA; rw [e 95 (by omega), e 111 (by omega), e 110 (by omega)]; exact h4
