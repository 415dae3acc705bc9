section
section IR
/-- places of the row that a rule's text may change -/
def rlZ (z j : Nat) : Bool := j == 4 || (j == 790 + z || (j == 800 + z || (j == 1890 + z || ((decide (810 + 120 * z ≤ j) && decide (j < 930 + 120 * z)) || ((decide (1900 + 8 * z ≤ j) && decide (j < 1908 + 8 * z)) || ((decide (1980 + 8 * z ≤ j) && decide (j < 1988 + 8 * z)) || (decide (2060 + 8 * z ≤ j) && decide (j < 2068 + 8 * z))))))))
theorem rlZ_f {z j : Nat} (h : j ≠ 4 ∧ j ≠ 790 + z ∧ j ≠ 800 + z ∧ j ≠ 1890 + z ∧ ¬ (810 + 120 * z ≤ j ∧ j < 930 + 120 * z) ∧ ¬ (1900 + 8 * z ≤ j ∧ j < 1908 + 8 * z) ∧ ¬ (1980 + 8 * z ≤ j ∧ j < 1988 + 8 * z) ∧ ¬ (2060 + 8 * z ≤ j ∧ j < 2068 + 8 * z)) : rlZ z j = false := by
  unfold rlZ
  simp only [Bool.or_eq_false_iff, Bool.and_eq_false_iff, beq_eq_false_iff_ne, decide_eq_false_iff_not]
  omega
/-- a rule that was read and taken away again leaves all as it was -/
theorem RS1_pop {n : Nat} {C C' : Nat → Nat → Int32} {σ σ' : Nat → Int32} (H : RS1 n C σ) (eC : ∀ a, (1 ≤ a ∧ a ≤ 12) ∨ a = 15 ∨ (24 ≤ a ∧ a ≤ 26) ∨ a = 30 ∨ a = 31 ∨ (36 ≤ a ∧ a ≤ 38) → C' a = C a) (e29 : C' 29 2 = C 29 2) (e149 : C' 14 9 = C 14 9) (e141 : C' 14 1 = σ' 4) (e4 : σ' 4 = 0) (er : ∀ a i, ((16 ≤ a ∧ a ≤ 22) ∧ (a = 16 → i < 120 * nt σ 3) ∧ (19 ≤ a → i < 8 * nt σ 3) ∧ i ≠ nt σ 3 ∨ (19 ≤ a ∧ a ≤ 22 ∧ i < 8 * nt σ 3) ∨ (a = 16 ∧ i < 120 * nt σ 3)) → C' a i = C a i) (eσ : ∀ j, rlZ (nt σ 3) j = false → σ' j = σ j) : RS1 (n + 1) C' σ' := by
  obtain ⟨gB, gL, gI, gR, gP, gT, gK, gO, gN⟩ := RS1_gs H
  obtain ⟨e3, l3⟩ := nt_inb gN.2.2
  have b1 : nt σ 1 ≤ 10 := by have := (nt_inb gN.2.1.2.1).2; omega
  have b2 : nt σ 2 ≤ 120 := by have := (nt_inb gN.2.1.2.2.1).2; omega
  have b6 : nt σ 6 ≤ 6 := by have := (nt_inb gN.2.1.2.2.2.2.2.2.1).2; omega
  generalize hz : nt σ 3 = z at *
  have eσ : ∀ j, (j ≠ 4 ∧ j ≠ 790 + z ∧ j ≠ 800 + z ∧ j ≠ 1890 + z ∧ ¬ (810 + 120 * z ≤ j ∧ j < 930 + 120 * z) ∧ ¬ (1900 + 8 * z ≤ j ∧ j < 1908 + 8 * z) ∧ ¬ (1980 + 8 * z ≤ j ∧ j < 1988 + 8 * z) ∧ ¬ (2060 + 8 * z ≤ j ∧ j < 2068 + 8 * z)) → σ' j = σ j := fun j hj => eσ j (rlZ_f hj)
  refine RS1_mk ?_ ?_ ?_ ?_ ?_ ?_ ?_ ?_ ?_
  · exact GB_s (fun a h1 h2 => eC a (by omega)) (eσ 1 (by omega)) (eσ 2 (by omega)) (fun j h1 h2 => eσ j (by omega)) b2 gB
  · exact GL_s (fun a h1 h2 => eC a (by omega)) (eσ 1 (by omega)) (eσ 9 (by omega)) (fun j h1 h2 => eσ j (by omega)) b1 gL
  · exact Rline_s (fun a h1 h2 => eC a (by omega)) (eσ 5 (by omega)) (eσ 7 (by omega)) (eσ 8 (by omega)) (eσ 9 (by omega)) (fun j h1 h2 => eσ j (by omega)) gI
  · have hru : ∀ r, r < z → Ru1 C' σ' r := fun r hr => Ru1_cp (er 17 r (by omega)) (er 18 r (by omega)) (fun a k h1 h2 h3 h4 => er a k (by omega)) (fun i h1 h2 => er 16 i (by omega)) (by omega) (eσ _ (by omega)) (eσ _ (by omega)) (fun s hs => eσ _ (by omega)) (eσ _ (by omega)) (fun k h1 h2 => ⟨eσ _ (by omega), eσ _ (by omega), eσ _ (by omega)⟩) (gR.2 r (by rw [hz]; exact hr))
    refine ⟨?_, fun r hr => hru r ?_⟩
    · rw [e149, eσ 3 (by omega)]; exact gR.1
    · rw [nt_eq (eσ 3 (by omega)), hz] at hr; exact hr
  · exact GP_s (eC 37 (by omega)) (eC 38 (by omega)) (eσ 1 (by omega)) (fun j h1 h2 => eσ j (by omega)) gP
  · obtain ⟨⟨x1, x2⟩, x3⟩ := gT
    refine ⟨⟨e141, fun j hj => ?_⟩, fun j hj => ?_⟩
    · rw [eC 15 (by omega), eσ _ (by omega)]; exact x2 j hj
    · rw [eσ _ (by omega)]; exact x3 j hj
  · exact GK_s e29 (eC 30 (by omega)) (eC 31 (by omega)) (eσ 6 (by omega)) (fun j h1 h2 => eσ j (by omega)) (fun j h1 h2 => eσ j (by omega)) b6 gK
  · exact GO_s (eC 36 (by omega)) (fun j h1 h2 => eσ j (by omega)) gO
  · obtain ⟨x1, ⟨z0, z1, z2, z3, z4, z5, z6, z7, z8, z9⟩, x3⟩ := gN
    refine ⟨?_, ⟨?_, ?_, ?_, ?_, ?_, ?_, ?_, ?_, ?_, ?_⟩, ?_⟩
    · rw [eC 1 (by omega), eσ 0 (by omega)]; exact x1
    · rw [eσ 0 (by omega)]; exact z0
    · rw [eσ 1 (by omega)]; exact z1
    · rw [eσ 2 (by omega)]; exact z2
    · rw [eσ 3 (by omega)]; exact z3
    · rw [e4]; rfl
    · rw [eσ 5 (by omega)]; exact z5
    · rw [eσ 6 (by omega)]; exact z6
    · rw [eσ 7 (by omega)]; exact z7
    · rw [eσ 8 (by omega)]; exact z8
    · rw [eσ 9 (by omega)]; exact z9
    · rw [eσ 3 (by omega)]; exact x3
/-- the state with one rule more: class's part against the row that the model will have -/
theorem up_Rc0 {n : Nat} {C C' : Nat → Nat → Int32} {σ σ' : Nat → Int32} (H : RS1 n C σ) (Wo : Wm σ) (eC : ∀ a, (1 ≤ a ∧ a ≤ 12) ∨ a = 15 ∨ (24 ≤ a ∧ a ≤ 26) ∨ a = 30 ∨ a = 31 ∨ (36 ≤ a ∧ a ≤ 38) → C' a = C a) (e149 : C' 14 9 = nI (nt σ 3 + 1)) (er : ∀ a i, ((16 ≤ a ∧ a ≤ 22) ∧ (a = 16 → i < 120 * nt σ 3) ∧ (19 ≤ a → i < 8 * nt σ 3) ∧ i ≠ nt σ 3 ∨ (19 ≤ a ∧ a ≤ 22 ∧ i < 8 * nt σ 3) ∨ (a = 16 ∧ i < 120 * nt σ 3)) → C' a i = C a i) (e3' : σ' 3 = nI (nt σ 3 + 1)) (e4 : σ' 4 = 0) (eσ : ∀ j, j ≠ 3 → rlZ (nt σ 3) j = false → σ' j = σ j) (hnew : Ru1 C' σ' (nt σ 3)) : Rc0 C' σ' ∧ Wm σ' := by
  obtain ⟨gB, gL, gI, gR, gP, gT, gK, gO, gN⟩ := RS1_gs H
  obtain ⟨e3, l3⟩ := nt_inb gN.2.2
  have b1 : nt σ 1 ≤ 10 := by have := (nt_inb gN.2.1.2.1).2; omega
  have b2 : nt σ 2 ≤ 120 := by have := (nt_inb gN.2.1.2.2.1).2; omega
  generalize hz : nt σ 3 = z at *
  have eσ : ∀ j, (j ≠ 3 ∧ j ≠ 4 ∧ j ≠ 790 + z ∧ j ≠ 800 + z ∧ j ≠ 1890 + z ∧ ¬ (810 + 120 * z ≤ j ∧ j < 930 + 120 * z) ∧ ¬ (1900 + 8 * z ≤ j ∧ j < 1908 + 8 * z) ∧ ¬ (1980 + 8 * z ≤ j ∧ j < 1988 + 8 * z) ∧ ¬ (2060 + 8 * z ≤ j ∧ j < 2068 + 8 * z)) → σ' j = σ j := fun j hj => eσ j hj.1 (rlZ_f hj.2)
  have n3 : nt σ' 3 = z + 1 := by unfold nt; rw [e3']; exact nI_cl (by omega)
  have gB' : GB C' σ' := GB_s (fun a h1 h2 => eC a (by omega)) (eσ 1 (by omega)) (eσ 2 (by omega)) (fun j h1 h2 => eσ j (by omega)) b2 gB
  have gL' : GL C' σ' := GL_s (fun a h1 h2 => eC a (by omega)) (eσ 1 (by omega)) (eσ 9 (by omega)) (fun j h1 h2 => eσ j (by omega)) b1 gL
  have gI' : Rline C' σ' := Rline_s (fun a h1 h2 => eC a (by omega)) (eσ 5 (by omega)) (eσ 7 (by omega)) (eσ 8 (by omega)) (eσ 9 (by omega)) (fun j h1 h2 => eσ j (by omega)) gI
  have hru : ∀ r, r < z → Ru1 C' σ' r := fun r hr => Ru1_cp (er 17 r (by omega)) (er 18 r (by omega)) (fun a k h1 h2 h3 h4 => er a k (by omega)) (fun i h1 h2 => er 16 i (by omega)) (by omega) (eσ _ (by omega)) (eσ _ (by omega)) (fun s hs => eσ _ (by omega)) (eσ _ (by omega)) (fun k h1 h2 => ⟨eσ _ (by omega), eσ _ (by omega), eσ _ (by omega)⟩) (gR.2 r (by rw [hz]; exact hr))
  have gR' : Rrule C' σ' := ⟨by rw [e149, e3'], fun r hr => by
    rw [n3] at hr
    by_cases g : r < z
    · exact hru r g
    · rw [show r = z by omega]; exact hnew⟩
  obtain ⟨x1, ⟨z0, z1, z2, z3, z4, z5, z6, z7, z8, z9⟩, x3⟩ := gN
  obtain ⟨w1, w2, w3, w4, w5, w6, w7⟩ := Wo
  refine ⟨⟨gB'.1, gL'.1, gI', gR', fun k hk => ?_⟩, ⟨?_, ?_, ?_, ?_, ?_, ?_, ?_, ?_, ?_, ?_⟩, gB'.2, gL'.2, fun k hk => ?_, fun k hk => ?_, ⟨_, gI'.2.2.2.2⟩, ⟨C', gR'⟩⟩
  · rw [eC 37 (by omega), eC 38 (by omega), eσ _ (by omega), eσ _ (by omega)]; exact gP.1 k hk
  · rw [eσ 0 (by omega)]; exact z0
  · rw [eσ 1 (by omega)]; exact z1
  · rw [eσ 2 (by omega)]; exact z2
  · rw [e3']; exact inb_t (by omega) (by omega)
  · rw [e4]; rfl
  · rw [eσ 5 (by omega)]; exact z5
  · rw [eσ 6 (by omega)]; exact z6
  · rw [eσ 7 (by omega)]; exact z7
  · rw [eσ 8 (by omega)]; exact z8
  · rw [eσ 9 (by omega)]; exact z9
  · rw [eσ _ (by omega)]; exact w4 k hk
  · rw [eσ _ (by omega)]; exact w5 k hk
/-- both read a rule -/
theorem e_try {n : Nat} {M : Mem} (hn : n < 512) (H : Rel n M) (mo : Int32) (hmo : inb mo 121 = true) : (∃ e M1, f_Reader_makeRule_77 mo M = some (nI e, M1) ∧ e ≤ 120 ∧ M1.1 14 1 = 0 ∧ Fr (sMk (nt (M.1 95) 3)) M M1 ∧ ∀ X : Mem, X.1 95 = M.1 95 → ∃ X', f_Mo_readsRule_94 (nI (nt (M.1 95) 3)) mo X = some (false, X') ∧ X'.1 94 7 = nI e ∧ X'.1 95 4 = 0 ∧ Fr (sRl (nt (M.1 95) 3)) X X') ∨ (∃ M1, f_Reader_makeRule_77 mo M = some (-1, M1) ∧ M1.1 14 1 = 0 ∧ Fr (sMk (nt (M.1 95) 3)) M M1 ∧ ∀ X : Mem, X.1 95 = M.1 95 → ∃ X', f_Mo_readsRule_94 (nI (nt (M.1 95) 3)) mo X = some (true, X') ∧ X'.1 95 4 = 0 ∧ X'.1 95 3 = nI (nt (M.1 95) 3) ∧ Fr (sRl (nt (M.1 95) 3)) X X' ∧ Rc0 (wI M1 14 9 (nI (nt (M.1 95) 3 + 1))).1 ((wI X' 95 3 (nI (nt (M.1 95) 3 + 1))).1 95) ∧ Wm ((wI X' 95 3 (nI (nt (M.1 95) 3 + 1))).1 95)) := by
  have W := Rel_W hn H
  obtain ⟨gB, gL, gI, gR, gP, gT, gK, gO, gN⟩ := RS1_gs H.1
  obtain ⟨e3, l3⟩ := nt_inb gN.2.2
  obtain ⟨e4, l4⟩ := nt_inb gN.2.1.2.2.2.2.1
  have hT : TC M (nt (M.1 95) 4) (fun s => if s < nt (M.1 95) 4 then M.1 95 (2140 + s) else -1) := by
    refine ⟨gT.1.1.trans e4, by omega, fun s => ?_⟩
    by_cases g : s < nt (M.1 95) 4
    · rw [if_pos g]; dsimp only; rw [if_pos g, gT.1.2 s (by omega)]
    · rw [if_neg g]; exact if_neg g
  obtain ⟨mk1, mk2⟩ := e_makeRule (M := M) (z := nt (M.1 95) 3) (by omega) hT (gR.1.trans e3) mo
  have hz8 : nt (M.1 95) 3 ≤ 8 := by omega
  have hrd := fun X : Mem => fun e : X.1 95 = M.1 95 => e_readsRule (M := X) (z := nt (M.1 95) 3) (L := nt (M.1 95) 4) (ch := fun s => if s < nt (M.1 95) 4 then M.1 95 (2140 + s) else -1) hz8 (by omega) (by rw [e]; exact e4) (by rw [e]; exact fun s => rfl) mo
  cases hp : pR (fun s => if s < nt (M.1 95) 4 then M.1 95 (2140 + s) else -1) (nt (M.1 95) 4) 8 0 with
  | inl e =>
    left
    obtain ⟨M1, m1, m2, m3⟩ := mk1 e hp
    have he := ((hrd M rfl).1 e hp).1
    refine ⟨e, M1, m1, by omega, m2, m3, fun X hX => ?_⟩
    obtain ⟨-, X', r1, r2, r3, r4⟩ := (hrd X hX).1 e hp
    exact ⟨X', r1, r2, r3, r4⟩
  | inr l =>
    right
    obtain ⟨l1, l8, M1, m1, m2, m18, m17, mc, m3⟩ := mk2 l hp
    refine ⟨M1, m1, m2, m3, fun X hX => ?_⟩
    obtain ⟨X', r1, r2, r3, r4, r5, r6, r7, r8⟩ := (hrd X hX).2 l hp
    have eX3 : X'.1 95 3 = nI (nt (M.1 95) 3) := by
      rw [r8.at_ (a := 95) (i := 3) (by unfold sRl sRj; simp only [Bool.or_eq_false_iff, Bool.and_eq_false_iff, beq_eq_false_iff_ne, decide_eq_false_iff_not]; omega), hX]; exact e3
    have eσ : ∀ j, rlZ (nt (M.1 95) 3) j = false → X'.1 95 j = M.1 95 j := fun j hj => by
      rw [← hX]
      refine r8.at_ ?_
      unfold rlZ at hj
      unfold sRl sRj
      simp only [Bool.or_eq_false_iff, Bool.and_eq_false_iff, beq_eq_false_iff_ne, decide_eq_false_iff_not] at hj ⊢
      omega
    refine ⟨X', r1, r2, eX3, r8, ?_⟩
    generalize hz : nt (M.1 95) 3 = z at *
    have eN : ∀ j, j ≠ 3 → (wI X' 95 3 (nI (z + 1))).1 95 j = X'.1 95 j := fun j hj => rdi hj
    have eR : ∀ a, (16 ≤ a ∧ a ≤ 22) → (wI M1 14 9 (nI (z + 1))).1 a = M1.1 a := fun a ha => rdk (by omega)
    have hup := up_Rc0 (n := n) (C := M.1) (C' := (wI M1 14 9 (nI (z + 1))).1) (σ := M.1 95) (σ' := (wI X' 95 3 (nI (z + 1))).1 95) H.1 W (fun a ha => by
      rw [rdk (by omega)]
      exact m3.row (fun i => by
        unfold sMk sMj
        simp only [Bool.or_eq_false_iff, Bool.and_eq_false_iff, beq_eq_false_iff_ne, decide_eq_false_iff_not]
        omega)) (by rw [hz]; exact rde) (by
      rw [hz]
      intro a i ha
      rw [rdk (by omega)]
      refine m3.at_ ?_
      unfold sMk sMj
      simp only [Bool.or_eq_false_iff, Bool.and_eq_false_iff, beq_eq_false_iff_ne, decide_eq_false_iff_not]
      omega) (by rw [hz]; exact rde) (by rw [rdi (by omega)]; exact r2) (by
      rw [hz]
      intro j h3 hj
      rw [eN j h3]; exact eσ j hj) (by
      rw [hz]
      exact Ru1_new (by omega) hp l1 l8 hmo (by rw [eR 18 (by omega)]; exact m18) (by rw [eR 17 (by omega)]; exact m17) (fun j hj => (mc j hj).keep (by rw [eR 19 (by omega)]) (by rw [eR 20 (by omega)]) (by rw [eR 21 (by omega)]) (by rw [eR 22 (by omega)]) (fun i _ _ => by rw [eR 16 (by omega)]) (Nat.le_refl _)) ((eN _ (by omega)).trans r3) ((eN _ (by omega)).trans r4) (fun s => by rw [eN _ (by omega)]; exact r5 s) ((eN _ (by omega)).trans r6) (fun j hj => by
        obtain ⟨x1, x2, x3, x4⟩ := r7 j hj
        exact ⟨(eN _ (by omega)).trans x1, (eN _ (by omega)).trans x2, fun hu => (eN _ (by omega)).trans (x3 hu), fun s2 c2 hu => (eN _ (by omega)).trans (x4 s2 c2 hu)⟩))
    exact hup
end IR
end
