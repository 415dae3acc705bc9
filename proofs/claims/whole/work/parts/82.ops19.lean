section O19
theorem pR_cl {ch : Nat → Int32} {L : Nat} : ∀ (k s : Nat) (l : List CL), pR ch L k s = .inr l → ∀ (j : Nat) (h : j < l.length), ∃ s0 s', pCl ch s0 = .inr (s', l[j].2)
  | 0, s, l, h => by cases h
  | k + 1, s, l, h => by
    unfold pR at h
    cases hp : pCl ch s with
    | inl e => rw [hp] at h; cases h
    | inr q =>
      rw [hp] at h
      simp only [Sum.elim_inr] at h
      by_cases c : L ≤ q.1
      · rw [if_pos c] at h
        have := Sum.inr.inj h
        subst this
        intro j hj
        have hj0 : j = 0 := by
          have : j < 1 := hj
          omega
        subst hj0
        exact ⟨s, q.1, hp⟩
      · rw [if_neg c] at h
        by_cases g : ch q.1 = 59 ∧ 1 ≤ k
        · rw [if_pos g] at h
          cases hr : pR ch L k (q.1 + 1) with
          | inl e => rw [hr] at h; cases h
          | inr l' =>
            rw [hr] at h
            simp only [Sum.elim_inr] at h
            have := Sum.inr.inj h
            subst this
            intro j hj
            cases j with
            | zero => exact ⟨s, q.1, hp⟩
            | succ j =>
              obtain ⟨a, b, h1⟩ := pR_cl k _ l' hr j (by have : j + 1 < l'.length + 1 := hj; omega)
              exact ⟨a, b, h1⟩
        · rw [if_neg g] at h; cases h
/-- what a new rule makes of class and row -/
theorem Ru1_new {C : Nat → Nat → Int32} {σ ch : Nat → Int32} {z L : Nat} {mo : Int32} {l : List CL} (hL : L ≤ 120) (hl : pR ch L 8 0 = .inr l) (h1 : 1 ≤ l.length) (h8 : l.length ≤ 8) (hmo : inb mo 121 = true) (c18 : C 18 z = mo) (c17 : C 17 z = nI l.length) (cc : ∀ (j : Nat) (h : j < l.length), Rcl C (8 * z + j) (120 * z) (120 * z + 120) l[j].1 l[j].2.2.1 l[j].2.2.2) (s0 : σ (790 + z) = mo) (s8 : σ (800 + z) = nI L) (sc : ∀ s, ch s = if s < L then σ (810 + 120 * z + s) else -1) (s18 : σ (1890 + z) = nI l.length) (sm : ∀ (j : Nat) (h : j < l.length), Mcl σ (8 * z + j) l[j].1 l[j].2.1 l[j].2.2.2) : Ru1 C σ z := by
  have n8 : nt σ (800 + z) = L := by unfold nt; rw [s8]; exact nI_cl (by omega)
  have hch : chR σ z = ch := by
    funext s
    unfold chR
    rw [n8, sc s]
  refine ⟨by rw [c18, s0], by rw [s0]; exact hmo, by rw [s8]; exact inb_t (by omega) (by omega), l, h1, h8, c17, s18, fun j hj => ?_⟩
  obtain ⟨a, b, h2⟩ := pR_cl 8 0 l hl j hj
  obtain ⟨-, -, p3, p4, p5⟩ := pCl_le (L := L) (fun s hs => by rw [sc s, if_neg (by omega)]) hL (s := a) (s' := b) (s1 := l[j].2.1) (c := l[j].2.2.1) (u := l[j].2.2.2) h2
  rw [n8, hch]
  exact ⟨sm j hj, cc j hj, p3, p4, p5⟩

theorem Rel_same2 {n : Nat} {M M' : Mem} (hn : n < 512) (H : Rel n M) (R : RS1 (n + 1) M'.1 (M'.1 95)) (A : Ag (M.1 95) (M'.1 95)) (h1 : M'.1 95 1 = M.1 95 1) (e : ∀ a, a = 0 ∨ (39 ≤ a ∧ a ≤ 76) ∨ a = 96 ∨ (108 ≤ a ∧ a ≤ 111) → M'.1 a = M.1 a) (e94 : ∀ j, j = 3 ∨ j = 21 → M'.1 94 j = M.1 94 j) : Rel (n + 1) M' := by
  have W := Rel_W hn H
  obtain ⟨-, h2, h3, k, k1, k2, k3, k4, k5⟩ := H
  have hCv := Cv_ag A W h1 (e 108 (by omega)) (e 109 (by omega)) (e 110 (by omega)) (e 111 (by omega)) k4 k5
  refine ⟨R, ?_, ?_, k, k1, by omega, ?_, hCv.1, hCv.2⟩
  · rw [e 0 (by omega), e94 3 (by omega)]; exact h2
  · rw [e94 3 (by omega), e 96 (by omega)]
    rcases h3 with h | ⟨h, h'⟩
    · exact .inl h
    · refine .inr ⟨h, RS1_congr (fun a i ha => ?_) (RS1_mono h' (Nat.le_succ n))⟩
      show M'.1 (a + 38) i = M.1 (a + 38) i
      rw [e (a + 38) (by omega)]
  · rw [e94 21 (by omega)]; exact k3

theorem op_text : Op_text Rel := by
  intro n M v0 hn H
  have W := Rel_W hn H
  obtain ⟨b1, b2, b3, b6⟩ := Rel_b H
  obtain ⟨gB, gL, gI, gR, gP, gT, gK, gO, gN⟩ := RS1_gs H.1
  have hno : ∀ x, f_CF_text_0 v0 M = some (x, M) → f_Mo_text_94 v0 M = some (x, M) → ∃ r M1 M2, f_CF_text_0 v0 M = some (r, M1) ∧ f_Mo_text_94 v0 M1 = some (r, M2) ∧ Rel (n + 1) M2 := fun x h1 h2 => ⟨x, M, M, h1, h2, Rel_mono H (by omega)⟩
  by_cases c0 : wthn v0 0 120 = true
  rotate_left
  · exact hno (-2) (by unfold f_CF_text_0; rw [if_neg c0]) (by unfold f_Mo_text_94; rw [mo_month, Option.bind_some, if_neg c0])
  obtain ⟨e3, l3⟩ := nt_inb gN.2.2
  obtain ⟨e4, l4⟩ := nt_inb gN.2.1.2.2.2.2.1
  by_cases c1 : nt (M.1 95) 3 = 8
  · refine hno (-4) ?_ ?_
    · unfold f_CF_text_0
      rw [if_pos c0, gR.1, e3, show (8 : Int32) = nI 8 from rfl, dlt_f (by omega) (by omega), ite_ff]
    · unfold f_Mo_text_94
      rw [mo_month, Option.bind_some, if_pos c0, e3, c1, show (8 : Int32) = nI 8 from rfl, if_pos (decide_eq_true rfl)]
  have hv := (w_inb (a := 0) (b := 120) (by omega) (by omega) c0).1
  have hLe : nt (M.1 95) 4 ≤ 120 := by omega
  have hch : ∀ s, (fun s => if s < nt (M.1 95) 4 then M.1 95 (2140 + s) else -1) s = if s < nt (M.1 95) 4 then M.1 95 (2140 + s) else -1 := fun s => rfl
  have hT : TC M (nt (M.1 95) 4) (fun s => if s < nt (M.1 95) 4 then M.1 95 (2140 + s) else -1) := by
    refine ⟨gT.1.1.trans e4, hLe, fun s => ?_⟩
    by_cases g : s < nt (M.1 95) 4
    · rw [if_pos g]; dsimp only; rw [if_pos g, gT.1.2 s (by omega)]
    · rw [if_neg g]; exact if_neg g
  generalize hz : nt (M.1 95) 3 = z at *
  generalize hL : nt (M.1 95) 4 = L at *
  generalize hchd : (fun s => if s < L then M.1 95 (2140 + s) else -1) = ch at *
  have lz : z < 8 := by omega
  obtain ⟨mk1, mk2⟩ := e_makeRule (M := M) (z := z) (by omega) hT (gR.1.trans e3) v0
  have hM0 : ∀ X : Mem, X.1 95 = M.1 95 → f_Mo_text_94 v0 X = (f_Mo_readsRule_94 (nI z) v0 X).bind fun q4 => if q4.1 then (jv_ (wI q4.2 95 3 ((q4.2.1 95 3) + 1)) fun M6 => jv_ (wI M6 94 21 ((M6.1 94 21) + 1)) fun M7 => some ((M7.1 95 3) - 1, M7)) else (some ((-10) - (q4.2.1 94 7), q4.2)) := by
    intro X hX
    unfold f_Mo_text_94
    rw [mo_month, Option.bind_some, if_pos c0, hX, e3, show (8 : Int32) = nI 8 from rfl, d_eq (by omega) (by omega), if_neg (by rw [decide_eq_true_eq]; omega)]
  cases hp : pR ch L 8 0 with
  | inl e =>
    obtain ⟨M1, m1, m2, m3⟩ := mk1 e hp
    have k1 : ∀ a, (a ≠ 77 ∧ a ≠ 78 ∧ a ≠ 14 ∧ ¬ (16 ≤ a ∧ a ≤ 22)) → M1.1 a = M.1 a := fun a ha => m3.row (fun i => by
      unfold sMk sMj
      simp only [Bool.or_eq_false_iff, Bool.and_eq_false_iff, beq_eq_false_iff_ne, decide_eq_false_iff_not]
      omega)
    have e95 : M1.1 95 = M.1 95 := k1 95 (by omega)
    obtain ⟨he, M2, r1, r2, r3, r4⟩ := (e_readsRule (M := M1) (z := z) (L := L) (ch := ch) (by omega) hLe (by rw [e95]; exact e4) (by rw [e95]; exact hch) v0).1 e hp
    have k2 : ∀ a, (a ≠ 94 ∧ a ≠ 95) → M2.1 a = M1.1 a := fun a ha => r4.row (fun i => by
      unfold sRl sRj
      simp only [Bool.or_eq_false_iff, Bool.and_eq_false_iff, beq_eq_false_iff_ne, decide_eq_false_iff_not]
      omega)
    have eC : ∀ a, (a ≠ 77 ∧ a ≠ 78 ∧ a ≠ 14 ∧ ¬ (16 ≤ a ∧ a ≤ 22) ∧ a ≠ 94 ∧ a ≠ 95) → M2.1 a = M.1 a := fun a ha => (k2 a (by omega)).trans (k1 a (by omega))
    have eσ : ∀ j, (j ≠ 4 ∧ j ≠ 790 + z ∧ j ≠ 800 + z ∧ j ≠ 1890 + z ∧ ¬ (810 + 120 * z ≤ j ∧ j < 930 + 120 * z) ∧ ¬ (1900 + 8 * z ≤ j ∧ j < 1908 + 8 * z) ∧ ¬ (1980 + 8 * z ≤ j ∧ j < 1988 + 8 * z) ∧ ¬ (2060 + 8 * z ≤ j ∧ j < 2068 + 8 * z)) → M2.1 95 j = M.1 95 j := fun j hj => by
      rw [← e95]
      refine r4.at_ ?_
      unfold sRl sRj
      simp only [Bool.or_eq_false_iff, Bool.and_eq_false_iff, beq_eq_false_iff_ne, decide_eq_false_iff_not]
      omega
    have e94 : ∀ j, (j ≠ 6 ∧ j ≠ 7 ∧ j ≠ 8) → M2.1 94 j = M.1 94 j := fun j hj => by
      rw [← k1 94 (by omega)]
      refine r4.at_ ?_
      unfold sRl sRj
      simp only [Bool.or_eq_false_iff, Bool.and_eq_false_iff, beq_eq_false_iff_ne, decide_eq_false_iff_not]
      omega
    have e14 : ∀ j, (j ≠ 1) → M2.1 14 j = M.1 14 j := fun j hj => by
      rw [k2 14 (by omega)]
      refine m3.at_ ?_
      unfold sMk sMj
      simp only [Bool.or_eq_false_iff, Bool.and_eq_false_iff, beq_eq_false_iff_ne, decide_eq_false_iff_not]
      omega
    have er : ∀ a i, ((16 ≤ a ∧ a ≤ 22) ∧ (a = 16 → i < 120 * z) ∧ (19 ≤ a → i < 8 * z) ∧ i ≠ z ∨ (19 ≤ a ∧ a ≤ 22 ∧ i < 8 * z) ∨ (a = 16 ∧ i < 120 * z)) → M2.1 a i = M.1 a i := fun a i ha => by
      rw [k2 a (by omega)]
      refine m3.at_ ?_
      unfold sMk sMj
      simp only [Bool.or_eq_false_iff, Bool.and_eq_false_iff, beq_eq_false_iff_ne, decide_eq_false_iff_not]
      omega
    refine ⟨-10 - nI e, M1, M2, ?_, ?_, Rel_same2 hn H ?_ ?_ ?_ ?_ ?_⟩
    · unfold f_CF_text_0
      rw [if_pos c0, gR.1, e3, show (8 : Int32) = nI 8 from rfl, dlt_t (by omega) (by omega), ite_tt, m1, Option.bind_some]
      dsimp only
      rw [nI_nneg (by omega), ite_ff]
    · rw [hM0 M1 e95, r1, Option.bind_some]
      dsimp only
      rw [ite_ff, r2]
    · refine RS1_mk ?_ ?_ ?_ ?_ ?_ ?_ ?_ ?_ ?_
      · exact GB_s (fun a h1 h2 => eC a (by omega)) (eσ 1 (by omega)) (eσ 2 (by omega)) (fun j h1 h2 => eσ j (by omega)) b2 gB
      · exact GL_s (fun a h1 h2 => eC a (by omega)) (eσ 1 (by omega)) (eσ 9 (by omega)) (fun j h1 h2 => eσ j (by omega)) b1 gL
      · exact Rline_s (fun a h1 h2 => eC a (by omega)) (eσ 5 (by omega)) (eσ 7 (by omega)) (eσ 8 (by omega)) (eσ 9 (by omega)) (fun j h1 h2 => eσ j (by omega)) gI
      · have hru : ∀ r, r < z → Ru1 M2.1 (M2.1 95) r := fun r hr => Ru1_cp (er 17 r (by omega)) (er 18 r (by omega)) (fun a k h1 h2 h3 h4 => er a k (by omega)) (fun i h1 h2 => er 16 i (by omega)) (by omega) (eσ _ (by omega)) (eσ _ (by omega)) (fun s hs => eσ _ (by omega)) (eσ _ (by omega)) (fun k h1 h2 => ⟨eσ _ (by omega), eσ _ (by omega), eσ _ (by omega)⟩) (gR.2 r (by rw [hz]; exact hr))
        refine ⟨?_, fun r hr => hru r ?_⟩
        · rw [e14 9 (by omega), eσ 3 (by omega)]; exact gR.1
        · rw [nt_eq (eσ 3 (by omega)), hz] at hr; exact hr
      · exact GP_s (eC 37 (by omega)) (eC 38 (by omega)) (eσ 1 (by omega)) (fun j h1 h2 => eσ j (by omega)) gP
      · obtain ⟨⟨x1, x2⟩, x3⟩ := gT
        refine ⟨⟨?_, fun j hj => ?_⟩, fun j hj => ?_⟩
        · rw [k2 14 (by omega), m2, r3]
        · rw [eC 15 (by omega), eσ _ (by omega)]; exact x2 j hj
        · rw [eσ _ (by omega)]; exact x3 j hj
      · exact GK_s (by rw [eC 29 (by omega)]) (eC 30 (by omega)) (eC 31 (by omega)) (eσ 6 (by omega)) (fun j h1 h2 => eσ j (by omega)) (fun j h1 h2 => eσ j (by omega)) b6 gK
      · exact GO_s (eC 36 (by omega)) (fun j h1 h2 => eσ j (by omega)) gO
      · obtain ⟨x1, ⟨z0, z1, z2, z3, z4, z5, z6, z7, z8, z9⟩, x3⟩ := gN
        refine ⟨?_, ⟨?_, ?_, ?_, ?_, ?_, ?_, ?_, ?_, ?_, ?_⟩, ?_⟩
        · rw [eC 1 (by omega), eσ 0 (by omega)]; exact x1
        · rw [eσ 0 (by omega)]; exact z0
        · rw [eσ 1 (by omega)]; exact z1
        · rw [eσ 2 (by omega)]; exact z2
        · rw [eσ 3 (by omega)]; exact z3
        · rw [r3]; rfl
        · rw [eσ 5 (by omega)]; exact z5
        · rw [eσ 6 (by omega)]; exact z6
        · rw [eσ 7 (by omega)]; exact z7
        · rw [eσ 8 (by omega)]; exact z8
        · rw [eσ 9 (by omega)]; exact z9
        · rw [eσ 3 (by omega)]; exact x3
    · exact ⟨⟨eσ 2 (by omega), eσ 3 (by omega), eσ 9 (by omega)⟩, fun j h1 h2 => eσ j (by omega), fun r hr => ⟨eσ _ (by omega), eσ _ (by omega), eσ _ (by omega), fun s hs => eσ _ (by omega), fun k hk => ⟨eσ _ (by omega), eσ _ (by omega), eσ _ (by omega)⟩⟩, fun j h => eσ j (by omega)⟩
    · exact eσ 1 (by omega)
    · intro a ha; exact eC a (by omega)
    · intro j hj; exact e94 j (by omega)
  | inr l =>
    obtain ⟨l1, l8, M1, m1, m2, m18, m17, mc, m3⟩ := mk2 l hp
    have k1 : ∀ a, (a ≠ 77 ∧ a ≠ 78 ∧ a ≠ 14 ∧ ¬ (16 ≤ a ∧ a ≤ 22)) → M1.1 a = M.1 a := fun a ha => m3.row (fun i => by
      unfold sMk sMj
      simp only [Bool.or_eq_false_iff, Bool.and_eq_false_iff, beq_eq_false_iff_ne, decide_eq_false_iff_not]
      omega)
    have e95 : M1.1 95 = M.1 95 := k1 95 (by omega)
    have e149 : M1.1 14 9 = nI z := by
      rw [m3.at_ (by unfold sMk sMj; simp only [Bool.or_eq_false_iff, Bool.and_eq_false_iff, beq_eq_false_iff_ne, decide_eq_false_iff_not]; omega)]
      exact gR.1.trans e3
    have e95' : (wI M1 14 9 (nI (z + 1))).1 95 = M.1 95 := by rw [rdk (by omega)]; exact e95
    obtain ⟨M2, r1, r2, r3, r4, r5, r6, r7, r8⟩ := (e_readsRule (M := wI M1 14 9 (nI (z + 1))) (z := z) (L := L) (ch := ch) (by omega) hLe (by rw [e95']; exact e4) (by rw [e95']; exact hch) v0).2 l hp
    have k2 : ∀ a, (a ≠ 94 ∧ a ≠ 95 ∧ a ≠ 14) → M2.1 a = M1.1 a := fun a ha => by
      rw [r8.row (a := a) (fun i => by
        unfold sRl sRj
        simp only [Bool.or_eq_false_iff, Bool.and_eq_false_iff, beq_eq_false_iff_ne, decide_eq_false_iff_not]
        omega), rdk (by omega)]
    have k14 : ∀ j, M2.1 14 j = (wI M1 14 9 (nI (z + 1))).1 14 j := fun j => r8.at_ (by
      unfold sRl sRj
      simp only [Bool.or_eq_false_iff, Bool.and_eq_false_iff, beq_eq_false_iff_ne, decide_eq_false_iff_not]
      omega)
    have e23 : M2.1 95 3 = nI z := by
      rw [r8.at_ (a := 95) (i := 3) (by unfold sRl sRj; simp only [Bool.or_eq_false_iff, Bool.and_eq_false_iff, beq_eq_false_iff_ne, decide_eq_false_iff_not]; omega), e95']; exact e3
    have eC : ∀ a, (a ≠ 77 ∧ a ≠ 78 ∧ a ≠ 14 ∧ ¬ (16 ≤ a ∧ a ≤ 22) ∧ a ≠ 94 ∧ a ≠ 95) → (wI (wI M2 95 3 (nI (z + 1))) 94 21 (M.1 94 21 + 1)).1 a = M.1 a := fun a ha => by
      rw [rdk (by omega), rdk (by omega)]; exact (k2 a (by omega)).trans (k1 a (by omega))
    have eσ2 : ∀ j, (j ≠ 4 ∧ j ≠ 790 + z ∧ j ≠ 800 + z ∧ j ≠ 1890 + z ∧ ¬ (810 + 120 * z ≤ j ∧ j < 930 + 120 * z) ∧ ¬ (1900 + 8 * z ≤ j ∧ j < 1908 + 8 * z) ∧ ¬ (1980 + 8 * z ≤ j ∧ j < 1988 + 8 * z) ∧ ¬ (2060 + 8 * z ≤ j ∧ j < 2068 + 8 * z)) → M2.1 95 j = M.1 95 j := fun j hj => by
      rw [← e95']
      refine r8.at_ ?_
      unfold sRl sRj
      simp only [Bool.or_eq_false_iff, Bool.and_eq_false_iff, beq_eq_false_iff_ne, decide_eq_false_iff_not]
      omega
    have eN : ∀ j, j ≠ 3 → (wI (wI M2 95 3 (nI (z + 1))) 94 21 (M.1 94 21 + 1)).1 95 j = M2.1 95 j := fun j hj => by
      rw [rdk (by omega), rdi hj]
    have w3 : (wI (wI M2 95 3 (nI (z + 1))) 94 21 (M.1 94 21 + 1)).1 95 3 = nI (z + 1) := by
      rw [rdk (by omega), rde]
    have eσ : ∀ j, (j ≠ 3 ∧ j ≠ 4 ∧ j ≠ 790 + z ∧ j ≠ 800 + z ∧ j ≠ 1890 + z ∧ ¬ (810 + 120 * z ≤ j ∧ j < 930 + 120 * z) ∧ ¬ (1900 + 8 * z ≤ j ∧ j < 1908 + 8 * z) ∧ ¬ (1980 + 8 * z ≤ j ∧ j < 1988 + 8 * z) ∧ ¬ (2060 + 8 * z ≤ j ∧ j < 2068 + 8 * z)) → (wI (wI M2 95 3 (nI (z + 1))) 94 21 (M.1 94 21 + 1)).1 95 j = M.1 95 j := fun j hj => (eN j hj.1).trans (eσ2 j hj.2)
    have e94 : ∀ j, (j ≠ 6 ∧ j ≠ 7 ∧ j ≠ 8) → M2.1 94 j = M.1 94 j := fun j hj => by
      rw [← k1 94 (by omega), ← rdk (m := M1) (k := 14) (i := 9) (v := nI (z + 1)) (show 94 ≠ 14 by omega)]
      refine r8.at_ ?_
      unfold sRl sRj
      simp only [Bool.or_eq_false_iff, Bool.and_eq_false_iff, beq_eq_false_iff_ne, decide_eq_false_iff_not]
      omega
    have eR : ∀ a, (16 ≤ a ∧ a ≤ 22) → (wI (wI M2 95 3 (nI (z + 1))) 94 21 (M.1 94 21 + 1)).1 a = M1.1 a := fun a ha => by
      rw [rdk (by omega), rdk (by omega)]; exact k2 a (by omega)
    have er : ∀ a i, ((16 ≤ a ∧ a ≤ 22) ∧ (a = 16 → i < 120 * z) ∧ (19 ≤ a → i < 8 * z) ∧ i ≠ z ∨ (19 ≤ a ∧ a ≤ 22 ∧ i < 8 * z) ∨ (a = 16 ∧ i < 120 * z)) → (wI (wI M2 95 3 (nI (z + 1))) 94 21 (M.1 94 21 + 1)).1 a i = M.1 a i := fun a i ha => by
      rw [eR a (by omega)]
      refine m3.at_ ?_
      unfold sMk sMj
      simp only [Bool.or_eq_false_iff, Bool.and_eq_false_iff, beq_eq_false_iff_ne, decide_eq_false_iff_not]
      omega
    refine ⟨nI z, wI M1 14 9 (nI (z + 1)), wI (wI M2 95 3 (nI (z + 1))) 94 21 (M.1 94 21 + 1), ?_, ?_, Rel_new hn H ?_ (d := 1) (by omega) (by omega) ?_ ?_ ?_⟩
    · unfold f_CF_text_0 jv_
      rw [if_pos c0, gR.1, e3, show (8 : Int32) = nI 8 from rfl, dlt_t (by omega) (by omega), ite_tt, m1, Option.bind_some]
      dsimp only
      rw [if_pos m1_neg, e149, nI_one, rde, show nI (z + 1) - 1 = nI z from nI_subn (a := z + 1) (b := 1) (by omega) (by omega)]
    · rw [hM0 _ e95', r1, Option.bind_some]
      unfold jv_
      dsimp only
      rw [ite_tt, e23, nI_one, rdk (by omega), rde, rdk (by omega), e94 21 (by omega), show nI (z + 1) - 1 = nI z from nI_subn (a := z + 1) (b := 1) (by omega) (by omega)]
    · refine RS1_mk ?_ ?_ ?_ ?_ ?_ ?_ ?_ ?_ ?_
      · exact GB_s (fun a h1 h2 => eC a (by omega)) (eσ 1 (by omega)) (eσ 2 (by omega)) (fun j h1 h2 => eσ j (by omega)) b2 gB
      · exact GL_s (fun a h1 h2 => eC a (by omega)) (eσ 1 (by omega)) (eσ 9 (by omega)) (fun j h1 h2 => eσ j (by omega)) b1 gL
      · exact Rline_s (fun a h1 h2 => eC a (by omega)) (eσ 5 (by omega)) (eσ 7 (by omega)) (eσ 8 (by omega)) (eσ 9 (by omega)) (fun j h1 h2 => eσ j (by omega)) gI
      · have hru : ∀ r, r < z → Ru1 (wI (wI M2 95 3 (nI (z + 1))) 94 21 (M.1 94 21 + 1)).1 ((wI (wI M2 95 3 (nI (z + 1))) 94 21 (M.1 94 21 + 1)).1 95) r := fun r hr => Ru1_cp (er 17 r (by omega)) (er 18 r (by omega)) (fun a k h1 h2 h3 h4 => er a k (by omega)) (fun i h1 h2 => er 16 i (by omega)) (by omega) (eσ _ (by omega)) (eσ _ (by omega)) (fun s hs => eσ _ (by omega)) (eσ _ (by omega)) (fun k h1 h2 => ⟨eσ _ (by omega), eσ _ (by omega), eσ _ (by omega)⟩) (gR.2 r (by rw [hz]; exact hr))
        refine ⟨?_, fun r hr => ?_⟩
        · rw [rdk (by omega), rdk (by omega), k14 9, rde, w3]
        · have : nt ((wI (wI M2 95 3 (nI (z + 1))) 94 21 (M.1 94 21 + 1)).1 95) 3 = z + 1 := by
            unfold nt; rw [w3]; exact nI_cl (by omega)
          rw [this] at hr
          by_cases g : r < z
          · exact hru r g
          · rw [show r = z by omega]
            exact Ru1_new hLe hp l1 l8 hv (by rw [eR 18 (by omega)]; exact m18) (by rw [eR 17 (by omega)]; exact m17) (fun j hj => (mc j hj).keep (by rw [eR 19 (by omega)]) (by rw [eR 20 (by omega)]) (by rw [eR 21 (by omega)]) (by rw [eR 22 (by omega)]) (fun i _ _ => by rw [eR 16 (by omega)]) (Nat.le_refl _)) ((eN _ (by omega)).trans r3) ((eN _ (by omega)).trans r4) (fun s => by rw [eN _ (by omega)]; exact r5 s) ((eN _ (by omega)).trans r6) (fun j hj => by
              obtain ⟨x1, x2, x3, x4⟩ := r7 j hj
              exact ⟨(eN _ (by omega)).trans x1, (eN _ (by omega)).trans x2, fun hu => (eN _ (by omega)).trans (x3 hu), fun s2 c2 hu => (eN _ (by omega)).trans (x4 s2 c2 hu)⟩)
      · exact GP_s (eC 37 (by omega)) (eC 38 (by omega)) (eσ 1 (by omega)) (fun j h1 h2 => eσ j (by omega)) gP
      · obtain ⟨⟨x1, x2⟩, x3⟩ := gT
        refine ⟨⟨?_, fun j hj => ?_⟩, fun j hj => ?_⟩
        · rw [rdk (by omega), rdk (by omega), k14 1, rdi (by omega), m2, eN 4 (by omega), r2]
        · rw [eC 15 (by omega), eσ _ (by omega)]; exact x2 j hj
        · rw [eσ _ (by omega)]; exact x3 j hj
      · exact GK_s (by rw [eC 29 (by omega)]) (eC 30 (by omega)) (eC 31 (by omega)) (eσ 6 (by omega)) (fun j h1 h2 => eσ j (by omega)) (fun j h1 h2 => eσ j (by omega)) b6 gK
      · exact GO_s (eC 36 (by omega)) (fun j h1 h2 => eσ j (by omega)) gO
      · obtain ⟨x1, ⟨z0, z1, z2, z3, z4, z5, z6, z7, z8, z9⟩, x3⟩ := gN
        refine ⟨?_, ⟨?_, ?_, ?_, ?_, ?_, ?_, ?_, ?_, ?_, ?_⟩, ?_⟩
        · rw [eC 1 (by omega), eσ 0 (by omega)]; exact x1
        · rw [eσ 0 (by omega)]; exact z0
        · rw [eσ 1 (by omega)]; exact z1
        · rw [eσ 2 (by omega)]; exact z2
        · rw [w3]; exact inb_t (by omega) (by omega)
        · rw [eN 4 (by omega), r2]; rfl
        · rw [eσ 5 (by omega)]; exact z5
        · rw [eσ 6 (by omega)]; exact z6
        · rw [eσ 7 (by omega)]; exact z7
        · rw [eσ 8 (by omega)]; exact z8
        · rw [eσ 9 (by omega)]; exact z9
        · rw [w3]; exact inb_t (by omega) (by omega)
    · rw [rde]; rfl
    · rw [rdi (by omega), rdk (by omega), e94 3 (by omega)]
    · intro a ha; exact eC a (by omega)

end O19
