section O2
/-- a change of the row's head -/
theorem Rbook_c {C C' : Nat → Nat → Int32} {σ σ' : Nat → Int32} (hC : C' 7 5 = C 7 5 ∧ ∀ a, 8 ≤ a → a ≤ 12 → C' a = C a) (h2 : σ' 2 = σ 2) (h : ∀ j, 190 ≤ j → j < 790 → σ' j = σ j) (hE : nt σ 2 ≤ 120) (R : Rbook C σ) : Rbook C' σ' := by
  obtain ⟨r1, r2⟩ := R
  refine ⟨by rw [hC.1, r1, h2], fun e he => ?_⟩
  rw [nt_eq h2] at he
  rw [hC.2 8 (by omega) (by omega), hC.2 9 (by omega) (by omega), hC.2 10 (by omega) (by omega), hC.2 11 (by omega) (by omega), hC.2 12 (by omega) (by omega), h (190 + e) (by omega) (by omega), h (310 + e) (by omega) (by omega), h (430 + e) (by omega) (by omega), h (550 + e) (by omega) (by omega), h (670 + e) (by omega) (by omega)]
  exact r2 e he
theorem wBook_c {σ σ' : Nat → Int32} (h1 : σ' 1 = σ 1) (h2 : σ' 2 = σ 2) (h : ∀ j, 190 ≤ j → j < 790 → σ' j = σ j) (hE : nt σ 2 ≤ 120) (W : wBook σ) : wBook σ' := by
  intro e he
  rw [nt_eq h2] at he
  rw [nt_eq h1, nt_eq h2, h (190 + e) (by omega) (by omega), h (310 + e) (by omega) (by omega), h (430 + e) (by omega) (by omega), h (550 + e) (by omega) (by omega), h (670 + e) (by omega) (by omega)]
  exact W e he
theorem Tree_c {σ σ' τ : Nat → Int32} (h5 : σ' 5 = σ 5) (h9 : σ' 9 = σ 9) (h : ∀ j, 116 ≤ j → j < 164 → σ' j = σ j) (T : Tree σ τ) : Tree σ' τ := by
  obtain ⟨t1, t2, t3⟩ := T
  refine ⟨fun i hi => ?_, fun i j hi hj => ?_, fun c hc => ?_⟩
  · rw [nt_eq h5] at hi
    obtain ⟨c, c1, c2, c3, c4⟩ := t1 i hi
    exact ⟨c, c1, c2, by rw [h9]; exact c3, by rw [h9, h (116 + c) (by omega) (by omega)]; exact c4⟩
  · rw [nt_eq h5] at hi hj
    exact t2 i j hi hj
  · rw [nt_eq h5, h (116 + c) (by omega) (by omega)]
    exact t3 c hc
theorem chR_c {σ σ' : Nat → Int32} (h : ∀ j, 790 ≤ j → j < 2140 → σ' j = σ j) {r : Nat} (hr : r < 9) (h8 : nt σ (800 + r) ≤ 120) : chR σ' r = chR σ r := by
  funext s
  unfold chR
  rw [nt_eq (h (800 + r) (by omega) (by omega))]
  by_cases c : s < nt σ (800 + r)
  · rw [if_pos c, if_pos c, h _ (by omega) (by omega)]
  · rw [if_neg c, if_neg c]
theorem Rrule_c {C C' : Nat → Nat → Int32} {σ σ' : Nat → Int32} (hC : C' 14 9 = C 14 9 ∧ ∀ a, 16 ≤ a → a ≤ 22 → C' a = C a) (h3 : σ' 3 = σ 3) (h : ∀ j, 790 ≤ j → j < 2140 → σ' j = σ j) (hR : nt σ 3 ≤ 9) (R : Rrule C σ) : Rrule C' σ' := by
  have R := Rrule_congr hC.1 hC.2 R
  obtain ⟨r1, r2⟩ := R
  refine ⟨by rw [r1, h3], fun r hr => ?_⟩
  rw [nt_eq h3] at hr
  obtain ⟨a1, a2, a3, l, l1, l2, l3, l4, l5⟩ := r2 r hr
  have e8 := h (800 + r) (by omega) (by omega)
  refine ⟨by rw [h _ (by omega) (by omega)]; exact a1, by rw [h _ (by omega) (by omega)]; exact a2, by rw [e8]; exact a3, l, l1, l2, l3, by rw [h _ (by omega) (by omega)]; exact l4, fun j hj => ?_⟩
  obtain ⟨m1, m2, m3, m4, m5⟩ := l5 j hj
  have hch := chR_c h (r := r) (by omega) (by have := (nt_inb a3).2; omega)
  rw [nt_eq e8, hch]
  refine ⟨?_, m2, m3, m4, m5⟩
  obtain ⟨x1, x2, x3, x4⟩ := m1
  exact ⟨by rw [h _ (by omega) (by omega)]; exact x1, by rw [h _ (by omega) (by omega)]; exact x2, fun hu => by rw [h _ (by omega) (by omega)]; exact x3 hu, fun s2 c2 hu => by rw [h _ (by omega) (by omega)]; exact x4 s2 c2 hu⟩
variable {n : Nat} {M : Mem}
/-- a change of a number at the row's head that arrears don't look at -/
theorem Ag_head {σ : Nat → Int32} {j : Nat} {v : Int32} (hj : j = 0 ∨ j = 4 ∨ j = 6 ∨ j = 7 ∨ j = 8 ∨ (10 ≤ j ∧ j < 116) ∨ (2140 ≤ j ∧ j < 2280)) (hR : nt σ 3 ≤ 9) : Ag σ (upd σ j v) := by
  have e : ∀ i, i ≠ j → upd σ j v i = σ i := fun i hi => if_neg hi
  refine ⟨⟨e 2 (by omega), e 3 (by omega), e 9 (by omega)⟩, fun i h1 h2 => e i (by omega), fun r hr => ⟨e _ (by omega), e _ (by omega), e _ (by omega), fun s hs => e _ (by omega), fun k hk => ⟨e _ (by omega), e _ (by omega), e _ (by omega)⟩⟩, fun i h => e i (by omega)⟩
theorem op_month : Op_month Rel := by
  intro n M v hn H
  have W := Rel_W hn H
  have hR : nt (M.1 95) 3 ≤ 9 := by have := (nt_inb W.1.2.2.2.1).2; omega
  have hE : nt (M.1 95) 2 ≤ 120 := by have := (nt_inb W.1.2.2.1).2; omega
  have e16 : M.1 1 6 = M.1 95 0 := H.1.2.2.2.2.1
  by_cases c : wthn v (M.1 95 0) 120 = true
  · refine ⟨M.1 95 0, wI M 1 6 v, wI (wI M 1 6 v) 95 0 v, ?_, ?_, ?_⟩
    · unfold f_CF_month_0 jv_
      rw [e16, if_pos c]
    · unfold f_Mo_month_94 jv_
      rw [e_Mo_in, Option.bind_some, show (wI M 1 6 v).1 95 0 = M.1 95 0 from rfl, if_pos c]
    · obtain ⟨h1, h2, h3, k, k1, k2, k3, k4, k5⟩ := Rel_mono H (show n ≤ n + 1 by omega)
      obtain ⟨⟨r1, r2, r3, r4, r5⟩, q2, q3, q4, q5, q6, q7, q8, q9, q10, q11, q12⟩ := h1
      have hrow : (wI (wI M 1 6 v) 95 0 v).1 95 = upd (M.1 95) 0 v := wI_at _ _ _ _
      have eC : ∀ a, a ≠ 1 → a ≠ 95 → (wI (wI M 1 6 v) 95 0 v).1 a = M.1 a := fun a ha hb => by rw [rdk hb, rdk ha]
      have eσ : ∀ j, j ≠ 0 → upd (M.1 95) 0 v j = M.1 95 j := fun j hj => if_neg hj
      have h00 : upd (M.1 95) 0 v 0 = v := if_pos rfl
      have hv : inb v 121 = true := by
        obtain ⟨e0, l0⟩ := nt_inb W.1.1
        have := wthn_iff.mp c
        rw [e0, nI_toI (by omega), show (120 : Int32).toInt = 120 from rfl] at this
        exact inb_iff.mpr ⟨by omega, by omega⟩
      have hCv := Cv_ag (M := M) (M' := wI (wI M 1 6 v) 95 0 v) (k := k) (by rw [hrow]; exact Ag_head (.inl rfl) hR) W (by rw [hrow]; exact eσ 1 (by decide)) (eC 108 (by decide) (by decide)) (eC 109 (by decide) (by decide)) (eC 110 (by decide) (by decide)) (eC 111 (by decide) (by decide)) k4 k5
      refine ⟨?_, ?_, ?_, k, k1, k2, ?_, hCv.1, hCv.2⟩
      · rw [hrow]
        refine ⟨⟨?_, ?_, ?_, ?_, ?_⟩, ?_, ?_, ?_, ?_, ?_, ?_, ?_, ?_, ?_, ?_, ?_⟩
        · exact Rbook_c ⟨by rw [eC 7 (by decide) (by decide)], fun a h1 h2 => eC a (by omega) (by omega)⟩ (eσ 2 (by decide)) (fun j h1 h2 => eσ j (by omega)) hE r1
        · obtain ⟨x1, x2, x3, x4⟩ := r2
          refine ⟨by rw [eC 2 (by decide) (by decide), eσ 1 (by decide)]; exact x1, by rw [eC 2 (by decide) (by decide), eσ 9 (by decide)]; exact x2, fun c hc => ?_, fun f hf => ?_⟩
          · rw [eC 3 (by decide) (by decide), eC 4 (by decide) (by decide), eσ _ (by omega), eσ _ (by omega)]; exact x3 c hc
          · rw [eC 5 (by decide) (by decide), eC 6 (by decide) (by decide), eσ _ (by omega), eσ _ (by omega)]; exact x4 f hf
        · obtain ⟨x1, x2, x3, x4, x5⟩ := r3
          refine ⟨by rw [eC 24 (by decide) (by decide), eσ 5 (by decide)]; exact x1, by rw [eC 24 (by decide) (by decide), eσ 7 (by decide)]; exact x2, by rw [eC 24 (by decide) (by decide), eσ 8 (by decide)]; exact x3, fun c hc => ?_, ?_⟩
          · rw [eC 25 (by decide) (by decide), eσ _ (by omega)]; exact x4 c hc
          · rw [eC 26 (by decide) (by decide)]
            exact Tree_c (eσ 5 (by decide)) (eσ 9 (by decide)) (fun j h1 h2 => eσ j (by omega)) x5
        · exact Rrule_c ⟨by rw [eC 14 (by decide) (by decide)], fun a h1 h2 => eC a (by omega) (by omega)⟩ (eσ 3 (by decide)) (fun j h1 h2 => eσ j (by omega)) hR r4
        · intro k hk
          rw [eC 37 (by decide) (by decide), eC 38 (by decide) (by decide), eσ _ (by omega), eσ _ (by omega)]; exact r5 k hk
        · obtain ⟨x1, x2⟩ := q2
          refine ⟨by rw [eC 14 (by decide) (by decide), eσ 4 (by decide)]; exact x1, fun j hj => ?_⟩
          rw [eC 15 (by decide) (by decide), eσ _ (by omega)]; exact x2 j hj
        · obtain ⟨x1, x2⟩ := q3
          refine ⟨by rw [eC 29 (by decide) (by decide), eσ 6 (by decide)]; exact x1, fun j hj => ?_⟩
          rw [eC 30 (by decide) (by decide), eC 31 (by decide) (by decide), eσ _ (by omega), eσ _ (by omega)]; exact x2 j hj
        · unfold Rloan
          rw [eC 36 (by decide) (by decide), eσ 10 (by decide), eσ 11 (by decide), eσ 12 (by decide), eσ 13 (by decide), eσ 14 (by decide), eσ 15 (by decide)]; exact q4
        · rw [rdk (by decide), rde, h00]
        · obtain ⟨x0, x1⟩ := q6
          unfold wNum
          rw [h00, eσ 1 (by decide), eσ 2 (by decide), eσ 3 (by decide), eσ 4 (by decide), eσ 5 (by decide), eσ 6 (by decide), eσ 7 (by decide), eσ 8 (by decide), eσ 9 (by decide)]
          exact ⟨hv, x1⟩
        · rw [eσ 3 (by decide)]; exact q7
        · exact wBook_c (eσ 1 (by decide)) (eσ 2 (by decide)) (fun j h1 h2 => eσ j (by omega)) hE q8
        · obtain ⟨x1, x2, x3⟩ := q9
          refine ⟨fun c hc => ?_, fun f hf => ?_, fun c hc => ?_⟩
          · rw [eσ _ (by omega), eσ _ (by omega)]; exact x1 c hc
          · rw [nt_eq (eσ 1 (by decide))] at hf
            rw [eσ _ (by omega), eσ _ (by omega)]; exact x2 f hf
          · rw [eσ _ (by omega)]; exact x3 c hc
        · intro j hj
          rw [eσ _ (by omega)]; exact q10 j hj
        · obtain ⟨x1, x2⟩ := q11
          refine ⟨fun i hi => ?_, fun i j hi hj => ?_⟩
          · rw [nt_eq (eσ 6 (by decide))] at hi
            have e := eσ (2260 + i) (by omega)
            rw [e, eσ _ (by omega), nt_eq e, eσ _ (by omega)]; exact x1 i hi
          · rw [nt_eq (eσ 6 (by decide))] at hi hj
            rw [eσ _ (by omega), eσ _ (by omega)]; exact x2 i j hi hj
        · obtain ⟨x1, x2, x3⟩ := q12
          refine ⟨fun k hk => ?_, ?_, fun f m hf1 hf2 hm => ?_⟩
          · rw [eσ _ (by omega), eσ _ (by omega)]; exact x1 k hk
          · rw [eσ 10 (by decide), eσ 11 (by decide), eσ 12 (by decide), eσ 13 (by decide), eσ 14 (by decide), eσ 15 (by decide)]; exact x2
          · rw [nt_eq (eσ 1 (by decide))] at hf1
            rw [eσ _ (by omega)]; exact x3 f m hf1 hf2 hm
      · rw [eC 0 (by decide) (by decide), eC 94 (by decide) (by decide)]; exact h2
      · rw [eC 94 (by decide) (by decide), eC 96 (by decide) (by decide)]
        rcases h3 with h | ⟨h, h'⟩
        · exact .inl h
        · refine .inr ⟨h, RS1_congr (fun a i ha => ?_) h'⟩
          show (wI (wI M 1 6 v) 95 0 v).1 (a + 38) i = M.1 (a + 38) i
          rw [eC (a + 38) (by omega) (by omega)]
      · rw [eC 94 (by decide) (by decide)]; exact k3
  · refine ⟨-2, M, M, ?_, ?_, Rel_mono H (by omega)⟩
    · unfold f_CF_month_0 jv_
      rw [e16, if_neg c]
    · unfold f_Mo_month_94 jv_
      rw [e_Mo_in, Option.bind_some, if_neg c]
end O2
