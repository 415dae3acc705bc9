section SY2
variable {ch : Nat → Int32} {L : Nat} {pc : Nat → Nat → PR (List Int32)}
theorem sy_term (hc : ∀ s, L ≤ s → ch s = -1) (hL : L ≤ 120) {s : Nat} (hs : s ≤ L) (hr : ∀ s', s ≤ s' → s' ≤ L → K2 ch L (pc 2 s') s') : Kr ch L 2 (pTerm ch cBi pc s) s := by
  intro W out hW
  unfold pTerm
  obtain ⟨f1, f2⟩ := hr s (Nat.le_refl _) hs W out
  cases hp : pc 2 s with
  | inl e =>
    refine ⟨fun e' h => ?_, fun s' c' h => by cases h⟩
    cases h; exact f1 e hp
  | inr q =>
    obtain ⟨s', c⟩ := q
    obtain ⟨g1, g2, g3⟩ := f2 s' c hp
    obtain ⟨r1, r2⟩ := sy_lpT (pc := pc) hc s (fun s' h1 h2 => hr (s' + 1) (by omega) (by omega)) 121 s' c (by omega) ⟨g2, by omega⟩ W out hW [] (out ++ c) (fun o ho => by cases ho) (by simp)
    have g3 : Gs ch (true, s, W, out) (false, s', [] ++ W, out ++ c) := g3
    refine ⟨fun e h => g3.fl (r1 e h), fun s'' c' h => ?_⟩
    obtain ⟨a1, a2, a3, O', out2, a4, a5, a6⟩ := r2 s'' c' h
    exact ⟨by omega, a2, a3, O', out2, g3.trans a4, a5, a6⟩
theorem sy_sum (hc : ∀ s, L ≤ s → ch s = -1) (hL : L ≤ 120) {s : Nat} (hs : s ≤ L) (hr : ∀ s', s ≤ s' → s' ≤ L → Kr ch L 2 (pc 1 s') s') : Kr ch L 1 (pSum ch cBi pc s) s := by
  intro W out hW
  unfold pSum
  obtain ⟨f1, f2⟩ := hr s (Nat.le_refl _) hs W out (fun w h => by have := hW w h; omega)
  cases hp : pc 1 s with
  | inl e =>
    refine ⟨fun e' h => ?_, fun s' c' h => by cases h⟩
    cases h; exact f1 e hp
  | inr q =>
    obtain ⟨s', c⟩ := q
    obtain ⟨g1, g2, g3, O, out1, g4, g5, g6⟩ := f2 s' c hp
    obtain ⟨r1, r2⟩ := sy_lpS (pc := pc) hc s (fun s' h1 h2 => hr (s' + 1) (by omega) (by omega)) 121 s' c (by omega) ⟨g2, by omega⟩ g3 W out hW O out1 (fun o ho => by have := g6 o ho; omega) g5
    refine ⟨fun e h => g4.fl (r1 e h), fun s'' c' h => ?_⟩
    obtain ⟨a1, a2, a3, O', out2, a4, a5, a6⟩ := r2 s'' c' h
    exact ⟨by omega, a2, a3, O', out2, g4.trans a4, a5, a6⟩
theorem rk_40 : rk 40 < 1 := by decide
theorem rk_256 : rk 256 < 1 := by decide
theorem sy_one (hc : ∀ s, L ≤ s → ch s = -1) {s : Nat} (hs : s ≤ L) (hr0 : s < L → Kr ch L 1 (pc 0 (s + 1)) (s + 1)) (hr3 : s < L → K3 ch L (pc 3 (s + 1)) (s + 1)) : K2 ch L (pOne ch cNu cNa pc s) s := by
  intro W out
  have hlt : ∀ c : Int32, ch s = c → c ≠ -1 → s < L := fun c h h2 => by
    apply Nat.lt_of_not_le
    intro h3
    rw [hc s h3] at h
    exact h2 h.symm
  unfold pOne
  by_cases c1 : wthn (ch s) 48 57 = true
  · rw [if_pos c1]
    have hsL : s < L := hlt _ rfl (fun h => by rw [h] at c1; exact absurd c1 (by decide))
    have n40 : ch s ≠ 40 := fun h => by rw [h] at c1; exact absurd c1 (by decide)
    have n91 : ch s ≠ 91 := fun h => by rw [h] at c1; exact absurd c1 (by decide)
    have hle := nmb_hi hc 3 (s + 1) (ch s - 48) (by omega)
    refine ⟨fun e h => by (cases h), fun s' c' h => ?_⟩
    cases h
    refine ⟨by omega, hle.2, Gs.one ?_⟩
    unfold sy syD
    dsimp only
    rw [if_pos rfl, if_neg (fun h => by rcases h with h | h; exact n40 h; exact n91 h), if_pos c1]; rfl
  · rw [if_neg c1]
    by_cases c2 : ch s = 40
    · rw [if_pos c2]
      have hsL := hlt _ c2 (by decide)
      have hstep : sy ch (true, s, W, out) = .inl (true, s + 1, 40 :: W, out) := by
        unfold sy syD
        dsimp only
        rw [if_pos rfl, if_pos (.inl c2), c2]; rfl
      obtain ⟨f1, f2⟩ := hr0 hsL (40 :: W) out (fun w hw => by cases hw; exact rk_40)
      cases hp : pc 0 (s + 1) with
      | inl e =>
        refine ⟨fun e' h => ?_, fun s' c' h => by cases h⟩
        cases h; exact (Gs.one hstep).fl (f1 e hp)
      | inr q =>
        obtain ⟨s', c⟩ := q
        obtain ⟨g1, g2, g3, O, out1, g4, g5, g6⟩ := f2 s' c hp
        have hcl := sy_close (W := W) g3 g6 rk_40 g5
        have hgo := (Gs.one hstep).trans g4
        show (∀ e, (if ch s' = 41 then Sum.inr (s' + 1, c) else Sum.inl s') = .inl e → _) ∧ ∀ s'' c', (if ch s' = 41 then Sum.inr (s' + 1, c) else Sum.inl s') = .inr (s'', c') → _
        by_cases c3 : ch s' = 41
        · rw [if_pos c3]
          refine ⟨fun e h => by (cases h), fun s'' c' h => ?_⟩
          cases h
          have : s' < L := by
            apply Nat.lt_of_not_le
            intro h3
            rw [hc s' h3] at c3
            exact absurd c3 (by decide)
          refine ⟨by omega, by omega, hgo.trans (Gs.one ?_)⟩
          rw [hcl, c3]; rfl
        · rw [if_neg c3]
          refine ⟨fun e h => ?_, fun s'' c' h => by (cases h)⟩
          cases h
          refine hgo.fl ⟨_, out ++ c, Gs.refl _, ?_⟩
          rw [hcl]
          unfold syG
          dsimp only
          rw [if_neg (fun h => c3 h.1), if_neg (fun h => h.2 (by decide)), if_neg (fun h => by
            rcases h with h | h
            · exact absurd h.2 (by decide)
            · exact h.2.1 (by decide))]
    · rw [if_neg c2]
      by_cases c3 : ch s = 91
      · rw [if_pos c3]
        have hsL := hlt _ c3 (by decide)
        have hstep : sy ch (true, s, W, out) = .inl (true, s + 1, 256 :: W, out) := by
          unfold sy syD
          dsimp only
          rw [if_pos rfl, if_pos (.inr c3), if_pos c3]
        obtain ⟨f1, f2⟩ := hr3 hsL W out
        refine ⟨fun e h => (Gs.one hstep).fl (f1 e h), fun s' c h => ?_⟩
        obtain ⟨g1, g2, g3⟩ := f2 s' c h
        exact ⟨by omega, g2, (Gs.one hstep).trans g3⟩
      · rw [if_neg c3]
        have hD : syD ch s W out = if nmOf (ch s) < 5 then Sum.elim (fun e => .inr (false, e, out)) (fun s' => .inl (false, s', W, out ++ [-1 - nI (nmOf (ch s))])) (lit ch (nmS (nmOf (ch s))) s) else .inr (false, s, out) := by
          unfold syD
          rw [if_neg (fun h => by rcases h with h | h; exact c2 h; exact c3 h), if_neg c1]
        by_cases c4 : nmOf (ch s) < 5
        · rw [if_pos c4] at hD ⊢
          have hne : ∀ c ∈ nmS (nmOf (ch s)), c ≠ -1 := sr_nm1 (6 + nmOf (ch s)) (by omega)
          have hpos : 0 < (nmS (nmOf (ch s))).length := by
            have : ∀ i, i < 5 → 0 < (nmS i).length := by decide +kernel
            exact this _ c4
          have hnn : nmS (nmOf (ch s)) ≠ [] := fun h => by rw [h] at hpos; exact absurd hpos (by decide)
          cases hl : lit ch (nmS (nmOf (ch s))) s with
          | inl e =>
            rw [hl] at hD
            refine ⟨fun e' h => ?_, fun s' c' h => by (cases h)⟩
            cases h
            exact ⟨_, out, Gs.refl _, hD⟩
          | inr s' =>
            rw [hl] at hD
            have h1 := lit_len ch _ _ _ hl
            have h2 := lit_hi hc _ _ _ hne hnn hl
            refine ⟨fun e h => by (cases h), fun s'' c' h => ?_⟩
            cases h
            exact ⟨by omega, h2, Gs.one hD⟩
        · rw [if_neg c4] at hD ⊢
          refine ⟨fun e h => ?_, fun s' c' h => by (cases h)⟩
          cases h
          exact ⟨_, out, Gs.refl _, hD⟩
theorem br_rk : ∀ j, j < 5 → rk (nI (256 + j)) < 1 := by decide +kernel
theorem br_40 : ∀ j, j < 5 → nI (256 + j) ≠ 40 := by decide +kernel
theorem br_le : ∀ j, j < 5 → 1 ≤ j → ¬ nI (256 + j) ≤ 256 := by decide +kernel
theorem br_ne : ∀ j, j < 5 → 1 ≤ j → nI (256 + j) ≠ 256 := by decide +kernel
theorem br_lt : ∀ j, j < 5 → (nI (256 + j) < 260 ↔ j < 4) := by decide +kernel
theorem br_cd : ∀ j, j < 5 → -10 - (nI (256 + j) - 256) = -10 - nI j := by decide +kernel
theorem sy_lpP (hc : ∀ s, L ≤ s → ch s = -1) (s0 : Nat) (hr : ∀ s', s0 ≤ s' → s' ≤ L → Kr ch L 1 (pc 0 s') s') : ∀ (k s : Nat) (acc : List (List Int32)), k ≤ 4 → 1 ≤ k → acc.length = 4 - k → s ≤ L ∧ s0 ≤ s → ∀ W out, (∀ e, lpP ch pc k s acc = .inl e → Fl ch (true, s, nI (256 + (5 - k)) :: W, out ++ acc.flatten) e) ∧ ∀ s' l, lpP ch pc k s acc = .inr (s', l) → s < s' ∧ s' ≤ L ∧ 1 ≤ l.length ∧ l.length ≤ 4 ∧ rk (ch s') < 1 ∧ (l.length < 4 → ch s' ≠ 44) ∧ ∃ O out1, Gs ch (true, s, nI (256 + (5 - k)) :: W, out ++ acc.flatten) (false, s', O ++ (nI (256 + l.length) :: W), out1) ∧ out1 ++ O.map cdO = out ++ l.flatten ∧ ∀ o ∈ O, 1 ≤ rk o
  | 0, s, acc, _, h, _, _, _, _ => by omega
  | k + 1, s, acc, hk, h1, hl, ⟨hs, hs0⟩, W, out => by
    unfold lpP
    obtain ⟨f1, f2⟩ := hr s hs0 hs (nI (256 + (5 - (k + 1))) :: W) (out ++ acc.flatten) (fun w hw => by cases hw; exact br_rk _ (by omega))
    cases hp : pc 0 s with
    | inl e =>
      refine ⟨fun e' h => ?_, fun s' c' h => by (cases h)⟩
      cases h; exact f1 e hp
    | inr q =>
      obtain ⟨s', c⟩ := q
      obtain ⟨g1, g2, g3, O, out1, g4, g5, g6⟩ := f2 s' c hp
      have hfl : (acc ++ [c]).flatten = acc.flatten ++ c := by simp
      have hlen : (acc ++ [c]).length = 5 - (k + 1) := by
        rw [List.length_append, hl]; exact (by omega : ∀ k : Nat, k + 1 ≤ 4 → 4 - (k + 1) + 1 = 5 - (k + 1)) k hk
      show (∀ e, (if 1 ≤ k ∧ ch s' = 44 then lpP ch pc k (s' + 1) (acc ++ [c]) else Sum.inr (s', acc ++ [c])) = .inl e → _) ∧ ∀ s'' c', (if 1 ≤ k ∧ ch s' = 44 then lpP ch pc k (s' + 1) (acc ++ [c]) else Sum.inr (s', acc ++ [c])) = .inr (s'', c') → _
      by_cases q : 1 ≤ k ∧ ch s' = 44
      · rw [if_pos q]
        have hsL : s' < L := by
          apply Nat.lt_of_not_le
          intro h3
          have := q.2
          rw [hc s' h3] at this
          exact absurd this (by decide)
        have hst : sy ch (false, s', O ++ (nI (256 + (5 - (k + 1))) :: W), out1) = .inl (true, s' + 1, nI (256 + (5 - k)) :: W, out ++ (acc ++ [c]).flatten) := by
          rw [sy_close g3 g6 (br_rk _ (by omega)) g5, q.2]
          unfold syG
          dsimp only
          rw [if_neg (fun h => absurd h.1 (by decide)), if_neg (fun h => absurd h.1 (by decide)), if_pos (.inr ⟨rfl, br_le _ (by omega) (by omega), (br_lt _ (by omega)).mpr (by omega)⟩), nI_one, show 256 + (5 - (k + 1)) + 1 = 256 + (5 - k) by omega, hfl, List.append_assoc]
        have hgo := g4.trans (Gs.one hst)
        obtain ⟨r1, r2⟩ := sy_lpP hc s0 hr k (s' + 1) (acc ++ [c]) (by omega) q.1 (by rw [hlen]; omega) ⟨by omega, by omega⟩ W out
        refine ⟨fun e h => hgo.fl (r1 e h), fun s'' l h => ?_⟩
        obtain ⟨a1, a2, a3, a4, a5, a6, O', out2, a7, a8, a9⟩ := r2 s'' l h
        exact ⟨by omega, a2, a3, a4, a5, a6, O', out2, hgo.trans a7, a8, a9⟩
      · rw [if_neg q]
        refine ⟨fun e h => by (cases h), fun s'' l h => ?_⟩
        cases h
        refine ⟨g1, g2, by omega, by omega, g3, fun h1 h2 => q ⟨by omega, h2⟩, O, out1, ?_, by rw [hfl, g5, List.append_assoc], g6⟩
        rw [hlen]; exact g4
theorem sy_steps (hc : ∀ s, L ≤ s → ch s = -1) {s : Nat} (hs : s ≤ L) (hr : ∀ s', s ≤ s' → s' ≤ L → Kr ch L 1 (pc 0 s') s') : K3 ch L (pSteps ch cSt pc s) s := by
  intro W out
  unfold pSteps
  obtain ⟨f1, f2⟩ := hr s (Nat.le_refl _) hs (256 :: W) out (fun w hw => by cases hw; exact rk_256)
  cases hp : pc 0 s with
  | inl e =>
    refine ⟨fun e' h => ?_, fun s' c' h => by (cases h)⟩
    cases h; exact f1 e hp
  | inr q =>
    obtain ⟨s1, u⟩ := q
    obtain ⟨g1, g2, g3, O, out1, g4, g5, g6⟩ := f2 s1 u hp
    have hcl := sy_close (W := W) g3 g6 rk_256 g5
    have hbnd : ∀ s' (c : Int32), ch s' = c → c ≠ -1 → s' < L := fun s' c h h2 => by
      apply Nat.lt_of_not_le
      intro h3
      rw [hc s' h3] at h
      exact h2 h.symm
    show (∀ e, (if ch s1 = 58 then rb (lpP ch pc 4 (s1 + 1) []) (fun s2 l => if ch s2 = 93 then .inr (s2 + 1, cSt u l) else .inl s2) else Sum.inl s1) = .inl e → _) ∧ ∀ s'' c', (if ch s1 = 58 then rb (lpP ch pc 4 (s1 + 1) []) (fun s2 l => if ch s2 = 93 then .inr (s2 + 1, cSt u l) else .inl s2) else Sum.inl s1) = .inr (s'', c') → _
    by_cases c1 : ch s1 = 58
    · rw [if_pos c1]
      have hsL := hbnd s1 58 c1 (by decide)
      have hst : sy ch (false, s1, O ++ (256 :: W), out1) = .inl (true, s1 + 1, nI (256 + (5 - 4)) :: W, (out ++ u) ++ ([] : List (List Int32)).flatten) := by
        rw [hcl, c1]
        unfold syG
        dsimp only
        rw [if_neg (fun h => absurd h.1 (by decide)), if_neg (fun h => absurd h.1 (by decide)), if_pos (.inl ⟨rfl, rfl⟩)]
        simp; rfl
      have hgo := g4.trans (Gs.one hst)
      obtain ⟨r1, r2⟩ := sy_lpP hc s hr 4 (s1 + 1) [] (by omega) (by omega) rfl ⟨by omega, by omega⟩ W (out ++ u)
      cases hp2 : lpP ch pc 4 (s1 + 1) [] with
      | inl e =>
        refine ⟨fun e' h => ?_, fun s' c' h => by (cases h)⟩
        cases h; exact hgo.fl (r1 e hp2)
      | inr q =>
        obtain ⟨s2, l⟩ := q
        obtain ⟨a1, a2, a3, a4, a5, a6, O', out2, a7, a8, a9⟩ := r2 s2 l hp2
        have hcl2 := sy_close (W := W) (o := nI (256 + l.length)) a5 a9 (br_rk l.length (by omega)) a8
        have hgo2 := hgo.trans a7
        show (∀ e, (if ch s2 = 93 then Sum.inr (s2 + 1, cSt u l) else Sum.inl s2) = .inl e → _) ∧ ∀ s'' c', (if ch s2 = 93 then Sum.inr (s2 + 1, cSt u l) else Sum.inl s2) = .inr (s'', c') → _
        by_cases c2 : ch s2 = 93
        · rw [if_pos c2]
          have := hbnd s2 93 c2 (by decide)
          refine ⟨fun e h => by (cases h), fun s'' c' h => ?_⟩
          cases h
          refine ⟨by omega, by omega, hgo2.trans (Gs.one ?_)⟩
          rw [hcl2, c2]
          unfold syG cSt
          dsimp only
          rw [if_neg (fun h => absurd h.1 (by decide)), if_pos ⟨rfl, br_le _ (by omega) (by omega)⟩, br_cd _ (by omega)]
          simp
        · rw [if_neg c2]
          refine ⟨fun e h => ?_, fun s'' c' h => by (cases h)⟩
          cases h
          refine hgo2.fl ⟨_, (out ++ u) ++ l.flatten, Gs.refl _, ?_⟩
          rw [hcl2]
          unfold syG
          dsimp only
          rw [if_neg (fun h => br_40 _ (by omega) h.2), if_neg (fun h => c2 h.1), if_neg (fun h => by
            rcases h with h | h
            · exact br_ne _ (by omega) (by omega) h.2
            · exact a6 ((br_lt _ (by omega)).mp h.2.2) h.1)]
    · rw [if_neg c1]
      refine ⟨fun e h => ?_, fun s'' c' h => by (cases h)⟩
      cases h
      refine g4.fl ⟨_, out ++ u, Gs.refl _, ?_⟩
      rw [hcl]
      unfold syG
      dsimp only
      rw [if_neg (fun h => absurd h.2 (by decide)), if_neg (fun h => h.2 (by decide)), if_neg (fun h => by
        rcases h with h | h
        · exact c1 h.1
        · exact h.2.1 (by decide))]
theorem sy_all (hc : ∀ s, L ≤ s → ch s = -1) (hL : L ≤ 120) : ∀ d, (∀ s, s ≤ L → 4 * (L - s) + 3 ≤ d → Kr ch L 1 (PC ch d 0 s) s) ∧ (∀ s, s ≤ L → 4 * (L - s) + 2 ≤ d → Kr ch L 2 (PC ch d 1 s) s) ∧ (∀ s, s ≤ L → 4 * (L - s) + 1 ≤ d → K2 ch L (PC ch d 2 s) s) ∧ (∀ s, s ≤ L → 4 * (L - s) + 4 ≤ d → K3 ch L (PC ch d 3 s) s)
  | 0 => ⟨fun s _ h => by omega, fun s _ h => by omega, fun s _ h => by omega, fun s _ h => by omega⟩
  | d + 1 => by
    obtain ⟨i0, i1, i2, i3⟩ := sy_all hc hL d
    exact ⟨fun s hs h => sy_sum hc hL hs (fun s' h1 h2 => i1 s' h2 (by omega)), fun s hs h => sy_term hc hL hs (fun s' h1 h2 => i2 s' h2 (by omega)), fun s hs h => sy_one hc hs (fun h1 => i0 (s + 1) (by omega) (by omega)) (fun h1 => i3 (s + 1) (by omega) (by omega)), fun s hs h => sy_steps hc hs (fun s' h1 h2 => i0 s' h2 (by omega))⟩
/-- a whole sum -/
theorem sy_whole (hc : ∀ s, L ≤ s → ch s = -1) (hL : L ≤ 120) {s : Nat} (hs : s ≤ L) (out : List Int32) : (∀ e, PC ch 500 0 s = .inl e → Fl ch (true, s, [], out) e) ∧ ∀ s' c, PC ch 500 0 s = .inr (s', c) → s < s' ∧ s' ≤ L ∧ ∃ y, Gs ch (true, s, [], out) y ∧ sy ch y = .inr (true, s', out ++ c) := by
  obtain ⟨f1, f2⟩ := (sy_all hc hL 500).1 s hs (by omega) [] out (fun w h => by cases h)
  refine ⟨f1, fun s' c h => ?_⟩
  obtain ⟨g1, g2, g3, O, out1, g4, g5, g6⟩ := f2 s' c h
  refine ⟨g1, g2, _, g4, ?_⟩
  unfold sy
  dsimp only
  rw [if_neg (by decide), if_neg (by omega), unl_all O [] out1 g6 (fun w h => by cases h), g5]; rfl
end SY2
