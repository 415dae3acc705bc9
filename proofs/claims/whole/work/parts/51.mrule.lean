theorem sp_of (M : Mem) (s : Nat) (w : Int32) : wI (wI M 94 7 (nI s)) 94 8 w = sp M s w := by
  have h2 := sp_w8 M s (M.1 94 8) w
  rw [← h2]
  congr 1
  unfold sp
  rw [wI_eq M 94 7]
  congr 1
  funext j
  unfold upd
  by_cases c : j = 7
  · rw [if_pos c, if_pos c]
  · rw [if_neg c, if_neg c]
    by_cases c2 : j = 8
    · rw [if_pos c2, c2]
    · rw [if_neg c2]
theorem wR_comm (M : Mem) {a b : Nat} (f g : Nat → Int32) (h : a ≠ b) : wR (wR M a f) b g = wR (wR M b g) a f := by
  refine Prod.ext (funext fun x => ?_) rfl
  show (if x = b then g else if x = a then f else M.1 x) = if x = a then f else if x = b then g else M.1 x
  by_cases h1 : x = b
  · rw [if_pos h1, if_neg (by omega), if_pos h1]
  · rw [if_neg h1, if_neg h1]
theorem sp_95 (M : Mem) (s i : Nat) (w v : Int32) : wI (sp M s w) 95 i v = sp (wI M 95 i v) s w := by
  unfold sp
  rw [wI_eq, wI_eq]
  rw [wR_comm M _ _ (show (94 : Nat) ≠ 95 by decide)]
  rfl
def sRj (z j a i : Nat) : Bool := a == 95 && (i == 1890 + z || ((decide (1900 + (8 * z + j) ≤ i) && decide (i < 1908 + 8 * z)) || ((decide (1980 + (8 * z + j) ≤ i) && decide (i < 1988 + 8 * z)) || (decide (2060 + (8 * z + j) ≤ i) && decide (i < 2068 + 8 * z)))))
def sRl (z a i : Nat) : Bool := sRj z 0 a i || ((a == 95 && (i == 790 + z || (i == 800 + z || (i == 4 || (decide (810 + 120 * z ≤ i) && decide (i < 930 + 120 * z)))))) || (a == 94 && (i == 6 || (i == 7 || i == 8))))
theorem sRj_le (z j j' : Nat) (h : j ≤ j') : ∀ a i, sRj z j' a i = true → sRj z j a i = true := by
  intro a i h
  unfold sRj at h ⊢
  simp only [Bool.or_eq_true, Bool.and_eq_true, beq_iff_eq, decide_eq_true_eq] at h ⊢
  omega
theorem sRj_lo {z j i : Nat} (h : i < 1890) : sRj z j 95 i = false := by
  unfold sRj
  simp only [beq_self_eq_true, Bool.true_and, Bool.or_eq_false_iff, Bool.and_eq_false_iff, beq_eq_false_iff_ne, decide_eq_false_iff_not]
  omega
section MR
variable {M : Mem} {z L : Nat} {ch : Nat → Int32}
theorem Tx.fr {M' : Mem} {j : Nat} (T : Tx M z L ch) (h : Fr (sRj z j) M M') : Tx M' z L ch := by
  obtain ⟨h1, h2, h3, h4, h5⟩ := T
  refine ⟨(h.at_ rfl).trans h1, h2, h3, (h.at_ (sRj_lo (by omega))).trans h4, fun s => ?_⟩
  rw [h5 s]
  by_cases c : s < L
  · rw [if_pos c, if_pos c, h.at_ (sRj_lo (by omega))]
  · rw [if_neg c, if_neg c]
theorem m_parse (T : Tx M z L ch) {s : Nat} (hs : s ≤ L) : (∀ e, PC ch 500 0 s = .inl e → e ≤ L ∧ ∃ v, f_parse 500 0 (sp M s 0) = some (v, sp M e 1)) ∧ ∀ s' c, PC ch 500 0 s = .inr (s', c) → s' ≤ L ∧ ∃ v, f_parse 500 0 (sp M s 0) = some (v, sp M s' 0) := by
  have hL := T.2.2.1
  have h1 := sim_all T (N := M.1 99) (fun i _ => rfl) 500 0 s (by omega) hs (show 4 * (L - s) + 3 ≤ 500 by omega)
  have h2 := (rr_all (N := M.1 99) ch 500).1 0 s (by omega)
  rcases h2 with ⟨e, a1, a2⟩ | ⟨s', c, v, a1, a2, -⟩
  · refine ⟨fun e' h => ?_, fun s' c h => by (rw [a1] at h; cases h)⟩
    rw [a1] at h; cases h
    exact h1.1 e a2
  · refine ⟨fun e' h => by (rw [a1] at h; cases h), fun s'' c' h => ?_⟩
    rw [a1] at h; cases h
    have := h1.2 s' v a2
    exact ⟨this.2.1, v, this.2.2⟩
theorem pHead_eq (ch : Nat → Int32) (s : Nat) : pHead ch s = if wdOf (ch s) < 6 then lit ch (sr_byt.getD (19 + wdOf (ch s)) []) s else .inl s := by
  unfold pHead
  by_cases c : wdOf (ch s) < 6
  · rw [if_pos c, if_pos c]
    have h : ∀ i, i < 6 → sr_byt.getD (19 + i) [] = sr_byt.getD i [] ++ [61] := by decide +kernel
    rw [h _ c, lit_app]
    cases lit ch (sr_byt.getD (wdOf (ch s)) []) s <;> rfl
  · rw [if_neg c, if_neg c]
theorem e_Mo_word (T : Tx M z L ch) {s : Nat} (hs : s ≤ L) : (∀ e, pHead ch s = .inl e → e ≤ L ∧ ∃ v, f_Mo_word_94 (sp M s 0) = some (v, sp M e 1)) ∧ ∀ s1, pHead ch s = .inr s1 → s1 ≤ L ∧ f_Mo_word_94 (sp M s 0) = some (nI (wdOf (ch s)), sp M s1 0) := by
  have key : ∀ w, w < 6 → wdOf (ch s) = w → f_Mo_word_94 (sp M s 0) = ((f_Mo_spells_94 (19 + w) (sp M s 0)).bind fun q => some (nI w, q)) → (∀ e, pHead ch s = .inl e → e ≤ L ∧ ∃ v, f_Mo_word_94 (sp M s 0) = some (v, sp M e 1)) ∧ ∀ s1, pHead ch s = .inr s1 → s1 ≤ L ∧ f_Mo_word_94 (sp M s 0) = some (nI (wdOf (ch s)), sp M s1 0) := fun w hw hwd h => by
    rw [pHead_eq, hwd, if_pos hw, h, s_spells T (by omega) hs, Option.bind_some]
    have hle := lit_le T (sr_byt.getD (19 + w) []) s (sr_nm1 _ (by omega)) hs
    cases hl : lit ch (sr_byt.getD (19 + w) []) s with
    | inl e =>
      rw [hl] at hle
      refine ⟨fun e' h => ?_, fun s1 h => by (cases h)⟩
      cases h
      exact ⟨hle, nI w, rfl⟩
    | inr s1 =>
      rw [hl] at hle
      refine ⟨fun e' h => by (cases h), fun s1 h => ?_⟩
      cases h
      exact ⟨hle.2, rfl⟩
  have hh := s_here T hs 0
  have hbeg : f_Mo_word_94 (sp M s 0) = (if decide (ch s = 102) = true then ((f_Mo_spells_94 21 (sp M s 0)).bind fun q3 => some (2, q3)) else (if decide (ch s = 108) = true then ((f_Mo_spells_94 22 (sp M s 0)).bind fun q5 => some (3, q5)) else (if decide (ch s = 109) = true then ((f_Mo_spells_94 19 (sp M s 0)).bind fun q7 => some (0, q7)) else (if decide (ch s = 114) = true then ((f_Mo_spells_94 20 (sp M s 0)).bind fun q9 => some (1, q9)) else (if decide (ch s = 115) = true then ((f_Mo_spells_94 23 (sp M s 0)).bind fun q11 => some (4, q11)) else (if decide (ch s = 116) = true then ((f_Mo_spells_94 24 (sp M s 0)).bind fun q13 => some (5, q13)) else some (0, sp M s 1))))))) := by
    unfold f_Mo_word_94 jv_
    rw [hh, Option.bind_some, sp_w8]
  by_cases d2 : ch s = 102
  · exact key 2 (by omega) (by rw [d2]; decide) (by rw [hbeg, decide_eq_true d2, ite_tt]; rfl)
  · rw [decide_eq_false d2, ite_ff] at hbeg
    by_cases d3 : ch s = 108
    · exact key 3 (by omega) (by rw [d3]; decide) (by rw [hbeg, decide_eq_true d3, ite_tt]; rfl)
    · rw [decide_eq_false d3, ite_ff] at hbeg
      by_cases d0 : ch s = 109
      · exact key 0 (by omega) (by rw [d0]; decide) (by rw [hbeg, decide_eq_true d0, ite_tt]; rfl)
      · rw [decide_eq_false d0, ite_ff] at hbeg
        by_cases d1 : ch s = 114
        · exact key 1 (by omega) (by rw [d1]; decide) (by rw [hbeg, decide_eq_true d1, ite_tt]; rfl)
        · rw [decide_eq_false d1, ite_ff] at hbeg
          by_cases d4 : ch s = 115
          · exact key 4 (by omega) (by rw [d4]; decide) (by rw [hbeg, decide_eq_true d4, ite_tt]; rfl)
          · rw [decide_eq_false d4, ite_ff] at hbeg
            by_cases d5 : ch s = 116
            · exact key 5 (by omega) (by rw [d5]; decide) (by rw [hbeg, decide_eq_true d5, ite_tt]; rfl)
            · rw [decide_eq_false d5, ite_ff] at hbeg
              have hw : wdOf (ch s) = 6 := by
                unfold wdOf fnd fnd fnd fnd fnd fnd fnd
                rw [if_neg d0, if_neg d1, if_neg d2, if_neg d3, if_neg d4, if_neg d5]
              have hp : pHead ch s = .inl s := by unfold pHead; rw [hw]; rfl
              refine ⟨fun e h => ?_, fun s1 h => by (rw [hp] at h; cases h)⟩
              rw [hp] at h; cases h
              exact ⟨hs, 0, hbeg⟩
/-- the model's row of a clause -/
def Mcl (σ : Nat → Int32) (k : Nat) (w s1 : Nat) (u : Option (Nat × List Int32)) : Prop := σ (1900 + k) = nI w ∧ σ (1980 + k) = nI s1 ∧ (u = none → σ (2060 + k) = -1) ∧ ∀ s2 c2, u = some (s2, c2) → σ (2060 + k) = nI s2
theorem e_reads (T : Tx M z L ch) {s cc : Nat} (hcc : M.1 95 (1890 + z) = nI cc) (h8 : cc < 8) (hs : s ≤ L) : (∀ e, pCl ch s = .inl e → e ≤ L ∧ ∃ M', f_Mo_reads_94 (nI z) (sp M s 0) = some (sp M' e 1) ∧ Fr (sRj z cc) M M') ∧ ∀ s' s1 c u, pCl ch s = .inr (s', s1, c, u) → s' ≤ L ∧ s1 ≤ L ∧ ∃ M', f_Mo_reads_94 (nI z) (sp M s 0) = some (sp M' s' 0) ∧ Fr (sRj z cc) M M' ∧ M'.1 95 (1890 + z) = nI (cc + 1) ∧ Mcl (M'.1 95) (8 * z + cc) (wdOf (ch s)) s1 u := by
  have hz : z ≤ 8 := T.2.1
  obtain ⟨w1, w2⟩ := e_Mo_word T hs
  -- what stands before the sum
  have hMx : ∀ (v : Int32) (x : Nat), Fr (sRj z cc) M (wI (wI (wI M 95 (1900 + (8 * z + cc)) v) 95 (1980 + (8 * z + cc)) (nI x)) 95 (2060 + (8 * z + cc)) (-1)) := fun v x => by
    refine (((Fr.refl M).wI ?_).wI ?_).wI ?_ <;> unfold sRj <;> simp <;> omega
  have hbeg : ∀ (v : Int32) (x : Nat) (w : Int32), f_Mo_word_94 (sp M s 0) = some (v, sp M x w) → f_Mo_reads_94 (nI z) (sp M s 0) = (fun M8 : Mem => if isb (M8.1 94 8) = true then jn_ (fun (u13 : Int32 × Mem) => if isb (u13.2.1 94 8) = true then jn_ (fun (u17 : Mem) => if isb (u17.1 94 8) = true then some (wI u17 95 (1890 + z) ((u17.1 95 (1890 + z)) + (bI (!(decide (u17.1 94 8 = 1)))))) else none) fun k25 => if decide (u13.2.1 94 8 = 1) = true then (k25 u13.2) else ((f_Mo_here_94 u13.2).bind fun q26 => if decide (q26 = 32) = true then ((f_Mo_spells_94 25 u13.2).bind fun q28 => jv_ (wI q28 95 (2060 + (8 * z + cc)) (q28.1 94 7)) fun M30 => if isb (M30.1 94 8) = true then if decide (M30.1 94 8 = 1) = true then (k25 M30) else ((f_parse 500 0 M30).bind fun q33 => k25 q33.2) else none) else (k25 u13.2)) else none) fun k34 => if decide (M8.1 94 8 = 1) = true then (k34 (0, M8)) else ((f_parse 500 0 M8).bind fun q35 => k34 (q35.1, q35.2)) else none) (sp (wI (wI (wI M 95 (1900 + (8 * z + cc)) v) 95 (1980 + (8 * z + cc)) (nI x)) 95 (2060 + (8 * z + cc)) (-1)) x w) := fun v x w hw => by
    have i1 : (1890 : Int32) + nI z = nI (1890 + z) := nI_addn 1890 z
    have i2 : (sp M s 0).1 95 (1890 + z) = nI cc := hcc
    have i3 : (1900 : Int32) + (8 * nI z + nI cc) = nI (1900 + (8 * z + cc)) := by rw [show (8 : Int32) = nI 8 from rfl, nI_muln, nI_addn]; exact nI_addn _ _
    have i4 : (1980 : Int32) + (8 * nI z + nI cc) = nI (1980 + (8 * z + cc)) := by rw [show (8 : Int32) = nI 8 from rfl, nI_muln, nI_addn]; exact nI_addn _ _
    have i5 : (2060 : Int32) + (8 * nI z + nI cc) = nI (2060 + (8 * z + cc)) := by rw [show (8 : Int32) = nI 8 from rfl, nI_muln, nI_addn]; exact nI_addn _ _
    unfold f_Mo_reads_94
    rw [i1, nI_cl (by omega), i2, i3, i4, i5, nI_cl (by omega), nI_cl (by omega), nI_cl (by omega), inb_t (show 1890 + z < 4700 by omega) (by omega), inb_t (show 1900 + (8 * z + cc) < 4700 by omega) (by omega), inb_t (show 1980 + (8 * z + cc) < 4700 by omega) (by omega), inb_t (show 2060 + (8 * z + cc) < 4700 by omega) (by omega)]
    simp only [↓reduceIte]
    rw [hw, Option.bind_some]
    unfold jv_
    dsimp only
    rw [sp_95, sp_7, sp_95, sp_95]
  have hend : ∀ (M' : Mem) (x : Nat), wI (sp M' x 1) 95 (1890 + z) ((sp M' x 1).1 95 (1890 + z) + bI (!(decide ((sp M' x 1).1 94 8 = 1)))) = sp (wI M' 95 (1890 + z) (M'.1 95 (1890 + z) + 0)) x 1 := fun M' x => by
    rw [sp_95]; rfl
  have hend0 : ∀ (M' : Mem) (x : Nat), wI (sp M' x 0) 95 (1890 + z) ((sp M' x 0).1 95 (1890 + z) + bI (!(decide ((sp M' x 0).1 94 8 = 1)))) = sp (wI M' 95 (1890 + z) (M'.1 95 (1890 + z) + 1)) x 0 := fun M' x => by
    rw [sp_95]; rfl
  have s90 : sRj z cc 95 (1890 + z) = true := by unfold sRj; simp
  have s60 : sRj z cc 95 (2060 + (8 * z + cc)) = true := by unfold sRj; simp; omega
  unfold pCl
  cases hh : pHead ch s with
  | inl e =>
    obtain ⟨g1, v, g2⟩ := w1 e hh
    refine ⟨fun e' h => ?_, fun s' s1 c u h => by (cases h)⟩
    cases h
    refine ⟨g1, _, ?_, (hMx v e).wI s90 (v := (wI (wI (wI M 95 (1900 + (8 * z + cc)) v) 95 (1980 + (8 * z + cc)) (nI e)) 95 (2060 + (8 * z + cc)) (-1)).1 95 (1890 + z) + 0)⟩
    rw [hbeg v e 1 g2]
    unfold jn_
    dsimp only
    rw [sp_8, show isb 1 = true from rfl, ite_tt, show decide ((1 : Int32) = 1) = true from rfl, ite_tt, ite_tt, ite_tt, ite_tt, ← hend, sp_8]; rfl
  | inr s1 =>
    obtain ⟨g1, g2⟩ := w2 s1 hh
    have hb := hbeg _ _ _ g2
    have Fx := hMx (nI (wdOf (ch s))) s1
    have x19 : (wI (wI (wI M 95 (1900 + (8 * z + cc)) (nI (wdOf (ch s)))) 95 (1980 + (8 * z + cc)) (nI s1)) 95 (2060 + (8 * z + cc)) (-1)).1 95 (1900 + (8 * z + cc)) = nI (wdOf (ch s)) := by
      rw [rdi (by omega), rdi (by omega), rde]
    have x20 : (wI (wI (wI M 95 (1900 + (8 * z + cc)) (nI (wdOf (ch s)))) 95 (1980 + (8 * z + cc)) (nI s1)) 95 (2060 + (8 * z + cc)) (-1)).1 95 (1980 + (8 * z + cc)) = nI s1 := by
      rw [rdi (by omega), rde]
    have x21 : (wI (wI (wI M 95 (1900 + (8 * z + cc)) (nI (wdOf (ch s)))) 95 (1980 + (8 * z + cc)) (nI s1)) 95 (2060 + (8 * z + cc)) (-1)).1 95 (2060 + (8 * z + cc)) = -1 := rde
    have x89 : (wI (wI (wI M 95 (1900 + (8 * z + cc)) (nI (wdOf (ch s)))) 95 (1980 + (8 * z + cc)) (nI s1)) 95 (2060 + (8 * z + cc)) (-1)).1 95 (1890 + z) = nI cc := by
      rw [rdi (by omega), rdi (by omega), rdi (by omega), hcc]
    generalize wI (wI (wI M 95 (1900 + (8 * z + cc)) (nI (wdOf (ch s)))) 95 (1980 + (8 * z + cc)) (nI s1)) 95 (2060 + (8 * z + cc)) (-1) = Mx at hb Fx x19 x20 x21 x89
    have Tx1 := T.fr Fx
    obtain ⟨p1, p2⟩ := m_parse Tx1 g1
    simp only [Sum.elim_inr]
    cases hp : PC ch 500 0 s1 with
    | inl e =>
      obtain ⟨k1, v, k2⟩ := p1 e hp
      refine ⟨fun e' h => ?_, fun s' s1 c u h => by (cases h)⟩
      cases h
      refine ⟨k1, wI Mx 95 (1890 + z) (Mx.1 95 (1890 + z) + 0), ?_, Fx.wI s90⟩
      rw [hb]
      unfold jn_
      dsimp only
      rw [sp_8, show isb 0 = true from rfl, ite_tt, show decide ((0 : Int32) = 1) = false from rfl, ite_ff, k2, Option.bind_some]
      dsimp only
      rw [sp_8, show isb 1 = true from rfl, ite_tt, show decide ((1 : Int32) = 1) = true from rfl, ite_tt, ite_tt, ← hend, sp_8]; rfl
    | inr q =>
      obtain ⟨s3, c⟩ := q
      obtain ⟨k1, v, k2⟩ := p2 s3 c hp
      have hh3 := s_here Tx1 k1 0
      simp only [Sum.elim_inr]
      unfold pUnl
      by_cases d : ch s3 = 32
      · rw [if_pos d]
        have hsp := s_spells Tx1 (i := 25) (by omega) k1
        have hle := lit_le Tx1 (sr_byt.getD 25 []) s3 (sr_nm1 25 (by omega)) k1
        rw [show sr_byt.getD 25 [] = sr_byt.getD 13 [] from rfl] at hsp hle
        have hb2 : ∀ q28, f_Mo_spells_94 25 (sp Mx s3 0) = some q28 → f_Mo_reads_94 (nI z) (sp M s 0) = (fun M30 : Mem => if isb (M30.1 94 8) = true then if decide (M30.1 94 8 = 1) = true then (if isb (M30.1 94 8) = true then some (wI M30 95 (1890 + z) ((M30.1 95 (1890 + z)) + (bI (!(decide (M30.1 94 8 = 1)))))) else none) else ((f_parse 500 0 M30).bind fun q33 => if isb (q33.2.1 94 8) = true then some (wI q33.2 95 (1890 + z) ((q33.2.1 95 (1890 + z)) + (bI (!(decide (q33.2.1 94 8 = 1)))))) else none) else none) (wI q28 95 (2060 + (8 * z + cc)) (q28.1 94 7)) := fun q28 h28 => by
          rw [hb]
          unfold jn_ jv_
          dsimp only
          rw [sp_8, show isb 0 = true from rfl, ite_tt, show decide ((0 : Int32) = 1) = false from rfl, ite_ff, k2, Option.bind_some]
          dsimp only
          rw [sp_8, show isb 0 = true from rfl, ite_tt, show decide ((0 : Int32) = 1) = false from rfl, ite_ff, hh3, Option.bind_some, decide_eq_true d, ite_tt, h28, Option.bind_some]
        cases hl : lit ch (sr_byt.getD 13 []) s3 with
        | inl e =>
          rw [hl] at hsp hle
          refine ⟨fun e' h => ?_, fun s' s1 c u h => by (cases h)⟩
          cases h
          refine ⟨hle, wI (wI Mx 95 (2060 + (8 * z + cc)) (nI e)) 95 (1890 + z) ((wI Mx 95 (2060 + (8 * z + cc)) (nI e)).1 95 (1890 + z) + 0), ?_, (Fx.wI s60).wI s90⟩
          rw [hb2 _ hsp]
          dsimp only
          rw [show litM Mx (.inl e) = sp Mx e 1 from rfl, sp_7, sp_95, sp_8, show isb 1 = true from rfl, ite_tt, show decide ((1 : Int32) = 1) = true from rfl, ite_tt, ite_tt, ← hend, sp_8]; rfl
        | inr s4 =>
          rw [hl] at hsp hle
          have hle : s4 = s3 + (sr_byt.getD 13 []).length ∧ s4 ≤ L := hle
          have F4 : Fr (sRj z cc) M (wI Mx 95 (2060 + (8 * z + cc)) (nI s4)) := Fx.wI s60
          obtain ⟨p3, p4⟩ := m_parse (T.fr F4) hle.2
          have hb3 : f_Mo_reads_94 (nI z) (sp M s 0) = (f_parse 500 0 (sp (wI Mx 95 (2060 + (8 * z + cc)) (nI s4)) s4 0)).bind fun q33 => if isb (q33.2.1 94 8) = true then some (wI q33.2 95 (1890 + z) ((q33.2.1 95 (1890 + z)) + (bI (!(decide (q33.2.1 94 8 = 1)))))) else none := by
            rw [hb2 _ hsp]
            dsimp only
            rw [show litM Mx (.inr s4) = sp Mx s4 0 from rfl, sp_7, sp_95, sp_8, show isb 0 = true from rfl, ite_tt, show decide ((0 : Int32) = 1) = false from rfl, ite_ff]
          simp only [Sum.elim_inr]
          cases hp2 : PC ch 500 0 s4 with
          | inl e =>
            obtain ⟨k3, v2, k4⟩ := p3 e hp2
            refine ⟨fun e' h => ?_, fun s' s1 c u h => by (cases h)⟩
            cases h
            refine ⟨k3, wI (wI Mx 95 (2060 + (8 * z + cc)) (nI s4)) 95 (1890 + z) ((wI Mx 95 (2060 + (8 * z + cc)) (nI s4)).1 95 (1890 + z) + 0), ?_, F4.wI s90⟩
            rw [hb3, k4, Option.bind_some, ← hend]; rfl
          | inr q =>
            obtain ⟨s5, c2⟩ := q
            obtain ⟨k3, v2, k4⟩ := p4 s5 c2 hp2
            refine ⟨fun e h => by (cases h), fun s' s1' c' u h => ?_⟩
            cases h
            refine ⟨k3, g1, wI (wI Mx 95 (2060 + (8 * z + cc)) (nI s4)) 95 (1890 + z) ((wI Mx 95 (2060 + (8 * z + cc)) (nI s4)).1 95 (1890 + z) + 1), ?_, F4.wI s90, ?_, ?_, ?_, fun h => by (cases h), fun s2 c2' h => ?_⟩
            · rw [hb3, k4, Option.bind_some, ← hend0]; rfl
            · rw [rde, rdi (by omega), x89, nI_one]
            · rw [rdi (by omega), rdi (by omega), x19]
            · rw [rdi (by omega), rdi (by omega), x20]
            · cases h
              rw [rdi (by omega), rde]
      · rw [if_neg d]
        refine ⟨fun e h => by (cases h), fun s' s1' c' u h => ?_⟩
        cases h
        refine ⟨k1, g1, wI Mx 95 (1890 + z) (Mx.1 95 (1890 + z) + 1), ?_, Fx.wI s90, ?_, ?_, ?_, fun _ => ?_, fun s2 c2 h => by (cases h)⟩
        · rw [hb]
          unfold jn_
          dsimp only
          rw [sp_8, show isb 0 = true from rfl, ite_tt, show decide ((0 : Int32) = 1) = false from rfl, ite_ff, k2, Option.bind_some]
          dsimp only
          rw [sp_8, show isb 0 = true from rfl, ite_tt, show decide ((0 : Int32) = 1) = false from rfl, ite_ff, hh3, Option.bind_some, decide_eq_false d, ite_ff, ← hend0, sp_8]; rfl
        · rw [rde, x89, nI_one]
        · rw [rdi (by omega), x19]
        · rw [rdi (by omega), x20]
        · rw [rdi (by omega), x21]
end MR
