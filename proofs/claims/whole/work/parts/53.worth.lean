def chR (σ : Nat → Int32) (r : Nat) : Nat → Int32 := fun s => if s < nt σ (800 + r) then σ (810 + 120 * r + s) else -1
/-- a sum's value -/
def sV (σ N : Nat → Int32) (r s : Nat) : Int32 := Sum.elim (fun _ => 0) (fun q => q.2) (PV (chR σ r) N 500 0 s)
def Ru1 (C : Nat → Nat → Int32) (σ : Nat → Int32) (r : Nat) : Prop := C 18 r = σ (790 + r) ∧ inb (σ (790 + r)) 121 = true ∧ inb (σ (800 + r)) 121 = true ∧ ∃ l : List CL, 1 ≤ l.length ∧ l.length ≤ 8 ∧ C 17 r = nI l.length ∧ σ (1890 + r) = nI l.length ∧ ∀ (j : Nat) (h : j < l.length), Mcl σ (8 * r + j) l[j].1 l[j].2.1 l[j].2.2.2 ∧ Rcl C (8 * r + j) (120 * r) (120 * r + 120) l[j].1 l[j].2.2.1 l[j].2.2.2 ∧ l[j].2.1 ≤ nt σ (800 + r) ∧ (∃ s3, PC (chR σ r) 500 0 l[j].2.1 = .inr (s3, l[j].2.2.1)) ∧ ∀ s2 c2, l[j].2.2.2 = some (s2, c2) → s2 ≤ nt σ (800 + r) ∧ ∃ s4, PC (chR σ r) 500 0 s2 = .inr (s4, c2)
def Rrule (C : Nat → Nat → Int32) (σ : Nat → Int32) : Prop := C 14 9 = σ 3 ∧ ∀ r, r < nt σ 3 → Ru1 C σ r
def hldS (σ N : Nat → Int32) (r j : Nat) : Bool := decide (σ (2060 + (8 * r + j)) = -1) || decide (sV σ N r (nt σ (2060 + (8 * r + j))) ≤ 0)
def clI (σ N : Nat → Int32) (w : Int32) (r : Nat) (b0 : Int32) : Nat → Int32
  | 0 => b0
  | k + 1 => if σ (1900 + (8 * r + k)) = w ∧ (clI σ N w r b0 k = -1 ∨ σ (790 + (clI σ N w r b0 k).toNatClampNeg / 8) ≤ σ (790 + r)) ∧ hldS σ N r k = true then nI (8 * r + k) else clI σ N w r b0 k
/-- the CLAUSE of a word that holds in a month; -1: none -/
def clA (σ N : Nat → Int32) (w m : Int32) : Nat → Int32
  | 0 => -1
  | r + 1 => if σ (790 + r) ≤ m then clI σ N w r (clA σ N w m r) (nt σ (1890 + r)) else clA σ N w m r
def usu (w u : Int32) : Int32 := if w = 0 then 3 else if w = 1 then 2 * u else if w = 2 then 5 else if w = 3 then 10 else 0
def clV (v : Int32) : Int32 := jmax 0 (jmin 99999 v)
def ruV (σ N : Nat → Int32) (w m : Int32) : Int32 := if clA σ N w m (nt σ 3) = -1 then usu w (N 0) else clV (sV σ N ((clA σ N w m (nt σ 3)).toNatClampNeg / 8) (nt σ (1980 + (clA σ N w m (nt σ 3)).toNatClampNeg)))
def whV (σ N : Nat → Int32) (w m : Int32) : Int32 := if clA σ N w m (nt σ 3) = -1 then -5 else nI (100 * ((clA σ N w m (nt σ 3)).toNatClampNeg / 8) + (clA σ N w m (nt σ 3)).toNatClampNeg % 8)
theorem nI_div8 : ∀ c, c < 72 → nI c / 8 = nI (c / 8) := by decide +kernel
theorem nI_why : ∀ c, c < 72 → 100 * (nI c / 8) + (nI c - nI c / 8 * 8) = nI (100 * (c / 8) + c % 8) := by decide +kernel
theorem clI_rng {σ N : Nat → Int32} {w : Int32} {r : Nat} {b0 : Int32} (h8 : nt σ (1890 + r) ≤ 8) (h0 : b0 = -1 ∨ ∃ c, c < 8 * r ∧ b0 = nI c ∧ c % 8 < nt σ (1890 + c / 8)) : ∀ k, k ≤ nt σ (1890 + r) → clI σ N w r b0 k = -1 ∨ ∃ c, c < 8 * r + k ∧ clI σ N w r b0 k = nI c ∧ c % 8 < nt σ (1890 + c / 8)
  | 0, _ => h0
  | k + 1, hk => by
    unfold clI
    split
    · refine .inr ⟨8 * r + k, by omega, rfl, ?_⟩
      rw [show (8 * r + k) / 8 = r by omega]; omega
    · rcases clI_rng h8 h0 k (by omega) with h | ⟨c, h1, h2⟩
      · exact .inl h
      · exact .inr ⟨c, by omega, h2⟩
theorem clA_rng {σ N : Nat → Int32} {w m : Int32} {R : Nat} (h : ∀ r, r < R → nt σ (1890 + r) ≤ 8) : ∀ r, r ≤ R → clA σ N w m r = -1 ∨ ∃ c, c < 8 * r ∧ clA σ N w m r = nI c ∧ c % 8 < nt σ (1890 + c / 8)
  | 0, _ => .inl rfl
  | r + 1, hr => by
    have ih := clA_rng (N := N) (w := w) (m := m) h r (by omega)
    have h8 := h r (by omega)
    unfold clA
    split
    · rcases clI_rng (N := N) (w := w) h8 ih (nt σ (1890 + r)) (Nat.le_refl _) with h | ⟨c, h1, h2⟩
      · exact .inl h
      · exact .inr ⟨c, by omega, h2⟩
    · rcases ih with h | ⟨c, h1, h2⟩
      · exact .inl h
      · exact .inr ⟨c, by omega, h2⟩
theorem cd_names (c : List Int32) : ∀ x ∈ c, x < 0 → ¬ x ≤ -6 → ∃ i, i < 5 ∧ -1 - x = nI i := by
  intro x _ h1 h2
  have h : ∃ i, i < 5 ∧ x = -1 - nI i := by
    refine ⟨(-1 - x.toInt).toNat, ?_, ?_⟩
    · rw [i_lt, i_0] at h1
      rw [i_le, show (-6 : Int32).toInt = -6 from rfl] at h2
      omega
    · rw [i_lt, i_0] at h1
      rw [i_le, show (-6 : Int32).toInt = -6 from rfl] at h2
      have hx : x.toInt = -1 ∨ x.toInt = -2 ∨ x.toInt = -3 ∨ x.toInt = -4 ∨ x.toInt = -5 := by omega
      apply Int32.toInt_inj.mp
      rcases hx with h | h | h | h | h <;> rw [h] <;> rfl
  obtain ⟨i, h3, rfl⟩ := h
  have h4 : ∀ i, i < 5 → -1 - (-1 - nI i) = nI i := by decide +kernel
  exact ⟨i, h3, h4 i h3⟩
theorem chR_hi (σ : Nat → Int32) (r : Nat) : ∀ s, nt σ (800 + r) ≤ s → chR σ r s = -1 := fun s h => by
  unfold chR
  rw [if_neg (by omega)]
/-- codes and value of a sum of a rule -/
theorem sum_val {σ : Nat → Int32} (N : Nat → Int32) {r s s3 : Nat} {c : List Int32} (hL : nt σ (800 + r) ≤ 120) (hs : s ≤ nt σ (800 + r)) (h : PC (chR σ r) 500 0 s = .inr (s3, c)) : PV (chR σ r) N 500 0 s = .inr (s3, sV σ N r s) ∧ c ≠ [] ∧ pu c ≤ 60 ∧ ev N c [] = some [sV σ N r s] := by
  obtain ⟨g1, g2, -⟩ := (sy_whole (chR_hi σ r) hL hs []).2 s3 c h
  rcases (rr_all (N := N) (chR σ r) 500).1 0 s (by omega) with ⟨e, a1, a2⟩ | ⟨s', c', v, a1, a2, a3, a4, a5, a6, a7⟩
  · rw [h] at a1; cases a1
  · rw [h] at a1; cases a1
    have hv : sV σ N r s = v := by unfold sV; rw [a2]; rfl
    rw [hv]
    exact ⟨a2, a6, by omega, a7 []⟩
theorem run_val {σ N : Nat → Int32} {M : Mem} {r s s3 fr : Nat} {c : List Int32} (hL : nt σ (800 + r) ≤ 120) (hs : s ≤ nt σ (800 + r)) (h : PC (chR σ r) 500 0 s = .inr (s3, c)) (hc : fr + c.length ≤ 1080) (hM : ∀ i, i < c.length → M.1 16 (fr + i) = c.getD i 0) (hN : ∀ i, i < 5 → M.1 80 i = N i) : ∃ M', f_Rules_run_14_80 (nI fr) (nI (fr + c.length)) M = some (sV σ N r s, M') ∧ Fr s23 M M' := by
  obtain ⟨-, -, h3, h4⟩ := sum_val N hL hs h
  exact e_run hc hM hN h4 (cd_names c) h3
section CW
variable {M : Mem} {σ N : Nat → Int32} {w m : Int32}
theorem fr16 {M M' : Mem} (h : Fr sRun M M') {a : Nat} (ha : a ≠ 23) (hb : a ≠ 14) : M'.1 a = M.1 a := funext fun i => h.at_ (by
  unfold sRun
  simp [ha, hb])
theorem e_inC (R : Rrule M.1 σ) (hR : nt σ 3 ≤ 9) {r : Nat} (hr : r < nt σ 3) (hN : ∀ i, i < 5 → M.1 80 i = N i) {fo la : Int32} {M1 : Mem} (hF : Fr sRun M M1) (hb : clA σ N w m r = fo) (hla : la = if fo = -1 then -1 else σ (790 + fo.toNatClampNeg / 8)) (hge : la ≤ σ (790 + r)) : ∃ q, itr (b_Rules_worth_14_80_48 w (fo, la, nI r, M1)) FU (fo, la, 0, M1) = some q ∧ q.1 = clI σ N w r fo (nt σ (1890 + r)) ∧ q.2.1 = (if q.1 = -1 then -1 else σ (790 + q.1.toNatClampNeg / 8)) ∧ Fr sRun M q.2.2 := by
  obtain ⟨R1, R2⟩ := R
  have hh : ∀ r, r < nt σ 3 → nt σ (1890 + r) ≤ 8 := fun r hr => by
    obtain ⟨-, -, -, l, -, l2, -, l3, -⟩ := R2 r hr
    unfold nt
    rw [l3, nI_cl (by omega)]; exact l2
  have hrng := clA_rng (N := N) (w := w) (m := m) hh r (by omega)
  rw [hb] at hrng
  obtain ⟨r1, r2, r3, l, l1, l2, l3, l4, l5⟩ := R2 r hr
  obtain ⟨e8, h8⟩ := nt_inb r3
  have hcnt : nt σ (1890 + r) = l.length := by unfold nt; rw [l4, nI_cl (by omega)]
  rw [hcnt]
  refine itr_cnt (fun k s => s.2.2.1 = nI k ∧ s.1 = clI σ N w r fo k ∧ s.2.1 = (if s.1 = -1 then -1 else σ (790 + s.1.toNatClampNeg / 8)) ∧ Fr sRun M s.2.2.2) _ l.length (by omega) ⟨rfl, rfl, hla, hF⟩ ?_ ?_
  · rintro k ⟨f, a, c, M2⟩ hk ⟨rfl, hf, ha, hF2⟩
    dsimp only at hf ha hF2
    left
    have hx : ∀ a, a ≠ 23 → a ≠ 14 → M2.1 a = M.1 a := fun a h1 h2 => fr16 hF2 h1 h2
    have hx1 : ∀ a, a ≠ 23 → a ≠ 14 → M1.1 a = M.1 a := fun a h1 h2 => fr16 hF h1 h2
    obtain ⟨m1, m2, m3, m4, m5⟩ := l5 k hk
    obtain ⟨c1, fr, c2, c3, c4, c5, c6, c7, c8⟩ := m2
    have hi : nI r * 8 + nI k = nI (8 * r + k) := by rw [show (8 : Int32) = nI 8 from rfl, nI_muln, nI_addn, Nat.mul_comm]
    have hmon : f = -1 ∨ σ (790 + f.toNatClampNeg / 8) ≤ σ (790 + r) := by
      have : ∀ k, k ≤ 8 → clI σ N w r fo k = -1 ∨ σ (790 + (clI σ N w r fo k).toNatClampNeg / 8) ≤ σ (790 + r) := by
        intro k
        induction k with
        | zero =>
          intro _
          show fo = -1 ∨ σ (790 + fo.toNatClampNeg / 8) ≤ _
          by_cases h : fo = -1
          · exact .inl h
          · rw [hla, if_neg h] at hge; exact .inr hge
        | succ k ih =>
          intro hk
          unfold clI
          split
          · right
            rw [nI_cl (by omega), show (8 * r + k) / 8 = r by omega]; exact Int32.le_refl _
          · exact ih (by omega)
      rw [hf]; exact this k (by omega)
    have hwd : σ (1900 + (8 * r + k)) = nI l[k].1 := m1.1
    have hsc : clI σ N w r fo (k + 1) = if σ (1900 + (8 * r + k)) = w ∧ (f = -1 ∨ σ (790 + f.toNatClampNeg / 8) ≤ σ (790 + r)) ∧ hldS σ N r k = true then nI (8 * r + k) else f := by
      rw [hf]; rfl
    have hbody : b_Rules_worth_14_80_48 w (fo, la, nI r, M1) (f, a, nI k, M2) = (if decide (nI l[k].1 = w) = true then (if decide ((M.1 22 (8 * r + k)) ≤ (M.1 21 (8 * r + k))) = true then (some (.inl (nI (8 * r + k), σ (790 + r), nI (k + 1), M2))) else ((f_Rules_run_14_80 (M.1 21 (8 * r + k)) (M.1 22 (8 * r + k)) M2).bind fun q9 => if decide (q9.1 ≤ 0) = true then (some (.inl (nI (8 * r + k), σ (790 + r), nI (k + 1), q9.2))) else (some (.inl (f, a, nI (k + 1), q9.2))))) else (some (.inl (f, a, nI (k + 1), M2)))) := by
      unfold b_Rules_worth_14_80_48
      dsimp only
      rw [hx 17 (by decide) (by decide), hx 19 (by decide) (by decide), hx 21 (by decide) (by decide), hx 22 (by decide) (by decide), hx1 18 (by decide) (by decide), hi, atv_nI (by omega) (by omega), atv_nI (by omega) (by omega), atv_nI (by omega) (by omega), atv_nI (by omega) (by omega), atv_nI (by omega) (by omega), l3, dlt_t hk (by omega), ite_tt, c1, r1, nI_one]
    rw [hbody]
    have hyes : ∀ M3, Fr sRun M M3 → hldS σ N r k = true → nI l[k].1 = w → ((nI (8 * r + k), σ (790 + r), nI (k + 1), M3) : Int32 × Int32 × Int32 × Mem).2.2.1 = nI (k + 1) ∧ nI (8 * r + k) = clI σ N w r fo (k + 1) ∧ σ (790 + r) = (if nI (8 * r + k) = -1 then -1 else σ (790 + (nI (8 * r + k)).toNatClampNeg / 8)) ∧ Fr sRun M M3 := fun M3 h1 h2 h3 => by
      refine ⟨rfl, ?_, ?_, h1⟩
      · rw [hsc, if_pos ⟨hwd.trans h3, hmon, h2⟩]
      · rw [if_neg (nI_ne_m1 (by omega)), nI_cl (by omega), show (8 * r + k) / 8 = r by omega]
    by_cases cw : nI l[k].1 = w
    · rw [decide_eq_true cw, ite_tt]
      cases hu : l[k].2.2.2 with
      | none =>
        have h22 := c8 hu
        rw [h22, c4, dle_t (Nat.le_refl _) (by omega), ite_tt]
        have hh : hldS σ N r k = true := by
          unfold hldS
          rw [m1.2.2.1 hu]; rfl
        exact ⟨_, rfl, hyes M2 hF2 hh cw⟩
      | some q =>
        obtain ⟨s2, cc⟩ := q
        obtain ⟨d1, d2, d3⟩ := c7 s2 cc hu
        obtain ⟨d4, s4, d5⟩ := m5 s2 cc hu
        have h60 : σ (2060 + (8 * r + k)) = nI s2 := m1.2.2.2 s2 cc hu
        obtain ⟨v1, v2, v3, v4⟩ := sum_val N (by omega) d4 d5
        have hpos : 0 < cc.length := by
          cases cc with
          | nil => exact absurd rfl v2
          | cons _ _ => simp
        obtain ⟨M3, g1, g2⟩ := run_val (N := N) (M := M2) (fr := fr + l[k].2.2.1.length) (by omega) d4 d5 (by omega) (fun i hi => by rw [hx 16 (by decide) (by decide)]; exact d3 i hi) (fun i hi => by rw [hx 80 (by decide) (by decide)]; exact hN i hi)
        rw [d1, c4, dle_f (by omega) (by omega), ite_ff, g1, Option.bind_some]
        dsimp only
        have hn2 : nt σ (2060 + (8 * r + k)) = s2 := by unfold nt; rw [h60, nI_cl (by omega)]
        by_cases cv : sV σ N r s2 ≤ 0
        · rw [decide_eq_true cv, ite_tt]
          have hh : hldS σ N r k = true := by
            unfold hldS
            rw [hn2, decide_eq_true cv]; simp
          exact ⟨_, rfl, hyes M3 (hF2.trans (g2.mono s23_sRun)) hh cw⟩
        · rw [decide_eq_false cv, ite_ff]
          have hh : hldS σ N r k = false := by
            unfold hldS
            rw [hn2, decide_eq_false cv, h60, nI_eqm1 (by omega)]; rfl
          refine ⟨_, rfl, rfl, ?_, ha, hF2.trans (g2.mono s23_sRun)⟩
          rw [hsc, if_neg (fun h => by rw [hh] at h; exact absurd h.2.2 (by decide))]
    · rw [decide_eq_false cw, ite_ff]
      refine ⟨_, rfl, rfl, ?_, ha, hF2⟩
      rw [hsc, if_neg (fun h => cw (hwd.symm.trans h.1))]
  · rintro ⟨f, a, c, M2⟩ ⟨rfl, hf, ha, hF2⟩
    dsimp only at hf ha hF2
    refine ⟨(f, a, M2), ?_, hf, ha, hF2⟩
    unfold b_Rules_worth_14_80_48
    dsimp only
    rw [fr16 hF2 (a := 17) (by decide) (by decide), atv_nI (by omega) (by omega), l3, dlt_f (Nat.le_refl _) (by omega), ite_ff]
theorem clV_eq (v : Int32) : clV v = jmax 0 (jmin 99999 v) := rfl
/-- class: what holds of a word in a month, names being as they are -/
theorem e_worthC (R : Rrule M.1 σ) (hR : nt σ 3 ≤ 9) (h3 : σ 3 = nI (nt σ 3)) (hN : ∀ i, i < 5 → M.1 80 i = N i) : ∃ M', f_Rules_worth_14_80 w m M = some (ruV σ N w m, M') ∧ Fr sRun M M' ∧ M'.1 14 11 = whV σ N w m := by
  have R0 := R
  obtain ⟨R1, R2⟩ := R
  have hh : ∀ r, r < nt σ 3 → nt σ (1890 + r) ≤ 8 := fun r hr => by
    obtain ⟨-, -, -, l, -, l2, -, l3, -⟩ := R2 r hr
    unfold nt
    rw [l3, nI_cl (by omega)]; exact l2
  obtain ⟨q, k1, k2, k3⟩ := itr_cnt (body := b_Rules_worth_14_80_9 w m) (s0 := (-1, -1, 0, M)) (fun r s => s.2.2.1 = nI r ∧ s.1 = clA σ N w m r ∧ s.2.1 = (if s.1 = -1 then -1 else σ (790 + s.1.toNatClampNeg / 8)) ∧ Fr sRun M s.2.2.2) (fun q => q.1 = clA σ N w m (nt σ 3) ∧ Fr sRun M q.2) (nt σ 3) (by omega) ⟨rfl, rfl, rfl, Fr.refl M⟩ (by
    rintro r ⟨f, a, c, M1⟩ hr ⟨rfl, hf, ha, hF⟩
    dsimp only at hf ha hF
    left
    have h9 : M1.1 14 9 = nI (nt σ 3) := by
      rw [hF.at_ rfl, R1]; exact h3
    obtain ⟨r1, r2, -⟩ := R2 r hr
    have hcl : clA σ N w m (r + 1) = if σ (790 + r) ≤ m then clI σ N w r f (nt σ (1890 + r)) else f := by rw [hf]; rfl
    have hbody : b_Rules_worth_14_80_9 w m (f, a, nI r, M1) = (if decide (σ (790 + r) ≤ m) = true then (if decide (σ (790 + r) < a) = true then (some (.inl (f, a, nI (r + 1), M1))) else ((itr (b_Rules_worth_14_80_48 w (f, a, nI r, M1)) FU (f, a, 0, M1)).bind fun q11 => some (.inl (q11.1, q11.2.1, nI (r + 1), q11.2.2)))) else (some (.inl (f, a, nI (r + 1), M1)))) := by
      unfold b_Rules_worth_14_80_9
      dsimp only
      rw [h9, dlt_t hr (by omega), ite_tt, fr16 hF (a := 18) (by decide) (by decide), atv_nI (by omega) (by omega), r1, nI_one]
    rw [hbody]
    by_cases c1 : σ (790 + r) ≤ m
    · rw [decide_eq_true c1, ite_tt]
      rw [if_pos c1] at hcl
      by_cases c2 : σ (790 + r) < a
      · rw [decide_eq_true c2, ite_tt]
        refine ⟨_, rfl, rfl, ?_, ha, hF⟩
        -- nothing of this rule can come
        have hne : f ≠ -1 := fun h => by
          rw [if_pos h] at ha
          rw [ha] at c2
          obtain ⟨e, -⟩ := nI_of_inb r2
          rw [e, i_lt, m1_toI, nI_toI (by have := (nI_of_inb r2).2; omega)] at c2
          omega
        rw [if_neg hne] at ha
        rw [hcl]
        have : ∀ k, clI σ N w r f k = f := by
          intro k
          induction k with
          | zero => rfl
          | succ k ih =>
            unfold clI
            rw [ih, if_neg]
            rintro ⟨-, h, -⟩
            rcases h with h | h
            · exact hne h
            · rw [ha] at c2
              exact Int32.not_le.mpr c2 h
        exact (this _).symm
      · rw [decide_eq_false c2, ite_ff]
        obtain ⟨q, g1, g2, g3, g4⟩ := e_inC (w := w) (m := m) R0 hR hr hN hF hf.symm ha (Int32.not_lt.mp c2)
        refine ⟨(q.1, q.2.1, nI (r + 1), q.2.2), by rw [g1]; rfl, rfl, by rw [hcl]; exact g2, g3, g4⟩
    · rw [decide_eq_false c1, ite_ff]
      rw [if_neg c1] at hcl
      exact ⟨_, rfl, rfl, hcl.symm, ha, hF⟩) (by
    rintro ⟨f, a, c, M1⟩ ⟨rfl, hf, ha, hF⟩
    dsimp only at hf ha hF
    have h9 : M1.1 14 9 = nI (nt σ 3) := by
      rw [hF.at_ rfl, R1]; exact h3
    refine ⟨(f, M1), ?_, hf, hF⟩
    unfold b_Rules_worth_14_80_9
    dsimp only
    rw [h9, dlt_f (Nat.le_refl _) (by omega), ite_ff])
  obtain ⟨f, M1⟩ := q
  dsimp only at k2 k3
  have hrng := clA_rng (N := N) (w := w) (m := m) hh (nt σ 3) (Nat.le_refl _)
  unfold ruV whV
  rw [← k2] at hrng ⊢
  unfold f_Rules_worth_14_80 jv_
  rw [k1, Option.bind_some]
  dsimp only
  rcases hrng with h | ⟨c, hc, h⟩
  · rw [h, m1_neg, ite_tt, ite_tt, if_pos rfl, if_pos rfl]
    have e80 : atv ((wI M1 14 11 (-5)).1 80) 5 0 = N 0 := by
      rw [show (0 : Int32) = nI 0 from rfl, atv_nI (by omega) (by omega)]
      show M1.1 80 0 = _
      rw [k3.at_ rfl]; exact hN 0 (by omega)
    refine ⟨wI M1 14 11 (-5), ?_, k3.wI rfl, rde⟩
    rw [e80]
    have hus : f_Rules_usual w (N 0) = some (usu w (N 0)) := by
      unfold f_Rules_usual usu
      by_cases d0 : w = 0
      · rw [decide_eq_true d0, if_pos d0]; rfl
      · rw [decide_eq_false d0, if_neg d0, ite_ff]
        by_cases d1 : w = 1
        · rw [decide_eq_true d1, if_pos d1]; rfl
        · rw [decide_eq_false d1, if_neg d1, ite_ff]
          by_cases d2 : w = 2
          · rw [decide_eq_true d2, if_pos d2]; rfl
          · rw [decide_eq_false d2, if_neg d2, ite_ff]
            by_cases d3 : w = 3
            · rw [decide_eq_true d3, if_pos d3]; rfl
            · rw [decide_eq_false d3, if_neg d3, ite_ff]
    rw [hus]; rfl
  · obtain ⟨h, hcm⟩ := h
    have hc72 : c < 72 := by omega
    rw [h, nI_nneg (by omega), ite_ff, ite_ff, if_neg (nI_ne_m1 (by omega)), if_neg (nI_ne_m1 (by omega)), nI_cl (by omega)]
    rw [nI_why c hc72]
    have hr : c / 8 < nt σ 3 := by omega
    obtain ⟨r1, r2, r3, l, l1, l2, l3, l4, l5⟩ := R2 (c / 8) hr
    have hcnt : nt σ (1890 + c / 8) = l.length := by unfold nt; rw [l4, nI_cl (by omega)]
    rw [hcnt] at hcm
    have hc8 : 8 * (c / 8) + c % 8 = c := by omega
    obtain ⟨m1, m2, m3, ⟨s3, m4⟩, m5⟩ := l5 (c % 8) hcm
    rw [hc8] at m1 m2
    obtain ⟨c1, fr, c2, c3, c4, c5, c6, c7, c8⟩ := m2
    have h8 : nt σ (800 + c / 8) ≤ 120 := by have := (nt_inb r3).2; omega
    have h1980 : nt σ (1980 + c) = l[c % 8].2.1 := by unfold nt; rw [m1.2.1, nI_cl (by omega)]
    have hx : ∀ v, ∀ a, a ≠ 23 → a ≠ 14 → (wI M1 14 11 v).1 a = M.1 a := fun v a h1 h2 => by
      rw [rdk h2]; exact fr16 k3 h1 h2
    obtain ⟨M3, g1, g2⟩ := run_val (N := N) (M := wI M1 14 11 (nI (100 * (c / 8) + c % 8))) (fr := fr) h8 m3 m4 (by omega) (fun i hi => by rw [hx _ 16 (by decide) (by decide)]; exact c6 i hi) (fun i hi => by rw [hx _ 80 (by decide) (by decide)]; exact hN i hi)
    rw [hx _ 20 (by decide) (by decide), hx _ 21 (by decide) (by decide), atv_nI (by omega) (by omega), atv_nI (by omega) (by omega), c3, c4, g1, h1980]
    refine ⟨M3, rfl, (k3.wI rfl).trans (g2.mono s23_sRun), ?_⟩
    rw [g2.at_ rfl, rde]
end CW
/-- the model's reading of a rule's sum -/
def sW (a i : Nat) : Bool := a == 94 && (i == 6 || (i == 7 || i == 8))
section MW
variable {M : Mem} {C : Nat → Nat → Int32} {N : Nat → Int32} {w m : Int32}
theorem sp_fr {M M' : Mem} (h : Fr sW M M') (s : Nat) (v : Int32) : Fr sW M (sp M' s v) := by
  have h2 : sp M' s v = wI (wI M' 94 7 (nI s)) 94 8 v := (sp_of M' s v).symm
  rw [h2]
  exact (h.wI rfl).wI rfl
theorem m_worth {r s s3 : Nat} {c : List Int32} (hr8 : r ≤ 8) (h8 : inb (M.1 95 (800 + r)) 121 = true) (hN : ∀ i, i < 5 → M.1 99 i = N i) (hs : s ≤ nt (M.1 95) (800 + r)) (h : PC (chR (M.1 95) r) 500 0 s = .inr (s3, c)) : ∃ M', f_Mo_worth_94 (nI r) (nI s) M = some (sV (M.1 95) N r s, M') ∧ Fr sW M M' := by
  obtain ⟨e8, l8⟩ := nt_inb h8
  obtain ⟨v1, -, -, -⟩ := sum_val N (by omega) hs h
  have T : Tx (wI M 94 6 (nI r)) r (nt (M.1 95) (800 + r)) (chR (M.1 95) r) := ⟨rde, hr8, by omega, e8, fun s => rfl⟩
  exact ⟨_, e_worth T hN hs v1, sp_fr ((Fr.refl M).wI rfl) _ _⟩
theorem row95 {M M' : Mem} (h : Fr sW M M') : M'.1 95 = M.1 95 := h.row (fun i => rfl)
theorem e_inM (R : Rrule C (M.1 95)) (hR : nt (M.1 95) 3 ≤ 9) {r : Nat} (hr : r < nt (M.1 95) 3) (hm : M.1 95 (790 + r) ≤ m) (hN : ∀ i, i < 5 → M.1 99 i = N i) {fo : Int32} {M1 : Mem} (hF : Fr sW M M1) (hb : clA (M.1 95) N w m r = fo) (y : Int32 × Int32 × Mem) (hy : y.2.1 = nI r) : ∃ q, itr (b_Mo_clauseOf_94_19 w m y) FU (fo, 0, M1) = some q ∧ q.1 = clI (M.1 95) N w r fo (nt (M.1 95) (1890 + r)) ∧ Fr sW M q.2 := by
  obtain ⟨R1, R2⟩ := R
  generalize hσ : M.1 95 = σ at *
  have hh : ∀ r, r < nt σ 3 → nt σ (1890 + r) ≤ 8 := fun r hr => by
    obtain ⟨-, -, -, l, -, l2, -, l3, -⟩ := R2 r hr
    unfold nt
    rw [l3, nI_cl (by omega)]; exact l2
  have hrng := clA_rng (N := N) (w := w) (m := m) hh r (by omega)
  rw [hb] at hrng
  obtain ⟨r1, r2, r3, l, l1, l2, l3, l4, l5⟩ := R2 r hr
  have hcnt : nt σ (1890 + r) = l.length := by unfold nt; rw [l4, nI_cl (by omega)]
  have hrk := clI_rng (N := N) (w := w) (hh r hr) hrng
  rw [hcnt] at hrk ⊢
  refine itr_cnt (fun k s => s.2.1 = nI k ∧ s.1 = clI σ N w r fo k ∧ Fr sW M s.2.2) _ l.length (by omega) ⟨rfl, rfl, hF⟩ ?_ ?_
  · rintro k ⟨f, c, M2⟩ hk ⟨rfl, hf, hF2⟩
    dsimp only at hf hF2
    left
    have e95 : M2.1 95 = σ := (row95 hF2).trans hσ
    obtain ⟨m1, -, m3, m4, m5⟩ := l5 k hk
    have hcl := hrk k (by omega)
    rw [← hf] at hcl
    have hsc : clI σ N w r fo (k + 1) = if σ (1900 + (8 * r + k)) = w ∧ (f = -1 ∨ σ (790 + f.toNatClampNeg / 8) ≤ σ (790 + r)) ∧ hldS σ N r k = true then nI (8 * r + k) else f := by
      rw [hf]; rfl
    have i90 : (1890 : Int32) + nI r = nI (1890 + r) := nI_addn _ _
    have i79 : (790 : Int32) + nI r = nI (790 + r) := nI_addn _ _
    have i19 : (1900 : Int32) + 8 * nI r + nI k = nI (1900 + (8 * r + k)) := by rw [show (8 : Int32) = nI 8 from rfl, show (1900 : Int32) = nI 1900 from rfl, nI_muln, nI_addn, nI_addn, Nat.add_assoc]
    have i8 : (8 : Int32) * nI r + nI k = nI (8 * r + k) := by rw [show (8 : Int32) = nI 8 from rfl, nI_muln, nI_addn]
    -- whether the clause holds
    have hh2 : ∃ M3, f_Mo_holds_94 (nI (8 * r + k)) M2 = some (hldS σ N r k, M3) ∧ Fr sW M M3 := by
      have i20 : (2060 : Int32) + nI (8 * r + k) = nI (2060 + (8 * r + k)) := nI_addn _ _
      unfold f_Mo_holds_94
      rw [i20, inb_t (by omega) (by omega), ite_tt, ite_tt, nI_cl (by omega), e95, nI_div8 _ (by omega), show (8 * r + k) / 8 = r by omega]
      cases hu : l[k].2.2.2 with
      | none =>
        have h60 := m1.2.2.1 hu
        have h1 : hldS σ N r k = true := by unfold hldS; rw [h60]; rfl
        rw [h60, h1]
        exact ⟨M2, rfl, hF2⟩
      | some q =>
        obtain ⟨s2, cc⟩ := q
        have h60 := m1.2.2.2 s2 cc hu
        obtain ⟨d4, s4, d5⟩ := m5 s2 cc hu
        obtain ⟨M3, g1, g2⟩ := m_worth (M := M2) (N := N) (r := r) (s := s2) (by omega) (by rw [e95]; exact r3) (fun i hi => by rw [hF2.at_ rfl]; exact hN i hi) (by rw [e95]; exact d4) (by rw [e95]; exact d5)
        rw [e95] at g1
        have hs2 := (nt_inb r3).2
        have hn2 : nt σ (2060 + (8 * r + k)) = s2 := by unfold nt; rw [h60, nI_cl (by omega)]
        have h1 : hldS σ N r k = decide (sV σ N r s2 ≤ 0) := by unfold hldS; rw [hn2, h60, nI_eqm1 (by omega)]; rfl
        rw [h60, nI_eqm1 (by omega), ite_ff, g1, Option.bind_some, h1]
        refine ⟨M3, ?_, hF2.trans g2⟩
        cases decide (sV σ N r s2 ≤ 0) <;> rfl
    obtain ⟨M3, g1, g2⟩ := hh2
    have hbody : b_Mo_clauseOf_94_19 w m y (f, nI k, M2) = (if (decide (σ (1900 + (8 * r + k)) = w) && (decide (f = -1) || !decide (σ (790 + r) < σ (790 + f.toNatClampNeg / 8)))) = true then (if hldS σ N r k = true then (some (.inl (nI (8 * r + k), nI (k + 1), M3))) else (some (.inl (f, nI (k + 1), M3)))) else (some (.inl (f, nI (k + 1), M2)))) := by
      unfold b_Mo_clauseOf_94_19 jn_
      dsimp only
      rw [hy, i90, i79, i19, i8, e95, inb_t (show 1890 + r < 4700 by omega) (by omega), inb_t (show 790 + r < 4700 by omega) (by omega), inb_t (show 1900 + (8 * r + k) < 4700 by omega) (by omega), nI_cl (by omega), nI_cl (by omega), nI_cl (by omega), l4, dlt_t hk (by omega), decide_eq_true hm]
      simp only [↓reduceIte]
      rw [nI_one, g1, Option.bind_some]
      dsimp only
      by_cases d1 : σ (1900 + (8 * r + k)) = w
      · rw [decide_eq_true d1, ite_tt, Bool.true_and]
        rcases hcl with h | ⟨c, hc1, h, -⟩
        · rw [h]; rfl
        · rw [h, nI_eqm1 (by omega), ite_ff, nI_cl (by omega), nI_div8 c (by omega), show (790 : Int32) + nI (c / 8) = nI (790 + c / 8) from nI_addn _ _, inb_t (by omega) (by omega), ite_tt, nI_cl (by omega), Bool.false_or]
          cases decide (σ (790 + r) < σ (790 + c / 8)) <;> rfl
      · rw [decide_eq_false d1]; rfl
    rw [hbody]
    have hcond : (decide (σ (1900 + (8 * r + k)) = w) && (decide (f = -1) || !decide (σ (790 + r) < σ (790 + f.toNatClampNeg / 8)))) = true ↔ σ (1900 + (8 * r + k)) = w ∧ (f = -1 ∨ σ (790 + f.toNatClampNeg / 8) ≤ σ (790 + r)) := by
      simp only [Bool.and_eq_true, Bool.or_eq_true, decide_eq_true_eq, Bool.not_eq_true', decide_eq_false_iff_not, Int32.not_lt]
    by_cases d : (decide (σ (1900 + (8 * r + k)) = w) && (decide (f = -1) || !decide (σ (790 + r) < σ (790 + f.toNatClampNeg / 8)))) = true
    · rw [if_pos d]
      have d' := hcond.mp d
      cases hv : hldS σ N r k
      · refine ⟨_, rfl, rfl, ?_, g2⟩
        rw [hsc, if_neg (fun h => by rw [hv] at h; exact absurd h.2.2 (by decide))]
      · refine ⟨_, rfl, rfl, ?_, g2⟩
        rw [hsc, if_pos ⟨d'.1, d'.2, hv⟩]
    · rw [if_neg d]
      refine ⟨_, rfl, rfl, ?_, hF2⟩
      rw [hsc, if_neg (fun h => d (hcond.mpr ⟨h.1, h.2.1⟩))]
  · rintro ⟨f, c, M2⟩ ⟨rfl, hf, hF2⟩
    dsimp only at hf hF2
    have e95 : M2.1 95 = σ := (row95 hF2).trans hσ
    refine ⟨(f, M2), ?_, hf, hF2⟩
    unfold b_Mo_clauseOf_94_19
    dsimp only
    rw [hy, show (1890 : Int32) + nI r = nI (1890 + r) from nI_addn _ _, inb_t (by omega) (by omega), ite_tt, nI_cl (by omega), e95, l4, dlt_f (Nat.le_refl _) (by omega), ite_ff]
theorem e_clauseOf (R : Rrule C (M.1 95)) (hR : nt (M.1 95) 3 ≤ 9) (h3 : M.1 95 3 = nI (nt (M.1 95) 3)) (hN : ∀ i, i < 5 → M.1 99 i = N i) : ∃ M', f_Mo_clauseOf_94 w m M = some (clA (M.1 95) N w m (nt (M.1 95) 3), M') ∧ Fr sW M M' := by
  have R0 := R
  obtain ⟨R1, R2⟩ := R
  obtain ⟨q, k1, k2, k3⟩ := itr_cnt (body := b_Mo_clauseOf_94_5 w m) (s0 := (-1, 0, M)) (fun r s => s.2.1 = nI r ∧ s.1 = clA (M.1 95) N w m r ∧ Fr sW M s.2.2) (fun q => q.1 = clA (M.1 95) N w m (nt (M.1 95) 3) ∧ Fr sW M q.2) (nt (M.1 95) 3) (by omega) ⟨rfl, rfl, Fr.refl M⟩ (by
    rintro r ⟨f, c, M1⟩ hr ⟨rfl, hf, hF⟩
    dsimp only at hf hF
    left
    have e95 : M1.1 95 = M.1 95 := row95 hF
    have hcl : clA (M.1 95) N w m (r + 1) = if M.1 95 (790 + r) ≤ m then clI (M.1 95) N w r f (nt (M.1 95) (1890 + r)) else f := by rw [hf]; rfl
    have hpre : ∀ q, itr (b_Mo_clauseOf_94_19 w m (f, nI r, M1)) FU (f, 0, M1) = some q → b_Mo_clauseOf_94_5 w m (f, nI r, M1) = some (.inl (q.1, nI (r + 1), q.2)) := fun q hq => by
      unfold b_Mo_clauseOf_94_5
      dsimp only
      rw [e95, h3, dlt_t hr (by omega), ite_tt, hq, nI_one]; rfl
    by_cases c1 : M.1 95 (790 + r) ≤ m
    · rw [if_pos c1] at hcl
      obtain ⟨q, g1, g2, g3⟩ := e_inM R0 hR hr c1 hN hF hf.symm (f, nI r, M1) rfl
      exact ⟨_, hpre q g1, rfl, by rw [hcl]; exact g2, g3⟩
    · rw [if_neg c1] at hcl
      obtain ⟨-, -, -, l, l1, l2, l3, l4, -⟩ := R2 r hr
      refine ⟨_, hpre (f, M1) ?_, rfl, hcl.symm, hF⟩
      have hF2 : FU = 999999999 + 1 := rfl
      rw [hF2]
      refine itr_r ?_
      unfold b_Mo_clauseOf_94_19
      dsimp only
      rw [show (1890 : Int32) + nI r = nI (1890 + r) from nI_addn _ _, show (790 : Int32) + nI r = nI (790 + r) from nI_addn _ _, inb_t (by omega) (by omega), ite_tt, nI_cl (by omega), inb_t (by omega) (by omega), nI_cl (by omega), e95, l4, show decide ((0 : Int32) < nI l.length) = true from dlt_t (a := 0) (by omega) (by omega), decide_eq_false c1]; rfl) (by
    rintro ⟨f, c, M1⟩ ⟨rfl, hf, hF⟩
    dsimp only at hf hF
    refine ⟨(f, M1), ?_, hf, hF⟩
    unfold b_Mo_clauseOf_94_5
    dsimp only
    rw [row95 hF, h3, dlt_f (Nat.le_refl _) (by omega), ite_ff])
  obtain ⟨f, M1⟩ := q
  dsimp only at k2 k3
  refine ⟨M1, ?_, k3⟩
  unfold f_Mo_clauseOf_94
  rw [k1, ← k2]; rfl
theorem e_ruleBy (R : Rrule C (M.1 95)) (hR : nt (M.1 95) 3 ≤ 9) (h3 : M.1 95 3 = nI (nt (M.1 95) 3)) (hN : ∀ i, i < 5 → M.1 99 i = N i) : ∃ M', f_Mo_ruleBy_94 w m M = some (ruV (M.1 95) N w m, M') ∧ Fr sW M M' := by
  obtain ⟨M1, k1, k3⟩ := e_clauseOf (w := w) (m := m) R hR h3 hN
  obtain ⟨R1, R2⟩ := R
  have hh : ∀ r, r < nt (M.1 95) 3 → nt (M.1 95) (1890 + r) ≤ 8 := fun r hr => by
    obtain ⟨-, -, -, l, -, l2, -, l3, -⟩ := R2 r hr
    unfold nt
    rw [l3, nI_cl (by omega)]; exact l2
  have hrng := clA_rng (N := N) (w := w) (m := m) hh (nt (M.1 95) 3) (Nat.le_refl _)
  unfold ruV
  unfold f_Mo_ruleBy_94
  rw [k1, Option.bind_some]
  dsimp only
  have e95 := row95 k3
  rcases hrng with h | ⟨c, hc, h, hcm⟩
  · rw [h, show decide ((-1 : Int32) = -1) = true from rfl, ite_tt, if_pos rfl]
    have e99 : M1.1 99 0 = N 0 := by rw [k3.at_ rfl]; exact hN 0 (by omega)
    refine ⟨M1, ?_, k3⟩
    rw [e99]
    unfold usu
    by_cases d0 : w = 0
    · rw [decide_eq_true d0, if_pos d0]; rfl
    · rw [decide_eq_false d0, if_neg d0, ite_ff]
      by_cases d1 : w = 1
      · rw [decide_eq_true d1, if_pos d1]; rfl
      · rw [decide_eq_false d1, if_neg d1, ite_ff]
        by_cases d2 : w = 2
        · rw [decide_eq_true d2, if_pos d2]; rfl
        · rw [decide_eq_false d2, if_neg d2, ite_ff]
          by_cases d3 : w = 3
          · rw [decide_eq_true d3, if_pos d3]; rfl
          · rw [decide_eq_false d3, if_neg d3, ite_ff]
  · have hc72 : c < 72 := by omega
    rw [h, nI_eqm1 (by omega), ite_ff, if_neg (nI_ne_m1 (by omega)), nI_cl (by omega), nI_div8 c hc72, show (1980 : Int32) + nI c = nI (1980 + c) from nI_addn _ _, inb_t (by omega) (by omega), ite_tt, nI_cl (by omega), e95]
    obtain ⟨r1, r2, r3, l, l1, l2, l3, l4, l5⟩ := R2 (c / 8) (by omega)
    have hcnt : nt (M.1 95) (1890 + c / 8) = l.length := by unfold nt; rw [l4, nI_cl (by omega)]
    rw [hcnt] at hcm
    have hc8 : 8 * (c / 8) + c % 8 = c := by omega
    obtain ⟨m1, -, m3, ⟨s3, m4⟩, -⟩ := l5 (c % 8) hcm
    rw [hc8] at m1
    have h1980 : nt (M.1 95) (1980 + c) = l[c % 8].2.1 := by
      unfold nt
      rw [m1.2.1, nI_cl (by have := (nt_inb r3).2; omega)]
    obtain ⟨M3, g1, g2⟩ := m_worth (M := M1) (N := N) (r := c / 8) (by omega) (by rw [e95]; exact r3) (fun i hi => by rw [k3.at_ rfl]; exact hN i hi) (by rw [e95]; exact m3) (by rw [e95]; exact m4)
    rw [e95] at g1
    rw [m1.2.1, g1, Option.bind_some, h1980]
    dsimp only
    refine ⟨M3, ?_, k3.trans g2⟩
    generalize sV (M.1 95) N (c / 8) l[c % 8].2.1 = v
    unfold clV jmax jmin
    by_cases d1 : v < 0
    · rw [decide_eq_true d1, ite_tt]
      have e1 : v < 99999 := Int32.lt_trans d1 (by decide)
      rw [if_pos e1, if_neg (fun h => Int32.lt_irrefl (Int32.lt_trans d1 h))]
    · rw [decide_eq_false d1, ite_ff]
      by_cases d2 : v ≤ 99999
      · rw [decide_eq_true d2, ite_tt]
        have e2 : (if v < 99999 then v else 99999) = v := by
          by_cases e : v < 99999
          · rw [if_pos e]
          · rw [if_neg e]; exact Int32.le_antisymm (Int32.not_lt.mp e) d2
        rw [e2]
        by_cases e3 : 0 < v
        · rw [if_pos e3]
        · rw [if_neg e3]
          exact congrArg (fun x => some (x, M3)) (Int32.le_antisymm (Int32.not_lt.mp e3) (Int32.not_lt.mp d1))
      · rw [decide_eq_false d2, ite_ff, if_neg (fun h => d2 (Int32.le_of_lt h)), if_pos (by decide)]
end MW
