abbrev CL : Type := Nat × Nat × List Int32 × Option (Nat × List Int32)
/-- a rule: its clauses -/
def pR (ch : Nat → Int32) (L : Nat) : Nat → Nat → Nat ⊕ List CL
  | 0, s => .inl s
  | k + 1, s => Sum.elim (fun e => .inl e) (fun q => if L ≤ q.1 then .inr [(wdOf (ch s), q.2)] else if ch q.1 = 59 ∧ 1 ≤ k then Sum.elim (fun e => .inl e) (fun l => .inr ((wdOf (ch s), q.2) :: l)) (pR ch L k (q.1 + 1)) else .inl q.1) (pCl ch s)
theorem Rcl.keep {C C' : Nat → Nat → Int32} {k b hi hi' w : Nat} {c : List Int32} {u : Option (Nat × List Int32)} (h : Rcl C k b hi w c u) (h19 : C' 19 k = C 19 k) (h20 : C' 20 k = C 20 k) (h21 : C' 21 k = C 21 k) (h22 : C' 22 k = C 22 k) (h16 : ∀ i, b ≤ i → i < hi → C' 16 i = C 16 i) (hh : hi ≤ hi') : Rcl C' k b hi' w c u := by
  obtain ⟨a1, fr, a2, a3, a4, a5, a6, a7, a8⟩ := h
  refine ⟨h19.trans a1, fr, a2, h20.trans a3, h21.trans a4, by omega, fun i hi => ?_, fun s2 c2 hu => ?_, fun hu => h22.trans (a8 hu)⟩
  · rw [h16 _ (by omega) (by omega)]; exact a6 i hi
  · obtain ⟨b1, b2, b3⟩ := a7 s2 c2 hu
    refine ⟨h22.trans b1, by omega, fun i hi => ?_⟩
    rw [h16 _ (by omega) (by omega)]; exact b3 i hi
def sMj (z j a i : Nat) : Bool := a == 77 || (a == 78 || ((a == 16 && decide (120 * z ≤ i)) || (((a == 19 || (a == 20 || (a == 21 || a == 22))) && decide (8 * z + j ≤ i)) || (a == 17 && i == z))))
def sMk (z a i : Nat) : Bool := sMj z 0 a i || ((a == 18 && i == z) || (a == 14 && i == 1))
theorem sCl_sMj (z j k : Nat) (h : 8 * z + j ≤ k) : ∀ a i, sCl (120 * z) k a i = true → sMj z j a i = true := by
  intro a i h
  unfold sCl at h
  unfold sMj
  simp only [Bool.or_eq_true, Bool.and_eq_true, beq_iff_eq, decide_eq_true_eq] at h ⊢
  omega
theorem sMj_le (z j j' : Nat) (h : j ≤ j') : ∀ a i, sMj z j' a i = true → sMj z j a i = true := by
  intro a i h
  unfold sMj at h ⊢
  simp only [Bool.or_eq_true, Bool.and_eq_true, beq_iff_eq, decide_eq_true_eq] at h ⊢
  omega
section MK
variable {L z : Nat} {ch : Nat → Int32}
theorem TC.fr3 {M M' : Mem} {j : Nat} (T : TC M L ch) (h : Fr (sMj z j) M M') : TC M' L ch := by
  obtain ⟨h1, h2, h3⟩ := T
  refine ⟨(h.at_ rfl).trans h1, h2, fun s => ?_⟩
  rw [h3 s, h.at_ (a := 15) rfl]
theorem mk_go (hz : z ≤ 8) : ∀ (k s n : Nat) (M : Mem) (out : List Int32), k ≤ 8 → TC M L ch → M.1 14 9 = nI z → RF (120 * z) M s out → out.length ≤ s → s ≤ L → k + 1 < n → 1 ≤ k → (∀ e, pR ch L k s = .inl e → ∃ M', itr b_Reader_makeRule_77_41 n (true, nI (8 - k), M) = some (.inl M') ∧ M'.1 77 3 = nI e ∧ Fr (sMj z 0) M M') ∧ ∀ l, pR ch L k s = .inr l → 1 ≤ l.length ∧ l.length ≤ k ∧ ∃ M', itr b_Reader_makeRule_77_41 n (true, nI (8 - k), M) = some (.inr M') ∧ M'.1 17 z = nI (8 - k + l.length) ∧ (∀ i, i < out.length → M'.1 16 (120 * z + i) = out.getD i 0) ∧ (∀ (j : Nat) (h : j < l.length), Rcl M'.1 (8 * z + (8 - k) + j) (120 * z) (120 * z + 120) l[j].1 l[j].2.2.1 l[j].2.2.2) ∧ Fr (sMj z (8 - k)) M M'
  | 0, s, n, M, out, _, _, _, _, _, _, _, h => by omega
  | k + 1, s, n + 1, M, out, hk, T, h9, R, ho, hs, hn, _ => by
    have hL := T.2.1
    have hidx : (M.1 14 9) * 8 + nI (8 - (k + 1)) = nI (8 * z + (8 - (k + 1))) := by
      rw [h9, show (8 : Int32) = nI 8 from rfl, nI_muln, nI_addn, Nat.mul_comm]
    obtain ⟨q1, q2⟩ := e_clause T R ho hs (by omega) (k := 8 * z + (8 - (k + 1))) (by omega)
    have hfr : ∀ M1, Fr (sCl (120 * z) (8 * z + (8 - (k + 1)))) M M1 → Fr (sMj z (8 - (k + 1))) M M1 := fun M1 h => h.mono (sCl_sMj z _ _ (by omega))
    obtain ⟨n, rfl⟩ : ∃ q, n = q + 1 := ⟨n - 1, by omega⟩
    have hstop : ∀ M1 i, itr b_Reader_makeRule_77_41 (n + 1) (false, i, M1) = some (.inl M1) := fun M1 i => by
      refine itr_r ?_
      unfold b_Reader_makeRule_77_41
      dsimp only
      rw [ite_ff]
      split <;> rfl
    have hbody : b_Reader_makeRule_77_41 (true, nI (8 - (k + 1)), M) = (f_Reader_clause_77 (nI (8 * z + (8 - (k + 1)))) M).bind fun q7 => jv_ (putv q7.2 17 9 (q7.2.1 14 9) (nI (8 - (k + 1)) + 1)) fun M8 => jn_ (fun (u10 : Unit) => jn_ (fun (u13 : Bool) => if u13 = true then (jv_ (wI M8 77 3 ((M8.1 77 3) + 1)) fun M15 => some (.inl (u13, nI (8 - (k + 1)) + 1, M15))) else (some (.inl (u13, nI (8 - (k + 1)) + 1, M8)))) fun k16 => if q7.1 = true then ((f_Reader_coming_77 M8).bind fun q17 => if decide (q17 = 59) = true then (if decide (nI (8 - (k + 1)) < 7) = true then (k16 true) else (k16 false)) else (k16 false)) else (k16 false)) fun k20 => if q7.1 = true then (if decide ((M8.1 77 3) < (M8.1 14 1)) = true then (k20 ()) else (some (.inr (.inr (M8))))) else (k20 ()) := by
      unfold b_Reader_makeRule_77_41
      dsimp only
      rw [show (8 : Int32) = nI 8 from rfl, dlt_t (by omega) (by omega), ite_tt, ite_tt, ← hidx]; rfl
    unfold pR
    cases hp : pCl ch s with
    | inl e =>
      obtain ⟨M1, o1, k1, k2, k3⟩ := q1 e hp
      refine ⟨fun e' h => ?_, fun l h => by (cases h)⟩
      cases h
      have F1 := hfr M1 k3
      have F2 : Fr (sMj z (8 - (k + 1))) M (wI M1 17 z (nI (8 - k))) := F1.wI (by unfold sMj; simp)
      refine ⟨wI M1 17 z (nI (8 - k)), ?_, k2.1, F2.mono (sMj_le z 0 _ (by omega))⟩
      rw [itr_l (s' := (false, nI (8 - (k + 1)) + 1, wI M1 17 z (nI (8 - k)))), hstop]
      rw [hbody, k1, Option.bind_some]
      unfold jv_ jn_
      dsimp only
      rw [ite_ff, ite_ff, ite_ff, k3.at_ (a := 14) rfl, h9, putv_nI (by omega) (by omega), nI_one, show 8 - (k + 1) + 1 = 8 - k by omega]
    | inr q =>
      obtain ⟨s', s1, c, u⟩ := q
      obtain ⟨g1, g2, M1, c', k1, k2, k3, k4, k5⟩ := q2 s' s1 c u hp
      have F1 := hfr M1 k4
      have F2 : Fr (sMj z (8 - (k + 1))) M (wI M1 17 z (nI (8 - k))) := F1.wI (by unfold sMj; simp)
      have R2 : RF (120 * z) (wI M1 17 z (nI (8 - k))) s' (out ++ c') := rf_w k2 (by decide) (by decide)
      have T2 := T.fr3 F2
      have e9 : (wI M1 17 z (nI (8 - k))).1 14 9 = nI z := by
        show M1.1 14 9 = _
        rw [k4.at_ rfl]; exact h9
      have hbody2 : b_Reader_makeRule_77_41 (true, nI (8 - (k + 1)), M) = (if decide (s' < L) = true then (if decide (ch s' = 59) = true then (if decide (nI (8 - (k + 1)) < 7) = true then some (.inl (true, nI (8 - k), pl (wI M1 17 z (nI (8 - k))) (s' + 1))) else some (.inl (false, nI (8 - k), wI M1 17 z (nI (8 - k))))) else some (.inl (false, nI (8 - k), wI M1 17 z (nI (8 - k))))) else some (.inr (.inr (wI M1 17 z (nI (8 - k)))))) := by
        rw [hbody, k1, Option.bind_some]
        unfold jv_ jn_
        dsimp only
        rw [k4.at_ (a := 14) (i := 9) rfl, h9, putv_nI (by omega) (by omega), nI_one, show 8 - (k + 1) + 1 = 8 - k by omega]
        generalize hM2 : wI M1 17 z (nI (8 - k)) = M2 at R2 T2
        rw [R2.1, T2.1, d_lt (by omega) (by omega), r_coming' T2 g2 R2.1, Option.bind_some]
        rw [ite_tt, ite_tt, ite_tt, ite_ff, nI_one]
        rfl
      generalize hM2 : wI M1 17 z (nI (8 - k)) = M2 at *
      have e17 : M2.1 17 z = nI (8 - k) := by rw [← hM2]; exact rde
      have hR5 : Rcl M2.1 (8 * z + (8 - (k + 1))) (120 * z) (120 * z + (out ++ c').length) (wdOf (ch s)) c u := by
        rw [← hM2]
        exact k5.keep rfl rfl rfl rfl (fun _ _ _ => rfl) (Nat.le_refl _)
      simp only [Sum.elim_inr]
      by_cases d1 : L ≤ s'
      · rw [if_pos d1]
        rw [decide_eq_false (show ¬ s' < L by omega), ite_ff] at hbody2
        refine ⟨fun e h => by (cases h), fun l h => ?_⟩
        cases h
        refine ⟨Nat.le_refl _, by show 1 ≤ _; omega, M2, itr_r hbody2, ?_, fun i hi => ?_, fun j hj => ?_, F2⟩
        · rw [e17]; congr 1; show _ = 8 - (k + 1) + 1; omega
        · rw [R2.2.2 i (by rw [List.length_append]; omega), getD_app1 hi]
        · have hj : j < 1 := hj
          obtain rfl : j = 0 := by omega
          exact hR5.keep rfl rfl rfl rfl (fun _ _ _ => rfl) (by omega)
      · rw [if_neg d1]
        rw [decide_eq_true (show s' < L by omega), ite_tt] at hbody2
        by_cases d2 : ch s' = 59 ∧ 1 ≤ k
        · rw [if_pos d2]
          rw [decide_eq_true d2.1, ite_tt, show (7 : Int32) = nI 7 from rfl, dlt_t (by omega) (by omega), ite_tt] at hbody2
          have F3 : Fr (sMj z (8 - (k + 1))) M (pl M2 (s' + 1)) := F2.wI rfl
          obtain ⟨r1, r2⟩ := mk_go hz k (s' + 1) (n + 1) (pl M2 (s' + 1)) (out ++ c') (by omega) (T.fr3 F3) e9 (R2.pl (s' + 1)) (by omega) (by omega) (by omega) d2.2
          rw [itr_l hbody2]
          cases hr : pR ch L k (s' + 1) with
          | inl e =>
            refine ⟨fun e' h => ?_, fun l h => by (cases h)⟩
            cases h
            obtain ⟨M4, m1, m2, m3⟩ := r1 e hr
            exact ⟨M4, m1, m2, (F3.mono (sMj_le z 0 _ (by omega))).trans m3⟩
          | inr l =>
            refine ⟨fun e h => by (cases h), fun l' h => ?_⟩
            cases h
            obtain ⟨a1, a2, M4, m1, m2, m3, m4, m5⟩ := r2 l hr
            refine ⟨by rw [List.length_cons]; omega, by rw [List.length_cons]; omega, M4, m1, ?_, fun i hi => ?_, fun j hj => ?_, F3.trans (m5.mono (sMj_le z _ _ (by omega)))⟩
            · rw [m2, List.length_cons]; congr 1; omega
            · rw [m3 i (by rw [List.length_append]; omega), getD_app1 hi]
            · cases j with
              | zero =>
                have hx : ∀ a, (a = 19 ∨ a = 20 ∨ a = 21 ∨ a = 22) → M4.1 a (8 * z + (8 - (k + 1))) = M2.1 a (8 * z + (8 - (k + 1))) := fun a ha => by
                  rw [m5.at_ (by
                    unfold sMj
                    rcases ha with rfl | rfl | rfl | rfl <;> simp <;> omega)]
                  rcases ha with rfl | rfl | rfl | rfl <;> rfl
                refine Rcl.keep hR5 (hx 19 (by simp)) (hx 20 (by simp)) (hx 21 (by simp)) (hx 22 (by simp)) (fun i i1 i2 => ?_) (by omega)
                rw [show i = 120 * z + (i - 120 * z) by omega, m3 _ (by omega), R2.2.2 _ (by omega)]
              | succ j =>
                have := m4 j (by simpa using hj)
                rw [show 8 * z + (8 - (k + 1)) + (j + 1) = 8 * z + (8 - k) + j by omega]
                exact this
        · rw [if_neg d2]
          refine ⟨fun e h => ?_, fun l h => by (cases h)⟩
          cases h
          refine ⟨M2, ?_, R2.1, F2.mono (sMj_le z 0 _ (by omega))⟩
          rw [itr_l (s' := (false, nI (8 - k), M2)), hstop]
          rw [hbody2]
          by_cases d3 : ch s' = 59
          · rw [decide_eq_true d3, ite_tt, show (7 : Int32) = nI 7 from rfl, dlt_f (by have : ¬ 1 ≤ k := fun h => d2 ⟨d3, h⟩; omega) (by omega), ite_ff]
          · rw [decide_eq_false d3, ite_ff]
theorem e_makeRule {M : Mem} (hz : z ≤ 8) (T : TC M L ch) (h9 : M.1 14 9 = nI z) (mo : Int32) : (∀ e, pR ch L 8 0 = .inl e → ∃ M', f_Reader_makeRule_77 mo M = some (nI e, M') ∧ M'.1 14 1 = 0 ∧ Fr (sMk z) M M') ∧ ∀ l, pR ch L 8 0 = .inr l → 1 ≤ l.length ∧ l.length ≤ 8 ∧ ∃ M', f_Reader_makeRule_77 mo M = some (-1, M') ∧ M'.1 14 1 = 0 ∧ M'.1 18 z = mo ∧ M'.1 17 z = nI l.length ∧ (∀ (j : Nat) (h : j < l.length), Rcl M'.1 (8 * z + j) (120 * z) (120 * z + 120) l[j].1 l[j].2.2.1 l[j].2.2.2) ∧ Fr (sMk z) M M' := by
  have hm : ∀ a i, sMj z 0 a i = true → sMk z a i = true := fun a i h => by unfold sMk; rw [h]; rfl
  have F0 : Fr (sMk z) M (wI (wI (wI M 18 z mo) 77 3 (nI 0)) 77 4 (nI (120 * z))) := (((Fr.refl M).wI (by unfold sMk; simp)).wI rfl).wI rfl
  have hbeg : f_Reader_makeRule_77 mo M = (itr b_Reader_makeRule_77_41 FU (true, nI (8 - 8), wI (wI (wI M 18 z mo) 77 3 (nI 0)) 77 4 (nI (120 * z)))).bind fun q22 => (Sum.elim (fun (y23 : Mem) => (f_Reader_emptied_77 (y23.1 77 3) y23).bind fun q25 => some (q25.1, q25.2)) (fun (y24 : Mem) => (f_Reader_emptied_77 (-1) y24).bind fun q26 => some (q26.1, q26.2))) q22 := by
    unfold f_Reader_makeRule_77 jv_
    dsimp only
    rw [h9, putv_nI (by omega) (by omega)]
    rw [show (wI (wI M 18 z mo) 77 3 0).1 14 9 = M.1 14 9 from rfl, h9, show (120 : Int32) = nI 120 from rfl, nI_muln, Nat.mul_comm z 120]; rfl
  have T0 : TC (wI (wI (wI M 18 z mo) 77 3 (nI 0)) 77 4 (nI (120 * z))) L ch := T
  have R0 : RF (120 * z) (wI (wI (wI M 18 z mo) 77 3 (nI 0)) 77 4 (nI (120 * z))) 0 [] := ⟨rfl, rfl, fun i h => absurd h (by simp)⟩
  have e9 : (wI (wI (wI M 18 z mo) 77 3 (nI 0)) 77 4 (nI (120 * z))).1 14 9 = nI z := h9
  have e18 : (wI (wI (wI M 18 z mo) 77 3 (nI 0)) 77 4 (nI (120 * z))).1 18 z = mo := by
    show (wI M 18 z mo).1 18 z = _
    exact rde
  generalize wI (wI (wI M 18 z mo) 77 3 (nI 0)) 77 4 (nI (120 * z)) = M0 at *
  obtain ⟨r1, r2⟩ := mk_go hz 8 0 FU M0 [] (by omega) T0 e9 R0 (Nat.le_refl _) (Nat.zero_le _) (by unfold FU; omega) (by omega)
  refine ⟨fun e h => ?_, fun l h => ?_⟩
  · obtain ⟨M1, m1, m2, m3⟩ := r1 e h
    refine ⟨wI M1 14 1 0, ?_, rde, (F0.trans (m3.mono hm)).wI (by unfold sMk; simp)⟩
    rw [hbeg, m1, Option.bind_some, Sum.elim_inl]
    unfold f_Reader_emptied_77 jv_
    rw [m2]; rfl
  · obtain ⟨a1, a2, M1, m1, m2, m3, m4, m5⟩ := r2 l h
    refine ⟨a1, a2, wI M1 14 1 0, ?_, rde, ?_, ?_, fun j hj => ?_, (F0.trans ((m5.mono (sMj_le z 0 _ (by omega))).mono hm)).wI (by unfold sMk; simp)⟩
    · rw [hbeg, m1, Option.bind_some, Sum.elim_inr]
      unfold f_Reader_emptied_77 jv_
      rfl
    · show M1.1 18 z = _
      rw [m5.at_ (by unfold sMj; simp)]; exact e18
    · show M1.1 17 z = _
      rw [m2]; congr 1; omega
    · have := m4 j hj
      rw [show 8 * z + (8 - 8) + j = 8 * z + j by omega] at this
      exact this.keep rfl rfl rfl rfl (fun _ _ _ => rfl) (Nat.le_refl _)
end MK
