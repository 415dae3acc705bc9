/-- a rule's clause: fault, or where it ends, word, place of its sum, its codes, and those behind unless with their place -/
def pUnl (ch : Nat → Int32) (s : Nat) : Nat ⊕ (Nat × Option (Nat × List Int32)) :=
  if ch s = 32 then Sum.elim (fun e => .inl e) (fun s2 => Sum.elim (fun e => .inl e) (fun q => .inr (q.1, some (s2, q.2))) (PC ch 500 0 s2)) (lit ch (sr_byt.getD 13 []) s)
  else .inr (s, none)
def pHead (ch : Nat → Int32) (s : Nat) : Nat ⊕ Nat :=
  if wdOf (ch s) < 6 then Sum.elim (fun e => .inl e) (fun s1 => lit ch [61] s1) (lit ch (sr_byt.getD (wdOf (ch s)) []) s) else .inl s
def pCl (ch : Nat → Int32) (s : Nat) : Nat ⊕ (Nat × Nat × List Int32 × Option (Nat × List Int32)) :=
  Sum.elim (fun e => .inl e) (fun s1 => Sum.elim (fun e => .inl e) (fun q => Sum.elim (fun e => .inl e) (fun r => .inr (r.1, s1, q.2, r.2)) (pUnl ch q.1)) (PC ch 500 0 s1)) (pHead ch s)
/-- class's row of a clause -/
def Rcl (C : Nat → Nat → Int32) (k b hi : Nat) (w : Nat) (c : List Int32) (u : Option (Nat × List Int32)) : Prop :=
  C 19 k = nI w ∧ ∃ fr, b ≤ fr ∧ C 20 k = nI fr ∧ C 21 k = nI (fr + c.length) ∧ fr + c.length ≤ hi ∧ (∀ i, i < c.length → C 16 (fr + i) = c.getD i 0) ∧ (∀ s2 c2, u = some (s2, c2) → C 22 k = nI (fr + c.length + c2.length) ∧ fr + c.length + c2.length ≤ hi ∧ ∀ i, i < c2.length → C 16 (fr + c.length + i) = c2.getD i 0) ∧ (u = none → C 22 k = nI (fr + c.length))
def sCl (b k a i : Nat) : Bool := a == 77 || (a == 78 || ((a == 16 && decide (b ≤ i)) || ((a == 19 || (a == 20 || (a == 21 || a == 22))) && i == k)))
theorem sRd_sCl (b k : Nat) : ∀ a i, sRd b a i = true → sCl b k a i = true := by
  intro a i h
  unfold sRd at h
  unfold sCl
  simp only [Bool.or_eq_true, Bool.and_eq_true, beq_iff_eq, decide_eq_true_eq] at h ⊢
  omega
section CLA
variable {M : Mem} {L b k : Nat} {ch : Nat → Int32}
theorem TC.fr2 {M' : Mem} (T : TC M L ch) (h : Fr (sCl b k) M M') : TC M' L ch := by
  obtain ⟨h1, h2, h3⟩ := T
  refine ⟨(h.at_ rfl).trans h1, h2, fun s => ?_⟩
  rw [h3 s, h.at_ (a := 15) rfl]
theorem pHead_lt (hc : ∀ s, L ≤ s → ch s = -1) {s s1 : Nat} (h : pHead ch s = .inr s1) : s < s1 ∧ s1 ≤ L := by
  unfold pHead at h
  by_cases c : wdOf (ch s) < 6
  · rw [if_pos c] at h
    cases hl : lit ch (sr_byt.getD (wdOf (ch s)) []) s with
    | inl e => rw [hl] at h; cases h
    | inr s2 =>
      rw [hl] at h
      have h : lit ch [61] s2 = .inr s1 := h
      have h1 := lit_len ch _ _ _ hl
      have h2 := lit_len ch _ _ _ h
      have h3 := lit_hi hc _ _ _ (by decide) (by decide) h
      have : ([61] : List Int32).length = 1 := rfl
      omega
  · rw [if_neg c] at h; cases h
theorem pUnl_le (hc : ∀ s, L ≤ s → ch s = -1) (hL : L ≤ 120) {s s' : Nat} {u : Option (Nat × List Int32)} (hs : s ≤ L) (h : pUnl ch s = .inr (s', u)) : s ≤ s' ∧ s' ≤ L := by
  unfold pUnl at h
  by_cases c : ch s = 32
  · rw [if_pos c] at h
    cases hl : lit ch (sr_byt.getD 13 []) s with
    | inl e => rw [hl] at h; cases h
    | inr s2 =>
      rw [hl] at h
      have h1 := lit_len ch _ _ _ hl
      have h3 := lit_hi hc _ _ _ (sr_nm1 13 (by omega)) (by decide) hl
      cases hp : PC ch 500 0 s2 with
      | inl e =>
        have h : Sum.elim (fun e => Sum.inl e) (fun q => Sum.inr (q.1, some (s2, q.2))) (PC ch 500 0 s2) = (.inr (s', u) : Nat ⊕ (Nat × Option (Nat × List Int32))) := h
        rw [hp] at h; cases h
      | inr q =>
        have h : Sum.elim (fun e => Sum.inl e) (fun q => Sum.inr (q.1, some (s2, q.2))) (PC ch 500 0 s2) = (.inr (s', u) : Nat ⊕ (Nat × Option (Nat × List Int32))) := h
        rw [hp] at h
        cases h
        obtain ⟨g1, g2, -⟩ := (sy_whole hc hL h3 []).2 q.1 q.2 hp
        omega
  · rw [if_neg c] at h
    cases h
    omega
theorem RF.pl {s : Nat} {out : List Int32} (R : RF b M s out) (s' : Nat) : RF b (pl M s') s' out := ⟨rde, R.2.1, R.2.2⟩
theorem rf_w {s : Nat} {out : List Int32} (R : RF b M s out) {a i : Nat} {v : Int32} (h : a ≠ 77) (h2 : a ≠ 16) : RF b (wI M a i v) s out := by
  obtain ⟨r1, r2, r3⟩ := R
  refine ⟨?_, ?_, fun j hj => ?_⟩
  · rw [rdk (Ne.symm h)]; exact r1
  · rw [rdk (Ne.symm h)]; exact r2
  · rw [rdk (Ne.symm h2)]; exact r3 j hj
theorem getD_app1 {a c : List Int32} {i : Nat} (h : i < a.length) : (a ++ c).getD i 0 = a.getD i 0 := by
  rw [List.getD_eq_getElem?_getD, List.getD_eq_getElem?_getD, List.getElem?_append_left h]
theorem getD_app2 {a c : List Int32} {i : Nat} : (a ++ c).getD (a.length + i) 0 = c.getD i 0 := by
  rw [List.getD_eq_getElem?_getD, List.getD_eq_getElem?_getD, List.getElem?_append_right (by omega)]
  congr 2; omega
/-- class's clause -/
theorem e_clause (T : TC M L ch) {s : Nat} {out : List Int32} (R : RF b M s out) (ho : out.length ≤ s) (hs : s ≤ L) (hb : b + 120 ≤ 1080) (hk : k < 72) : (∀ e, pCl ch s = .inl e → ∃ M' out', f_Reader_clause_77 (nI k) M = some (false, M') ∧ RF b M' e out' ∧ Fr (sCl b k) M M') ∧ ∀ s' s1 c u, pCl ch s = .inr (s', s1, c, u) → s < s' ∧ s' ≤ L ∧ ∃ M' c', f_Reader_clause_77 (nI k) M = some (true, M') ∧ RF b M' s' (out ++ c') ∧ (out ++ c').length ≤ s' ∧ Fr (sCl b k) M M' ∧ Rcl M'.1 k b (b + (out ++ c').length) (wdOf (ch s)) c u := by
  have hL := T.2.1
  have hc : ∀ s, L ≤ s → ch s = -1 := fun s h => by rw [T.2.2 s, if_neg (by omega)]
  have hM : M = pl M s := (pl_same R.1).symm
  have h1 := e_oneOf T hs of_wd (by omega)
  rw [← hM] at h1
  have h1 : f_Reader_oneOf_77 6 0 M = some (if wdOf (ch s) < 6 then Sum.elim (fun e => (-1, pl M e)) (fun s' => (nI (wdOf (ch s)), pl M s')) (lit ch (sr_byt.getD (wdOf (ch s)) []) s) else (-1, M)) := by
    have e0 : 0 + wdOf (ch s) = wdOf (ch s) := Nat.zero_add _
    have : fnd (ch s) [109, 114, 102, 108, 115, 116] 0 = wdOf (ch s) := rfl
    rw [this, e0] at h1
    exact h1
  have Fp : ∀ x, Fr (sCl b k) M (pl M x) := fun x => (Fr.refl M).wI rfl
  unfold pCl
  cases hh : pHead ch s with
  | inl e =>
    refine ⟨fun e' h => ?_, fun s' s1 c u h => by (cases h)⟩
    cases h
    unfold pHead at hh
    unfold f_Reader_clause_77
    rw [h1, Option.bind_some]
    by_cases c1 : wdOf (ch s) < 6
    · rw [if_pos c1] at hh ⊢
      cases hl : lit ch (sr_byt.getD (wdOf (ch s)) []) s with
      | inl e1 =>
        rw [hl] at hh
        cases hh
        exact ⟨pl M e, out, rfl, R.pl e, Fp e⟩
      | inr s2 =>
        rw [hl] at hh
        have hh : lit ch [61] s2 = .inl e := hh
        have g2 := lit_hi hc _ _ _ (sr_nm1 _ (by omega)) (by
          have : ∀ i, i < 6 → sr_byt.getD i [] ≠ [] := by decide +kernel
          exact this _ c1) hl
        have h3 := e_passes T (i := 12) (by omega) g2
        rw [show sr_byt.getD 12 [] = [61] from rfl, hh] at h3
        refine ⟨pl M e, out, ?_, R.pl e, Fp e⟩
        show (if decide (nI (wdOf (ch s)) < 0) = true then _ else (f_Reader_passes_77 12 (pl M s2)).bind _) = _
        rw [nI_nneg (by omega), ite_ff, h3]; rfl
    · rw [if_neg c1] at hh ⊢
      cases hh
      exact ⟨M, out, rfl, R, Fr.refl M⟩
  | inr s1 =>
    obtain ⟨p1, p2⟩ := pHead_lt hc hh
    have hhead : ∃ s2, wdOf (ch s) < 6 ∧ lit ch (sr_byt.getD (wdOf (ch s)) []) s = .inr s2 ∧ s2 ≤ L ∧ f_Reader_passes_77 12 (pl M s2) = some (true, pl M s1) := by
      unfold pHead at hh
      by_cases c1 : wdOf (ch s) < 6
      · rw [if_pos c1] at hh
        cases hl : lit ch (sr_byt.getD (wdOf (ch s)) []) s with
        | inl e1 => rw [hl] at hh; cases hh
        | inr s2 =>
          rw [hl] at hh
          have hh : lit ch [61] s2 = .inr s1 := hh
          have g2 := lit_hi hc _ _ _ (sr_nm1 _ (by omega)) (by
            have : ∀ i, i < 6 → sr_byt.getD i [] ≠ [] := by decide +kernel
            exact this _ c1) hl
          have h3 := e_passes T (i := 12) (by omega) g2
          rw [show sr_byt.getD 12 [] = [61] from rfl, hh] at h3
          exact ⟨s2, c1, rfl, g2, h3⟩
      · rw [if_neg c1] at hh; cases hh
    obtain ⟨s2, c1, hl, g2, h3⟩ := hhead
    generalize hw : wdOf (ch s) = w at *
    have R6 : RF b (wI (wI (pl M s1) 19 k (nI w)) 20 k (nI (b + out.length))) s1 out := rf_w (rf_w (R.pl s1) (by decide) (by decide)) (by decide) (by decide)
    have F6 : Fr (sCl b k) M (wI (wI (pl M s1) 19 k (nI w)) 20 k (nI (b + out.length))) := ((Fp s1).wI (by unfold sCl; simp)).wI (by unfold sCl; simp)
    have hbody : f_Reader_clause_77 (nI k) M = (f_Reader_sum_77 (wI (wI (pl M s1) 19 k (nI w)) 20 k (nI (b + out.length)))).bind fun q7 => if q7.1 = true then (jv_ (putv q7.2 21 72 (nI k) (q7.2.1 77 4)) fun M9 => (f_Reader_coming_77 M9).bind fun q10 => jn_ (fun (u13 : Mem) => jv_ (putv u13 22 72 (nI k) (u13.1 77 4)) fun M14 => some (true, M14)) fun k15 => if decide (q10 = 32) = true then ((f_Reader_passes_77 13 M9).bind fun q16 => if q16.1 = true then ((f_Reader_sum_77 q16.2).bind fun q18 => if q18.1 = true then (k15 q18.2) else (some (false, q18.2))) else (some (false, q16.2))) else (k15 M9)) else (some (false, q7.2)) := by
      unfold f_Reader_clause_77
      rw [h1, if_pos c1, hl, Sum.elim_inr, Option.bind_some]
      dsimp only
      rw [nI_nneg (by omega), ite_ff, h3, Option.bind_some]
      dsimp only
      rw [ite_tt]
      unfold jv_
      dsimp only
      rw [show putv (pl M s1) 19 72 (nI k) (nI w) = wI (pl M s1) 19 k (nI w) from putv_nI hk (by omega), show (wI (pl M s1) 19 k (nI w)).1 77 4 = M.1 77 4 from rfl, R.2.1, show putv (wI (pl M s1) 19 k (nI w)) 20 72 (nI k) (nI (b + out.length)) = wI (wI (pl M s1) 19 k (nI w)) 20 k (nI (b + out.length)) from putv_nI hk (by omega)]
    generalize hM6 : wI (wI (pl M s1) 19 k (nI w)) 20 k (nI (b + out.length)) = M6 at R6 F6 hbody
    have e619 : M6.1 19 k = nI w := by
      rw [← hM6]
      show (wI (pl M s1) 19 k (nI w)).1 19 k = _
      exact rde
    have e620 : M6.1 20 k = nI (b + out.length) := by rw [← hM6]; exact rde
    have T6 := T.fr2 F6
    obtain ⟨q1, q2⟩ := e_sum T6 R6 (by omega) p2 hb
    simp only [Sum.elim_inr]
    cases hp : PC ch 500 0 s1 with
    | inl e =>
      refine ⟨fun e' h => ?_, fun s' s1 c u h => by (cases h)⟩
      cases h
      obtain ⟨M7, out7, k1, k2, k3⟩ := q1 e hp
      refine ⟨M7, out7, ?_, k2, F6.trans (k3.mono (sRd_sCl b k))⟩
      rw [hbody, k1]; rfl
    | inr q =>
      obtain ⟨s3, c⟩ := q
      obtain ⟨l1, l2, l3, M7, k1, k2, k3⟩ := q2 s3 c hp
      have F7 := F6.trans (k3.mono (sRd_sCl b k))
      have e719 : M7.1 19 k = nI w := by rw [k3.at_ rfl]; exact e619
      have e720 : M7.1 20 k = nI (b + out.length) := by rw [k3.at_ rfl]; exact e620
      have R9 : RF b (wI M7 21 k (nI (b + (out ++ c).length))) s3 (out ++ c) := rf_w k2 (by decide) (by decide)
      have F9 : Fr (sCl b k) M (wI M7 21 k (nI (b + (out ++ c).length))) := F7.wI (by unfold sCl; simp)
      have T9 := T.fr2 F9
      have e919 : (wI M7 21 k (nI (b + (out ++ c).length))).1 19 k = nI w := e719
      have e920 : (wI M7 21 k (nI (b + (out ++ c).length))).1 20 k = nI (b + out.length) := e720
      have e921 : (wI M7 21 k (nI (b + (out ++ c).length))).1 21 k = nI (b + (out ++ c).length) := rde
      have hbody9 : f_Reader_clause_77 (nI k) M = (if decide (ch s3 = 32) = true then ((f_Reader_passes_77 13 (wI M7 21 k (nI (b + (out ++ c).length)))).bind fun q16 => if q16.1 = true then ((f_Reader_sum_77 q16.2).bind fun q18 => if q18.1 = true then (some (true, putv q18.2 22 72 (nI k) (q18.2.1 77 4))) else (some (false, q18.2))) else (some (false, q16.2))) else (some (true, putv (wI M7 21 k (nI (b + (out ++ c).length))) 22 72 (nI k) ((wI M7 21 k (nI (b + (out ++ c).length))).1 77 4)))) := by
        rw [hbody, k1, Option.bind_some]
        dsimp only
        rw [ite_tt]
        unfold jv_ jn_
        dsimp only
        rw [k2.2.1, putv_nI hk (by omega), r_coming' T9 l2 R9.1, Option.bind_some]
      generalize hM9 : wI M7 21 k (nI (b + (out ++ c).length)) = M9 at R9 F9 T9 e919 e920 e921 hbody9
      have hM9' : M9 = pl M9 s3 := (pl_same R9.1).symm
      have hla : (out ++ c).length = out.length + c.length := List.length_append
      have hcode : ∀ (X : Mem), (∀ i, i < (out ++ c).length → X.1 16 (b + i) = (out ++ c).getD i 0) → ∀ i, i < c.length → X.1 16 (b + out.length + i) = c.getD i 0 := fun X hX i hi => by
        rw [show b + out.length + i = b + (out.length + i) by omega, hX _ (by omega), getD_app2]
      simp only [Sum.elim_inr]
      unfold pUnl
      by_cases d : ch s3 = 32
      · rw [if_pos d]
        rw [decide_eq_true d, ite_tt] at hbody9
        have h4 := e_passes T9 (i := 13) (by omega) l2
        rw [← hM9'] at h4
        cases hl2 : lit ch (sr_byt.getD 13 []) s3 with
        | inl e =>
          rw [hl2] at h4
          refine ⟨fun e' h => ?_, fun s' s1 c u h => by (cases h)⟩
          cases h
          refine ⟨pl M9 e, out ++ c, ?_, R9.pl e, F9.wI rfl⟩
          rw [hbody9, h4]; rfl
        | inr s4 =>
          rw [hl2] at h4
          have g4 := lit_hi hc _ _ _ (sr_nm1 13 (by omega)) (by decide) hl2
          have g5 := lit_len ch _ _ _ hl2
          have R10 := R9.pl s4
          have F10 : Fr (sCl b k) M (pl M9 s4) := F9.wI rfl
          obtain ⟨u1, u2⟩ := e_sum (T.fr2 F10) R10 (by omega) g4 hb
          simp only [Sum.elim_inr]
          cases hp2 : PC ch 500 0 s4 with
          | inl e =>
            refine ⟨fun e' h => ?_, fun s' s1 c u h => by (cases h)⟩
            cases h
            obtain ⟨M11, out11, k4, k5, k6⟩ := u1 e hp2
            refine ⟨M11, out11, ?_, k5, F10.trans (k6.mono (sRd_sCl b k))⟩
            rw [hbody9, h4, Option.bind_some]
            show (f_Reader_sum_77 (pl M9 s4)).bind _ = _
            rw [k4]; rfl
          | inr q =>
            obtain ⟨s5, c2⟩ := q
            obtain ⟨m1, m2, m3, M11, k4, k5, k6⟩ := u2 s5 c2 hp2
            refine ⟨fun e h => by (cases h), fun s' s1' c' u h => ?_⟩
            cases h
            have hlb : (out ++ c ++ c2).length = out.length + c.length + c2.length := by rw [List.length_append, hla]
            have F11 : Fr (sCl b k) M M11 := F10.trans (k6.mono (sRd_sCl b k))
            refine ⟨by omega, m2, wI M11 22 k (nI (b + (out ++ c ++ c2).length)), c ++ c2, ?_, ?_, ?_, F11.wI (by unfold sCl; simp), ?_⟩
            · rw [hbody9, h4, Option.bind_some]
              show (f_Reader_sum_77 (pl M9 s4)).bind _ = _
              rw [k4, Option.bind_some]
              dsimp only
              rw [ite_tt, k5.2.1, putv_nI hk (by omega)]
            · rw [← List.append_assoc]; exact rf_w k5 (by decide) (by decide)
            · rw [← List.append_assoc]; exact m3
            · rw [← List.append_assoc]
              refine ⟨?_, b + out.length, by omega, ?_, ?_, by omega, ?_, ?_, fun h => by (cases h)⟩
              · show M11.1 19 k = _
                rw [k6.at_ rfl]; exact e919
              · show M11.1 20 k = _
                rw [k6.at_ rfl]; exact e920
              · show M11.1 21 k = _
                rw [k6.at_ rfl]
                show M9.1 21 k = _
                rw [e921, hla, Nat.add_assoc]
              · intro i hi
                show M11.1 16 _ = _
                rw [show b + out.length + i = b + (out.length + i) by omega, k5.2.2 _ (by omega), List.append_assoc, getD_app2, getD_app1 hi]
              · intro s2' c2' hu
                cases hu
                dsimp only
                refine ⟨?_, by omega, fun i hi => ?_⟩
                · rw [rde, hlb]
                  congr 1; omega
                · show M11.1 16 _ = _
                  rw [show b + out.length + c.length + i = b + ((out ++ c).length + i) by omega, k5.2.2 _ (by omega), getD_app2]
      · rw [if_neg d]
        rw [decide_eq_false d, ite_ff, R9.2.1, putv_nI hk (by omega)] at hbody9
        refine ⟨fun e h => by (cases h), fun s' s1' c' u h => ?_⟩
        cases h
        refine ⟨by omega, l2, _, c, hbody9, rf_w R9 (by decide) (by decide), l3, F9.wI (by unfold sCl; simp), e919, b + out.length, by omega, e920, ?_, by omega, ?_, fun s2' c2' hu => by (cases hu), fun _ => ?_⟩
        · show M9.1 21 k = _
          rw [e921, hla, Nat.add_assoc]
        · exact hcode _ R9.2.2
        · rw [rde, hla, Nat.add_assoc]
end CLA
