theorem pCl_le {L : Nat} {ch : Nat → Int32} (hc : ∀ s, L ≤ s → ch s = -1) (hL : L ≤ 120) {s s' s1 : Nat} {c : List Int32} {u : Option (Nat × List Int32)} (h : pCl ch s = .inr (s', s1, c, u)) : s < s' ∧ s' ≤ L ∧ s1 ≤ L ∧ (∃ s3, PC ch 500 0 s1 = .inr (s3, c)) ∧ ∀ s2 c2, u = some (s2, c2) → s2 ≤ L ∧ ∃ s4, PC ch 500 0 s2 = .inr (s4, c2) := by
  unfold pCl at h
  cases hh : pHead ch s with
  | inl e => rw [hh] at h; cases h
  | inr x1 =>
    obtain ⟨p1, p2⟩ := pHead_lt hc hh
    rw [hh] at h
    simp only [Sum.elim_inr] at h
    cases hp : PC ch 500 0 x1 with
    | inl e => rw [hp] at h; cases h
    | inr q =>
      obtain ⟨s3, c3⟩ := q
      obtain ⟨g1, g2, -⟩ := (sy_whole hc hL p2 []).2 s3 c3 hp
      rw [hp] at h
      simp only [Sum.elim_inr] at h
      cases hu : pUnl ch s3 with
      | inl e => rw [hu] at h; cases h
      | inr r =>
        obtain ⟨s5, u5⟩ := r
        rw [hu] at h
        cases h
        have h2 := pUnl_le hc hL g2 hu
        refine ⟨by omega, h2.2, p2, ⟨s3, hp⟩, fun s2 c2 h => ?_⟩
        subst h
        unfold pUnl at hu
        by_cases d : ch s3 = 32
        · rw [if_pos d] at hu
          cases hl : lit ch (sr_byt.getD 13 []) s3 with
          | inl e => rw [hl] at hu; cases hu
          | inr s6 =>
            have h3 := lit_hi hc _ _ _ (sr_nm1 13 (by omega)) (by decide) hl
            rw [hl] at hu
            simp only [Sum.elim_inr] at hu
            cases hp2 : PC ch 500 0 s6 with
            | inl e => rw [hp2] at hu; cases hu
            | inr q =>
              rw [hp2] at hu
              cases hu
              exact ⟨h3, q.1, hp2⟩
        · rw [if_neg d] at hu; cases hu
def pT (ch : Nat → Int32) (L k s' : Nat) : Nat ⊕ List CL := if L ≤ s' then .inr [] else if ch s' = 59 ∧ 1 ≤ k then pR ch L k (s' + 1) else .inl s'
theorem pR_pT (ch : Nat → Int32) (L k s : Nat) : pR ch L (k + 1) s = Sum.elim (fun e => .inl e) (fun q => Sum.elim (fun e => .inl e) (fun l => .inr ((wdOf (ch s), q.2) :: l)) (pT ch L k q.1)) (pCl ch s) := by
  show Sum.elim _ _ _ = _
  cases pCl ch s with
  | inl e => rfl
  | inr q =>
    simp only [Sum.elim_inr]
    unfold pT
    by_cases c1 : L ≤ q.1
    · rw [if_pos c1, if_pos c1]; rfl
    · rw [if_neg c1, if_neg c1]
      by_cases c2 : ch q.1 = 59 ∧ 1 ≤ k
      · rw [if_pos c2, if_pos c2]
      · rw [if_neg c2, if_neg c2]; rfl
theorem sRj_sRl (z j : Nat) : ∀ a i, sRj z j a i = true → sRl z a i = true := by
  intro a i h
  have := sRj_le z 0 j (Nat.zero_le _) a i h
  unfold sRl
  rw [this]; rfl
section MT
variable {z L : Nat} {ch : Nat → Int32}
theorem mr_go (hL : L ≤ 120) : ∀ (k s' n : Nat) (M : Mem), k ≤ 7 → Tx M z L ch → M.1 95 (1890 + z) = nI (8 - k) → s' ≤ L → k + 1 < n → (∀ e, pT ch L k s' = .inl e → e ≤ L ∧ ∃ M' w, itr (b_Mo_readsRule_94_108 (nI z)) n (sp M s' 0) = some (sp M' e w) ∧ ((w = 0 ∧ e < L) ∨ w = 1) ∧ Fr (sRj z 0) M M') ∧ ∀ l, pT ch L k s' = .inr l → l.length ≤ k ∧ ∃ M', itr (b_Mo_readsRule_94_108 (nI z)) n (sp M s' 0) = some (sp M' L 0) ∧ M'.1 95 (1890 + z) = nI (8 - k + l.length) ∧ (∀ (j : Nat) (h : j < l.length), Mcl (M'.1 95) (8 * z + (8 - k + j)) l[j].1 l[j].2.1 l[j].2.2.2) ∧ Fr (sRj z (8 - k)) M M'
  | k, s', 0, M, _, _, _, _, h => by omega
  | k, s', n + 1, M, hk, T, h90, hs, hn => by
    have hz : z ≤ 8 := T.2.1
    have hh := s_here T hs 0
    have hbody : b_Mo_readsRule_94_108 (nI z) (sp M s' 0) = (if decide (nI (8 - k) < nI 8) = true then (if decide (ch s' = 59) = true then ((f_Mo_reads_94 (nI z) (sp M (s' + 1) 0)).bind fun q26 => some (.inl q26)) else (some (.inr (sp M s' 0)))) else (some (.inr (sp M s' 0)))) := by
      unfold b_Mo_readsRule_94_108 jv_
      rw [sp_8, show isb 0 = true from rfl, ite_tt, show decide ((0 : Int32) = 1) = false from rfl, ite_ff, show (1890 : Int32) + nI z = nI (1890 + z) from nI_addn _ _, inb_t (by omega) (by omega), ite_tt, nI_cl (by omega), show (sp M s' 0).1 95 (1890 + z) = nI (8 - k) from h90, hh, Option.bind_some, sp_7, nI_one, sp_w7]; rfl
    unfold pT
    by_cases c1 : L ≤ s'
    · rw [if_pos c1]
      have hsL : s' = L := by omega
      have hm1 : ch s' = -1 := by rw [T.2.2.2.2 s', if_neg (by omega)]
      refine ⟨fun e h => by (cases h), fun l h => ?_⟩
      cases h
      refine ⟨Nat.zero_le _, M, ?_, h90, fun j h => absurd h (by simp), Fr.refl M⟩
      rw [hsL] at hbody hm1 ⊢
      refine itr_r ?_
      rw [hbody, hm1]
      by_cases c : decide (nI (8 - k) < nI 8) = true
      · rw [if_pos c]; rfl
      · rw [if_neg c]
    · rw [if_neg c1]
      by_cases c2 : ch s' = 59 ∧ 1 ≤ k
      · rw [if_pos c2]
        obtain ⟨k, rfl⟩ : ∃ q, k = q + 1 := ⟨k - 1, by omega⟩
        rw [dlt_t (by omega) (by omega), ite_tt, decide_eq_true c2.1, ite_tt] at hbody
        obtain ⟨r1, r2⟩ := e_reads T (cc := 8 - (k + 1)) h90 (by omega) (show s' + 1 ≤ L by omega)
        rw [pR_pT]
        cases hp : pCl ch (s' + 1) with
        | inl e =>
          obtain ⟨g1, M1, g2, g3⟩ := r1 e hp
          refine ⟨fun e' h => ?_, fun l h => by (cases h)⟩
          cases h
          refine ⟨g1, M1, 1, ?_, .inr rfl, g3.mono (sRj_le z 0 _ (by omega))⟩
          rw [g2, Option.bind_some] at hbody
          obtain ⟨n, rfl⟩ : ∃ q, n = q + 1 := ⟨n - 1, by omega⟩
          rw [itr_l hbody]
          exact itr_r rfl
        | inr q =>
          obtain ⟨s2, s1, c, u⟩ := q
          obtain ⟨g1, g0, M1, g2, g3, g4, g5⟩ := r2 s2 s1 c u hp
          rw [g2, Option.bind_some] at hbody
          have e8 : 8 - (k + 1) + 1 = 8 - k := by omega
          rw [e8] at g4
          obtain ⟨t1, t2⟩ := mr_go hL k s2 n M1 (by omega) (T.fr g3) g4 g1 (by omega)
          simp only [Sum.elim_inr]
          rw [itr_l hbody]
          cases ht : pT ch L k s2 with
          | inl e =>
            obtain ⟨a1, M2, w, a2, a3, a4⟩ := t1 e ht
            refine ⟨fun e' h => ?_, fun l h => by (cases h)⟩
            cases h
            exact ⟨a1, M2, w, a2, a3, (g3.mono (sRj_le z 0 _ (by omega))).trans a4⟩
          | inr l =>
            obtain ⟨a1, M2, a2, a3, a4, a5⟩ := t2 l ht
            refine ⟨fun e' h => by (cases h), fun l' h => ?_⟩
            cases h
            refine ⟨by rw [List.length_cons]; omega, M2, a2, ?_, fun j hj => ?_, g3.trans (a5.mono (sRj_le z _ _ (by omega)))⟩
            · rw [a3, List.length_cons]; congr 1; omega
            · cases j with
              | zero =>
                have hx : ∀ b, (b = 1900 ∨ b = 1980 ∨ b = 2060) → M2.1 95 (b + (8 * z + (8 - (k + 1)))) = M1.1 95 (b + (8 * z + (8 - (k + 1)))) := fun b hb => a5.at_ (by
                  unfold sRj
                  rcases hb with rfl | rfl | rfl <;> simp <;> omega)
                obtain ⟨m1, m2, m3, m4⟩ := g5
                exact ⟨(hx 1900 (by simp)).trans m1, (hx 1980 (by simp)).trans m2, fun h => (hx 2060 (by simp)).trans (m3 h), fun s2 c2 h => (hx 2060 (by simp)).trans (m4 s2 c2 h)⟩
              | succ j =>
                have := a4 j (by simpa using hj)
                rw [show 8 - (k + 1) + (j + 1) = 8 - k + j by omega]
                exact this
      · rw [if_neg c2]
        refine ⟨fun e h => ?_, fun l h => by (cases h)⟩
        cases h
        refine ⟨hs, M, 0, itr_r ?_, .inl ⟨rfl, by omega⟩, Fr.refl M⟩
        rw [hbody]
        by_cases d : ch s' = 59
        · rw [dlt_f (by have : ¬ 1 ≤ k := fun h => c2 ⟨d, h⟩; omega) (by omega), ite_ff]
        · rw [decide_eq_false d, ite_ff]
          split <;> rfl
theorem e_readsRule {M : Mem} (hz : z ≤ 8) (hL : L ≤ 120) (h4 : M.1 95 4 = nI L) (hch : ∀ s, ch s = if s < L then M.1 95 (2140 + s) else -1) (mo : Int32) : (∀ e, pR ch L 8 0 = .inl e → e ≤ L ∧ ∃ M', f_Mo_readsRule_94 (nI z) mo M = some (false, M') ∧ M'.1 94 7 = nI e ∧ M'.1 95 4 = 0 ∧ Fr (sRl z) M M') ∧ ∀ l, pR ch L 8 0 = .inr l → ∃ M', f_Mo_readsRule_94 (nI z) mo M = some (true, M') ∧ M'.1 95 4 = 0 ∧ M'.1 95 (790 + z) = mo ∧ M'.1 95 (800 + z) = nI L ∧ (∀ s, ch s = if s < L then M'.1 95 (810 + 120 * z + s) else -1) ∧ M'.1 95 (1890 + z) = nI l.length ∧ (∀ (j : Nat) (h : j < l.length), Mcl (M'.1 95) (8 * z + j) l[j].1 l[j].2.1 l[j].2.2.2) ∧ Fr (sRl z) M M' := by
  have s1 : ∀ i, (i = 790 + z ∨ i = 800 + z ∨ i = 4 ∨ i = 1890 + z ∨ (810 + 120 * z ≤ i ∧ i < 930 + 120 * z)) → sRl z 95 i = true := fun i h => by
    unfold sRl sRj
    rcases h with rfl | rfl | rfl | rfl | ⟨h1, h2⟩
    · simp
    · simp
    · simp
    · simp
    · simp [h1, h2]
  have F4 : Fr (sRl z) M (wI (wI M 95 (790 + z) mo) 95 (800 + z) (nI L)) := ((Fr.refl M).wI (s1 _ (by omega))).wI (s1 _ (by omega))
  obtain ⟨M10, c1, c2, c3⟩ := itr_cnt (body := b_Mo_readsRule_94_29 (nI z)) (s0 := (0, wI (wI M 95 (790 + z) mo) 95 (800 + z) (nI L))) (fun k s => s.1 = nI k ∧ Fr (fun a i => a == 95 && (decide (810 + 120 * z ≤ i) && decide (i < 930 + 120 * z))) (wI (wI M 95 (790 + z) mo) 95 (800 + z) (nI L)) s.2 ∧ ∀ j, j < k → s.2.1 95 (810 + 120 * z + j) = M.1 95 (2140 + j)) (fun M1 => Fr (fun a i => a == 95 && (decide (810 + 120 * z ≤ i) && decide (i < 930 + 120 * z))) (wI (wI M 95 (790 + z) mo) 95 (800 + z) (nI L)) M1 ∧ ∀ j, j < L → M1.1 95 (810 + 120 * z + j) = M.1 95 (2140 + j)) L (by omega) ⟨rfl, Fr.refl _, fun j h => absurd h (by omega)⟩ (by
    rintro k ⟨a, M1⟩ hk ⟨rfl, hF, hj⟩
    left
    dsimp only at hF hj
    have e4 : M1.1 95 4 = nI L := by
      rw [hF.at_ (by simp; omega), rdi (by omega), rdi (by omega)]; exact h4
    have e2 : M1.1 95 (2140 + k) = M.1 95 (2140 + k) := by
      rw [hF.at_ (by simp; omega), rdi (by omega), rdi (by omega)]
    refine ⟨(nI (k + 1), wI M1 95 (810 + 120 * z + k) (M.1 95 (2140 + k))), ?_, rfl, hF.wI (by simp; omega), fun j hjk => ?_⟩
    · unfold b_Mo_readsRule_94_29 jv_
      dsimp only
      rw [e4, dlt_t hk (by omega), ite_tt, show (2140 : Int32) + nI k = nI (2140 + k) from nI_addn _ _, show (810 : Int32) + 120 * nI z + nI k = nI (810 + 120 * z + k) from by rw [show (120 : Int32) = nI 120 from rfl, show (810 : Int32) = nI 810 from rfl, nI_muln, nI_addn, nI_addn], inb_t (by omega) (by omega), inb_t (by omega) (by omega), ite_tt, ite_tt, nI_cl (by omega), nI_cl (by omega), e2, nI_one]
    · dsimp only
      by_cases c : j = k
      · rw [c, rde]
      · rw [rdi (by omega)]; exact hj j (by omega)) (by
    rintro ⟨a, M1⟩ ⟨rfl, hF, hj⟩
    dsimp only at hF hj
    have e4 : M1.1 95 4 = nI L := by
      rw [hF.at_ (by simp; omega), rdi (by omega), rdi (by omega)]; exact h4
    refine ⟨M1, ?_, hF, hj⟩
    unfold b_Mo_readsRule_94_29
    dsimp only
    rw [e4, dlt_f (Nat.le_refl _) (by omega), ite_ff])
  have F10 : Fr (sRl z) M M10 := F4.trans (c2.mono (fun a i h => by
    simp only [Bool.and_eq_true, beq_iff_eq, decide_eq_true_eq] at h
    obtain ⟨rfl, h2⟩ := h
    exact s1 i (by omega)))
  have e790 : M10.1 95 (790 + z) = mo := by rw [c2.at_ (by simp; omega), rdi (by omega), rde]
  have e800 : M10.1 95 (800 + z) = nI L := by rw [c2.at_ (by simp; omega), rde]
  -- the memory that the clauses begin with
  have hMb : ∃ Mb : Mem, Mb = wI (wI (wI M10 95 4 0) 95 (1890 + z) 0) 94 6 (nI z) := ⟨_, rfl⟩
  obtain ⟨Mb, hMb⟩ := hMb
  have Fb : Fr (sRl z) M Mb := by
    rw [hMb]
    exact ((F10.wI (s1 _ (by omega))).wI (s1 _ (by omega))).wI (by unfold sRl; simp)
  have b4 : Mb.1 95 4 = 0 := by
    rw [hMb, rdk (by decide), rdi (by omega), rde]
  have b790 : Mb.1 95 (790 + z) = mo := by
    rw [hMb, rdk (by decide), rdi (by omega), rdi (by omega)]; exact e790
  have b800 : Mb.1 95 (800 + z) = nI L := by
    rw [hMb, rdk (by decide), rdi (by omega), rdi (by omega)]; exact e800
  have b90 : Mb.1 95 (1890 + z) = nI 0 := by
    rw [hMb, rdk (by decide), rde]; rfl
  have bch : ∀ s, ch s = if s < L then Mb.1 95 (810 + 120 * z + s) else -1 := fun s => by
    rw [hch s]
    by_cases c : s < L
    · rw [if_pos c, if_pos c, hMb, rdk (by decide), rdi (by omega), rdi (by omega), c3 s c]
    · rw [if_neg c, if_neg c]
  have b6 : Mb.1 94 6 = nI z := by rw [hMb, rde]
  have T : Tx Mb z L ch := ⟨b6, hz, hL, b800, bch⟩
  have hbeg : f_Mo_readsRule_94 (nI z) mo M = (f_Mo_reads_94 (nI z) (sp Mb 0 0)).bind fun q17 => (itr (b_Mo_readsRule_94_108 (nI z)) FU q17).bind fun q27 => if isb (q27.1 94 8) = true then jn_ (fun (u31 : Bool) => jv_ (wI q27 94 8 (bI u31)) fun M32 => if isb (M32.1 94 8) = true then if decide (M32.1 94 8 = 1) = true then (some (false, M32)) else (some (true, M32)) else none) fun k35 => if decide (q27.1 94 8 = 1) = true then (k35 true) else (if decide ((q27.1 94 7) = (q27.1 95 (800 + z))) = true then (k35 false) else (k35 true)) else none := by
    have i1 : (790 : Int32) + nI z = nI (790 + z) := nI_addn _ _
    have i2 : (800 : Int32) + nI z = nI (800 + z) := nI_addn _ _
    have i3 : (1890 : Int32) + nI z = nI (1890 + z) := nI_addn _ _
    unfold f_Mo_readsRule_94 jv_
    rw [i1, i2, i3, inb_t (by omega) (by omega), inb_t (by omega) (by omega), inb_t (by omega) (by omega), nI_cl (by omega), nI_cl (by omega), nI_cl (by omega)]
    simp only [↓reduceIte]
    rw [show (wI M 95 (790 + z) mo).1 95 4 = nI L from by rw [rdi (by omega)]; exact h4, c1, Option.bind_some, ← hMb, show (0 : Int32) = nI 0 from rfl, sp_of]
  generalize f_Mo_readsRule_94 (nI z) mo M = goal at hbeg ⊢
  have fin : ∀ (M' : Mem) (e : Nat) (w : Int32), Fr (sRj z 0) Mb M' → e ≤ L → (w = 0 ∨ w = 1) → (if isb ((sp M' e w).1 94 8) = true then jn_ (fun (u31 : Bool) => jv_ (wI (sp M' e w) 94 8 (bI u31)) fun M32 => if isb (M32.1 94 8) = true then if decide (M32.1 94 8 = 1) = true then (some (false, M32)) else (some (true, M32)) else none) fun k35 => if decide ((sp M' e w).1 94 8 = 1) = true then (k35 true) else (if decide (((sp M' e w).1 94 7) = ((sp M' e w).1 95 (800 + z))) = true then (k35 false) else (k35 true)) else none) = (if w = 0 ∧ e = L then some (true, sp M' e 0) else some (false, sp M' e 1)) := fun M' e w hF he hw => by
    have e8 : (sp M' e w).1 95 (800 + z) = nI L := (hF.at_ (sRj_lo (by omega))).trans b800
    rw [sp_8, sp_7, e8]
    unfold jn_ jv_
    dsimp only
    rcases hw with rfl | rfl
    · rw [show isb 0 = true from rfl, ite_tt, show decide ((0 : Int32) = 1) = false from rfl, ite_ff, d_eq (by omega) (by omega)]
      by_cases c : e = L
      · rw [decide_eq_true c, ite_tt, sp_w8, sp_8, show isb (bI false) = true from rfl, ite_tt, show decide (bI false = 1) = false from rfl, ite_ff, if_pos ⟨rfl, c⟩]; rfl
      · rw [decide_eq_false c, ite_ff, sp_w8, sp_8, show isb (bI true) = true from rfl, ite_tt, show decide (bI true = 1) = true from rfl, ite_tt, if_neg (fun h => c h.2)]; rfl
    · rw [show isb 1 = true from rfl, ite_tt, show decide ((1 : Int32) = 1) = true from rfl, ite_tt, sp_w8, sp_8, show isb (bI true) = true from rfl, ite_tt, show decide (bI true = 1) = true from rfl, ite_tt, if_neg (fun h => absurd h.1 (by decide))]; rfl
  have sF : ∀ (M' : Mem) (e : Nat) (w : Int32), Fr (sRj z 0) Mb M' → Fr (sRl z) M (sp M' e w) := fun M' e w h => by
    have h2 : sp M' e w = wI (wI M' 94 7 (nI e)) 94 8 w := (sp_of M' e w).symm
    rw [h2]
    exact ((Fb.trans (h.mono (sRj_sRl z 0))).wI (by unfold sRl; simp)).wI (by unfold sRl; simp)
  obtain ⟨r1, r2⟩ := e_reads T (cc := 0) b90 (by omega) (Nat.zero_le L)
  have hF8 : FU = 999999999 + 1 := rfl
  rw [pR_pT]
  cases hp : pCl ch 0 with
  | inl e =>
    obtain ⟨g1, M1, g2, g3⟩ := r1 e hp
    refine ⟨fun e' h => ?_, fun l h => by (cases h)⟩
    cases h
    refine ⟨g1, sp M1 e 1, ?_, rfl, ?_, sF M1 e 1 g3⟩
    · rw [hbeg, g2, Option.bind_some, hF8, itr_r (e := sp M1 e 1) rfl, Option.bind_some, fin M1 e 1 g3 g1 (.inr rfl), if_neg (fun h => absurd h.1 (by decide))]
    · show M1.1 95 4 = 0
      rw [g3.at_ (sRj_lo (by omega))]; exact b4
  | inr q =>
    obtain ⟨s', x1, c, u⟩ := q
    obtain ⟨g1, g0, M1, g2, g3, g4, g5⟩ := r2 s' x1 c u hp
    obtain ⟨t1, t2⟩ := mr_go hL 7 s' FU M1 (by omega) (T.fr g3) g4 g1 (by unfold FU; omega)
    simp only [Sum.elim_inr]
    cases ht : pT ch L 7 s' with
    | inl e =>
      obtain ⟨a1, M2, w, a2, a3, a4⟩ := t1 e ht
      have F2 := g3.trans a4
      refine ⟨fun e' h => ?_, fun l h => by (cases h)⟩
      cases h
      refine ⟨a1, sp M2 e 1, ?_, rfl, ?_, sF M2 e 1 F2⟩
      · rw [hbeg, g2, Option.bind_some, a2, Option.bind_some, fin M2 e w F2 a1 (by rcases a3 with h | h; exact .inl h.1; exact .inr h), if_neg (fun h => by
          rcases a3 with h2 | h2
          · omega
          · rw [h2] at h; exact absurd h.1 (by decide))]
      · show M2.1 95 4 = 0
        rw [F2.at_ (sRj_lo (by omega))]; exact b4
    | inr l =>
      obtain ⟨a1, M2, a2, a3, a4, a5⟩ := t2 l ht
      have F2 : Fr (sRj z 0) Mb M2 := g3.trans (a5.mono (sRj_le z 0 _ (by omega)))
      refine ⟨fun e' h => by (cases h), fun l' h => ?_⟩
      cases h
      refine ⟨sp M2 L 0, ?_, ?_, ?_, ?_, fun s => ?_, ?_, fun j hj => ?_, sF M2 L 0 F2⟩
      · rw [hbeg, g2, Option.bind_some, a2, Option.bind_some, fin M2 L 0 F2 (Nat.le_refl _) (.inl rfl), if_pos ⟨rfl, rfl⟩]
      · show M2.1 95 4 = 0
        rw [F2.at_ (sRj_lo (by omega))]; exact b4
      · show M2.1 95 (790 + z) = mo
        rw [F2.at_ (sRj_lo (by omega))]; exact b790
      · show M2.1 95 (800 + z) = _
        rw [F2.at_ (sRj_lo (by omega))]; exact b800
      · rw [bch s]
        show _ = if s < L then M2.1 95 (810 + 120 * z + s) else -1
        by_cases c : s < L
        · rw [if_pos c, if_pos c, F2.at_ (sRj_lo (by omega))]
        · rw [if_neg c, if_neg c]
      · show M2.1 95 (1890 + z) = _
        rw [a3, List.length_cons]; congr 1; omega
      · show Mcl (M2.1 95) _ _ _ _
        cases j with
        | zero =>
          have hx : ∀ b, (b = 1900 ∨ b = 1980 ∨ b = 2060) → M2.1 95 (b + (8 * z + 0)) = M1.1 95 (b + (8 * z + 0)) := fun b hb => a5.at_ (by
            unfold sRj
            rcases hb with rfl | rfl | rfl <;> simp <;> omega)
          obtain ⟨m1, m2, m3, m4⟩ := g5
          exact ⟨(hx 1900 (by simp)).trans m1, (hx 1980 (by simp)).trans m2, fun h => (hx 2060 (by simp)).trans (m3 h), fun s2 c2 h => (hx 2060 (by simp)).trans (m4 s2 c2 h)⟩
        | succ j =>
          have := a4 j (by simpa using hj)
          rw [show 8 * z + (j + 1) = 8 * z + (8 - 7 + j) by omega]
          exact this
end MT
