section
section TR
variable {M : Mem} {σ : Nat → Int32} {p : Nat → Bool} {T : Nat → Nat → Nat} {s : Nat}
theorem e_ends (L : Rland M.1 σ) (wl : wLand σ) (n1 : nt σ 1 ≤ 10) (hp : ∀ i, nt σ 1 ≤ i → i < 10 → p i = false) (h6 : cnt p 10 ≤ 6) : ∃ M', itr (b_Ways_leastTree_81_4 (msk p 10)) FU (0, 0, M) = some (nI (cnt p 10), M') ∧ Fr (fun a _ => a == 84) M M' ∧ ∀ f, f < 10 → p f = true → M'.1 84 (cnt p f) = nI (cel σ f) := by
  obtain ⟨e, h1, h2⟩ := itr_cnt (body := b_Ways_leastTree_81_4 (msk p 10)) (s0 := ((0 : Int32), (0 : Int32), M)) (fun k s => s.1 = nI (cnt p k) ∧ s.2.1 = nI k ∧ Fr (fun a _ => a == 84) M s.2.2 ∧ ∀ f, f < k → p f = true → s.2.2.1 84 (cnt p f) = nI (cel σ f)) (fun e => e.1 = nI (cnt p 10) ∧ Fr (fun a _ => a == 84) M e.2 ∧ ∀ f, f < 10 → p f = true → e.2.1 84 (cnt p f) = nI (cel σ f)) 10 (by omega) ⟨rfl, rfl, Fr.refl _, fun f hf => by omega⟩ (by
    rintro k ⟨x, y, X⟩ hk ⟨hx, hy, hF, hr⟩
    dsimp only at hx hy hF hr
    rw [hx, hy]
    left
    cases c : p k
    · refine ⟨(nI (cnt p (k + 1)), nI (k + 1), X), ?_, rfl, rfl, hF, fun f hf h => ?_⟩
      · unfold b_Ways_leastTree_81_4
        dsimp only
        rw [show (10 : Int32) = nI 10 from rfl, dlt_t hk (by omega), ite_tt, hld_msk p hk, c, ite_ff, nI_one, cnt_s0 c]
      · by_cases g : f = k
        · rw [g, c] at h; exact absurd h (by decide)
        · exact hr f (by omega) h
    · have hlt := cnt_lt10 c hk
      have hkn : k < nt σ 1 := by
        by_cases g : k < nt σ 1
        · exact g
        · rw [hp k (by omega) hk] at c; exact absurd c (by decide)
      have hcel : f_Land_cellOf_2 (nI k) X = some (nI (cel σ k)) := by
        unfold f_Land_cellOf_2
        rw [atv_nI (by omega) (by omega), hF.row (a := 5) (fun _ => rfl), (L.2.2.2 k (by omega)).1]
        exact congrArg some (nI_of_inb (wl.2.1 k hkn).1).1
      refine ⟨(nI (cnt p (k + 1)), nI (k + 1), wI X 84 (cnt p k) (nI (cel σ k))), ?_, rfl, rfl, hF.wI rfl, fun f hf h => ?_⟩
      · unfold b_Ways_leastTree_81_4 jv_
        dsimp only
        rw [show (10 : Int32) = nI 10 from rfl, dlt_t hk (by omega), ite_tt, hld_msk p hk, c, ite_tt, hcel, Option.bind_some, putv_nI (by omega) (by omega), nI_one, nI_one, cnt_s c]
      · dsimp only
        by_cases g : f = k
        · rw [g]; exact rde
        · have : cnt p f ≠ cnt p k := fun e => g (cnt_u h c e)
          rw [rdi this]; exact hr f (by omega) h) (by
    rintro ⟨x, y, X⟩ ⟨hx, hy, hF, hr⟩
    dsimp only at hx hy hF hr
    rw [hx, hy]
    refine ⟨(nI (cnt p 10), X), ?_, rfl, hF, hr⟩
    unfold b_Ways_leastTree_81_4
    dsimp only
    rw [show (10 : Int32) = nI 10 from rfl, dlt_f (Nat.le_refl _) (by omega), ite_ff])
  obtain ⟨e1, e2⟩ := e
  obtain ⟨p1, p2, p3⟩ := h2
  dsimp only at p1 p2 p3
  exact ⟨e2, h1.trans (congrArg (fun z => some (z, e2)) p1), p2, p3⟩
theorem e_fillRow (hs : s < 64) : ∃ M', f_Ways_fillRow_81 (nI (s * 48)) M = some M' ∧ Fr (s83 (s * 48)) M M' ∧ rowC M' (s * 48) (fun _ => 1000000) := by
  obtain ⟨e, h1, h2⟩ := itr_cnt (body := b_Ways_fillRow_81_2 (nI (s * 48))) (s0 := ((0 : Int32), M)) (fun k z => z.1 = nI k ∧ Fr (s83 (s * 48)) M z.2 ∧ ∀ c, c < k → z.2.1 83 (s * 48 + c) = nI 1000000) (fun X => Fr (s83 (s * 48)) M X ∧ rowC X (s * 48) (fun _ => 1000000)) 48 (by omega) ⟨rfl, Fr.refl _, fun c hc => by omega⟩ (by
    rintro k ⟨x, X⟩ hk ⟨rfl, hF, hr⟩
    dsimp only at hF hr
    left
    refine ⟨(nI (k + 1), wI X 83 (s * 48 + k) (nI 1000000)), ?_, rfl, hF.wI (s83_c hk), fun c hc => ?_⟩
    · unfold b_Ways_fillRow_81_2 jv_
      dsimp only
      rw [show (48 : Int32) = nI 48 from rfl, dlt_t hk (by omega), ite_tt, nI_addn, putv_nI (by omega) (by omega), nI_one]; rfl
    · dsimp only
      by_cases g : c = k
      · rw [g]; exact rde
      · rw [rdi (by omega)]; exact hr c (by omega)) (by
    rintro ⟨x, X⟩ ⟨rfl, hF, hr⟩
    dsimp only at hF hr
    refine ⟨X, ?_, hF, hr⟩
    unfold b_Ways_fillRow_81_2
    dsimp only
    rw [show (48 : Int32) = nI 48 from rfl, dlt_f (Nat.le_refl _) (by omega), ite_ff])
  unfold f_Ways_fillRow_81
  rw [h1]
  exact ⟨e, rfl, h2⟩
theorem e_terms (hs : s < 2 ^ cnt p 10) (h6 : cnt p 10 ≤ 6) (hE : ∀ f, f < 10 → p f = true → M.1 84 (cnt p f) = nI (cel σ f) ∧ cel σ f < 48) (hr : rowC M (s * 48) (fun _ => 1000000)) : ∃ M', itr (b_Ways_join_81_12 (nI s)) FU (0, M) = some M' ∧ Fr (s83 (s * 48)) M M' ∧ rowC M' (s * 48) (uT σ p s) := by
  have hs64 : s < 64 := by have := pw_le h6; omega
  obtain ⟨e, h1, h2⟩ := itr_cnt (body := b_Ways_join_81_12 (nI s)) (s0 := ((0 : Int32), M)) (fun k z => z.1 = nI k ∧ Fr (s83 (s * 48)) M z.2 ∧ rowC z.2 (s * 48) (fun c => if (tF p s < 10 ∧ cel σ (tF p s) = c) ∧ cnt p (tF p s) < k then 0 else 1000000)) (fun X => Fr (s83 (s * 48)) M X ∧ rowC X (s * 48) (uT σ p s)) 6 (by omega) ⟨rfl, Fr.refl _, fun c hc => by
      dsimp only
      rw [if_neg (by omega)]; exact hr c hc⟩ (by
    rintro k ⟨x, X⟩ hk ⟨rfl, hF, hR⟩
    dsimp only at hF hR
    left
    by_cases g : s = 2 ^ k
    · have hkc : k < cnt p 10 := by
        by_cases g2 : k < cnt p 10
        · exact g2
        · have := pw_le (show cnt p 10 ≤ k by omega); omega
      obtain ⟨f, f1, f2, f3⟩ := cnt_sur 10 hkc
      rcases tF_s (p := p) (set := s) with ⟨t1, t2, t3, t4⟩ | ⟨t1, t2⟩
      · have hft := t4 f f1 f2 (by rw [f3]; exact g)
        obtain ⟨e1, e2⟩ := hE f f1 f2
        rw [f3] at e1
        refine ⟨(nI (k + 1), wI X 83 (s * 48 + cel σ f) (nI 0)), ?_, rfl, hF.wI (s83_c e2), fun c hc => ?_⟩
        · unfold b_Ways_join_81_12 jv_
          dsimp only
          rw [show (6 : Int32) = nI 6 from rfl, dlt_t hk (by omega), ite_tt, one_fin k (by omega), d_eq (by omega) (by omega), if_pos (decide_eq_true g), atv_nI (by omega) (by omega), hF.row (a := 84) (fun _ => rfl), e1, show (48 : Int32) = nI 48 from rfl, nI_muln, nI_addn, putv_nI (by omega) (by omega), nI_one]; rfl
        · dsimp only
          by_cases g3 : c = cel σ f
          · rw [g3, rde, if_pos ⟨⟨t1, by rw [hft]⟩, by rw [← hft, f3]; omega⟩]
          · rw [rdi (by omega), hR c hc]
            congr 1
            dsimp only
            rw [if_neg (by rw [← hft]; exact fun h => g3 h.1.2.symm), if_neg (by rw [← hft]; exact fun h => g3 h.1.2.symm)]
      · exact absurd (show s = 2 ^ cnt p f by rw [f3]; exact g) (t2 f f1 f2)
    · refine ⟨(nI (k + 1), X), ?_, rfl, hF, fun c hc => ?_⟩
      · unfold b_Ways_join_81_12 jv_
        dsimp only
        have := pw_le (show k ≤ 6 by omega)
        rw [show (6 : Int32) = nI 6 from rfl, dlt_t hk (by omega), ite_tt, one_fin k (by omega), d_eq (by omega) (by omega), if_neg (by rw [decide_eq_true_eq]; exact g), nI_one]
      · dsimp only
        rw [hR c hc]
        congr 1
        dsimp only
        have hq : tF p s < 10 → cnt p (tF p s) ≠ k := fun h9 h8 => by
          rcases tF_s (p := p) (set := s) with ⟨t1, t2, t3, t4⟩ | ⟨t1, t2⟩
          · rw [h8] at t3; exact g t3
          · omega
        by_cases g4 : tF p s < 10 ∧ cel σ (tF p s) = c
        · have := hq g4.1
          by_cases g5 : cnt p (tF p s) < k
          · rw [if_pos ⟨g4, g5⟩, if_pos ⟨g4, by omega⟩]
          · rw [if_neg (fun h => g5 h.2), if_neg (fun h => g5 (by have := h.2; omega))]
        · rw [if_neg (fun h => g4 h.1), if_neg (fun h => g4 h.1)]) (by
    rintro ⟨x, X⟩ ⟨rfl, hF, hR⟩
    dsimp only at hF hR
    refine ⟨X, ?_, hF, fun c hc => ?_⟩
    · unfold b_Ways_join_81_12
      dsimp only
      rw [show (6 : Int32) = nI 6 from rfl, dlt_f (Nat.le_refl _) (by omega), ite_ff]
    · rw [hR c hc]
      congr 1
      dsimp only
      unfold uT
      by_cases g4 : tF p s < 10 ∧ cel σ (tF p s) = c
      · have : cnt p (tF p s) < 6 := by
          rcases tF_s (p := p) (set := s) with ⟨t1, t2, t3, t4⟩ | ⟨t1, t2⟩
          · have := cnt_lt10 t2 t1; omega
          · omega
        rw [if_pos g4, if_pos ⟨g4, this⟩]
      · rw [if_neg g4, if_neg (fun h => g4 h.1)])
  rw [h1]
  exact ⟨e, rfl, h2⟩
/-- the lesser of what stands and of two trees joined -/
def mnT (T : Nat → Nat → Nat) (s q : Nat) (g : Nat → Nat) (c : Nat) : Nat := if T q c + T (s - q) c < g c then T q c + T (s - q) c else g c
theorem e_joinI {g : Nat → Nat} {q : Nat} (hs : s < 64) (hq0 : q ≠ 0) (hq : q < s) (hT : ∀ s' c, 1 ≤ s' → s' < s → c < 48 → T s' c ≤ 1000000) (hg : ∀ c, c < 48 → g c ≤ 1000000) (hr : rowC M (s * 48) g) (hR : ∀ s', 1 ≤ s' → s' < s → rowC M (s' * 48) (T s')) (X0 : Mem) : ∃ M', itr (b_Ways_join_81_62 (nI s) (nI q, X0)) FU (0, M) = some M' ∧ Fr (s83 (s * 48)) M M' ∧ rowC M' (s * 48) (mnT T s q g) := by
  obtain ⟨e, h1, h2⟩ := itr_cnt (body := b_Ways_join_81_62 (nI s) (nI q, X0)) (s0 := ((0 : Int32), M)) (fun k z => z.1 = nI k ∧ Fr (s83 (s * 48)) M z.2 ∧ rowC z.2 (s * 48) (fun c => if c < k then mnT T s q g c else g c)) (fun X => Fr (s83 (s * 48)) M X ∧ rowC X (s * 48) (mnT T s q g)) 48 (by omega) ⟨rfl, Fr.refl _, fun c hc => by
      dsimp only
      rw [if_neg (by omega)]; exact hr c hc⟩ (by
    rintro k ⟨x, X⟩ hk ⟨rfl, hF, hX⟩
    dsimp only at hF hX
    left
    have ho : ∀ s', 1 ≤ s' → s' < s → X.1 83 (s' * 48 + k) = nI (T s' k) := fun s' a1 a2 => by
      have h9 : s' * 48 + 48 ≤ s * 48 := by omega
      rw [hF.at_ (a := 83) (by unfold s83; rw [decide_eq_false (by omega)]; rfl)]; exact hR s' a1 a2 k hk
    have v1 := hT q k (by omega) hq hk
    have v2 := hT (s - q) k (by omega) (by omega) hk
    have v3 := hg k hk
    have hxk := hX k hk
    dsimp only at hxk
    rw [if_neg (by omega)] at hxk
    have hst : b_Ways_join_81_62 (nI s) (nI q, X0) (nI k, X) = if T q k + T (s - q) k < g k then some (.inl (nI (k + 1), wI X 83 (s * 48 + k) (nI (T q k + T (s - q) k)))) else some (.inl (nI (k + 1), X)) := by
      unfold b_Ways_join_81_62 jv_
      dsimp only
      rw [show (48 : Int32) = nI 48 from rfl, dlt_t hk (by omega), ite_tt, nI_subn (by omega) (by omega), nI_muln, nI_muln, nI_muln, nI_addn, nI_addn, nI_addn, atv_nI (by omega) (by omega), atv_nI (by omega) (by omega), atv_nI (by omega) (by omega), ho q (by omega) hq, ho (s - q) (by omega) (by omega), hxk, nI_addn, d_lt (by omega) (by omega), putv_nI (by omega) (by omega), nI_one]
      by_cases g1 : T q k + T (s - q) k < g k
      · rw [if_pos g1, if_pos (decide_eq_true g1)]
      · rw [if_neg g1, if_neg (by rw [decide_eq_true_eq]; exact g1)]
    by_cases g1 : T q k + T (s - q) k < g k
    · rw [if_pos g1] at hst
      refine ⟨_, hst, rfl, hF.wI (s83_c hk), fun c hc => ?_⟩
      dsimp only
      by_cases g2 : c = k
      · rw [g2, rde, if_pos (by omega)]
        unfold mnT
        rw [if_pos g1]
      · rw [rdi (by omega), hX c hc]
        congr 1
        dsimp only
        by_cases g3 : c < k
        · rw [if_pos g3, if_pos (by omega)]
        · rw [if_neg g3, if_neg (by omega)]
    · rw [if_neg g1] at hst
      refine ⟨_, hst, rfl, hF, fun c hc => ?_⟩
      dsimp only
      rw [hX c hc]
      congr 1
      dsimp only
      by_cases g3 : c < k
      · rw [if_pos g3, if_pos (by omega)]
      · rw [if_neg g3]
        by_cases g2 : c = k
        · rw [if_pos (by omega), g2]
          unfold mnT
          rw [if_neg g1]
        · rw [if_neg (by omega)]) (by
    rintro ⟨x, X⟩ ⟨rfl, hF, hX⟩
    dsimp only at hF hX
    refine ⟨X, ?_, hF, fun c hc => ?_⟩
    · unfold b_Ways_join_81_62
      dsimp only
      rw [show (48 : Int32) = nI 48 from rfl, dlt_f (Nat.le_refl _) (by omega), ite_ff]
    · rw [hX c hc]
      dsimp only
      rw [if_pos hc])
  rw [h1]
  exact ⟨e, rfl, h2⟩
theorem e_join (h1s : 1 ≤ s) (hs : s < 2 ^ cnt p 10) (h6 : cnt p 10 ≤ 6) (hE : ∀ f, f < 10 → p f = true → M.1 84 (cnt p f) = nI (cel σ f) ∧ cel σ f < 48) (hT : ∀ s' c, 1 ≤ s' → s' < s → c < 48 → T s' c ≤ 1000000) (hR : ∀ s', 1 ≤ s' → s' < s → rowC M (s' * 48) (T s')) : ∃ M', f_Ways_join_81 (nI s) M = some M' ∧ Fr (s83 (s * 48)) M M' ∧ rowC M' (s * 48) (gT σ p T s) := by
  have hs64 : s < 64 := by have := pw_le h6; omega
  obtain ⟨M1, a1, a2, a3⟩ := e_fillRow (M := M) hs64
  obtain ⟨M2, b1, b2, b3⟩ := e_terms (M := M1) (σ := σ) hs h6 (by rw [a2.row (a := 84) (fun _ => rfl)]; exact hE) a3
  have h0 := sub1 hs64 hs64 (by omega)
  have F2 := a2.trans b2
  have u1 : ∀ c, uT σ p s c ≤ 1000000 := fun c => by unfold uT; split <;> omega
  obtain ⟨e, h1, h2⟩ := itr_cnt (body := b_Ways_join_81_55 (nI s)) (s0 := (nI ((s - 1) &&& s), M2)) (fun k z => Fr (s83 (s * 48)) M z.2 ∧ ∃ q g, z.1 = nI q ∧ q < s ∧ q ≤ 64 - k ∧ rowC z.2 (s * 48) g ∧ (∀ c, c < 48 → g c ≤ 1000000) ∧ ∀ c, JF T s c (64 - k) (g c) q = gT σ p T s c) (fun X => Fr (s83 (s * 48)) M X ∧ rowC X (s * 48) (gT σ p T s)) 64 (by omega) ⟨F2, (s - 1) &&& s, uT σ p s, rfl, by omega, by omega, b3, fun c _ => u1 c, fun c => rfl⟩ (by
    rintro k ⟨x, X⟩ hk ⟨hF, q, g, hx, q1, q2, q3, q4, q5⟩
    dsimp only at hF hx q3
    rw [hx]
    by_cases z : q = 0
    · right
      refine ⟨X, ?_, hF, fun c hc => ?_⟩
      · unfold b_Ways_join_81_55
        dsimp only
        rw [z, if_pos (by rw [show (0 : Int32) = nI 0 from rfl]; exact dle_t (by omega) (by omega))]
      · rw [q3 c hc, ← q5 c, z, JF_z]
    · left
      obtain ⟨Y, y1, y2, y3⟩ := e_joinI (M := X) (g := g) hs64 z q1 hT q4 q3 (fun s' t1 t2 c hc => by
        rw [hF.at_ (a := 83) (by unfold s83; rw [decide_eq_false (by omega)]; rfl)]; exact hR s' t1 t2 c hc) X
      obtain ⟨r1, r2, r3⟩ := sub1 hs64 (show q < 64 by omega) z
      refine ⟨(nI ((q - 1) &&& s), Y), ?_, hF.trans y2, (q - 1) &&& s, mnT T s q g, rfl, by omega, by omega, y3, fun c hc => ?_, fun c => ?_⟩
      · unfold b_Ways_join_81_55
        dsimp only
        rw [show (0 : Int32) = nI 0 from rfl, dle_f (by omega) (by omega), ite_ff, show nI 0 = (0 : Int32) from rfl, y1, Option.bind_some, r1]
      · have := q4 c hc
        unfold mnT
        split <;> omega
      · rw [← q5 c, show 64 - k = 64 - (k + 1) + 1 by omega, JF_s z]; rfl) (by
    rintro ⟨x, X⟩ ⟨hF, q, g, hx, q1, q2, q3, q4, q5⟩
    dsimp only at hF hx q3
    have z : q = 0 := by omega
    rw [hx, z]
    refine ⟨X, ?_, hF, fun c hc => ?_⟩
    · unfold b_Ways_join_81_55
      dsimp only
      rw [if_pos (by rw [show (0 : Int32) = nI 0 from rfl]; exact dle_t (by omega) (by omega))]
    · rw [q3 c hc, ← q5 c, z, JF_z])
  unfold f_Ways_join_81
  rw [show (48 : Int32) = nI 48 from rfl, nI_muln, a1, Option.bind_some, b1, Option.bind_some, show (1 : Int32) = nI 1 from rfl, show nI s - nI 1 = nI s - 1 from rfl, h0.1, h1]
  exact ⟨e, rfl, h2⟩
def sTree (a _i : Nat) : Bool := decide (82 ≤ a) && decide (a ≤ 84)
theorem e_leastTree (L : Rland M.1 σ) (wl : wLand σ) (n1 : nt σ 1 ≤ 10) (n9 : inb (σ 9) 48 = true) (hp : ∀ i, nt σ 1 ≤ i → i < 10 → p i = false) (h6 : cnt p 10 ≤ 6) (hT : ∀ set, 1 ≤ set → set < 64 → isD (okW σ) (wW σ) (gT σ p T set) (T set)) : ∃ M', f_Ways_leastTree_81 (msk p 10) M = some (if cnt p 10 = 0 then 0 else if T (2 ^ cnt p 10 - 1) (nt σ 9) < 1000000 then nI (T (2 ^ cnt p 10 - 1) (nt σ 9)) else -5, M') ∧ Fr sTree M M' := by
  obtain ⟨M1, a1, a2, a3⟩ := e_ends L wl n1 hp h6
  have L1 : Rland M1.1 σ := by
    unfold Rland
    rw [a2.row (a := 2) (fun _ => rfl), a2.row (a := 3) (fun _ => rfl), a2.row (a := 4) (fun _ => rfl), a2.row (a := 5) (fun _ => rfl), a2.row (a := 6) (fun _ => rfl)]; exact L
  obtain ⟨M2, b1, b2, b3⟩ := e_measure L1 wl
  have hTb : ∀ s' c, 1 ≤ s' → s' < 64 → c < 48 → T s' c ≤ 1000000 := fun s' c x1 x2 hc => Nat.le_trans ((hT s' x1 x2).1 c hc) gT_le
  have h64 := pw_le h6
  have hpos := pw_le (Nat.zero_le (cnt p 10))
  have F1 : Fr sTree M M1 := a2.mono (fun a i h => by rw [beq_iff_eq] at h; subst h; rfl)
  have F2 : Fr sTree M M2 := F1.trans (b2.mono (fun a i h => by unfold s82 at h; rw [beq_iff_eq] at h; subst h; rfl))
  have hE2 : ∀ f, f < 10 → p f = true → M2.1 84 (cnt p f) = nI (cel σ f) ∧ cel σ f < 48 := fun f h1 h2 => by
    rw [b2.row (a := 84) (fun _ => rfl)]
    refine ⟨a3 f h1 h2, ?_⟩
    by_cases g : f < nt σ 1
    · exact (nI_of_inb (wl.2.1 f g).1).2
    · rw [hp f (by omega) h1] at h2; exact absurd h2 (by decide)
  obtain ⟨e, h1, h2⟩ := itr_cnt (body := b_Ways_leastTree_81_52 (nI (cnt p 10), M1)) (s0 := ((1 : Int32), M2)) (fun k z => z.1 = nI (k + 1) ∧ Fr (fun a _ => a == 83) M2 z.2 ∧ ∀ s, 1 ≤ s → s < k + 1 → rowC z.2 (s * 48) (T s)) (fun X => Fr (fun a _ => a == 83) M2 X ∧ ∀ s, 1 ≤ s → s < 2 ^ cnt p 10 → rowC X (s * 48) (T s)) (2 ^ cnt p 10 - 1) (by omega) ⟨rfl, Fr.refl _, fun s h1 h2 => by omega⟩ (by
    rintro k ⟨x, X⟩ hk ⟨rfl, hF, hr⟩
    dsimp only at hF hr
    left
    have hgo : ∀ b, ∀ a i, s83 b a i = true → (a == 83) = true := fun b a i h => by
      unfold s83 at h
      rw [Bool.and_eq_true] at h; exact h.1
    obtain ⟨Y, y1, y2, y3⟩ := e_join (M := X) (σ := σ) (T := T) (p := p) (s := k + 1) (by omega) (by omega) h6 (by rw [hF.row (a := 84) (fun _ => rfl)]; exact hE2) (fun s' c x1 x2 x3 => hTb s' c x1 (by omega) x3) hr
    obtain ⟨Z, z1, z2, z3⟩ := e_spread (M := Y) (σ := σ) (b := (k + 1) * 48) (f := gT σ p T (k + 1)) (D := T (k + 1)) (by omega) wl (fun c _ => gT_le) (fun t ht => by
      rw [y2.row (a := 82) (fun _ => rfl), hF.row (a := 82) (fun _ => rfl)]; exact b3 t ht) y3 (hT (k + 1) (by omega) (by omega))
    refine ⟨(nI (k + 2), Z), ?_, rfl, hF.trans ((y2.mono (hgo _)).trans (z2.mono (hgo _))), fun s w1 w2 => ?_⟩
    · unfold b_Ways_leastTree_81_52
      dsimp only
      have hj : (1 : Int32) <<< (jmin (nI (cnt p 10)) 6 &&& 31) = nI (2 ^ cnt p 10) := (by decide +kernel : ∀ n, n < 7 → (1 : Int32) <<< (jmin (nI n) 6 &&& 31) = nI (2 ^ n)) _ (by omega)
      rw [hj, dlt_t (by omega) (by omega), ite_tt, y1, Option.bind_some, show (48 : Int32) = nI 48 from rfl, nI_muln, z1, Option.bind_some, nI_one]
    · by_cases g : s = k + 1
      · rw [g]; exact z3
      · intro c hc
        have hne : s * 48 + c < (k + 1) * 48 := by omega
        dsimp only
        rw [z2.at_ (a := 83) (by unfold s83; rw [decide_eq_false (by omega)]; rfl), y2.at_ (a := 83) (by unfold s83; rw [decide_eq_false (by omega)]; rfl)]
        exact hr s w1 (by omega) c hc) (by
    rintro ⟨x, X⟩ ⟨rfl, hF, hr⟩
    dsimp only at hF hr
    refine ⟨X, ?_, hF, fun s x1 x2 => hr s x1 (by omega)⟩
    unfold b_Ways_leastTree_81_52
    dsimp only
    have hj : (1 : Int32) <<< (jmin (nI (cnt p 10)) 6 &&& 31) = nI (2 ^ cnt p 10) := (by decide +kernel : ∀ n, n < 7 → (1 : Int32) <<< (jmin (nI n) 6 &&& 31) = nI (2 ^ n)) _ (by omega)
    rw [hj, dlt_f (by omega) (by omega), ite_ff])
  obtain ⟨h2, h3⟩ := h2
  refine ⟨e, ?_, F2.trans (h2.mono (fun a i h => by rw [beq_iff_eq] at h; subst h; rfl))⟩
  unfold f_Ways_leastTree_81 jv_
  have hbegin : itr (b_Ways_leastTree_81_4 (msk p 10)) FU (0, 0, M) = some (nI (cnt p 10), M1) := a1
  rw [hbegin, Option.bind_some]
  dsimp only
  rw [b1, Option.bind_some, h1, Option.bind_some]
  obtain ⟨e9, l9⟩ := nt_inb n9
  have hval : (if decide (nI (cnt p 10) = 0) = true then (0 : Int32) else atv (e.1 83) 3072 ((((1 <<< (nI (cnt p 10) &&& 31)) - 1) * 48) + (e.1 2 5))) = nI (if cnt p 10 = 0 then 0 else T (2 ^ cnt p 10 - 1) (nt σ 9)) := by
    rw [show (0 : Int32) = nI 0 from rfl, d_eq (by omega) (by omega)]
    by_cases g : cnt p 10 = 0
    · rw [if_pos (decide_eq_true g), if_pos g]
    · have h2p := pw_le (show 1 ≤ cnt p 10 by omega)
      have e5 : e.1 2 5 = nI (nt σ 9) := by rw [h2.row (a := 2) (fun _ => rfl), b2.row (a := 2) (fun _ => rfl), L1.2.1]; exact e9
      rw [if_neg (by rw [decide_eq_true_eq]; exact g), if_neg g, top_fin _ (by omega), e5, show (48 : Int32) = nI 48 from rfl, nI_muln, nI_addn, atv_nI (by omega) (by omega), h3 (2 ^ cnt p 10 - 1) (by omega) (by omega) (nt σ 9) l9]
  rw [hval]
  by_cases g : cnt p 10 = 0
  · rw [if_pos g, if_pos g, if_pos (show decide (nI 0 < (1000000 : Int32)) = true from rfl)]; rfl
  · have h2p := pw_le (show 1 ≤ cnt p 10 by omega)
    have hb := hTb (2 ^ cnt p 10 - 1) (nt σ 9) (by omega) (by omega) l9
    rw [if_neg g, if_neg g, show (1000000 : Int32) = nI 1000000 from rfl, d_lt (by omega) (by omega)]
    by_cases g2 : T (2 ^ cnt p 10 - 1) (nt σ 9) < 1000000
    · rw [if_pos g2, if_pos (decide_eq_true g2)]
    · rw [if_neg g2, if_neg (by rw [decide_eq_true_eq]; exact g2)]
end TR
end
