section
section OR
variable {M : Mem} {σ : Nat → Int32} {n : Nat}
theorem dlt64 (x y : Int64) : decide (lg_cmp x y < 0) = decide (x < y) := by
  unfold lg_cmp
  by_cases h : x > y
  · rw [if_pos h, decide_eq_false (fun h2 : x < y => by rw [Int64.lt_iff_toInt_lt] at h2; have h := Int64.lt_iff_toInt_lt.mp h; omega)]; rfl
  · rw [if_neg h]
    by_cases h3 : x = y
    · rw [if_pos h3, decide_eq_false (fun h2 : x < y => by rw [Int64.lt_iff_toInt_lt, h3] at h2; omega)]; rfl
    · rw [if_neg h3, decide_eq_true (show x < y from by
        rw [Int64.lt_iff_toInt_lt]
        have h4 : ¬ y.toInt < x.toInt := fun h5 => h (Int64.lt_iff_toInt_lt.mpr h5)
        have h5 : x.toInt ≠ y.toInt := fun h => h3 (Int64.toInt_inj.mp h)
        omega)]; rfl
theorem l64_lt {a b : Nat} (ha : a < 2147483648) (hb : b < 2147483648) : decide (l64 a < l64 b) = decide (a < b) := by
  refine decide_eq_decide.mpr ?_
  rw [Int64.lt_iff_toInt_lt, l64_t (by omega), l64_t (by omega)]; omega
theorem gl_l {pre : List Nat} {b i : Nat} (h : i < pre.length) : gl (pre ++ [b]) i = gl pre i := by
  unfold gl
  rw [List.getD_eq_getElem?_getD, List.getD_eq_getElem?_getD, List.getElem?_append_left h]
theorem gl_r {pre : List Nat} {b : Nat} : gl (pre ++ [b]) pre.length = b := by
  unfold gl
  rw [List.getD_eq_getElem?_getD, List.getElem?_append_right (Nat.le_refl _), Nat.sub_self]; rfl
theorem gl_mem {pre : List Nat} {i b : Nat} (h : i < pre.length) (hb : pre.contains b = false) : gl pre i ≠ b := fun e => by
  unfold gl at e
  rw [List.getD_eq_getElem?_getD, List.getElem?_eq_getElem h] at e
  have : pre.contains b = true := List.contains_iff_mem.mpr (by rw [← e]; exact List.getElem_mem _)
  rw [hb] at this
  exact Bool.noConfusion this
theorem tmI_cg {g g' h : Nat → Nat} : ∀ n, (∀ i, i < n → g i = g' i) → tmI g h n = tmI g' h n
  | 0, _ => rfl
  | n + 1, H => by
    unfold tmI
    rw [tmI_cg n (fun i hi => H i (by omega)), H n (by omega)]
theorem bst_s (P : List Nat → Prop) : ∀ (L : List (List Nat)) (acc : Option (Nat × List Nat)), (∀ l, l ∈ L → P l) → (∀ q, acc = some q → q.1 = mlk σ n (gl q.2) ∧ P q.2) → ∀ q, L.foldl (bst σ n) acc = some q → q.1 = mlk σ n (gl q.2) ∧ P q.2
  | [], acc, _, h2, q, hq => h2 q hq
  | a :: t, acc, h1, h2, q, hq => by
    refine bst_s P t (bst σ n acc a) (fun l hl => h1 l (List.mem_cons_of_mem _ hl)) (fun q' hq' => ?_) q hq
    unfold bst at hq'
    have ha := h1 a (List.mem_cons_self)
    cases acc with
    | none =>
      cases hq'
      exact ⟨rfl, ha⟩
    | some mb =>
      obtain ⟨m, b⟩ := mb
      dsimp only at hq'
      by_cases c : mlk σ n (gl a) < m
      · rw [if_pos c] at hq'
        cases hq'
        exact ⟨rfl, ha⟩
      · rw [if_neg c] at hq'
        cases hq'
        exact h2 _ rfl
theorem bst_some : ∀ (L : List (List Nat)) (acc : Option (Nat × List Nat)), (L ≠ [] ∨ acc ≠ none) → L.foldl (bst σ n) acc ≠ none
  | [], acc, h => by
    rcases h with h | h
    · exact absurd rfl h
    · exact h
  | a :: t, acc, _ => by
    refine bst_some t (bst σ n acc a) (.inr (fun e => ?_))
    unfold bst at e
    cases acc with
    | none => cases e
    | some mb =>
      obtain ⟨m, b⟩ := mb
      dsimp only at e
      by_cases c : mlk σ n (gl a) < m
      · rw [if_pos c] at e; cases e
      · rw [if_neg c] at e; cases e
def AccC (n : Nat) (X : Mem) : Option (Nat × List Nat) → Prop
  | none => X.1 29 5 = nI 1000000000
  | some q => X.1 29 5 = nI q.1 ∧ q.1 < 1000000000 ∧ ∀ i, i < n → X.1 33 i = nI (gl q.2 i)
def sCh (a i : Nat) : Bool := a == 13 || (a == 27 || (a == 32 || (a == 33 || (a == 34 || (a == 35 || (a == 29 && i == 5))))))
theorem sCh_sCs : ∀ a i, sCh a i = true → sCs a i = true := fun a i h => by
  unfold sCh at h; unfold sCs
  simp only [Bool.or_eq_true, Bool.and_eq_true, beq_iff_eq, decide_eq_true_eq] at h ⊢; omega
theorem gl_rng {f : Nat → Nat} {i : Nat} (h : i < n) : gl ((List.range n).map f) i = f i := by
  unfold gl
  rw [List.getD_eq_getElem?_getD, List.getElem?_eq_getElem (by rw [List.length_map, List.length_range]; exact h), List.getElem_map, List.getElem_range]; rfl
theorem rows_s (h : n < 7) : chn n (ful n n []) = true ∧ (∀ l, l ∈ ful n n [] → prm n l = true) ∧ (ful n n []).length ≤ 720 ∧ ∃ t, ful n n [] = List.range n :: t := by
  have := rows_fin n h
  simp only [Bool.and_eq_true, decide_eq_true_eq, List.all_eq_true] at this
  obtain ⟨h1, h2, h3, h4⟩ := this
  refine ⟨h1, h2, h3, ?_⟩
  cases hL : ful n n [] with
  | nil => rw [hL] at h4; cases h4
  | cons a t =>
    rw [hL] at h4
    cases h4
    exact ⟨t, rfl⟩
theorem e_choose (B : Rbrk M.1 σ) (Bk : Rbook M.1 σ) (L : Rland M.1 σ) (R : Rline M.1 σ) (W : Wm σ) (wb : wBrk σ) (e16 : M.1 1 6 = σ 0) : ∃ Y q, f_Breaks_choose_29_1 M = some Y ∧ Fr sCh M Y ∧ (ful (nt σ 6) (nt σ 6) []).foldl (bst σ (nt σ 6)) none = some q ∧ q.1 = mlk σ (nt σ 6) (gl q.2) ∧ prm (nt σ 6) q.2 = true ∧ AccC (nt σ 6) Y (some q) := by
  obtain ⟨e6, l6⟩ := nt_inb W.1.2.2.2.2.2.2.1
  have n1 : nt σ 1 ≤ 10 := by have := (nt_inb W.1.2.1).2; omega
  obtain ⟨c1, c2, c3, t0, c4⟩ := rows_s (n := nt σ 6) (by omega)
  have hne := bst_some (σ := σ) (n := nt σ 6) (ful (nt σ 6) (nt σ 6) []) none (.inl (by rw [c4]; exact List.cons_ne_nil _ _))
  have hsp := bst_s (σ := σ) (n := nt σ 6) (fun l => prm (nt σ 6) l = true) (ful (nt σ 6) (nt σ 6) []) none c2 (fun q h => by cases h)
  obtain ⟨q, hq⟩ : ∃ q, (ful (nt σ 6) (nt σ 6) []).foldl (bst σ (nt σ 6)) none = some q := by
    cases h : (ful (nt σ 6) (nt σ 6) []).foldl (bst σ (nt σ 6)) none with
    | none => exact absurd h hne
    | some q => exact ⟨q, rfl⟩
  obtain ⟨q1, q2⟩ := hsp q hq
  obtain ⟨M1, a1, a2⟩ := e_decidedBy (M := M) (σ := σ) (m := σ 0) 2 Bk W.1 W.2.1
  have B1 : Rbrk M1.1 σ := by
    unfold Rbrk
    rw [a2.row (a := 29) (fun _ => rfl), a2.row (a := 30) (fun _ => rfl), a2.row (a := 31) (fun _ => rfl)]; exact B
  have L1 : Rland M1.1 σ := by
    unfold Rland
    rw [a2.row (a := 2) (fun _ => rfl), a2.row (a := 3) (fun _ => rfl), a2.row (a := 4) (fun _ => rfl), a2.row (a := 5) (fun _ => rfl), a2.row (a := 6) (fun _ => rfl)]; exact L
  have R1 : Rline M1.1 σ := by
    unfold Rline
    rw [a2.row (a := 24) (fun _ => rfl), a2.row (a := 25) (fun _ => rfl), a2.row (a := 26) (fun _ => rfl)]; exact R
  obtain ⟨M2, b1, b2, b3⟩ := e_cWays (M := M1) B1 L1 R1 W wb M1
  have F2 : Fr sCh M M2 := (a2.mono (fun a i h => by rw [beq_iff_eq] at h; subst h; rfl)).trans (b2.mono (fun a i h => by
    rw [Bool.or_eq_true, beq_iff_eq, beq_iff_eq] at h
    rcases h with rfl | rfl <;> rfl))
  have e29 : M2.1 29 2 = nI (nt σ 6) := by rw [F2.at_ rfl, B.1]; exact e6
  obtain ⟨M3, d1, d2, d3⟩ := itr_cnt (body := b_Breaks_choose_29_1_72) (s0 := ((0 : Int32), M2)) (fun k z => z.1 = nI k ∧ Fr s32 M2 z.2 ∧ ∀ i, i < k → z.2.1 32 i = nI i) (fun X => Fr s32 M2 X ∧ ∀ i, i < nt σ 6 → X.1 32 i = nI i) (nt σ 6) (by omega) ⟨rfl, Fr.refl _, fun i hi => by omega⟩ (by
    rintro k ⟨x, X⟩ hk ⟨rfl, hF, hr⟩
    dsimp only at hF hr
    left
    refine ⟨(nI (k + 1), wI X 32 k (nI k)), ?_, rfl, hF.wI rfl, fun i hi => ?_⟩
    · unfold b_Breaks_choose_29_1_72 jv_
      dsimp only
      rw [hF.at_ rfl, e29, dlt_t hk (by omega), ite_tt, putv_nI (by omega) (by omega), nI_one]
    · dsimp only
      by_cases c : i = k
      · rw [c]; exact rde
      · rw [rdi c]; exact hr i (by omega)) (by
    rintro ⟨x, X⟩ ⟨rfl, hF, hr⟩
    dsimp only at hF hr
    refine ⟨X, ?_, hF, hr⟩
    unfold b_Breaks_choose_29_1_72
    dsimp only
    rw [hF.at_ rfl, e29, dlt_f (Nat.le_refl _) (by omega), ite_ff])
  have g32 : ∀ a i, s32 a i = true → sCh a i = true := fun a i h => by unfold s32 at h; rw [beq_iff_eq] at h; subst h; rfl
  have F3 : Fr sCh M (wI M3 29 5 1000000000) := (F2.trans (d2.mono g32)).wI rfl
  have hw34 : ∀ f, f < 10 → (wI M3 29 5 1000000000).1 34 f = wyM σ f := fun f hf => by rw [rdk (by omega), d2.at_ rfl]; exact b3 f hf
  have F34 : Fr (fun a i => sCh a i && !(a == 34)) (wI M3 29 5 1000000000) (wI M3 29 5 1000000000) := Fr.refl _
  obtain ⟨Y, y1, y2, y3⟩ := itr_cnt (body := b_Breaks_choose_29_1_106) (s0 := (true, (0 : Int32), wI M3 29 5 1000000000)) (fun k z => z.2.1 = nI k ∧ Fr (fun a i => sCh a i && !(a == 34)) (wI M3 29 5 1000000000) z.2.2 ∧ ∃ pre suf, ful (nt σ 6) (nt σ 6) [] = pre ++ suf ∧ pre.length = k ∧ AccC (nt σ 6) z.2.2 (pre.foldl (bst σ (nt σ 6)) none) ∧ z.1 = !suf.isEmpty ∧ ∀ a s', suf = a :: s' → rw32 z.2.2 (nt σ 6) (gl a)) (fun Y => Fr (fun a i => sCh a i && !(a == 34)) (wI M3 29 5 1000000000) Y ∧ AccC (nt σ 6) Y (some q)) 720 (by omega) ⟨rfl, Fr.refl _, [], ful (nt σ 6) (nt σ 6) [], rfl, rfl, rde, by rw [c4]; rfl, fun a s' h => by
      rw [c4] at h
      cases h
      intro i hi
      rw [rdk (by omega), d3 i hi]
      have := gl_rng (n := nt σ 6) (f := id) hi
      rw [List.map_id] at this
      rw [this]; rfl⟩ (by
    rintro k ⟨fl, x, X⟩ hk ⟨hx, hF, pre, suf, p1, p2, p3, p4, p5⟩
    dsimp only at hx hF p3 p4 p5
    rw [hx]
    cases suf with
    | nil =>
      right
      rw [p4]
      rw [List.append_nil] at p1
      refine ⟨X, ?_, hF, ?_⟩
      · unfold b_Breaks_choose_29_1_106
        dsimp only
        rw [show (720 : Int32) = nI 720 from rfl, dlt_t hk (by omega), ite_tt]
        exact if_neg (by decide)
      · rw [← hq, p1]; exact p3
    | cons a s' =>
      left
      rw [p4]
      have ha : prm (nt σ 6) a = true := c2 a (by rw [p1]; exact List.mem_append.mpr (.inr List.mem_cons_self))
      obtain ⟨pl, ps, pb⟩ := prm_s ha
      have hrow := p5 a s' rfl
      have hnx := chn_at pre a s' (by rw [← p1]; exact c1)
      have fX : ∀ {a i : Nat}, sCh a i = false → X.1 a i = M.1 a i := fun {a i} h => by
        rw [hF.at_ (by rw [h]; rfl), F3.at_ h]
      have LX : Rland X.1 σ := by
        unfold Rland
        rw [show X.1 2 = M.1 2 from funext fun i => fX rfl, show X.1 3 = M.1 3 from funext fun i => fX rfl, show X.1 4 = M.1 4 from funext fun i => fX rfl, show X.1 5 = M.1 5 from funext fun i => fX rfl, show X.1 6 = M.1 6 from funext fun i => fX rfl]; exact L
      have e29X : X.1 29 2 = nI (nt σ 6) := by rw [fX rfl, B.1]; exact e6
      obtain ⟨Y1, m1, m2⟩ := e_milk (M := X) (σ := σ) (g := gl a) LX W.2.2.1 (by omega) n1 e29X (fun b hb => by rw [fX rfl, (B.2 b (by omega)).2]; exact (hrs_b wb hb).1) pb hrow (fun f hf => by rw [hF.at_ (by rw [show (34 == 34) = true from rfl, Bool.not_true, Bool.and_false])]; exact hw34 f hf)
      have hmb : mlk σ (nt σ 6) (gl a) ≤ 60000 := ml_b wb W.2.2.1 pb (by omega) 10
      have hstep : ∃ Y2, (if decide (nI (mlk σ (nt σ 6) (gl a)) < Y1.1 29 5) = true then some (wR (wI Y1 29 5 (nI (mlk σ (nt σ 6) (gl a)))) 33 (cpyv ((wI Y1 29 5 (nI (mlk σ (nt σ 6) (gl a)))).1 32) ((wI Y1 29 5 (nI (mlk σ (nt σ 6) (gl a)))).1 33) 6 6)) else some Y1) = some Y2 ∧ Fr (fun a i => a == 33 || (a == 29 && i == 5)) Y1 Y2 ∧ AccC (nt σ 6) Y2 (bst σ (nt σ 6) (pre.foldl (bst σ (nt σ 6)) none) a) := by
        have e5 : Y1.1 29 5 = X.1 29 5 := m2.at_ rfl
        have e33 : ∀ i, Y1.1 33 i = X.1 33 i := fun i => m2.at_ rfl
        have e32 : ∀ i, i < nt σ 6 → Y1.1 32 i = nI (gl a i) := fun i hi => by rw [m2.at_ rfl]; exact hrow i hi
        have hyes : Fr (fun a i => a == 33 || (a == 29 && i == 5)) Y1 (wR (wI Y1 29 5 (nI (mlk σ (nt σ 6) (gl a)))) 33 (cpyv ((wI Y1 29 5 (nI (mlk σ (nt σ 6) (gl a)))).1 32) ((wI Y1 29 5 (nI (mlk σ (nt σ 6) (gl a)))).1 33) 6 6)) ∧ AccC (nt σ 6) (wR (wI Y1 29 5 (nI (mlk σ (nt σ 6) (gl a)))) 33 (cpyv ((wI Y1 29 5 (nI (mlk σ (nt σ 6) (gl a)))).1 32) ((wI Y1 29 5 (nI (mlk σ (nt σ 6) (gl a)))).1 33) 6 6)) (some (mlk σ (nt σ 6) (gl a), a)) := by
          refine ⟨((Fr.refl _).wI rfl).wR (fun _ => rfl), ?_, show mlk σ (nt σ 6) (gl a) < 1000000000 by omega, fun i hi => ?_⟩
          · rw [rRk (by omega), rde]
          · rw [rRe]
            unfold cpyv
            rw [if_pos ⟨by omega, by omega⟩, rdk (by omega)]; exact e32 i hi
        generalize pre.foldl (bst σ (nt σ 6)) none = acc at p3
        cases acc with
        | none =>
          have p3 : X.1 29 5 = nI 1000000000 := p3
          rw [e5, p3, dlt_t (by omega) (by omega), ite_tt]
          exact ⟨_, rfl, hyes⟩
        | some mb =>
          obtain ⟨m, b⟩ := mb
          obtain ⟨v1, v2, v3⟩ := p3
          dsimp only at v1 v2 v3
          rw [e5, v1, d_lt (by omega) (by omega)]
          unfold bst
          dsimp only
          by_cases c : mlk σ (nt σ 6) (gl a) < m
          · rw [if_pos c, if_pos (decide_eq_true c)]
            exact ⟨_, rfl, hyes⟩
          · rw [if_neg c, if_neg (by rw [decide_eq_true_eq]; exact c)]
            exact ⟨_, rfl, Fr.refl _, by rw [e5]; exact v1, v2, fun i hi => by rw [e33]; exact v3 i hi⟩
      obtain ⟨Y2, s1, s2, s3⟩ := hstep
      have FY2 : Fr (fun a i => sCh a i && !(a == 34)) (wI M3 29 5 1000000000) Y2 := (hF.trans (m2.mono (fun a i h => by rw [beq_iff_eq] at h; subst h; rfl))).trans (s2.mono (fun a i h => by
        simp only [Bool.or_eq_true, Bool.and_eq_true, beq_iff_eq] at h
        rcases h with rfl | ⟨rfl, rfl⟩ <;> rfl))
      have r2 : rw32 Y2 (nt σ 6) (gl a) := fun i hi => by rw [s2.at_ rfl, m2.at_ rfl]; exact hrow i hi
      have e29Y : Y2.1 29 2 = nI (nt σ 6) := by rw [s2.at_ rfl, m2.at_ rfl]; exact e29X
      obtain ⟨Y3, t1, t2, t3⟩ := e_stepRow (M := Y2) (n := nt σ 6) (g := gl a) (by omega) e29Y (fun i hi => by have := pb i hi; omega) r2
      refine ⟨(!decide (fI (gl a) (nt σ 6 - 1) = 0), nI (k + 1), Y3), ?_, rfl, FY2.trans (t2.mono (fun a i h => by unfold s32 at h; rw [beq_iff_eq] at h; subst h; rfl)), pre ++ [a], s', by rw [p1, List.append_assoc]; rfl, by rw [List.length_append, p2]; rfl, ?_, ?_, fun b s'' hb => ?_⟩
      · unfold b_Breaks_choose_29_1_106 jn_ jv_
        dsimp only
        rw [show (720 : Int32) = nI 720 from rfl, dlt_t hk (by omega), ite_tt]
        rw [show (!(a :: s').isEmpty) = true from rfl, ite_tt, m1, Option.bind_some]
        dsimp only
        by_cases c : decide (nI (mlk σ (nt σ 6) (gl a)) < Y1.1 29 5) = true
        · rw [if_pos c] at s1 ⊢
          cases s1
          rw [t1, Option.bind_some, nI_one]
        · rw [if_neg c] at s1 ⊢
          cases s1
          rw [t1, Option.bind_some, nI_one]
      · rw [List.foldl_append]
        show AccC (nt σ 6) Y3 (bst σ (nt σ 6) (pre.foldl (bst σ (nt σ 6)) none) a)
        generalize bst σ (nt σ 6) (pre.foldl (bst σ (nt σ 6)) none) a = acc at s3
        cases acc with
        | none =>
          show Y3.1 29 5 = nI 1000000000
          rw [t2.at_ rfl]; exact s3
        | some mb => exact ⟨by rw [t2.at_ rfl]; exact s3.1, s3.2.1, fun i hi => by rw [t2.at_ rfl]; exact s3.2.2 i hi⟩
      · dsimp only
        unfold nxL at hnx
        by_cases c : fI (gl a) (nt σ 6 - 1) = 0
        · rw [if_pos c] at hnx
          cases s' with
          | nil => rw [decide_eq_true c]; rfl
          | cons b t => cases hnx
        · rw [if_neg c] at hnx
          cases s' with
          | nil => cases hnx
          | cons b t => rw [decide_eq_false c]; rfl
      · unfold nxL at hnx
        rw [hb] at hnx
        by_cases c : fI (gl a) (nt σ 6 - 1) = 0
        · rw [if_pos c] at hnx; cases hnx
        · rw [if_neg c] at hnx
          have hbe : (List.range (nt σ 6)).map (nxF (nt σ 6) (gl a)) = b := Option.some.inj hnx
          intro i hi
          dsimp only
          rw [t3 c i hi, ← hbe, gl_rng hi]) (by
    rintro ⟨fl, x, X⟩ ⟨hx, hF, pre, suf, p1, p2, p3, p4, p5⟩
    dsimp only at hx hF p3 p4 p5
    rw [hx]
    have hs : suf = [] := by
      cases suf with
      | nil => rfl
      | cons a s' =>
        rw [p1, List.length_append, p2, List.length_cons] at c3
        omega
    rw [hs, List.append_nil] at p1
    refine ⟨X, ?_, hF, by rw [← hq, p1]; exact p3⟩
    unfold b_Breaks_choose_29_1_106
    dsimp only
    rw [show (720 : Int32) = nI 720 from rfl, dlt_f (Nat.le_refl _) (by omega), ite_ff])
  refine ⟨Y, q, ?_, F3.trans (y2.mono (fun a i h => by rw [Bool.and_eq_true] at h; exact h.1)), hq, q1, q2, y3⟩
  unfold f_Breaks_choose_29_1 jv_
  rw [e16, a1, Option.bind_some]
  dsimp only
  rw [b1, Option.bind_some, d1, Option.bind_some, y1]
  rfl
end OR
end
