section
section MD
variable {M : Mem} {n : Nat}
def sMe (a i : Nat) : Bool := a == 112 || (a == 113 || (a == 114 || (a == 94 && i == 30)))
theorem sMe_sMs : ∀ a i, sMe a i = true → sMs a i = true := fun a i h => by
  unfold sMe at h; unfold sMs
  simp only [Bool.or_eq_true, Bool.and_eq_true, beq_iff_eq, decide_eq_true_eq] at h ⊢; omega
def AccM (n : Nat) (X : Mem) : Option (Nat × List Nat) → Prop
  | none => X.2 94 30 = -1
  | some q => X.2 94 30 = l64 q.1 ∧ q.1 < 1000000000 ∧ ∀ i, i < n → X.1 113 i = nI (gl q.2 i)
def MI (h : Nat → Nat) (X : Mem) (pre : List Nat) : Prop := ∀ i, i < pre.length → X.1 112 i = nI (gl pre i) ∧ X.1 114 (gl pre i) = nI (tmI (gl pre) h (i + 1))
theorem MI_res {h : Nat → Nat} {X : Mem} {pre : List Nat} {b : Nat} (H : MI h X (pre ++ [b])) : MI h X pre := fun i hi => by
  have := H i (by rw [List.length_append]; omega)
  rw [gl_l hi] at this
  refine ⟨this.1, this.2.trans ?_⟩
  congr 1
  exact tmI_cg (i + 1) (fun j hj => gl_l (by omega))
theorem e_best6 {X : Mem} {pre : List Nat} (hn : n ≤ 6) (hl : pre.length = n) (hm : ∀ i, i < n → X.1 112 i = nI (gl pre i)) : ∃ Y, itr (b_Mo_mends_94_142 (nI n)) FU (0, X) = some Y ∧ Fr (fun a _ => a == 113) X Y ∧ ∀ i, i < n → Y.1 113 i = nI (gl pre i) := by
  obtain ⟨e, h1, h2⟩ := itr_cnt (body := b_Mo_mends_94_142 (nI n)) (s0 := ((0 : Int32), X)) (fun k z => z.1 = nI k ∧ Fr (fun a _ => a == 113) X z.2 ∧ ∀ i, i < k → z.2.1 113 i = nI (gl pre i)) (fun Y => Fr (fun a _ => a == 113) X Y ∧ ∀ i, i < n → Y.1 113 i = nI (gl pre i)) n (by omega) ⟨rfl, Fr.refl _, fun i hi => by omega⟩ (by
    rintro k ⟨x, Z⟩ hk ⟨rfl, hF, hr⟩
    dsimp only at hF hr
    left
    refine ⟨(nI (k + 1), wI Z 113 k (nI (gl pre k))), ?_, rfl, hF.wI rfl, fun i hi => ?_⟩
    · unfold b_Mo_mends_94_142 jv_
      dsimp only
      rw [dlt_t hk (by omega), ite_tt, inb_t (by omega) (by omega), ite_tt, ite_tt, nI_cl (by omega), hF.at_ rfl, hm k hk, nI_one]
    · dsimp only
      by_cases c : i = k
      · rw [c]; exact rde
      · rw [rdi c]; exact hr i (by omega)) (by
    rintro ⟨x, Z⟩ ⟨rfl, hF, hr⟩
    dsimp only at hF hr
    refine ⟨Z, ?_, hF, hr⟩
    unfold b_Mo_mends_94_142
    dsimp only
    rw [dlt_f (Nat.le_refl _) (by omega), ite_ff])
  rw [h1]
  exact ⟨e, rfl, h2⟩
theorem e_dark {X : Mem} {σ : Nat → Int32} {pre : List Nat} {f : Nat} (hf : f < 10) (hn : n ≤ 6) (hp : prm n pre = true) (hw : X.1 115 f = wyM σ f) (hM : MI (hrs σ) X pre) (hb : ∀ i, i ≤ n → tmI (gl pre) (hrs σ) i ≤ 120) (x : Int64) : itr (b_Mo_mends_94_34 (nI n) X (x, nI f)) FU (0, 0) = some (nI (dkI (wyB σ f) (gl pre) (hrs σ) n)) := by
  obtain ⟨p1, p2, p3⟩ := prm_s hp
  have hdn : ∀ k, k < n → ∃ v, v ≤ 120 ∧ X.1 114 k = nI v := fun k hk => by
    obtain ⟨i, i1, i2⟩ := p2 k hk
    have := (hM i (by omega)).2
    rw [i2] at this
    exact ⟨_, hb (i + 1) (by omega), this⟩
  have hdc : ∀ k, k < n → X.1 114 k = nI (nt (X.1 114) k) ∧ nt (X.1 114) k ≤ 120 := fun k hk => by
    obtain ⟨v, v1, v2⟩ := hdn k hk
    unfold nt
    rw [v2, nI_cl (by omega)]
    exact ⟨rfl, v1⟩
  have hmx : mxF (wyB σ f) (nt (X.1 114)) n = dkI (wyB σ f) (gl pre) (hrs σ) n := mx_dk p2 p3 (fun i hi => by
    have h1 := (hM i (by omega)).2
    have h2 := (hdc _ (p3 i hi)).1
    rw [h1] at h2
    have h3 := hb (i + 1) (by omega)
    have h4 := (hdc _ (p3 i hi)).2
    exact ((nI_inj (by omega) (by omega)).mp h2).symm)
  have hmb : ∀ k, k ≤ n → mxF (wyB σ f) (nt (X.1 114)) k ≤ 120 := fun k hk => by
    rcases mxF_at (way := wyB σ f) (dn := nt (X.1 114)) k with e | ⟨j, j1, j2, j3⟩
    · omega
    · rw [j3]; exact (hdc j (by omega)).2
  obtain ⟨e, h1, h2⟩ := itr_cnt (body := b_Mo_mends_94_34 (nI n) X (x, nI f)) (s0 := ((0 : Int32), (0 : Int32))) (fun k z => z = (nI (mxF (wyB σ f) (nt (X.1 114)) k), nI k)) (fun e => e = nI (mxF (wyB σ f) (nt (X.1 114)) n)) n (by omega) rfl (by
    rintro k z hk rfl
    left
    refine ⟨_, ?_, rfl⟩
    obtain ⟨d1, d2⟩ := hdc k hk
    have d3 := hmb k (by omega)
    unfold b_Mo_mends_94_34
    dsimp only
    rw [dlt_t hk (by omega), ite_tt, inb_t hf (by omega), ite_tt, nI_cl (by omega), hw, shr_1 _ (by omega), inb_t (by omega) (by omega), ite_tt, ite_tt, nI_cl (by omega), d1, d_le (by omega) (by omega), nI_one]
    rw [show bt (wyM σ f) k = wyB σ f k from b_msk_lo _ (by omega), show mxF (wyB σ f) (nt (X.1 114)) (k + 1) = (if wyB σ f k = true then (if nt (X.1 114) k ≤ mxF (wyB σ f) (nt (X.1 114)) k then mxF (wyB σ f) (nt (X.1 114)) k else nt (X.1 114) k) else mxF (wyB σ f) (nt (X.1 114)) k) from rfl]
    by_cases c : wyB σ f k = true
    · rw [if_pos c, if_pos c]
      by_cases c2 : nt (X.1 114) k ≤ mxF (wyB σ f) (nt (X.1 114)) k
      · rw [if_pos c2, if_pos (decide_eq_true c2)]
      · rw [if_neg c2, if_neg (by rw [decide_eq_true_eq]; exact c2)]
    · rw [if_neg c, if_neg c]) (by
    rintro z rfl
    refine ⟨_, ?_, rfl⟩
    unfold b_Mo_mends_94_34
    dsimp only
    rw [dlt_f (Nat.le_refl _) (by omega), ite_ff])
  rw [h1, h2, hmx]
theorem b142 : b_Mo_mends_94_142_1 = b_Mo_mends_94_142 := rfl
/-- a whole row -/
theorem e_leaf {X : Mem} {pre : List Nat} {acc : Option (Nat × List Nat)} (W : Wm (M.1 95)) (wb : wBrk (M.1 95)) (hF : Fr sMe M X) (hp : prm (nt (M.1 95) 6) pre = true) (hw : ∀ f, f < nt (M.1 95) 1 → M.1 115 f = wyM (M.1 95) f) (hM : MI (hrs (M.1 95)) X pre) (hA : AccM (nt (M.1 95) 6) X acc) (rec : Int32 → Int32 → Int32 → Mem → Option (Mem)) (a2 a3 : Int32) : ∃ Y, F_Mo_mends_94 rec (nI pre.length) a2 a3 X = some Y ∧ Fr sMe M Y ∧ MI (hrs (M.1 95)) Y pre ∧ AccM (nt (M.1 95) 6) Y (bst (M.1 95) (nt (M.1 95) 6) acc pre) := by
  obtain ⟨e6, l6⟩ := nt_inb W.1.2.2.2.2.2.2.1
  obtain ⟨e1, l1⟩ := nt_inb W.1.2.1
  obtain ⟨p1, p2, p3⟩ := prm_s hp
  have e95 : X.1 95 = M.1 95 := hF.row (fun _ => rfl)
  have hb : ∀ i, i ≤ nt (M.1 95) 6 → tmI (gl pre) (hrs (M.1 95)) i ≤ 120 := fun i hi => tm_b wb p3 (by omega) hi
  have hmb : mlk (M.1 95) (nt (M.1 95) 6) (gl pre) ≤ 60000 := ml_b wb W.2.2.1 p3 (by omega) 10
  obtain ⟨s, s1, s2⟩ := itr_cnt (body := b_Mo_mends_94_17 (nI (nt (M.1 95) 6)) X) (s0 := ((0 : Int64), (0 : Int32))) (fun k z => z = (l64 (mlS (M.1 95) (nt (M.1 95) 6) (gl pre) k), nI k)) (fun e => e = l64 (mlk (M.1 95) (nt (M.1 95) 6) (gl pre))) (nt (M.1 95) 1) (by omega) rfl (by
    rintro k z hk rfl
    left
    refine ⟨_, ?_, rfl⟩
    have hd := e_dark (X := X) (σ := M.1 95) (pre := pre) (f := k) (n := nt (M.1 95) 6) (by omega) (by omega) hp (by rw [hF.at_ rfl]; exact hw k hk) hM hb (l64 (mlS (M.1 95) (nt (M.1 95) 6) (gl pre) k))
    have el : M.1 95 (174 + k) = nI (ld (M.1 95) k) := (nI_of_inb (W.2.2.1.2.1 k hk).2.1).1
    have hdl := dkI_le (way := wyB (M.1 95) k) (g := gl pre) (h := hrs (M.1 95)) (nt (M.1 95) 6)
    have hdb := hb _ (Nat.le_refl _)
    have hll : ld (M.1 95) k ≤ 50 := by have := (nI_of_inb (W.2.2.1.2.1 k hk).2.1).2; unfold ld nt; omega
    have hpb : dkI (wyB (M.1 95) k) (gl pre) (hrs (M.1 95)) (nt (M.1 95) 6) * ld (M.1 95) k ≤ 120 * 50 := Nat.mul_le_mul (by omega) hll
    unfold b_Mo_mends_94_17 jv_
    dsimp only
    rw [e95, e1, dlt_t hk (by omega), ite_tt, hd, Option.bind_some, show (174 : Int32) = nI 174 from rfl, nI_addn, inb_t (by omega) (by omega), ite_tt, nI_cl (by omega), el, nI_muln, l64_nI (by omega), l64_add, nI_one]
    rfl) (by
    rintro z rfl
    refine ⟨l64 (mlS (M.1 95) (nt (M.1 95) 6) (gl pre) (nt (M.1 95) 1)), ?_, by rw [mlk_nF (by omega)]⟩
    unfold b_Mo_mends_94_17
    dsimp only
    rw [e95, e1, dlt_f (Nat.le_refl _) (by omega), ite_ff])
  have hyes : ∃ Y, itr (b_Mo_mends_94_142 (nI (nt (M.1 95) 6))) FU (0, wL X 94 30 (l64 (mlk (M.1 95) (nt (M.1 95) 6) (gl pre)))) = some Y ∧ Fr sMe M Y ∧ MI (hrs (M.1 95)) Y pre ∧ AccM (nt (M.1 95) 6) Y (some (mlk (M.1 95) (nt (M.1 95) 6) (gl pre), pre)) := by
    obtain ⟨Y, y1, y2, y3⟩ := e_best6 (X := wL X 94 30 (l64 (mlk (M.1 95) (nt (M.1 95) 6) (gl pre)))) (n := nt (M.1 95) 6) (pre := pre) (by omega) p1 (fun i hi => (hM i (by omega)).1)
    refine ⟨Y, y1, (hF.wL rfl).trans (y2.mono (fun a i h => by rw [beq_iff_eq] at h; subst h; rfl)), fun i hi => ?_, ?_, show mlk (M.1 95) (nt (M.1 95) 6) (gl pre) < 1000000000 by omega, y3⟩
    · rw [y2.at_ rfl, y2.at_ rfl]; exact hM i hi
    · rw [y2.atL rfl, rd_L, if_pos rfl, if_pos rfl]
  have hbeg : F_Mo_mends_94 rec (nI pre.length) a2 a3 X = if decide (lg_cmp (X.2 94 30) 0 < 0) = true then itr (b_Mo_mends_94_142 (nI (nt (M.1 95) 6))) FU (0, wL X 94 30 (l64 (mlk (M.1 95) (nt (M.1 95) 6) (gl pre)))) else (if decide (lg_cmp (l64 (mlk (M.1 95) (nt (M.1 95) 6) (gl pre))) (X.2 94 30) < 0) = true then itr (b_Mo_mends_94_142 (nI (nt (M.1 95) 6))) FU (0, wL X 94 30 (l64 (mlk (M.1 95) (nt (M.1 95) 6) (gl pre)))) else some X) := by
    unfold F_Mo_mends_94 jv_
    rw [e95, e6, p1, decide_eq_true (show nI (nt (M.1 95) 6) = nI (nt (M.1 95) 6) from rfl), ite_tt, s1, s2, Option.bind_some, b142]
    have hbs : ∀ o : Option Mem, (o.bind fun q => some q) = o := fun o => by cases o <;> rfl
    dsimp only
    rw [hbs]
  rw [hbeg]
  cases acc with
  | none =>
    have hA : X.2 94 30 = -1 := hA
    rw [hA, if_pos (by decide)]
    exact hyes
  | some mb =>
    obtain ⟨m, b⟩ := mb
    obtain ⟨v1, v2, v3⟩ := hA
    dsimp only at v1 v2 v3
    rw [v1, show (0 : Int64) = l64 0 from rfl, dlt64, l64_lt (by omega) (by omega), decide_eq_false (show ¬ m < 0 by omega), ite_ff, dlt64, l64_lt (by omega) (by omega)]
    unfold bst
    dsimp only
    by_cases c : mlk (M.1 95) (nt (M.1 95) 6) (gl pre) < m
    · rw [if_pos c, if_pos (decide_eq_true c)]
      exact hyes
    · rw [if_neg c, if_neg (by rw [decide_eq_true_eq]; exact c)]
      exact ⟨X, rfl, hF, hM, v1, v2, v3⟩
theorem e_mends (W : Wm (M.1 95)) (wb : wBrk (M.1 95)) (hw : ∀ f, f < nt (M.1 95) 1 → M.1 115 f = wyM (M.1 95) f) : ∀ (r d : Nat) (pre : List Nat) (acc : Option (Nat × List Nat)) (X : Mem), pre.length + r = nt (M.1 95) 6 → r < d → Fr sMe M X → MI (hrs (M.1 95)) X pre → AccM (nt (M.1 95) 6) X acc → (∀ i, i < pre.length → gl pre i < nt (M.1 95) 6) → (∀ l, l ∈ ful (nt (M.1 95) 6) r pre → prm (nt (M.1 95) 6) l = true) → ∃ Y, f_mends d (nI pre.length) (msk (fun b => pre.contains b) 10) (nI (tmI (gl pre) (hrs (M.1 95)) pre.length)) X = some Y ∧ Fr sMe M Y ∧ MI (hrs (M.1 95)) Y pre ∧ AccM (nt (M.1 95) 6) Y ((ful (nt (M.1 95) 6) r pre).foldl (bst (M.1 95) (nt (M.1 95) 6)) acc) := by
  obtain ⟨e6, l6⟩ := nt_inb W.1.2.2.2.2.2.2.1
  intro r
  induction r with
  | zero =>
    intro d pre acc X hl hd hF hM hA hg hp
    obtain ⟨d', rfl⟩ : ∃ d', d = d' + 1 := ⟨d - 1, by omega⟩
    have := hp pre (by unfold ful; exact List.mem_singleton.mpr rfl)
    exact e_leaf W wb hF this hw hM hA (f_mends d') _ _
  | succ r ih =>
    intro d pre acc X hl hd hF hM hA hg hp
    obtain ⟨d', rfl⟩ : ∃ d', d = d' + 1 := ⟨d - 1, by omega⟩
    have hful : ful (nt (M.1 95) 6) (r + 1) pre = (List.range (nt (M.1 95) 6)).flatMap (fun b => if pre.contains b then [] else ful (nt (M.1 95) 6) r (pre ++ [b])) := rfl
    have e95 : X.1 95 = M.1 95 := hF.row (fun _ => rfl)
    obtain ⟨Y, h1, h2, h3, h4⟩ := itr_cnt (body := b_Mo_mends_94_172 (f_mends d') (nI pre.length) (msk (fun b => pre.contains b) 10) (nI (tmI (gl pre) (hrs (M.1 95)) pre.length))) (s0 := ((0 : Int32), X)) (fun b z => z.1 = nI b ∧ Fr sMe M z.2 ∧ MI (hrs (M.1 95)) z.2 pre ∧ AccM (nt (M.1 95) 6) z.2 (((List.range b).flatMap (fun b => if pre.contains b then [] else ful (nt (M.1 95) 6) r (pre ++ [b]))).foldl (bst (M.1 95) (nt (M.1 95) 6)) acc)) (fun Y => Fr sMe M Y ∧ MI (hrs (M.1 95)) Y pre ∧ AccM (nt (M.1 95) 6) Y ((ful (nt (M.1 95) 6) (r + 1) pre).foldl (bst (M.1 95) (nt (M.1 95) 6)) acc)) (nt (M.1 95) 6) (by omega) ⟨rfl, hF, hM, hA⟩ (by
      rintro b ⟨x, Z⟩ hb ⟨rfl, hG, hN, hB⟩
      dsimp only at hG hN hB
      left
      have eZ : Z.1 95 = M.1 95 := hG.row (fun _ => rfl)
      rw [show List.range (b + 1) = List.range b ++ [b] from List.range_succ, List.flatMap_append, List.foldl_append]
      rw [show ([b] : List Nat).flatMap (fun b => if pre.contains b then [] else ful (nt (M.1 95) 6) r (pre ++ [b])) = (if pre.contains b then [] else ful (nt (M.1 95) 6) r (pre ++ [b])) from List.append_nil _]
      cases c : pre.contains b
      · rw [if_neg (by decide)]
        obtain ⟨hrb1, hrb2⟩ := hrs_b wb hb
        have hlen : (pre ++ [b]).length = pre.length + 1 := List.length_append
        have t1 : tmI (gl (pre ++ [b])) (hrs (M.1 95)) (pre.length + 1) = tmI (gl pre) (hrs (M.1 95)) pre.length + hrs (M.1 95) b := by
          show tmI (gl (pre ++ [b])) (hrs (M.1 95)) pre.length + hrs (M.1 95) (gl (pre ++ [b]) pre.length) = _
          rw [gl_r, tmI_cg pre.length (fun i hi => gl_l hi)]
        have hM38 : MI (hrs (M.1 95)) (wI (wI Z 112 pre.length (nI b)) 114 b (nI (tmI (gl pre) (hrs (M.1 95)) pre.length + hrs (M.1 95) b))) (pre ++ [b]) := fun i hi => by
          rw [hlen] at hi
          by_cases q : i = pre.length
          · rw [q, gl_r]
            exact ⟨by rw [rdk (by omega), rde], by rw [rde, t1]⟩
          · have hil : i < pre.length := by omega
            rw [gl_l hil]
            have hne := gl_mem hil c
            obtain ⟨w1, w2⟩ := hN i hil
            refine ⟨by rw [rdk (by omega), rdi q]; exact w1, ?_⟩
            rw [rdi hne, rdk (by omega), w2]
            congr 1
            exact tmI_cg (i + 1) (fun j hj => (gl_l (by omega)).symm)
        have hA38 : AccM (nt (M.1 95) 6) (wI (wI Z 112 pre.length (nI b)) 114 b (nI (tmI (gl pre) (hrs (M.1 95)) pre.length + hrs (M.1 95) b))) (((List.range b).flatMap (fun b => if pre.contains b then [] else ful (nt (M.1 95) 6) r (pre ++ [b]))).foldl (bst (M.1 95) (nt (M.1 95) 6)) acc) := by
          generalize ((List.range b).flatMap (fun b => if pre.contains b then [] else ful (nt (M.1 95) 6) r (pre ++ [b]))).foldl (bst (M.1 95) (nt (M.1 95) 6)) acc = a at hB
          cases a with
          | none => exact hB
          | some q => exact ⟨hB.1, hB.2.1, fun i hi => by rw [rdk (by omega), rdk (by omega)]; exact hB.2.2 i hi⟩
        obtain ⟨Y, y1, y2, y3, y4⟩ := ih d' (pre ++ [b]) _ _ (by rw [hlen]; omega) (by omega) ((hG.wI rfl).wI rfl) hM38 hA38 (fun i hi => by
          rw [hlen] at hi
          by_cases q : i = pre.length
          · rw [q, gl_r]; exact hb
          · rw [gl_l (by omega)]; exact hg i (by omega)) (fun l hl => hp l (by
          rw [hful]
          exact List.mem_flatMap.mpr ⟨b, List.mem_range.mpr hb, by rw [c, if_neg (by decide)]; exact hl⟩))
        rw [hlen, t1] at y1
        refine ⟨(nI (b + 1), Y), ?_, rfl, y2, MI_res y3, y4⟩
        have hmk : msk (fun b => pre.contains b) 10 ||| ((1 : Int32) <<< (nI b &&& 31)) = msk (fun q => (pre ++ [b]).contains q) 10 := by
          rw [← msk_one (show b < 10 by omega), msk_or]
          apply msk_congr
          intro q _
          rw [List.contains_append]
          congr 1
          show decide (q = b) = (q == b || false)
          rw [Bool.or_false]
          rw [Bool.eq_iff_iff, decide_eq_true_eq, beq_iff_eq]
        unfold b_Mo_mends_94_172 jv_
        dsimp only
        rw [eZ, e6, dlt_t hb (by omega), ite_tt, shr_0 _ (by omega), b_msk_lo _ (by omega), c, Bool.not_false, ite_tt, inb_t (by omega) (by omega), ite_tt, nI_cl (by omega), show (2270 : Int32) = nI 2270 from rfl, nI_addn, inb_t (by omega) (by omega), ite_tt, inb_t (by omega) (by omega), ite_tt, ite_tt, nI_cl (by omega), nI_cl (by omega)]
        simp (disch := omega) only [rdk]
        rw [eZ, hrb1, nI_addn, hmk, nI_one, y1, Option.bind_some, nI_one]
      · rw [if_pos rfl]
        refine ⟨(nI (b + 1), Z), ?_, rfl, hG, hN, hB⟩
        unfold b_Mo_mends_94_172
        dsimp only
        rw [eZ, e6, dlt_t hb (by omega), ite_tt, shr_0 _ (by omega), b_msk_lo _ (by omega), c, Bool.not_true, ite_ff, nI_one]) (by
      rintro ⟨x, Z⟩ ⟨rfl, hG, hN, hB⟩
      dsimp only at hG hN hB
      have eZ : Z.1 95 = M.1 95 := hG.row (fun _ => rfl)
      refine ⟨Z, ?_, hG, hN, by rw [hful]; exact hB⟩
      unfold b_Mo_mends_94_172
      dsimp only
      rw [eZ, e6, dlt_f (Nat.le_refl _) (by omega), ite_ff])
    refine ⟨Y, ?_, h2, h3, h4⟩
    show F_Mo_mends_94 (f_mends d') _ _ _ X = _
    unfold F_Mo_mends_94
    rw [e95, e6, d_eq (by omega) (by omega), decide_eq_false (show ¬ pre.length = nt (M.1 95) 6 by omega), ite_ff, h1]
    rfl
theorem op_order : Op_order Rel := by
  intro n M v0 hn H
  have W := Rel_W hn H
  obtain ⟨gB, gL, gI, gR, gP, gT', gK, gO, gN⟩ := RS1_gs H.1
  obtain ⟨e6, l6⟩ := nt_inb W.1.2.2.2.2.2.2.1
  have e29 : M.1 29 2 = M.1 95 6 := gK.1.1
  by_cases c0 : wthn v0 (-1) (M.1 95 6 - 1) = true
  rotate_left
  · refine ⟨-1, M, M, ?_, ?_, Rel_mono H (by omega)⟩
    · unfold f_CF_order_0; rw [e29, if_neg c0]
    · unfold f_Mo_order_94; rw [e_Mo_in, Option.bind_some, if_neg c0]
  have e16 : M.1 1 6 = M.1 95 0 := H.1.2.2.2.2.1
  obtain ⟨M1, q, a1, a2, a3, a4, a5, a6⟩ := e_choose (M := M) (σ := M.1 95) gK.1 gB.1 gL.1 gI W gK.2 e16
  have H1 := RelC H (a2.mono sCh_sCs)
  have e1 : M1.1 95 = M.1 95 := a2.row (fun _ => rfl)
  obtain ⟨c1, c2, c3, t0, c4⟩ := rows_s (n := nt (M.1 95) 6) (by omega)
  obtain ⟨p1, p2, p3⟩ := prm_s a5
  obtain ⟨M2, b1, b2, b3⟩ := e_mWays (M := M1) (τ := M.1 26) (by rw [e1]; exact gI.2.2.2.2) (by rw [e1]; exact W) (by rw [e1]; exact gK.2)
  have e2 : M2.1 95 = M.1 95 := (b2.row (fun _ => rfl)).trans e1
  rw [e1] at b3
  have eZ : (wL M2 94 30 (-1)).1 95 = M.1 95 := e2
  have hm := e_mends (M := wL M2 94 30 (-1)) (by rw [eZ]; exact W) (by rw [eZ]; exact gK.2) (by rw [eZ]; exact b3) (nt (M.1 95) 6) 10 [] none (wL M2 94 30 (-1)) (by rw [eZ]; exact Nat.zero_add _) (by omega) (Fr.refl _) (fun i hi => absurd hi (Nat.not_lt_zero _)) (show (wL M2 94 30 (-1)).2 94 30 = -1 by rw [rd_L, if_pos rfl, if_pos rfl]) (fun i hi => absurd hi (Nat.not_lt_zero _)) (by rw [eZ]; exact c2)
  obtain ⟨M3, d1, d2, d3, d4⟩ := hm
  rw [eZ, a3] at d4
  obtain ⟨k1, k2, k3⟩ := a6
  obtain ⟨j1, j2, j3⟩ := d4
  have e3 : M3.1 95 = M.1 95 := (d2.row (fun _ => rfl)).trans eZ
  have d1' : f_mends 10 0 0 0 (wL M2 94 30 (-1)) = some M3 := d1
  have H3 : Rel n M3 := RelMs H1 (((b2.mono (fun a i h => by rw [beq_iff_eq] at h; subst h; rfl)).trans (((Fr.refl M2).wL (k := 94) (i := 30) (v := -1) (S := sMs) rfl))).trans (d2.mono sMe_sMs))
  have hC : f_CF_order_0 v0 M = if decide (v0 < 0) then (some (M1.1 29 5, M1)) else (some (atv (M1.1 30) 6 (atv (M1.1 33) 6 v0), M1)) := by
    unfold f_CF_order_0; rw [e29, if_pos c0, a1, Option.bind_some]
  have hMo : f_Mo_order_94 v0 M1 = if decide (v0 = (-1)) then (some ((M3.2 94 30).toInt32, M3)) else (if inb v0 6 then if inb (2260 + (M3.1 113 v0.toNatClampNeg)) 4700 then some (M3.1 95 (2260 + (M3.1 113 v0.toNatClampNeg)).toNatClampNeg, M3) else none else none) := by
    unfold f_Mo_order_94 jv_
    rw [e_Mo_in, Option.bind_some, e1, if_pos c0, b1, Option.bind_some]
    dsimp only
    rw [d1', Option.bind_some]
  have hrange : v0 = -1 ∨ ∃ i, i < nt (M.1 95) 6 ∧ v0 = nI i := by
    have h1 := wthn_iff.mp c0
    rw [show (-1 : Int32).toInt = -1 from rfl, e6] at h1
    by_cases g : v0.toInt = -1
    · exact .inl (Int32.toInt_inj.mp g)
    · right
      have h3 : (nI (nt (M.1 95) 6) - 1).toInt = (nt (M.1 95) 6 : Int) - 1 := by
        rw [Int32.toInt_sub, nI_toI (by omega), show (1 : Int32).toInt = 1 from rfl]
        exact b_eq _ (by omega) (by omega)
      have h4 : inb v0 (nt (M.1 95) 6) = true := inb_iff.mpr ⟨by omega, by omega⟩
      exact ⟨_, (nI_of_inb h4).2, (nI_of_inb h4).1⟩
  rcases hrange with rfl | ⟨i, i1, rfl⟩
  · refine ⟨nI q.1, M1, M3, ?_, ?_, Rel_mono H3 (by omega)⟩
    · rw [hC, if_pos (by decide), k1]
    · rw [hMo, if_pos (by decide), j1, l64_32]
  · have hgi := p3 i i1
    refine ⟨M.1 95 (2260 + gl q.2 i), M1, M3, ?_, ?_, Rel_mono H3 (by omega)⟩
    · rw [hC, nI_nneg (by omega), ite_ff, atv_nI (f := M1.1 33) (by omega) (by omega), k3 i i1, atv_nI (by omega) (by omega), a2.at_ rfl, (gK.1.2 _ (by omega)).1]
    · rw [hMo, nI_eqm1 (by omega), ite_ff, inb_t (by omega) (by omega), ite_tt, nI_cl (by omega), j3 i i1, show (2260 : Int32) = nI 2260 from rfl, nI_addn, inb_t (by omega) (by omega), ite_tt, nI_cl (by omega), e3]
end MD
end
