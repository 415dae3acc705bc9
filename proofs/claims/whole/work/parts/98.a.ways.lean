section
section WA
variable {M : Mem} {σ : Nat → Int32}
def bc (σ : Nat → Int32) (k : Nat) : Nat := nt σ (2260 + k)
/-- served, on the line, and the break is on its way -/
def drw (σ : Nat → Int32) (f : Nat) : Bool := decide (f < nt σ 1) && (decide (wh σ (σ 0) (nt σ 2) f = 2) && onL σ (cel σ f))
def wyB (σ : Nat → Int32) (f k : Nat) : Bool := decide (k < nt σ 6) && (drw σ f && lnm (anc σ (cel σ f)) (mil σ (cel σ f)) (bc σ k))
theorem bc_s (wb : wBrk σ) {k : Nat} (hk : k < nt σ 6) : σ (2260 + k) = nI (bc σ k) ∧ bc σ k < 48 ∧ σ (116 + bc σ k) ≠ -1 := by
  obtain ⟨h1, -, -, h2⟩ := wb.1 k hk
  exact ⟨(nI_of_inb h1).1, (nI_of_inb h1).2, h2⟩
theorem e_upward (R : Rline M.1 σ) (h9 : inb (σ 9) 48 = true) (h5 : inb (σ 5) 48 = true) {c : Nat} (hc : c < 48) : ∃ x M', f_Line_upward_24 (nI c) M = some (x, M') ∧ Fr s27 M M' ∧ (onL σ c = true → ∀ i, i < 48 → btL x i = lnm (anc σ c) (mil σ c + 1) i) ∧ (onL σ c = false → ∀ i, i < 48 → btL x i = decide (i = c)) := by
  obtain ⟨M1, a1, a2, a3, a4⟩ := e_climb R h9 h5 hc
  have hml := (nt_inb h5).2
  have hm := mil_lt R.2.2.2.2 h9 h5 hc
  have hb : ∀ j, j ≤ mil σ c → M1.1 27 j = nI (anc σ c j) ∧ anc σ c j < 48 := fun j hj => by
    cases h : onL σ c
    · rw [mil_off h] at hj
      obtain rfl : j = 0 := by omega
      exact ⟨a3, hc⟩
    · obtain ⟨⟨p1, p2, p3⟩, -⟩ := path_mil' R.2.2.2.2 h9 h5 hc h
      refine ⟨a4 h j hj, ?_⟩
      by_cases g : j = mil σ c
      · rw [g]; exact p3
      · exact (p1 j (by omega)).2.2
  obtain ⟨x, h1, h2⟩ := itr_cnt (body := b_Line_upward_24_12 (nI (mil σ c), M1)) (s0 := ((0 : Int64), (0 : Int32))) (fun k z => z.2 = nI k ∧ ∀ i, i < 48 → btL z.1 i = lnm (anc σ c) k i) (fun x => ∀ i, i < 48 → btL x i = lnm (anc σ c) (mil σ c + 1) i) (mil σ c + 1) (by omega) ⟨rfl, fun i _ => bL_0 i⟩ (by
    rintro k ⟨x, y⟩ hk ⟨rfl, hx⟩
    dsimp only at hx
    left
    obtain ⟨b1, b2⟩ := hb k (by omega)
    refine ⟨(x ||| ((1 : Int64) <<< ((nI (anc σ c k)).toInt64 &&& 63)), nI k + 1), ?_, nI_one k, fun i hi => ?_⟩
    · unfold b_Line_upward_24_12
      dsimp only
      rw [dle_t (by omega) (by omega), ite_tt, atv_nI (by omega) (by omega), b1]
    · dsimp only
      rw [bL_or, hx i hi, bL_one _ (by omega) (by omega)]
      unfold lnm
      have : decide (i = anc σ c k) = decide (anc σ c k = i) := decide_eq_decide.mpr ⟨fun h => h.symm, fun h => h.symm⟩
      rw [this]
      cases k <;> rfl) (by
    rintro ⟨x, y⟩ ⟨rfl, hx⟩
    dsimp only at hx
    refine ⟨x, ?_, hx⟩
    unfold b_Line_upward_24_12
    dsimp only
    rw [dle_f (by omega) (by omega), ite_ff])
  refine ⟨x, M1, ?_, a2, fun _ => h2, fun h i hi => ?_⟩
  · unfold f_Line_upward_24
    rw [a1, Option.bind_some, h1]; rfl
  · rw [h2 i hi, mil_off h]
    show (false || decide (anc σ c 0 = i)) = decide (i = c)
    rw [Bool.false_or]
    exact decide_eq_decide.mpr ⟨fun h => h.symm, fun h => h.symm⟩
theorem e_upward0 {v : Int32} (h : wthn v 0 47 = false) : ∃ x M', f_Line_upward_24 v M = some (x, M') ∧ Fr s27 M M' := by
  have hcl : f_Line_climb_24 v M = some (0, putv M 27 48 0 v) := by
    unfold f_Line_climb_24 jv_
    dsimp only
    have : f_Line_ahead_24 v (putv M 27 48 0 v) = some (-1) := by unfold f_Line_ahead_24; rw [h, ite_ff]
    rw [this, Option.bind_some, show FU = 999999999 + 1 from rfl, itr_r (e := ((0 : Int32), putv M 27 48 0 v)) rfl]; rfl
  obtain ⟨x, h1, -⟩ := itr_cnt (body := b_Line_upward_24_12 (0, putv M 27 48 0 v)) (s0 := ((0 : Int64), (0 : Int32))) (fun k z => z.2 = nI k) (fun _ => True) 1 (by omega) rfl (by
    rintro k ⟨x, y⟩ hk hy
    dsimp only at hy
    rw [hy, show k = 0 by omega]
    left
    refine ⟨(x ||| ((1 : Int64) <<< ((atv ((putv M 27 48 0 v).1 27) 48 (nI 0)).toInt64 &&& 63)), nI 0 + 1), ?_, rfl⟩
    unfold b_Line_upward_24_12
    dsimp only
    rw [if_pos (show decide (nI 0 ≤ (0 : Int32)) = true from rfl)]) (by
    rintro ⟨x, y⟩ hy
    dsimp only at hy
    rw [hy]
    refine ⟨x, ?_, trivial⟩
    unfold b_Line_upward_24_12
    dsimp only
    rw [if_neg (show ¬ decide (nI 1 ≤ (0 : Int32)) = true by decide)])
  refine ⟨x, putv M 27 48 0 v, ?_, (Fr.refl M).putv (fun _ => rfl)⟩
  unfold f_Line_upward_24
  rw [hcl, Option.bind_some, h1]; rfl
theorem e_breaksOn (B : Rbrk M.1 σ) (n6 : inb (σ 6) 7 = true) (wb : wBrk σ) (x : Int64) : f_Breaks_breaksOn_29 x M = some (msk (fun k => decide (k < nt σ 6) && btL x (bc σ k)) 10) := by
  obtain ⟨e6, l6⟩ := nt_inb n6
  obtain ⟨y, h1, h2⟩ := itr_cnt (body := b_Breaks_breaksOn_29_5 x M) (s0 := ((0 : Int32), (0 : Int32))) (fun k z => z = (msk (fun k => decide (k < nt σ 6) && btL x (bc σ k)) k, nI k)) (fun y => y = msk (fun k => decide (k < nt σ 6) && btL x (bc σ k)) (nt σ 6)) (nt σ 6) (by omega) rfl (by
    rintro k z hk rfl
    left
    refine ⟨_, ?_, rfl⟩
    obtain ⟨b1, b2, -⟩ := bc_s wb hk
    unfold b_Breaks_breaksOn_29_5
    dsimp only
    rw [B.1, e6, dlt_t hk (by omega), ite_tt, atv_nI (by omega) (by omega), (B.2 k (by omega)).1, b1, bL_bit x (by omega), msk_s, decide_eq_true hk, Bool.true_and, nI_one]
    cases btL x (bc σ k) <;> rfl) (by
    rintro z rfl
    refine ⟨_, ?_, rfl⟩
    unfold b_Breaks_breaksOn_29_5
    dsimp only
    rw [B.1, e6, dlt_f (Nat.le_refl _) (by omega), ite_ff])
  have hm := msk_more (p := fun k => decide (k < nt σ 6) && btL x (bc σ k)) (n := nt σ 6) (10 - nt σ 6) (fun i g1 g2 => by rw [decide_eq_false (by omega)]; rfl)
  rw [show nt σ 6 + (10 - nt σ 6) = 10 by omega] at hm
  unfold f_Breaks_breaksOn_29
  rw [h1, h2, hm]; rfl
def wyM (σ : Nat → Int32) (f : Nat) : Int32 := msk (wyB σ f) 10
theorem wyM_0 {f : Nat} (h : drw σ f = false) : wyM σ f = 0 := by
  unfold wyM
  rw [show (0 : Int32) = msk (fun _ => false) 10 from msk_0.symm]
  exact msk_congr 10 (fun i _ => by unfold wyB; rw [h, Bool.false_and, Bool.and_false])
theorem anc_hs {τ : Nat → Int32} (T : Tree σ τ) (h9 : inb (σ 9) 48 = true) (h5 : inb (σ 5) 48 = true) {c d : Nat} (hc : c < 48) (h : onL σ c = true) (hd : d < 48) (hon : σ (116 + d) ≠ -1) : lnm (anc σ c) (mil σ c + 1) d = lnm (anc σ c) (mil σ c) d := by
  obtain ⟨⟨p1, p2, p3⟩, -⟩ := path_mil' T h9 h5 hc h
  show (lnm (anc σ c) (mil σ c) d || decide (anc σ c (mil σ c) = d)) = _
  rw [decide_eq_false (fun e => hon (by rw [← e]; exact hs_off T p3 p2)), Bool.or_false]
theorem e_cWays (B : Rbrk M.1 σ) (L : Rland M.1 σ) (R : Rline M.1 σ) (W : Wm σ) (wb : wBrk σ) : ∀ q : Mem, ∃ M', itr (b_Breaks_choose_29_1_15 (msk (fun f => decide (wh σ (σ 0) (nt σ 2) f = 2)) 10, q)) FU (0, M) = some M' ∧ Fr (fun a _ => a == 27 || a == 34) M M' ∧ ∀ f, f < 10 → M'.1 34 f = wyM σ f := by
  intro q
  have h9 := W.1.2.2.2.2.2.2.2.2.2
  have h5 := W.1.2.2.2.2.2.1
  have n6 := W.1.2.2.2.2.2.2.1
  obtain ⟨e1, l1⟩ := nt_inb W.1.2.1
  obtain ⟨e2, l2⟩ := nt_inb W.1.2.2.1
  obtain ⟨e, h1, h2⟩ := itr_cnt (body := b_Breaks_choose_29_1_15 (msk (fun f => decide (wh σ (σ 0) (nt σ 2) f = 2)) 10, q)) (s0 := ((0 : Int32), M)) (fun k z => z.1 = nI k ∧ Fr (fun a _ => a == 27 || a == 34) M z.2 ∧ ∀ f, f < k → z.2.1 34 f = wyM σ f) (fun X => Fr (fun a _ => a == 27 || a == 34) M X ∧ ∀ f, f < 10 → X.1 34 f = wyM σ f) 10 (by omega) ⟨rfl, Fr.refl _, fun f hf => by omega⟩ (by
    rintro k ⟨y, X⟩ hk ⟨rfl, hF, hr⟩
    dsimp only at hF hr
    left
    have hcel : f_Land_cellOf_2 (nI k) X = some (σ (164 + k)) := by
      unfold f_Land_cellOf_2
      rw [atv_nI (by omega) (by omega), hF.row (a := 5) (fun _ => rfl), (L.2.2.2 k hk).1]
    have RX : Rline X.1 σ := by
      unfold Rline
      rw [hF.row (a := 24) (fun _ => rfl), hF.row (a := 25) (fun _ => rfl), hF.row (a := 26) (fun _ => rfl)]; exact R
    have hup : ∃ x Y, f_Line_upward_24 (σ (164 + k)) X = some (x, Y) ∧ Fr s27 X Y ∧ (decide (wh σ (σ 0) (nt σ 2) k = 2) = true → msk (fun i => decide (i < nt σ 6) && btL x (bc σ i)) 10 = wyM σ k) := by
      by_cases hkn : k < nt σ 1
      · obtain ⟨ec, lc⟩ := nI_of_inb (W.2.2.1.2.1 k hkn).1
        have ec : σ (164 + k) = nI (cel σ k) := ec
        have lc : cel σ k < 48 := lc
        obtain ⟨x, Y, u1, u2, u3, u4⟩ := e_upward (M := X) RX h9 h5 lc
        refine ⟨x, Y, by rw [ec]; exact u1, u2, fun hs => ?_⟩
        apply msk_congr
        intro i hi
        unfold wyB drw
        by_cases g : i < nt σ 6
        · obtain ⟨b1, b2, b3⟩ := bc_s wb g
          rw [decide_eq_true g, Bool.true_and, Bool.true_and, decide_eq_true hkn, hs, Bool.true_and, Bool.true_and]
          cases ho : onL σ (cel σ k)
          · rw [u4 ho _ b2, Bool.false_and]
            refine decide_eq_false (fun e => ?_)
            unfold onL at ho
            rw [Bool.or_eq_false_iff, Bool.not_eq_false', decide_eq_true_eq] at ho
            rw [e] at b3
            exact b3 ho.2
          · rw [u3 ho _ b2, Bool.true_and, anc_hs R.2.2.2.2 h9 h5 lc ho b2 b3]
        · rw [decide_eq_false g]; rfl
      · have hw : wh σ (σ 0) (nt σ 2) k = -1 := wh_out (Nat.le_refl _) (by omega) W.2.1 (by omega) (by omega) (by omega)
        have hno : decide (wh σ (σ 0) (nt σ 2) k = 2) = true → False := fun h => by
          rw [hw] at h; exact absurd h (by decide)
        cases hv : wthn (σ (164 + k)) 0 47
        · obtain ⟨x, Y, u1, u2⟩ := e_upward0 (M := X) hv
          exact ⟨x, Y, u1, u2, fun h => absurd (hno h) id⟩
        · rw [show (47 : Int32) = nI 47 from rfl, inb_wthn (by omega)] at hv
          obtain ⟨ec, lc⟩ := nI_of_inb hv
          obtain ⟨x, Y, u1, u2, -⟩ := e_upward (M := X) RX h9 h5 lc
          exact ⟨x, Y, by rw [ec]; exact u1, u2, fun h => absurd (hno h) id⟩
    obtain ⟨x, Y, u1, u2, u3⟩ := hup
    have FY : Fr (fun a _ => a == 27 || a == 34) M Y := hF.trans (u2.mono (fun a i h => by unfold s27 at h; rw [h]; rfl))
    refine ⟨(nI (k + 1), wI Y 34 k (wyM σ k)), ?_, rfl, FY.wI rfl, fun f hf => ?_⟩
    · unfold b_Breaks_choose_29_1_15 jn_ jv_
      dsimp only
      rw [show (10 : Int32) = nI 10 from rfl, dlt_t hk (by omega), ite_tt, hcel, Option.bind_some, u1, Option.bind_some, hld_msk _ hk]
      dsimp only
      cases hs : decide (wh σ (σ 0) (nt σ 2) k = 2)
      · have hz : wyM σ k = 0 := wyM_0 (by unfold drw; rw [hs, Bool.false_and, Bool.and_false])
        rw [ite_ff, putv_nI hk (by omega), nI_one, hz]
      · have BY : Rbrk Y.1 σ := by
          unfold Rbrk
          rw [FY.row (a := 29) (fun _ => rfl), FY.row (a := 30) (fun _ => rfl), FY.row (a := 31) (fun _ => rfl)]; exact B
        rw [ite_tt, e_breaksOn BY n6 wb, Option.bind_some, putv_nI hk (by omega), nI_one, u3 hs]
    · dsimp only
      by_cases g : f = k
      · rw [g]; exact rde
      · rw [rdi g, u2.at_ rfl]; exact hr f (by omega)) (by
    rintro ⟨y, X⟩ ⟨rfl, hF, hr⟩
    dsimp only at hF hr
    refine ⟨X, ?_, hF, hr⟩
    unfold b_Breaks_choose_29_1_15
    dsimp only
    rw [show (10 : Int32) = nI 10 from rfl, dlt_f (Nat.le_refl _) (by omega), ite_ff])
  rw [h1]
  exact ⟨e, rfl, h2⟩
/-- the model's -/
theorem e_mW85 {f j : Nat} {p : Nat → Bool} (W : Wm (M.1 95)) (wb : wBrk (M.1 95)) (hf : f < 10) {c : Nat} (hc : c < 48) (hp : M.1 115 f = msk (fun k => decide (k < nt (M.1 95) 6) && p k) 10) (X0 X1 : Mem) : ∃ M', itr (b_Mo_breaksOf_94_85 (nI f, X0) (nI c, X1)) FU (0, M) = some M' ∧ Fr (fun a i => a == 115 && i == f) M M' ∧ M'.1 115 f = msk (fun k => decide (k < nt (M.1 95) 6) && (p k || decide (bc (M.1 95) k = c))) 10 := by
  obtain ⟨e6, l6⟩ := nt_inb W.1.2.2.2.2.2.2.1
  obtain ⟨e, h1, h2⟩ := itr_cnt (body := b_Mo_breaksOf_94_85 (nI f, X0) (nI c, X1)) (s0 := ((0 : Int32), M)) (fun i z => z.1 = nI i ∧ Fr (fun a i => a == 115 && i == f) M z.2 ∧ z.2.1 115 f = msk (fun k => decide (k < nt (M.1 95) 6) && (p k || (decide (k < i) && decide (bc (M.1 95) k = c)))) 10) (fun X => Fr (fun a i => a == 115 && i == f) M X ∧ X.1 115 f = msk (fun k => decide (k < nt (M.1 95) 6) && (p k || decide (bc (M.1 95) k = c))) 10) (nt (M.1 95) 6) (by omega) ⟨rfl, Fr.refl _, by
      rw [hp]
      exact msk_congr 10 (fun k _ => by rw [decide_eq_false (show ¬ k < 0 by omega), Bool.false_and, Bool.or_false])⟩ (by
    rintro i ⟨y, X⟩ hi ⟨rfl, hF, hr⟩
    dsimp only at hF hr
    left
    have e95 : X.1 95 = M.1 95 := hF.row (fun _ => rfl)
    obtain ⟨b1, b2, -⟩ := bc_s wb hi
    have hval : X.1 115 f ||| (if decide (bc (M.1 95) i = c) = true then (1 : Int32) <<< (nI i &&& 31) else 0) = msk (fun k => decide (k < nt (M.1 95) 6) && (p k || (decide (k < i + 1) && decide (bc (M.1 95) k = c)))) 10 := by
      rw [hr]
      by_cases g : bc (M.1 95) i = c
      · rw [if_pos (decide_eq_true g), ← msk_one (show i < 10 by omega), msk_or]
        apply msk_congr
        intro k hk
        by_cases g2 : k = i
        · rw [g2, decide_eq_true hi, decide_eq_true (show i = i from rfl), decide_eq_true (show i < i + 1 by omega), decide_eq_true g, Bool.or_true, Bool.and_true, Bool.or_true]; rfl
        · rw [decide_eq_false g2, Bool.or_false, show decide (k < i + 1) = decide (k < i) from decide_eq_decide.mpr (by omega)]
      · rw [if_neg (by rw [decide_eq_true_eq]; exact g), or_0]
        apply msk_congr
        intro k hk
        by_cases g2 : k = i
        · rw [g2, decide_eq_false g, Bool.and_false, Bool.and_false]
        · rw [show decide (k < i + 1) = decide (k < i) from decide_eq_decide.mpr (by omega)]
    refine ⟨(nI (i + 1), wI X 115 f (msk (fun k => decide (k < nt (M.1 95) 6) && (p k || (decide (k < i + 1) && decide (bc (M.1 95) k = c)))) 10)), ?_, rfl, hF.wI (by simp), rde⟩
    rw [← hval]
    unfold b_Mo_breaksOf_94_85 jv_
    dsimp only
    rw [e95, e6, dlt_t hi (by omega), ite_tt, inb_t hf (by omega), ite_tt, show (2260 : Int32) = nI 2260 from rfl, nI_addn, inb_t (by omega) (by omega), ite_tt, ite_tt, nI_cl (by omega), nI_cl (by omega), b1, d_eq (by omega) (by omega), nI_one]) (by
    rintro ⟨y, X⟩ ⟨rfl, hF, hr⟩
    dsimp only at hF hr
    have e95 : X.1 95 = M.1 95 := hF.row (fun _ => rfl)
    refine ⟨X, ?_, hF, ?_⟩
    · unfold b_Mo_breaksOf_94_85
      dsimp only
      rw [e95, e6, dlt_f (Nat.le_refl _) (by omega), ite_ff]
    · rw [hr]
      exact msk_congr 10 (fun k _ => by
        by_cases g : k < nt (M.1 95) 6
        · rw [decide_eq_true g, Bool.true_and, Bool.true_and, Bool.true_and]
        · rw [decide_eq_false g]; rfl))
  rw [h1]
  exact ⟨e, rfl, h2⟩
theorem e_mW67 {τ : Nat → Int32} (Tr : Tree (M.1 95) τ) {f : Nat} (W : Wm (M.1 95)) (wb : wBrk (M.1 95)) (hf : f < 10) {c : Nat} (hc : c < 48) (ho : onL (M.1 95) c = true) (hp : M.1 115 f = 0) (X0 : Mem) : ∃ M', itr (b_Mo_breaksOf_94_67 (nI f, X0) true) FU (nI c, M) = some M' ∧ Fr (fun a i => a == 115 && i == f) M M' ∧ M'.1 115 f = msk (fun k => decide (k < nt (M.1 95) 6) && lnm (anc (M.1 95) c) (mil (M.1 95) c) (bc (M.1 95) k)) 10 := by
  have h9 := W.1.2.2.2.2.2.2.2.2.2
  have h5 := W.1.2.2.2.2.2.1
  obtain ⟨⟨p1, p2, p3⟩, p4⟩ := path_mil' Tr h9 h5 hc ho
  have l5 := (nt_inb h5).2
  obtain ⟨e, h1, h2⟩ := itr_cnt (body := b_Mo_breaksOf_94_67 (nI f, X0) true) (s0 := (nI c, M)) (fun j z => z.1 = nI (anc (M.1 95) c j) ∧ Fr (fun a i => a == 115 && i == f) M z.2 ∧ z.2.1 115 f = msk (fun k => decide (k < nt (M.1 95) 6) && lnm (anc (M.1 95) c) j (bc (M.1 95) k)) 10) (fun X => Fr (fun a i => a == 115 && i == f) M X ∧ X.1 115 f = msk (fun k => decide (k < nt (M.1 95) 6) && lnm (anc (M.1 95) c) (mil (M.1 95) c) (bc (M.1 95) k)) 10) (mil (M.1 95) c) (by omega) ⟨rfl, Fr.refl _, by
      rw [hp, ← msk_0]
      exact msk_congr 10 (fun k _ => by unfold lnm; rw [Bool.and_false])⟩ (by
    rintro j ⟨y, X⟩ hj ⟨hy, hF, hr⟩
    dsimp only at hy hF hr
    rw [hy]
    left
    have e95 : X.1 95 = M.1 95 := hF.row (fun _ => rfl)
    obtain ⟨a1, a2, a3⟩ := p1 j hj
    obtain ⟨Y, y1, y2, y3⟩ := e_mW85 (M := X) (f := f) (j := j) (p := fun k => lnm (anc (M.1 95) c) j (bc (M.1 95) k)) (c := anc (M.1 95) c j) (by rw [e95]; exact W) (by rw [e95]; exact wb) hf a3 (by rw [e95]; exact hr) X0 X
    rw [e95] at y3
    have eY : Y.1 95 = M.1 95 := (y2.row (fun _ => rfl)).trans e95
    refine ⟨(nI (anc (M.1 95) c (j + 1)), Y), ?_, rfl, hF.trans y2, ?_⟩
    · unfold b_Mo_breaksOf_94_67
      dsimp only
      rw [ite_tt, e95, decide_eq_false a1, ite_ff, y1, Option.bind_some, show (116 : Int32) = nI 116 from rfl, nI_addn, inb_t (by omega) (by omega), ite_tt, nI_cl (by omega), eY, a2]
    · dsimp only
      rw [y3]
      apply msk_congr
      intro k _
      show _ = (decide (k < nt (M.1 95) 6) && (lnm (anc (M.1 95) c) j (bc (M.1 95) k) || decide (anc (M.1 95) c j = bc (M.1 95) k)))
      rw [show decide (bc (M.1 95) k = anc (M.1 95) c j) = decide (anc (M.1 95) c j = bc (M.1 95) k) from decide_eq_decide.mpr ⟨fun h => h.symm, fun h => h.symm⟩]) (by
    rintro ⟨y, X⟩ ⟨hy, hF, hr⟩
    dsimp only at hy hF hr
    have e95 : X.1 95 = M.1 95 := hF.row (fun _ => rfl)
    rw [hy]
    refine ⟨X, ?_, hF, hr⟩
    unfold b_Mo_breaksOf_94_67
    dsimp only
    rw [ite_tt, e95, decide_eq_true p2, ite_tt])
  rw [h1]
  exact ⟨e, rfl, h2⟩
theorem e_mWays {τ : Nat → Int32} (Tr : Tree (M.1 95) τ) (W : Wm (M.1 95)) (wb : wBrk (M.1 95)) : ∃ M', f_Mo_breaksOf_94 M = some M' ∧ Fr (fun a _ => a == 115) M M' ∧ ∀ f, f < nt (M.1 95) 1 → M'.1 115 f = wyM (M.1 95) f := by
  obtain ⟨e1, l1⟩ := nt_inb W.1.2.1
  obtain ⟨e, h1, h2⟩ := itr_cnt (body := b_Mo_breaksOf_94_2) (s0 := ((0 : Int32), M)) (fun k z => z.1 = nI k ∧ Fr (fun a _ => a == 115) M z.2 ∧ ∀ f, f < k → z.2.1 115 f = wyM (M.1 95) f) (fun X => Fr (fun a _ => a == 115) M X ∧ ∀ f, f < nt (M.1 95) 1 → X.1 115 f = wyM (M.1 95) f) (nt (M.1 95) 1) (by omega) ⟨rfl, Fr.refl _, fun f hf => by omega⟩ (by
    rintro k ⟨y, X⟩ hk ⟨rfl, hF, hr⟩
    dsimp only at hF hr
    left
    have e95 : X.1 95 = M.1 95 := hF.row (fun _ => rfl)
    obtain ⟨ec, lc⟩ := nI_of_inb (W.2.2.1.2.1 k hk).1
    have ec : M.1 95 (164 + k) = nI (cel (M.1 95) k) := ec
    have lc : cel (M.1 95) k < 48 := lc
    have eZ : (wI X 115 k 0).1 95 = M.1 95 := by rw [rdk (by omega), e95]
    have hsv : f_Mo_isServed_94 (nI k) (M.1 95 0) (wI X 115 k 0) = some (decide (wh (M.1 95) (M.1 95 0) (nt (M.1 95) 2) k = 2)) := by
      rw [e_isServed (M := wI X 115 k 0) (by omega) (by rw [eZ]; exact W.1) (by rw [eZ]; exact W.2.1), eZ]
    have hend : ∀ Y : Mem, Fr (fun a i => a == 115 && i == k) (wI X 115 k 0) Y → Y.1 115 k = wyM (M.1 95) k → Fr (fun a _ => a == 115) M Y ∧ ∀ f, f < k + 1 → Y.1 115 f = wyM (M.1 95) f := fun Y hY hk' => ⟨(hF.wI rfl).trans (hY.mono (fun a i h => by rw [Bool.and_eq_true] at h; exact h.1)), fun f hf => by
      by_cases g : f = k
      · rw [g]; exact hk'
      · rw [hY.at_ (by simp only [Bool.and_eq_false_iff, beq_eq_false_iff_ne]; exact .inr g), rdi g]; exact hr f (by omega)⟩
    have hoff : drw (M.1 95) k = false → itr (b_Mo_breaksOf_94_67 (nI k, X) false) FU (nI (cel (M.1 95) k), wI X 115 k 0) = some (wI X 115 k 0) ∧ (wI X 115 k 0).1 115 k = wyM (M.1 95) k := fun h => ⟨by
      rw [show FU = 999999999 + 1 from rfl, itr_r (e := wI X 115 k 0) rfl], by rw [rde, wyM_0 h]⟩
    have hst : ∃ Y, b_Mo_breaksOf_94_2 (nI k, X) = some (.inl (nI (k + 1), Y)) ∧ Fr (fun a i => a == 115 && i == k) (wI X 115 k 0) Y ∧ Y.1 115 k = wyM (M.1 95) k := by
      unfold b_Mo_breaksOf_94_2 jv_ jn_
      dsimp only
      rw [e95, e1, dlt_t hk (by omega), ite_tt, inb_t (by omega) (by omega), ite_tt, nI_cl (by omega), q164, nI_addn, inb_t (by omega) (by omega), ite_tt, ite_tt, nI_cl (by omega), eZ, ec, e_Mo_isOnLine lc, Option.bind_some, eZ, hsv, Option.bind_some, nI_one, ite_tt]
      cases ho : onL (M.1 95) (cel (M.1 95) k)
      · obtain ⟨q1, q2⟩ := hoff (by unfold drw; rw [ho, Bool.and_false, Bool.and_false])
        rw [ite_ff, q1]
        exact ⟨_, rfl, Fr.refl _, q2⟩
      · rw [ite_tt]
        cases hs : decide (wh (M.1 95) (M.1 95 0) (nt (M.1 95) 2) k = 2)
        · obtain ⟨q1, q2⟩ := hoff (by unfold drw; rw [hs, Bool.false_and, Bool.and_false])
          rw [ite_ff, q1]
          exact ⟨_, rfl, Fr.refl _, q2⟩
        · obtain ⟨Y, y1, y2, y3⟩ := e_mW67 (M := wI X 115 k 0) (τ := τ) (f := k) (c := cel (M.1 95) k) (by rw [eZ]; exact Tr) (by rw [eZ]; exact W) (by rw [eZ]; exact wb) (by omega) lc (by rw [eZ]; exact ho) rde X
          rw [eZ] at y3
          rw [ite_tt, y1]
          refine ⟨Y, rfl, y2, ?_⟩
          rw [y3]
          unfold wyM
          apply msk_congr
          intro i _
          unfold wyB drw
          rw [decide_eq_true hk, hs, ho]; rfl
    obtain ⟨Y, y1, y2, y3⟩ := hst
    obtain ⟨z1, z2⟩ := hend Y y2 y3
    exact ⟨_, y1, rfl, z1, z2⟩) (by
    rintro ⟨y, X⟩ ⟨rfl, hF, hr⟩
    dsimp only at hF hr
    have e95 : X.1 95 = M.1 95 := hF.row (fun _ => rfl)
    refine ⟨X, ?_, hF, hr⟩
    unfold b_Mo_breaksOf_94_2
    dsimp only
    rw [e95, e1, dlt_f (Nat.le_refl _) (by omega), ite_ff])
  unfold f_Mo_breaksOf_94
  rw [h1]
  exact ⟨e, rfl, h2⟩
end WA
end
