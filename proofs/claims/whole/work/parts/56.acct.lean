def cel (σ : Nat → Int32) (f : Nat) : Nat := nt σ (164 + f)
def Nm (σ : Nat → Int32) (f : Nat) (u k o : Int32) : Nat → Int32 := fun i => if i = 0 then u else if i = 1 then σ (174 + f) else if i = 2 then k else if i = 3 then o else nI (mil σ (cel σ f))
def kd (σ : Nat → Int32) (f m : Nat) : Int32 := km σ (nI m) (nt σ 2) f
def blS (σ : Nat → Int32) (f m : Nat) (o : Int32) : Int32 := if svd σ f m = true then ruV σ (Nm σ f (unS σ f m) (kd σ f m) o) 1 (nI m) + ruV σ (Nm σ f (unS σ f m) (kd σ f m) o) 2 (nI m) else 0
def lmt (x : Int64) : Int64 := jmaxL (-1000000000) (jminL 1000000000 x)
def arN (σ : Nat → Int32) (f m : Nat) (v : Int64) : Int64 := v + (blS σ f m v.toInt32 - σ (3490 + (121 * f + m))).toInt64
def arL (σ : Nat → Int32) (f m : Nat) (v x : Int64) : Int64 := if decide (lg_cmp x 0 ≤ 0) = true then x else x + (x * (ruV σ (Nm σ f 0 (kd σ f m) v.toInt32) 3 (nI m)).toInt64) / 100
/-- ARREARS ahead of a month -/
def arS (σ : Nat → Int32) (f : Nat) : Nat → Int64
  | 0 => 0
  | m + 1 => lmt (arL σ f m (arS σ f m) (arN σ f m (arS σ f m)))
def Wm (σ : Nat → Int32) : Prop := wNum σ ∧ wBook σ ∧ wLand σ ∧ rdOK σ ∧ (∀ k, k < 1210 → inb (σ (3490 + k)) 10000000 = true) ∧ (∃ τ, Tree σ τ) ∧ ∃ C, Rrule C σ
theorem lmt_b (x : Int64) : -1000000000 ≤ (lmt x).toInt ∧ (lmt x).toInt ≤ 1000000000 := by
  have e1 : (1000000000 : Int64).toInt = 1000000000 := rfl
  have e2 : (-1000000000 : Int64).toInt = -1000000000 := rfl
  unfold lmt jmaxL jminL
  by_cases h1 : x < 1000000000
  · rw [if_pos h1]
    have h3 := Int64.lt_iff_toInt_lt.mp h1
    rw [e1] at h3
    by_cases h2 : x < -1000000000
    · rw [if_pos h2, e2]; omega
    · rw [if_neg h2]
      rw [Int64.lt_iff_toInt_lt, e2] at h2
      omega
  · rw [if_neg h1, if_neg (by decide), e1]; omega
theorem arS_b (σ : Nat → Int32) (f : Nat) : ∀ m, -1000000000 ≤ (arS σ f m).toInt ∧ (arS σ f m).toInt ≤ 1000000000
  | 0 => ⟨by show -1000000000 ≤ (0 : Int64).toInt; decide, by show (0 : Int64).toInt ≤ 1000000000; decide⟩
  | m + 1 => lmt_b _
theorem t32 {v : Int64} (h1 : -1000000000 ≤ v.toInt) (h2 : v.toInt ≤ 1000000000) : v.toInt32.toInt64 = v := by
  apply Int64.toInt_inj.mp
  rw [Int32.toInt_toInt64, Int64.toInt_toInt32]
  exact b_eq _ (by omega) (by omega)
theorem clV_b (v : Int32) : 0 ≤ (clV v).toInt ∧ (clV v).toInt ≤ 99999 := by
  have e1 : (99999 : Int32).toInt = 99999 := rfl
  unfold clV jmax jmin
  simp only [i_lt, i_0, e1]
  by_cases h1 : v.toInt < 99999
  · simp only [if_pos h1]
    by_cases h2 : 0 < v.toInt
    · rw [if_pos h2]; omega
    · rw [if_neg h2, i_0]; omega
  · simp only [if_neg h1, e1]
    rw [if_pos (by omega), e1]; omega
theorem ruV_b {σ N : Nat → Int32} {w m : Int32} (h1 : 0 ≤ (N 0).toInt) (h2 : (N 0).toInt ≤ 9999) : 0 ≤ (ruV σ N w m).toInt ∧ (ruV σ N w m).toInt ≤ 99999 := by
  unfold ruV
  split
  · unfold usu
    by_cases d0 : w = 0
    · rw [if_pos d0]; decide
    · rw [if_neg d0]
      by_cases d1 : w = 1
      · rw [if_pos d1, Int32.toInt_mul, show (2 : Int32).toInt = 2 from rfl, b_eq _ (by omega) (by omega)]; omega
      · rw [if_neg d1]
        by_cases d2 : w = 2
        · rw [if_pos d2]; decide
        · rw [if_neg d2]
          by_cases d3 : w = 3
          · rw [if_pos d3]; decide
          · rw [if_neg d3]; decide
  · exact clV_b _
theorem blS_b {σ : Nat → Int32} {f m : Nat} (o : Int32) (hf : f < 10) (hm : m < 121) (hR : rdOK σ) : 0 ≤ (blS σ f m o).toInt ∧ (blS σ f m o).toInt ≤ 199998 := by
  unfold blS
  by_cases c : svd σ f m = true
  · rw [if_pos c]
    have hu := unS_b hf hm hR
    have b1 := ruV_b (σ := σ) (N := Nm σ f (unS σ f m) (kd σ f m) o) (w := 1) (m := nI m) hu.1 hu.2
    have b2 := ruV_b (σ := σ) (N := Nm σ f (unS σ f m) (kd σ f m) o) (w := 2) (m := nI m) hu.1 hu.2
    rw [Int32.toInt_add, b_eq _ (by omega) (by omega)]; omega
  · rw [if_neg c, i_0]; omega
theorem kd_svd (σ : Nat → Int32) (f m : Nat) : decide (kd σ f m = 3) = svd σ f m := by
  unfold kd km kf k0 no svd
  generalize wh σ (nI m) (nt σ 2) f = w
  rw [show (if (fun (_ : Nat) => false) f = true then (5 : Int32) else if (fun (_ : Nat) => false) f = true then 1 else if w = -1 then 0 else if w = 1 then 2 else if w = 2 then 3 else if w = 4 then 5 else 1) = (if w = -1 then 0 else if w = 1 then 2 else if w = 2 then 3 else if w = 4 then 5 else 1) from rfl]
  by_cases c1 : w = -1
  · rw [if_pos c1, if_neg (by decide), c1]; decide
  · rw [if_neg c1]
    by_cases c2 : w = 1
    · rw [if_pos c2, if_pos rfl, c2]
      split <;> decide
    · rw [if_neg c2]
      by_cases c3 : w = 2
      · rw [if_pos c3, if_neg (by decide), c3]; decide
      · rw [if_neg c3, decide_eq_false c3]
        by_cases c4 : w = 4
        · rw [if_pos c4, if_neg (by decide)]; decide
        · rw [if_neg c4, if_neg (by decide)]; decide
section AM
variable {M : Mem}
def sNm (a i : Nat) : Bool := a == 97 || (a == 98 || (a == 99 || (a == 94 && (i == 6 || (i == 7 || i == 8)))))
def sB (a i : Nat) : Bool := sNm a i || (a == 108 || a == 109)
theorem sLk_sNm : ∀ a i, sLk a i = true → sNm a i = true := fun a i h => by
  unfold sLk at h; unfold sNm
  simp only [Bool.or_eq_true, Bool.and_eq_true, beq_iff_eq] at h ⊢; omega
theorem sW_sNm : ∀ a i, sW a i = true → sNm a i = true := fun a i h => by
  unfold sW at h; unfold sNm
  simp only [Bool.or_eq_true, Bool.and_eq_true, beq_iff_eq] at h ⊢; omega
theorem sNm_sB : ∀ a i, sNm a i = true → sB a i = true := fun a i h => by unfold sB; rw [h]; rfl
theorem e_names {f m : Nat} {u o : Int32} (hf : f < nt (M.1 95) 1) (W : Wm (M.1 95)) : ∃ M', f_Mo_names_94 (nI f) (nI m) u o M = some M' ∧ Fr sNm M M' ∧ ∀ i, i < 5 → M'.1 99 i = Nm (M.1 95) f u (kd (M.1 95) f m) o i := by
  obtain ⟨wn, wb, wl, -, -, ⟨τ, T⟩, -⟩ := W
  have hF10 : f < 10 := by have := (nt_inb wn.2.1).2; omega
  obtain ⟨M1, k1, k2⟩ := itr_cnt (body := b_Mo_names_94_19) (s0 := (1, wI M 99 0 u)) (fun k s => s.1 = nI (1 + k) ∧ Fr sNm M s.2 ∧ s.2.1 99 0 = u) (fun M' => Fr sNm M M' ∧ M'.1 99 0 = u) 4 (by omega) ⟨rfl, (Fr.refl M).wI rfl, rde⟩ (by
    rintro k ⟨a, M1⟩ hk ⟨rfl, hF, hu⟩
    left
    dsimp only at hF hu
    refine ⟨(nI (1 + (k + 1)), wI M1 99 (1 + k) 0), ?_, rfl, hF.wI rfl, ?_⟩
    · unfold b_Mo_names_94_19 jv_
      dsimp only
      rw [show (5 : Int32) = nI 5 from rfl, dlt_t (by omega) (by omega), ite_tt, inb_t (by omega) (by omega), ite_tt, nI_cl (by omega), nI_one]; rfl
    · show (wI M1 99 (1 + k) 0).1 99 0 = u
      rw [rdi (by omega)]; exact hu) (by
    rintro ⟨a, M1⟩ ⟨rfl, hF, hu⟩
    refine ⟨M1, rfl, hF, hu⟩)
  have e95 : ∀ M', Fr sNm M M' → M'.1 95 = M.1 95 := fun M' h => h.row (fun i => rfl)
  obtain ⟨M2, l1, l2, l3⟩ := e_looks (M := M1) (m := nI m) (e := -1) (sgn := -1) (sg := no) (tk := no) (.inl rfl) (by rw [e95 M1 k2.1]; exact wn) (by rw [e95 M1 k2.1]; exact wb) (fun k hk => nI_eqm1 (by omega)) (fun f h => by (cases h))
  rw [msk_no] at l1
  have F2 : Fr sNm M M2 := k2.1.trans (l2.mono sLk_sNm)
  rw [e95 M1 k2.1] at l3
  have hkind := l3 f hf
  have hc := (wl.2.1 f hf).1
  obtain ⟨ec, lc⟩ := nI_of_inb hc
  have hF19 : ∀ a b c : Int32, Fr sNm M (wI (wI (wI M2 99 1 a) 99 2 b) 99 3 c) := fun a b c => ((F2.wI rfl).wI rfl).wI rfl
  have hmi : ∀ a b c : Int32, f_Mo_milesTo_94 (nI (cel (M.1 95) f)) (wI (wI (wI M2 99 1 a) 99 2 b) 99 3 c) = some (nI (mil (M.1 95) (cel (M.1 95) f))) := fun a b c => by
    have := e_milesTo (M := wI (wI (wI M2 99 1 a) 99 2 b) 99 3 c) (τ := τ) (by rw [e95 _ (hF19 a b c)]; exact T) (by rw [e95 _ (hF19 a b c)]; exact wn.2.2.2.2.2.2.2.2.2) (by rw [e95 _ (hF19 a b c)]; exact wn.2.2.2.2.2.1) (c := cel (M.1 95) f) lc
    rw [e95 _ (hF19 a b c)] at this
    exact this
  refine ⟨wI (wI (wI (wI M2 99 1 (M.1 95 (174 + f))) 99 2 (kd (M.1 95) f m)) 99 3 o) 99 4 (nI (mil (M.1 95) (cel (M.1 95) f))), ?_, (hF19 _ _ _).wI rfl, fun i hi => ?_⟩
  · unfold f_Mo_names_94 jv_
    dsimp only
    rw [nI_eqm1 (by omega), ite_ff, k1, Option.bind_some, ite_ff, l1, Option.bind_some, q174, q164, nI_addn, nI_addn, inb_t (show 174 + f < 4700 by omega) (by omega), inb_t (show 164 + f < 4700 by omega) (by omega), ite_tt, ite_tt, inb_t hF10 (by omega), ite_tt, nI_cl (by omega), nI_cl (by omega), nI_cl (by omega), e95 M2 F2]
    have hkk : (wI M2 99 1 (M.1 95 (174 + f))).1 97 f = kd (M.1 95) f m := hkind
    rw [hkk, show (wI (wI (wI M2 99 1 (M.1 95 (174 + f))) 99 2 (kd (M.1 95) f m)) 99 3 o).1 95 (164 + f) = nI (cel (M.1 95) f) from by rw [e95 _ (hF19 _ _ _)]; exact ec, hmi]; rfl
  · have hi : i = 0 ∨ i = 1 ∨ i = 2 ∨ i = 3 ∨ i = 4 := by omega
    rcases hi with rfl | rfl | rfl | rfl | rfl
    · show M2.1 99 0 = u
      rw [l2.at_ rfl]; exact k2.2
    · rfl
    · rfl
    · rfl
    · rfl
def stK (M : Mem) (k : Nat) : Prop := M.1 94 21 = nI k ∧ k < 1000000
def CvU (M : Mem) (k : Nat) : Prop := (∀ f, f < 10 → ∃ j, j ≤ k ∧ M.1 109 f = nI j) ∧ ∀ f, f < nt (M.1 95) 1 → M.1 109 f = nI k → ∀ m, m < 121 → M.1 108 (121 * f + m) = unS (M.1 95) f m
def CvA (M : Mem) (k : Nat) : Prop := (∀ f, f < 10 → ∃ j, j ≤ k ∧ M.1 111 f = nI j) ∧ ∀ f, f < nt (M.1 95) 1 → M.1 111 f = nI k → ∀ m, m < 121 → M.1 110 (121 * f + m) = (arS (M.1 95) f (m + 1)).toInt32
def sU (a _i : Nat) : Bool := a == 108 || a == 109
theorem sU_sB : ∀ a i, sU a i = true → sB a i = true := fun a i h => by
  unfold sU at h; unfold sB; rw [h]; simp
theorem e_unitsIn {f m k : Nat} (hf : f < nt (M.1 95) 1) (hm : m < 121) (W : Wm (M.1 95)) (S : stK M k) (U : CvU M k) : ∃ M', f_Mo_unitsIn_94 (nI f) (nI m) M = some (unS (M.1 95) f m, M') ∧ Fr sU M M' ∧ CvU M' k ∧ M'.1 109 f = nI k ∧ ∀ g, g ≠ f → M'.1 109 g = M.1 109 g := by
  obtain ⟨wn, wb, wl, wr, -⟩ := W
  have hF10 : f < 10 := by have := (nt_inb wn.2.1).2; omega
  have i2 : (121 : Int32) * nI f + nI m = nI (121 * f + m) := by rw [show (121 : Int32) = nI 121 from rfl, nI_muln, nI_addn]
  unfold f_Mo_unitsIn_94 jn_ jv_
  dsimp only
  rw [inb_t hF10 (by omega), ite_tt, nI_cl (by omega), S.1, i2, inb_t (show 121 * f + m < 1210 by omega) (by omega), nI_cl (by omega)]
  simp only [↓reduceIte]
  by_cases c : M.1 109 f = nI k
  · rw [decide_eq_true c, ite_tt, U.2 f hf c m hm]
    exact ⟨M, rfl, Fr.refl M, U, c, fun _ _ => rfl⟩
  · rw [decide_eq_false c, ite_ff]
    obtain ⟨M1, h1, h2, h3⟩ := e_measures (M := wI M 109 f (nI k)) hf wn wb wr
    rw [h1, Option.bind_some, h3 m hm]
    have e95 : M1.1 95 = M.1 95 := h2.row (fun i => rfl)
    refine ⟨M1, rfl, ((Fr.refl M).wI rfl).trans (h2.mono (fun a i h => by
      unfold s108 at h; unfold sU
      simp only [Bool.or_eq_true, Bool.and_eq_true, beq_iff_eq, decide_eq_true_eq] at h ⊢; omega)), ⟨fun g hg => ?_, ?_⟩, ?_, fun g hg => ?_⟩
    · by_cases d : g = f
      · subst d; exact ⟨k, Nat.le_refl _, by rw [h2.at_ rfl, rde]⟩
      · obtain ⟨j, j1, j2⟩ := U.1 g hg
        exact ⟨j, j1, by rw [h2.at_ rfl, rdi d]; exact j2⟩
    · intro g hg hgk m' hm'
      rw [e95] at hg ⊢
      by_cases d : g = f
      · subst d; exact h3 m' hm'
      · have : M1.1 109 g = M.1 109 g := by
          rw [h2.at_ rfl, rdi d]
        rw [this] at hgk
        rw [h2.at_ (by unfold s108; simp; omega)]
        exact U.2 g hg hgk m' hm'
    · rw [h2.at_ rfl, rde]
    · rw [h2.at_ rfl, rdi hg]
theorem e_billOf {f m k : Nat} {o : Int32} (hf : f < nt (M.1 95) 1) (hm : m < 121) (W : Wm (M.1 95)) (S : stK M k) (U : CvU M k) : ∃ M', f_Mo_billOf_94 (nI f) (nI m) o M = some (blS (M.1 95) f m o, M') ∧ Fr sB M M' ∧ CvU M' k := by
  have W0 := W
  obtain ⟨wn, wb, wl, wr, wp, wt, ⟨C, R⟩⟩ := W
  have hF10 : f < 10 := by have := (nt_inb wn.2.1).2; omega
  have hs := e_isServed (M := M) (m := nI m) (f := f) hF10 wn wb
  unfold f_Mo_billOf_94 blS
  rw [hs, Option.bind_some]
  show ∃ M', (if svd (M.1 95) f m = true then _ else _) = _ ∧ _
  by_cases c : svd (M.1 95) f m = true
  · rw [if_pos c, if_pos c]
    obtain ⟨M1, h1, h2, h3, -⟩ := e_unitsIn hf hm W0 S U
    have e1 : M1.1 95 = M.1 95 := h2.row (fun i => rfl)
    obtain ⟨M2, g1, g2, g3⟩ := e_names (M := M1) (m := m) (u := unS (M.1 95) f m) (o := o) (by rw [e1]; exact hf) (by rw [e1]; exact W0)
    rw [e1] at g3
    have e2 : M2.1 95 = M.1 95 := (g2.row (fun i => rfl)).trans e1
    obtain ⟨M3, k1, k2⟩ := e_ruleBy (M := M2) (C := C) (w := 1) (m := nI m) (N := Nm (M.1 95) f (unS (M.1 95) f m) (kd (M.1 95) f m) o) (by rw [e2]; exact R) (by rw [e2]; have := (nt_inb wn.2.2.2.1).2; omega) (by rw [e2]; exact (nt_inb wn.2.2.2.1).1) g3
    have e3 : M3.1 95 = M.1 95 := (row95 k2).trans e2
    obtain ⟨M4, l1, l2⟩ := e_ruleBy (M := M3) (C := C) (w := 2) (m := nI m) (N := Nm (M.1 95) f (unS (M.1 95) f m) (kd (M.1 95) f m) o) (by rw [e3]; exact R) (by rw [e3]; have := (nt_inb wn.2.2.2.1).2; omega) (by rw [e3]; exact (nt_inb wn.2.2.2.1).1) (fun i hi => by rw [k2.at_ rfl]; exact g3 i hi)
    rw [e2] at k1
    rw [e3] at l1
    have F4 : Fr sNm M1 M4 := g2.trans ((k2.mono sW_sNm).trans (l2.mono sW_sNm))
    refine ⟨M4, ?_, (h2.mono sU_sB).trans (F4.mono sNm_sB), ⟨fun g hg => by rw [F4.at_ rfl]; exact h3.1 g hg, ?_⟩⟩
    · rw [h1, Option.bind_some]
      dsimp only
      rw [g1, Option.bind_some, k1, Option.bind_some]
      dsimp only
      rw [l1]; rfl
    · intro g hg hgk m' hm'
      rw [F4.row (a := 95) (fun i => rfl)] at hg ⊢
      rw [F4.at_ rfl] at hgk
      rw [F4.at_ rfl]
      exact h3.2 g hg hgk m' hm'
  · rw [if_neg c, if_neg c]
    exact ⟨M, rfl, Fr.refl M, U⟩
theorem lmt_eq (x : Int64) : (if decide (lg_cmp x 1000000000 ≤ 0) = true then (if decide (lg_cmp x (-1000000000) < 0) = true then (-1000000000 : Int64) else x) else 1000000000) = lmt x := by
  have c1 : ∀ y : Int64, decide (lg_cmp x y ≤ 0) = !decide (y < x) := fun y => by
    unfold lg_cmp
    by_cases h : x > y
    · rw [if_pos h, decide_eq_true (show y < x from h)]; rfl
    · rw [if_neg h, decide_eq_false (show ¬ y < x from h)]
      split <;> rfl
  have c2 : ∀ y : Int64, decide (lg_cmp x y < 0) = decide (x < y) := fun y => by
    unfold lg_cmp
    by_cases h : x > y
    · rw [if_pos h, decide_eq_false (fun h2 : x < y => by rw [Int64.lt_iff_toInt_lt] at h2; have h := Int64.lt_iff_toInt_lt.mp h; omega)]; rfl
    · rw [if_neg h]
      by_cases h3 : x = y
      · rw [if_pos h3, decide_eq_false (fun h2 : x < y => by rw [Int64.lt_iff_toInt_lt, h3] at h2; omega)]; rfl
      · rw [if_neg h3, decide_eq_true (show x < y from by
          rw [Int64.lt_iff_toInt_lt]
          have h4 : ¬ y.toInt < x.toInt := fun h5 => h (Int64.lt_iff_toInt_lt.mpr h5)
          have h5 : x.toInt ≠ y.toInt := fun h => h3 (Int64.toInt_inj.mp h)
          omega)]; rfl
  rw [c1, c2]
  unfold lmt jmaxL jminL
  have e1 : (1000000000 : Int64).toInt = 1000000000 := rfl
  have e2 : (-1000000000 : Int64).toInt = -1000000000 := rfl
  by_cases h1 : (1000000000 : Int64) < x
  · rw [decide_eq_true h1, if_neg (show ¬ x < 1000000000 from fun h => by rw [Int64.lt_iff_toInt_lt] at h h1; omega), if_neg (show ¬ (1000000000 : Int64) < -1000000000 by decide)]; rfl
  · rw [decide_eq_false h1]
    show (if decide (x < -1000000000) = true then _ else _) = _
    by_cases h2 : x < -1000000000
    · rw [decide_eq_true h2, if_pos (show x < 1000000000 from by rw [Int64.lt_iff_toInt_lt] at h2 ⊢; omega), if_pos h2]; rfl
    · rw [decide_eq_false h2]
      by_cases h3 : x < 1000000000
      · rw [if_pos h3, if_neg h2]; rfl
      · rw [if_neg h3, if_neg (show ¬ (1000000000 : Int64) < -1000000000 by decide)]
        apply Int64.toInt_inj.mp
        rw [Int64.lt_iff_toInt_lt] at h1 h3
        show x.toInt = _
        omega
def sA2 (f a i : Nat) : Bool := sB a i || (a == 110 && (decide (121 * f ≤ i) && decide (i < 121 * f + 121)))
theorem sB_sA2 (f : Nat) : ∀ a i, sB a i = true → sA2 f a i = true := fun a i h => by unfold sA2; rw [h]; rfl
theorem e_arLoop {f k : Nat} (hf : f < nt (M.1 95) 1) (W : Wm (M.1 95)) (S : stK M k) (U : CvU M k) : ∃ M', itr (b_Mo_arrears_94_28 (nI f)) FU (0, 0, M) = some M' ∧ Fr (sA2 f) M M' ∧ CvU M' k ∧ ∀ m, m < 121 → M'.1 110 (121 * f + m) = (arS (M.1 95) f (m + 1)).toInt32 := by
  have W0 := W
  obtain ⟨wn, wb, wl, wr, wp, wt, ⟨C, R⟩⟩ := W
  have hF10 : f < 10 := by have := (nt_inb wn.2.1).2; omega
  have e95 : ∀ M', Fr (sA2 f) M M' → M'.1 95 = M.1 95 := fun M' h => h.row (fun i => rfl)
  refine itr_cnt (fun m s => s.1 = arS (M.1 95) f m ∧ s.2.1 = nI m ∧ Fr (sA2 f) M s.2.2 ∧ CvU s.2.2 k ∧ ∀ j, j < m → s.2.2.1 110 (121 * f + j) = (arS (M.1 95) f (j + 1)).toInt32) _ 121 (by omega) ⟨rfl, rfl, Fr.refl M, U, fun j h => absurd h (by omega)⟩ ?_ ?_
  · rintro m ⟨v, i, M1⟩ hm ⟨rfl, rfl, hF, hU, hj⟩
    left
    dsimp only at hF hU hj
    have e1 := e95 M1 hF
    obtain ⟨M2, g1, g2, g3⟩ := e_billOf (M := M1) (o := (arS (M.1 95) f m).toInt32) (k := k) (by rw [e1]; exact hf) hm (by rw [e1]; exact W0) ⟨by rw [hF.at_ rfl]; exact S.1, S.2⟩ hU
    rw [e1] at g1
    have F2 : Fr (sA2 f) M M2 := hF.trans (g2.mono (sB_sA2 f))
    have e2 := e95 M2 F2
    have i1 : (3490 : Int32) + 121 * nI f + nI m = nI (3490 + (121 * f + m)) := by rw [show (121 : Int32) = nI 121 from rfl, show (3490 : Int32) = nI 3490 from rfl, nI_muln, nI_addn, nI_addn, Nat.add_assoc]
    have i2 : (121 : Int32) * nI f + nI m = nI (121 * f + m) := by rw [show (121 : Int32) = nI 121 from rfl, nI_muln, nI_addn]
    have hs : arS (M.1 95) f (m + 1) = lmt (arL (M.1 95) f m (arS (M.1 95) f m) (arN (M.1 95) f m (arS (M.1 95) f m))) := rfl
    -- late
    have hlate : ∃ M3, (if decide (lg_cmp (arN (M.1 95) f m (arS (M.1 95) f m)) 0 ≤ 0) = true then some (arN (M.1 95) f m (arS (M.1 95) f m), M2) else ((f_Mo_names_94 (nI f) (nI m) 0 (arS (M.1 95) f m).toInt32 M2).bind fun q25 => (f_Mo_ruleBy_94 3 (nI m) q25).bind fun q26 => some (arN (M.1 95) f m (arS (M.1 95) f m) + ((arN (M.1 95) f m (arS (M.1 95) f m) * q26.1.toInt64) / 100), q26.2))) = some (arL (M.1 95) f m (arS (M.1 95) f m) (arN (M.1 95) f m (arS (M.1 95) f m)), M3) ∧ Fr sNm M2 M3 := by
      unfold arL
      by_cases c : decide (lg_cmp (arN (M.1 95) f m (arS (M.1 95) f m)) 0 ≤ 0) = true
      · rw [if_pos c, if_pos c]; exact ⟨M2, rfl, Fr.refl M2⟩
      · rw [if_neg c, if_neg c]
        obtain ⟨M3, h1, h2, h3⟩ := e_names (M := M2) (m := m) (u := 0) (o := (arS (M.1 95) f m).toInt32) (by rw [e2]; exact hf) (by rw [e2]; exact W0)
        rw [e2] at h3
        have e3 : M3.1 95 = M.1 95 := (h2.row (fun i => rfl)).trans e2
        obtain ⟨M4, l1, l2⟩ := e_ruleBy (M := M3) (C := C) (w := 3) (m := nI m) (N := Nm (M.1 95) f 0 (kd (M.1 95) f m) (arS (M.1 95) f m).toInt32) (by rw [e3]; exact R) (by rw [e3]; have := (nt_inb wn.2.2.2.1).2; omega) (by rw [e3]; exact (nt_inb wn.2.2.2.1).1) h3
        rw [e3] at l1
        refine ⟨M4, ?_, h2.trans (l2.mono sW_sNm)⟩
        rw [h1, Option.bind_some, l1]; rfl
    obtain ⟨M3, h1, h2⟩ := hlate
    have F3 : Fr (sA2 f) M M3 := F2.trans ((h2.mono sNm_sB).mono (sB_sA2 f))
    refine ⟨(arS (M.1 95) f (m + 1), nI (m + 1), wI M3 110 (121 * f + m) (arS (M.1 95) f (m + 1)).toInt32), ?_, by dsimp only, by dsimp only, F3.wI (by unfold sA2; simp; omega), ?_, fun j hjm => ?_⟩
    · unfold b_Mo_arrears_94_28 jn_ jv_
      dsimp only
      rw [show (120 : Int32) = nI 120 from rfl, dle_t (by omega) (by omega), ite_tt, g1, Option.bind_some]
      dsimp only
      rw [i1, i2, inb_t (show 3490 + (121 * f + m) < 4700 by omega) (by omega), ite_tt, nI_cl (by omega), inb_t (show 121 * f + m < 1210 by omega) (by omega), nI_cl (by omega), e2, nI_one]
      simp only [↓reduceIte]
      have hx : arS (M.1 95) f m + (blS (M.1 95) f m (arS (M.1 95) f m).toInt32 - M.1 95 (3490 + (121 * f + m))).toInt64 = arN (M.1 95) f m (arS (M.1 95) f m) := rfl
      rw [hx]
      have hfin : ∀ r : Int64 × Mem, (some (Sum.inl ((if decide (lg_cmp r.1 1000000000 ≤ 0) = true then (if decide (lg_cmp r.1 (-1000000000) < 0) = true then (-1000000000 : Int64) else r.1) else 1000000000), nI (m + 1), wI r.2 110 (121 * f + m) ((if decide (lg_cmp r.1 1000000000 ≤ 0) = true then (if decide (lg_cmp r.1 (-1000000000) < 0) = true then (-1000000000 : Int64) else r.1) else 1000000000)).toInt32)) : Option ((Int64 × Int32 × Mem) ⊕ Mem)) = some (Sum.inl (lmt r.1, nI (m + 1), wI r.2 110 (121 * f + m) (lmt r.1).toInt32)) := fun r => by rw [lmt_eq]
      rw [hs]
      by_cases c : decide (lg_cmp (arN (M.1 95) f m (arS (M.1 95) f m)) 0 ≤ 0) = true
      · rw [if_pos c] at h1 ⊢
        obtain ⟨-, hM⟩ := Prod.mk.inj (Option.some.inj h1)
        subst hM
        have hh : arL (M.1 95) f m (arS (M.1 95) f m) (arN (M.1 95) f m (arS (M.1 95) f m)) = arN (M.1 95) f m (arS (M.1 95) f m) := by unfold arL; rw [if_pos c]
        rw [hh]
        exact hfin (arN (M.1 95) f m (arS (M.1 95) f m), M2)
      · rw [if_neg c] at h1 ⊢
        cases hn : f_Mo_names_94 (nI f) (nI m) 0 (arS (M.1 95) f m).toInt32 M2 with
        | none => rw [hn] at h1; cases h1
        | some q25 =>
          rw [hn, Option.bind_some] at h1
          cases hr : f_Mo_ruleBy_94 3 (nI m) q25 with
          | none => rw [hr] at h1; cases h1
          | some q26 =>
            rw [hr, Option.bind_some] at h1
            have h1 := Option.some.inj h1
            rw [Option.bind_some, hr, Option.bind_some]
            have := hfin (arN (M.1 95) f m (arS (M.1 95) f m) + arN (M.1 95) f m (arS (M.1 95) f m) * q26.1.toInt64 / 100, q26.2)
            rw [h1] at this
            rw [← (Prod.mk.inj h1).1, ← (Prod.mk.inj h1).2]
            rw [← (Prod.mk.inj h1).1, ← (Prod.mk.inj h1).2] at this
            exact this
    · refine ⟨fun g hg => ?_, fun g hg hgk m' hm' => ?_⟩
      · obtain ⟨j, j1, j2⟩ := g3.1 g hg
        refine ⟨j, j1, ?_⟩
        show M3.1 109 g = _
        rw [h2.at_ rfl]; exact j2
      have e4 : (wI M3 110 (121 * f + m) (arS (M.1 95) f (m + 1)).toInt32).1 95 = M2.1 95 := h2.row (fun i => rfl)
      rw [e4] at hg ⊢
      show M3.1 108 _ = _
      rw [h2.at_ rfl]
      refine g3.2 g hg ?_ m' hm'
      have : (wI M3 110 (121 * f + m) (arS (M.1 95) f (m + 1)).toInt32).1 109 g = M2.1 109 g := h2.at_ rfl
      rw [← this]; exact hgk
    · dsimp only
      by_cases c : j = m
      · rw [c, rde]
      · rw [rdi (by omega), h2.at_ rfl, g2.at_ rfl]; exact hj j (by omega)
  · rintro ⟨v, i, M1⟩ ⟨-, hi, hF, hU, hj⟩
    dsimp only at hi hF hU hj
    refine ⟨M1, ?_, hF, hU, hj⟩
    unfold b_Mo_arrears_94_28
    dsimp only
    rw [hi, show (120 : Int32) = nI 120 from rfl, dle_f (by omega) (by omega), ite_ff]
def sAr (a i : Nat) : Bool := sB a i || (a == 110 || a == 111)
theorem e_Mo_arrears {f m k : Nat} (hf : f < nt (M.1 95) 1) (hm : m < 121) (W : Wm (M.1 95)) (S : stK M k) (U : CvU M k) (A : CvA M k) : ∃ M', f_Mo_arrears_94 (nI f) (nI m) M = some ((arS (M.1 95) f (m + 1)).toInt32, M') ∧ Fr sAr M M' ∧ CvU M' k ∧ CvA M' k := by
  have hF10 : f < 10 := by have := (nt_inb W.1.2.1).2; omega
  have i2 : (121 : Int32) * nI f + nI m = nI (121 * f + m) := by rw [show (121 : Int32) = nI 121 from rfl, nI_muln, nI_addn]
  unfold f_Mo_arrears_94 jn_ jv_
  dsimp only
  rw [inb_t hF10 (by omega), ite_tt, nI_cl (by omega), S.1, i2, inb_t (show 121 * f + m < 1210 by omega) (by omega), nI_cl (by omega)]
  simp only [↓reduceIte]
  by_cases c : M.1 111 f = nI k
  · rw [decide_eq_true c, ite_tt, A.2 f hf c m hm]
    exact ⟨M, rfl, Fr.refl M, U, A⟩
  · rw [decide_eq_false c, ite_ff]
    obtain ⟨M1, h1, h2, h3, h4⟩ := e_arLoop (M := wI M 111 f (nI k)) (k := k) hf W S U
    rw [h1, Option.bind_some, h4 m hm]
    have e95 : M1.1 95 = M.1 95 := h2.row (fun i => rfl)
    refine ⟨M1, rfl, ((Fr.refl M).wI (by unfold sAr; simp)).trans (h2.mono (fun a i h => by
      unfold sA2 at h; unfold sAr
      simp only [Bool.or_eq_true, Bool.and_eq_true, beq_iff_eq, decide_eq_true_eq] at h ⊢
      rcases h with h | h
      · exact .inl h
      · exact .inr (.inl h.1))), h3, ⟨fun g hg => ?_, ?_⟩⟩
    · by_cases d : g = f
      · subst d; exact ⟨k, Nat.le_refl _, by rw [h2.at_ rfl, rde]⟩
      · obtain ⟨j, j1, j2⟩ := A.1 g hg
        exact ⟨j, j1, by rw [h2.at_ rfl, rdi d]; exact j2⟩
    intro g hg hgk m' hm'
    rw [e95] at hg ⊢
    by_cases d : g = f
    · subst d; exact h4 m' hm'
    · have : M1.1 111 g = M.1 111 g := by rw [h2.at_ rfl, rdi d]
      rw [this] at hgk
      rw [h2.at_ (by unfold sA2 sB sNm; simp; omega)]
      exact A.2 g hg hgk m' hm'
end AM
