section O20
def bwN (h : Nat → Nat) (k : Nat) : Nat → Nat
  | 0 => 0
  | d + 1 => max (bwN h k d) (h (k - 1 - d))
def laN (h p : Nat → Nat) (k : Nat) : Nat → Nat
  | 0 => 48
  | d + 1 => if bwN h k d ≤ max (h k) (h (k - 1 - d)) then min (laN h p k d) (p (k - 1 - d) + 1) else laN h p k d
def moN (h p : Nat → Nat) (k : Nat) : Nat → Nat
  | 0 => 1000000
  | d + 1 => if bwN h k d ≤ max (h k) (h (k - 1 - d)) then (if p (k - 1 - d) + 1 < moN h p k d then p (k - 1 - d) + 1 else moN h p k d) else moN h p k d
def allm (h : Nat → Nat) (k i : Nat) : Nat → Bool
  | 0 => true
  | t + 1 => allm h k i t && (decide (h (i + 1 + t) ≤ h i) || decide (h (i + 1 + t) ≤ h k))
def polT (h : Nat → Nat) (sp : Nat) : Nat → Nat → Nat
  | 0 => fun _ => 1
  | k + 1 => fun j => if j = k + 1 then laN h (polT h sp k) (k + 1) (min (k + 1) sp) else polT h sp k j
def polN (h : Nat → Nat) (sp k : Nat) : Nat := polT h sp k k
theorem polT_st {h : Nat → Nat} {sp : Nat} : ∀ i j, j ≤ i → polT h sp i j = polN h sp j
  | 0, j, hj => by rw [show j = 0 by omega]; rfl
  | i + 1, j, hj => by
    by_cases c : j = i + 1
    · rw [c]; rfl
    · show (if j = i + 1 then _ else polT h sp i j) = _
      rw [if_neg c]; exact polT_st i j (by omega)
theorem la_congr {h p q : Nat → Nat} {k : Nat} (hk : 1 ≤ k) (e : ∀ j, j < k → p j = q j) : ∀ d, laN h p k d = laN h q k d
  | 0 => rfl
  | d + 1 => by
    show (if _ then min (laN h p k d) (p (k - 1 - d) + 1) else laN h p k d) = (if _ then min (laN h q k d) (q (k - 1 - d) + 1) else laN h q k d)
    rw [la_congr hk e d, e (k - 1 - d) (by omega)]
theorem pl_s {h : Nat → Nat} {sp k : Nat} : polN h sp (k + 1) = laN h (polN h sp) (k + 1) (min (k + 1) sp) := by
  show (if k + 1 = k + 1 then laN h (polT h sp k) (k + 1) (min (k + 1) sp) else _) = _
  rw [if_pos rfl]
  exact la_congr (by omega) (fun j hj => polT_st k j (by omega)) _
theorem la_le {h p : Nat → Nat} {k : Nat} : ∀ d, 1 ≤ d → laN h p k d ≤ p (k - 1) + 1
  | 0, h => by omega
  | 1, _ => by
    show (if 0 ≤ max (h k) (h (k - 1 - 0)) then min 48 (p (k - 1 - 0) + 1) else 48) ≤ _
    rw [if_pos (Nat.zero_le _), Nat.sub_zero]
    exact Nat.min_le_right _ _
  | d + 2, _ => by
    have ih := la_le (h := h) (p := p) (k := k) (d + 1) (by omega)
    show (if _ then min (laN h p k (d + 1)) _ else laN h p k (d + 1)) ≤ _
    split
    · exact Nat.le_trans (Nat.min_le_left _ _) ih
    · exact ih
theorem la_48 {h p : Nat → Nat} {k : Nat} : ∀ d, laN h p k d ≤ 48
  | 0 => Nat.le_refl _
  | d + 1 => by
    have ih := la_48 (h := h) (p := p) (k := k) d
    show (if _ then min (laN h p k d) _ else laN h p k d) ≤ _
    split
    · exact Nat.le_trans (Nat.min_le_left _ _) ih
    · exact ih
theorem pl_le {h : Nat → Nat} {sp : Nat} (hs : 1 ≤ sp) : ∀ k, polN h sp k ≤ k + 1
  | 0 => Nat.le_refl _
  | k + 1 => by
    rw [pl_s]
    have := la_le (h := h) (p := polN h sp) (k := k + 1) (min (k + 1) sp) (by omega)
    have ih := pl_le (h := h) hs k
    rw [Nat.add_sub_cancel] at this
    omega
theorem mo_la {h p : Nat → Nat} {k : Nat} (hp : p (k - 1) + 1 ≤ 48) : ∀ d, 1 ≤ d → moN h p k d = laN h p k d
  | 0, h => by omega
  | 1, _ => by
    show (if 0 ≤ max (h k) (h (k - 1 - 0)) then (if p (k - 1 - 0) + 1 < 1000000 then p (k - 1 - 0) + 1 else 1000000) else 1000000) = (if 0 ≤ max (h k) (h (k - 1 - 0)) then min 48 (p (k - 1 - 0) + 1) else 48)
    rw [if_pos (Nat.zero_le _), if_pos (Nat.zero_le _), Nat.sub_zero, if_pos (by omega)]
    omega
  | d + 2, _ => by
    have ih := mo_la (h := h) (p := p) (k := k) hp (d + 1) (by omega)
    show (if bwN h k (d + 1) ≤ max (h k) (h (k - 1 - (d + 1))) then (if p (k - 1 - (d + 1)) + 1 < moN h p k (d + 1) then p (k - 1 - (d + 1)) + 1 else moN h p k (d + 1)) else moN h p k (d + 1)) = (if bwN h k (d + 1) ≤ max (h k) (h (k - 1 - (d + 1))) then min (laN h p k (d + 1)) (p (k - 1 - (d + 1)) + 1) else laN h p k (d + 1))
    rw [ih]
    split
    · split <;> omega
    · rfl
theorem bw_iff {h : Nat → Nat} {k x : Nat} : ∀ d, bwN h k d ≤ x ↔ ∀ e, e < d → h (k - 1 - e) ≤ x
  | 0 => ⟨fun _ e he => by omega, fun _ => Nat.zero_le _⟩
  | d + 1 => by
    show max (bwN h k d) (h (k - 1 - d)) ≤ x ↔ _
    rw [Nat.max_le, bw_iff d]
    constructor
    · rintro ⟨h1, h2⟩ e he
      by_cases c : e = d
      · rw [c]; exact h2
      · exact h1 e (by omega)
    · intro h1
      exact ⟨fun e he => h1 e (by omega), h1 d (by omega)⟩
theorem allm_iff {h : Nat → Nat} {k i : Nat} : ∀ t, allm h k i t = true ↔ ∀ e, e < t → h (i + 1 + e) ≤ max (h k) (h i)
  | 0 => ⟨fun _ e he => by omega, fun _ => rfl⟩
  | t + 1 => by
    show (allm h k i t && (decide (h (i + 1 + t) ≤ h i) || decide (h (i + 1 + t) ≤ h k))) = true ↔ _
    rw [Bool.and_eq_true, allm_iff t, Bool.or_eq_true, decide_eq_true_eq, decide_eq_true_eq]
    constructor
    · rintro ⟨h1, h2⟩ e he
      by_cases c : e = t
      · rw [c]; omega
      · exact h1 e (by omega)
    · intro h1
      have := h1 t (by omega)
      exact ⟨fun e he => h1 e (by omega), by omega⟩
theorem allm_bw {h : Nat → Nat} {k d : Nat} (hd : d < k) : allm h k (k - 1 - d) d = decide (bwN h k d ≤ max (h k) (h (k - 1 - d))) := by
  rw [Bool.eq_iff_iff, allm_iff, decide_eq_true_eq, bw_iff]
  constructor
  · intro h1 e he
    have := h1 (d - 1 - e) (by omega)
    rw [show k - 1 - d + 1 + (d - 1 - e) = k - 1 - e by omega] at this
    exact this
  · intro h1 e he
    have := h1 (d - 1 - e) (by omega)
    rw [show k - 1 - (d - 1 - e) = k - 1 - d + 1 + e by omega] at this
    exact this
theorem jmax_nI {a b : Nat} (ha : a < 2147483648) (hb : b < 2147483648) : jmax (nI a) (nI b) = nI (max a b) := by
  unfold jmax
  by_cases c : a < b
  · rw [if_pos (of_decide_eq_true (dlt_t c hb)), Nat.max_eq_right (by omega)]
  · rw [if_neg (of_decide_eq_false (dlt_f (by omega) ha)), Nat.max_eq_left (by omega)]
theorem jmin_nI {a b : Nat} (ha : a < 2147483648) (hb : b < 2147483648) : jmin (nI a) (nI b) = nI (min a b) := by
  unfold jmin
  by_cases c : b < a
  · rw [if_pos (of_decide_eq_true (dlt_t c ha)), Nat.min_eq_right (by omega)]
  · rw [if_neg (of_decide_eq_false (dlt_f (by omega) hb)), Nat.min_eq_left (by omega)]
def s28 (a _i : Nat) : Bool := a == 28
theorem s28_sCs : ∀ a i, s28 a i = true → sCs a i = true := fun a i h => by
  unfold s28 at h; unfold sCs
  simp only [Bool.or_eq_true, Bool.and_eq_true, beq_iff_eq, decide_eq_true_eq] at h ⊢; omega
section PO
variable {M : Mem} {h : Nat → Nat} {sp n : Nat}
theorem bw_lt (hh : ∀ j, j ≤ n → h j < 10) {k : Nat} (hk : k ≤ n) : ∀ d, bwN h k d < 10
  | 0 => by show 0 < 10; omega
  | d + 1 => by
    have := hh (k - 1 - d) (by omega)
    have ih := bw_lt hh hk d
    show max (bwN h k d) (h (k - 1 - d)) < 10
    omega
/-- class's inner loop -/
theorem e_polC {k : Nat} (hk1 : 1 ≤ k) (hk : k ≤ n) (hn : n < 48) (hh : ∀ j, j ≤ n → h j < 10) (e3 : M.1 24 3 = nI sp) (hs : sp < 6) (hw : ∀ j, j ≤ n → atv (M.1 3) 48 (atv (M.1 27) 48 (nI j)) = nI (h j)) (hf : ∀ j, j < k → M.1 28 j = nI (polN h sp j)) (hs1 : 1 ≤ sp) : itr (b_Line_polesTo_24_2_55 (nI k, M)) FU (48, 0, nI k - 1) = some (nI (polN h sp k)) := by
  obtain ⟨k', rfl⟩ : ∃ k', k = k' + 1 := ⟨k - 1, by omega⟩
  have hst : nI (k' + 1) - 1 = nI (k' + 1 - 1 - 0) := by rw [show (1 : Int32) = nI 1 from rfl, nI_subn (by omega) (by omega)]; rfl
  obtain ⟨e, h1, h2⟩ := itr_cnt (body := b_Line_polesTo_24_2_55 (nI (k' + 1), M)) (s0 := ((48 : Int32), (0 : Int32), nI (k' + 1) - 1)) (fun d s => s.1 = nI (laN h (polN h sp) (k' + 1) d) ∧ s.2.1 = nI (bwN h (k' + 1) d) ∧ (d < k' + 1 → s.2.2 = nI (k' + 1 - 1 - d)) ∧ (d = k' + 1 → s.2.2 = -1)) (fun e => e = nI (polN h sp (k' + 1))) (min (k' + 1) sp) (by omega) ⟨rfl, rfl, fun _ => hst, fun h => by omega⟩ (by
    rintro d ⟨x, y, z⟩ hd ⟨rfl, rfl, hz, -⟩
    have hz' := hz (by omega)
    dsimp only at hz'
    subst hz'
    left
    refine ⟨(nI (laN h (polN h sp) (k' + 1) (d + 1)), nI (bwN h (k' + 1) (d + 1)), nI (k' + 1 - 1 - d) + (-1)), ?_, rfl, rfl, dn_1⟩
    have b1 := bw_lt hh hk d
    have b2 := hh (k' + 1) hk
    have b3 := hh (k' + 1 - 1 - d) (by omega)
    have b4 := la_48 (h := h) (p := polN h sp) (k := k' + 1) d
    have b5 := pl_le (h := h) hs1 (k' + 1 - 1 - d)
    unfold b_Line_polesTo_24_2_55 jv_
    dsimp only
    rw [nI_nneg (by omega), ite_ff, e3, nI_subn (by omega) (by omega), dle_t (by omega) (by omega), ite_tt, hw (k' + 1) hk, hw (k' + 1 - 1 - d) (by omega), jmax_nI (by omega) (by omega), jmax_nI (by omega) (by omega), atv_nI (by omega) (by omega), hf _ (by omega), nI_one, jmin_nI (by omega) (by omega), d_le (by omega) (by omega)]
    show _ = some (Sum.inl (nI (if bwN h (k' + 1) d ≤ max (h (k' + 1)) (h (k' + 1 - 1 - d)) then min (laN h (polN h sp) (k' + 1) d) (polN h sp (k' + 1 - 1 - d) + 1) else laN h (polN h sp) (k' + 1) d), nI (max (bwN h (k' + 1) d) (h (k' + 1 - 1 - d))), _))
    by_cases c : bwN h (k' + 1) d ≤ max (h (k' + 1)) (h (k' + 1 - 1 - d))
    · rw [if_pos (decide_eq_true c), if_pos c]
    · rw [if_neg (by rw [decide_eq_true_eq]; exact c), if_neg c]) (by
    rintro ⟨x, y, z⟩ ⟨rfl, rfl, hz, hz2⟩
    dsimp only at hz hz2
    refine ⟨nI (polN h sp (k' + 1)), ?_, rfl⟩
    unfold b_Line_polesTo_24_2_55
    dsimp only
    by_cases c : min (k' + 1) sp = k' + 1
    · rw [hz2 c, if_pos m1_neg, pl_s]
    · rw [hz (by omega), nI_nneg (by omega), ite_ff, e3, nI_subn (by omega) (by omega), dle_f (by omega) (by omega), ite_ff, pl_s])
  rw [h1, h2]
theorem e_polesTo {σ : Nat → Int32} (I : Rline M.1 σ) (L : Rland M.1 σ) (wl : wLand σ) (h9 : inb (σ 9) 48 = true) (h5 : inb (σ 5) 48 = true) (h7 : inb (σ 7) 6 = true ∧ σ 7 ≠ 0) {c : Nat} (hc : c < 48) (ho : onL σ c = true) : ∃ M', f_Line_polesTo_24_2 (nI c) M = some (nI (polN (fun k => nt σ (20 + anc σ c k)) (nt σ 7) (mil σ c)), M') ∧ Fr sCs M M' := by
  obtain ⟨M1, m1, m2, m3, m4⟩ := e_climb I h9 h5 hc
  have m4 := m4 ho
  obtain ⟨P, hml⟩ := path_mil' I.2.2.2.2 h9 h5 hc ho
  have l5 := (nt_inb h5).2
  obtain ⟨e7, l7⟩ := nt_inb h7.1
  have hs1 : 1 ≤ nt σ 7 := by
    rcases Nat.eq_zero_or_pos (nt σ 7) with z | z
    · rw [z] at e7; exact absurd e7 h7.2
    · exact z
  have ha : ∀ j, j ≤ mil σ c → anc σ c j < 48 := fun j hj => by
    by_cases g : j = mil σ c
    · rw [g]; exact P.2.2
    · exact (P.1 j (by omega)).2.2
  generalize hn : mil σ c = n at *
  generalize hsp : nt σ 7 = sp at *
  have hh : ∀ j, j ≤ n → (fun k => nt σ (20 + anc σ c k)) j < 10 := fun j hj => (nt_inb (wl.1 _ (ha j hj)).1).2
  have hw : ∀ X : Mem, Fr s28 (wI M1 28 0 1) X → ∀ j, j ≤ n → atv (X.1 3) 48 (atv (X.1 27) 48 (nI j)) = nI ((fun k => nt σ (20 + anc σ c k)) j) := fun X hX j hj => by
    rw [hX.row (a := 27) (fun _ => rfl), rdk (by omega), atv_nI (by omega) (by omega), m4 j hj, atv_nI (ha j hj) (by have := ha j hj; omega), hX.row (a := 3) (fun _ => rfl), rdk (by omega), m2.row (a := 3) (fun _ => rfl), (L.2.2.1 _ (ha j hj)).1]
    exact (nt_inb (wl.1 _ (ha j hj)).1).1
  generalize hhd : (fun k => nt σ (20 + anc σ c k)) = h at *
  unfold f_Line_polesTo_24_2 jv_
  rw [m1, Option.bind_some]
  dsimp only
  rw [show putv M1 28 48 0 1 = wI M1 28 0 1 from putv_nI (i := 0) (by omega) (by omega)]
  obtain ⟨X, h1, h2, h3⟩ := itr_cnt (body := b_Line_polesTo_24_2_18 (nI n, M1)) (s0 := ((1 : Int32), wI M1 28 0 1)) (fun k s => s.1 = nI (k + 1) ∧ Fr s28 (wI M1 28 0 1) s.2 ∧ ∀ j, j < k + 1 → s.2.1 28 j = nI (polN h sp j)) (fun X => Fr s28 (wI M1 28 0 1) X ∧ X.1 28 n = nI (polN h sp n)) n (by omega) ⟨rfl, Fr.refl _, fun j hj => by rw [show j = 0 by omega]; exact rde⟩ (by
    rintro k ⟨x, X⟩ hk ⟨rfl, hF, hr⟩
    dsimp only at hF hr
    left
    have hin := e_polC (M := X) (h := h) (sp := sp) (n := n) (k := k + 1) (by omega) (by omega) (by omega) hh (by rw [hF.row (a := 24) (fun _ => rfl), rdk (by omega), m2.row (a := 24) (fun _ => rfl), I.2.1]; exact e7) (by omega) (hw X hF) hr hs1
    refine ⟨(nI (k + 2), wI X 28 (k + 1) (nI (polN h sp (k + 1)))), ?_, rfl, hF.trans ((Fr.refl X).wI rfl), fun j hj => ?_⟩
    · unfold b_Line_polesTo_24_2_18 jv_
      dsimp only
      rw [dle_t (by omega) (by omega), ite_tt, hin, Option.bind_some, putv_nI (by omega) (by omega), nI_one]
    · dsimp only
      by_cases g : j = k + 1
      · rw [g]; exact rde
      · rw [rdi g]; exact hr j (by omega)) (by
    rintro ⟨x, X⟩ ⟨rfl, hF, hr⟩
    dsimp only at hF hr
    refine ⟨X, ?_, hF, hr n (by omega)⟩
    unfold b_Line_polesTo_24_2_18
    dsimp only
    rw [dle_f (by omega) (by omega), ite_ff])
  rw [h1, Option.bind_some, atv_nI (by omega) (by omega), h3]
  exact ⟨X, rfl, ((m2.mono s27_sCs).wI rfl).trans (h2.mono s28_sCs)⟩
def sPo (a _i : Nat) : Bool := a == 101 || a == 102
theorem sPo_sMs : ∀ a i, sPo a i = true → sMs a i = true := fun a i h => by
  unfold sPo at h; unfold sMs
  simp only [Bool.or_eq_true, Bool.and_eq_true, beq_iff_eq, decide_eq_true_eq] at h ⊢; omega
/-- the model: whether a pole's wire hangs free -/
theorem e_polM1 {k i : Nat} (hik : i < k) (hk : k ≤ n) (hn : n < 48) (hh : ∀ j, j ≤ n → h j < 10) (hw : ∀ j, j ≤ n → M.1 101 j = nI (h j)) (X : Mem) : itr (b_Mo_pole_94_169 (nI k, X) (nI i, M)) FU (1, nI i + 1) = some (bI (allm h k i (k - 1 - i))) := by
  obtain ⟨e, h1, h2⟩ := itr_cnt (body := b_Mo_pole_94_169 (nI k, X) (nI i, M)) (s0 := ((1 : Int32), nI i + 1)) (fun t s => s.1 = bI (allm h k i t) ∧ s.2 = nI (i + 1 + t)) (fun e => e = bI (allm h k i (k - 1 - i))) (k - 1 - i) (by omega) ⟨rfl, nI_one i⟩ (by
    rintro t ⟨x, y⟩ ht ⟨rfl, rfl⟩
    left
    refine ⟨(bI (allm h k i (t + 1)), nI (i + 1 + (t + 1))), ?_, rfl, rfl⟩
    have b1 := hh (i + 1 + t) (by omega)
    have b2 := hh i (by omega)
    have b3 := hh k (by omega)
    unfold b_Mo_pole_94_169
    dsimp only
    rw [dlt_t (by omega) (by omega), ite_tt, inb_t (by omega) (by omega), inb_t (by omega) (by omega), inb_t (by omega) (by omega), ite_tt, ite_tt, ite_tt, ite_tt, nI_cl (by omega), nI_cl (by omega), nI_cl (by omega), hw _ (by omega), hw _ (by omega), hw _ (by omega), d_le (by omega) (by omega), d_le (by omega) (by omega), nI_one, show i + 1 + t + 1 = i + 1 + (t + 1) by omega]
    show _ = some (Sum.inl (bI (allm h k i t && (decide (h (i + 1 + t) ≤ h i) || decide (h (i + 1 + t) ≤ h k))), _))
    cases allm h k i t
    · rfl
    · cases decide (h (i + 1 + t) ≤ h i)
      · cases decide (h (i + 1 + t) ≤ h k) <;> rfl
      · rfl) (by
    rintro ⟨x, y⟩ ⟨rfl, rfl⟩
    refine ⟨_, ?_, rfl⟩
    unfold b_Mo_pole_94_169
    dsimp only
    rw [dlt_f (by omega) (by omega), ite_ff])
  rw [h1, h2]
theorem mo_le {p : Nat → Nat} {k : Nat} : ∀ d, moN h p k d ≤ 1000000
  | 0 => Nat.le_refl _
  | d + 1 => by
    have ih := mo_le (p := p) (k := k) d
    show (if _ then (if p (k - 1 - d) + 1 < moN h p k d then p (k - 1 - d) + 1 else moN h p k d) else moN h p k d) ≤ _
    split
    · by_cases g : p (k - 1 - d) + 1 < moN h p k d
      · rw [if_pos g]; omega
      · rw [if_neg g]; exact ih
    · exact ih
theorem e_polM2 {k : Nat} (hk1 : 1 ≤ k) (hk : k ≤ n) (hn : n < 48) (hh : ∀ j, j ≤ n → h j < 10) (e7 : M.1 95 7 = nI sp) (hs : sp < 6) (hs1 : 1 ≤ sp) (hw : ∀ j, j ≤ n → M.1 101 j = nI (h j)) (hf : ∀ j, j < k → M.1 102 j = nI (polN h sp j)) (h0 : M.1 102 k = 1000000) (X : Mem) : ∃ M', itr (b_Mo_pole_94_140 (nI k, X)) FU (nI k - 1, M) = some M' ∧ Fr (fun a i => a == 102 && i == k) M M' ∧ M'.1 102 k = nI (polN h sp k) := by
  obtain ⟨k', rfl⟩ : ∃ k', k = k' + 1 := ⟨k - 1, by omega⟩
  have hst : nI (k' + 1) - 1 = nI (k' + 1 - 1 - 0) := by rw [show (1 : Int32) = nI 1 from rfl, nI_subn (by omega) (by omega)]; rfl
  have hp1 := pl_le (h := h) hs1 k'
  obtain ⟨e, h1, h2, h3⟩ := itr_cnt (body := b_Mo_pole_94_140 (nI (k' + 1), X)) (s0 := (nI (k' + 1) - 1, M)) (fun d s => Fr (fun a i => a == 102 && i == k' + 1) M s.2 ∧ s.2.1 102 (k' + 1) = nI (moN h (polN h sp) (k' + 1) d) ∧ (d < k' + 1 → s.1 = nI (k' + 1 - 1 - d)) ∧ (d = k' + 1 → s.1 = -1)) (fun M' => Fr (fun a i => a == 102 && i == k' + 1) M M' ∧ M'.1 102 (k' + 1) = nI (moN h (polN h sp) (k' + 1) (min (k' + 1) sp))) (min (k' + 1) sp) (by omega) ⟨Fr.refl _, h0, fun _ => hst, fun h => by omega⟩ (by
    rintro d ⟨z, Y⟩ hd ⟨hF, hm, hz, -⟩
    have hz' := hz (by omega)
    dsimp only at hz' hF hm
    subst hz'
    left
    have hr : ∀ j, j < k' + 1 → Y.1 102 j = nI (polN h sp j) := fun j hj => by
      rw [hF.at_ (by simp only [Bool.and_eq_false_iff, beq_eq_false_iff_ne]; omega)]; exact hf j hj
    have hin := e_polM1 (M := Y) (h := h) (n := n) (k := k' + 1) (i := k' + 1 - 1 - d) (by omega) hk hn hh (fun j hj => by rw [hF.row (a := 101) (fun _ => rfl)]; exact hw j hj) X
    rw [show k' + 1 - 1 - (k' + 1 - 1 - d) = d by omega, allm_bw (by omega)] at hin
    refine ⟨(nI (k' + 1 - 1 - d) + (-1), wI Y 102 (k' + 1) (nI (moN h (polN h sp) (k' + 1) (d + 1)))), ?_, hF.wI (by simp), rde, dn_1⟩
    have b4 := mo_le (h := h) (p := polN h sp) (k := k' + 1) d
    have b5 := pl_le (h := h) hs1 (k' + 1 - 1 - d)
    unfold b_Mo_pole_94_140 jv_ jn_
    dsimp only
    rw [nI_nneg (by omega), ite_ff, hF.row (a := 95) (fun _ => rfl), e7, show decide (nI (k' + 1 - 1 - d) < nI (k' + 1) - nI sp) = false by
      rw [decide_eq_false_iff_not, i_lt, sub_toI (by omega) (by omega), nI_toI (by omega)]; omega, ite_ff, hin, Option.bind_some, inb_t (by omega) (by omega), inb_t (by omega) (by omega), ite_tt, ite_tt, ite_tt, ite_tt, ite_tt, nI_cl (by omega), nI_cl (by omega), hr (k' + 1 - 1 - d) (by omega), hm, nI_one, d_lt (by omega) (by omega)]
    show _ = some (Sum.inl (_, wI Y 102 (k' + 1) (nI (if bwN h (k' + 1) d ≤ max (h (k' + 1)) (h (k' + 1 - 1 - d)) then (if polN h sp (k' + 1 - 1 - d) + 1 < moN h (polN h sp) (k' + 1) d then polN h sp (k' + 1 - 1 - d) + 1 else moN h (polN h sp) (k' + 1) d) else moN h (polN h sp) (k' + 1) d))))
    by_cases c : bwN h (k' + 1) d ≤ max (h (k' + 1)) (h (k' + 1 - 1 - d))
    · rw [decide_eq_true c, if_pos c, if_neg (by decide)]
      by_cases g : polN h sp (k' + 1 - 1 - d) + 1 < moN h (polN h sp) (k' + 1) d
      · rw [if_pos (decide_eq_true g), if_pos g]; rfl
      · rw [if_neg (by rw [decide_eq_true_eq]; exact g), if_neg g]
    · rw [decide_eq_false c, if_neg c, if_pos (by decide)]) (by
    rintro ⟨z, Y⟩ ⟨hF, hm, hz, hz2⟩
    dsimp only at hz hz2 hF hm
    refine ⟨Y, ?_, hF, hm⟩
    unfold b_Mo_pole_94_140
    dsimp only
    by_cases c : min (k' + 1) sp = k' + 1
    · rw [hz2 c, if_pos m1_neg]
    · rw [hz (by omega), nI_nneg (by omega), ite_ff, hF.row (a := 95) (fun _ => rfl), e7, show decide (nI (k' + 1 - 1 - min (k' + 1) sp) < nI (k' + 1) - nI sp) = true by
        rw [decide_eq_true_eq, i_lt, sub_toI (by omega) (by omega), nI_toI (by omega)]; omega, ite_tt])
  refine ⟨e, h1, h2, ?_⟩
  rw [h3, mo_la (by rw [Nat.add_sub_cancel]; omega) _ (by omega), pl_s]
end PO
theorem op_pole : Op_pole Rel := by
  intro n M v0 hn H
  have W := Rel_W hn H
  obtain ⟨gB, gL, gI, gR, gP, gT, gK, gO, gN⟩ := RS1_gs H.1
  by_cases c0 : wthn v0 0 (M.1 95 1 - 1) = true
  rotate_left
  · refine ⟨-1, M, M, ?_, ?_, Rel_mono H (by omega)⟩
    · unfold f_CF_pole_0; rw [cf_farm H, Option.bind_some, if_neg c0]
    · unfold f_Mo_pole_94; rw [mo_farm, Option.bind_some, if_neg c0]
  obtain ⟨f, hf, rfl⟩ := farm_of W.1.2.1 c0
  have hF : nt (M.1 95) 1 ≤ 10 := by have := (nt_inb W.1.2.1).2; omega
  obtain ⟨ec, lc⟩ := nI_of_inb (gL.2.2.1 f hf).1
  have ec : M.1 95 (164 + f) = nI (cel (M.1 95) f) := ec
  have lc : cel (M.1 95) f < 48 := lc
  have hcel : f_Land_cellOf_2 (nI f) M = some (nI (cel (M.1 95) f)) := by
    unfold f_Land_cellOf_2
    rw [atv_nI (by omega) (by omega), (gL.1.2.2.2 f (by omega)).1, ec]
  generalize cel (M.1 95) f = c at *
  have h9 := W.1.2.2.2.2.2.2.2.2.2
  have h5 := W.1.2.2.2.2.2.1
  have h7 := W.1.2.2.2.2.2.2.2.1
  have hC : f_CF_pole_0 (nI f) M = if onL (M.1 95) c then ((f_Line_polesTo_24_2 (nI c) M).bind fun q6 => some (q6.1, q6.2)) else some (-3, M) := by
    unfold f_CF_pole_0
    rw [cf_farm H, Option.bind_some, if_pos c0, hcel, Option.bind_some, e_CF_isOnLine gI gL.1.2.1 lc, Option.bind_some]
  by_cases ho : onL (M.1 95) c = true
  rotate_left
  · refine ⟨-3, M, M, by rw [hC, if_neg ho], ?_, Rel_mono H (by omega)⟩
    unfold f_Mo_pole_94
    rw [mo_farm, Option.bind_some, if_pos c0, q164, nI_addn, inb_t (by omega) (by omega), ite_tt, nI_cl (by omega), ec, e_Mo_isOnLine lc, Option.bind_some, if_neg ho]
  obtain ⟨M1, m1, m2⟩ := e_polesTo gI gL.1 gL.2 h9 h5 h7 lc ho
  have H1 := RelC H m2
  have e1 : M1.1 95 = M.1 95 := m2.row (fun i => sCs_lo (by omega) i)
  rw [if_pos ho, m1, Option.bind_some] at hC
  obtain ⟨P, hml⟩ := path_mil' gI.2.2.2.2 h9 h5 lc ho
  have hml' := e_milesTo (M := M1) (τ := M.1 26) (by rw [e1]; exact gI.2.2.2.2) (by rw [e1]; exact h9) (by rw [e1]; exact h5) lc
  rw [e1] at hml'
  have l5 := (nt_inb h5).2
  obtain ⟨e7, l7⟩ := nt_inb h7.1
  have hs1 : 1 ≤ nt (M.1 95) 7 := by
    rcases Nat.eq_zero_or_pos (nt (M.1 95) 7) with z | z
    · rw [z] at e7; exact absurd e7 h7.2
    · exact z
  have ha : ∀ j, j ≤ mil (M.1 95) c → anc (M.1 95) c j < 48 := fun j hj => by
    by_cases g : j = mil (M.1 95) c
    · rw [g]; exact P.2.2
    · exact (P.1 j (by omega)).2.2
  have hup : ∀ j, j < mil (M.1 95) c → M.1 95 (116 + anc (M.1 95) c j) = nI (anc (M.1 95) c (j + 1)) := fun j hj => (P.1 j hj).2.1
  have han0 : anc (M.1 95) c 0 = c := rfl
  generalize hnn : mil (M.1 95) c = n' at *
  have hhe : ∀ j, j ≤ n' → M.1 95 (20 + anc (M.1 95) c j) = nI (nt (M.1 95) (20 + anc (M.1 95) c j)) ∧ nt (M.1 95) (20 + anc (M.1 95) c j) < 10 := fun j hj => nt_inb (gL.2.1 _ (ha j hj)).1
  -- heights
  obtain ⟨M2, a1, a2, a3⟩ := itr_cnt (body := b_Mo_pole_94_59 (nI n')) (s0 := (nI c, (0 : Int32), M1)) (fun k s => (k ≤ n' → s.1 = nI (anc (M.1 95) c k)) ∧ s.2.1 = nI k ∧ Fr sPo M1 s.2.2 ∧ ∀ j, j < k → s.2.2.1 101 j = nI (nt (M.1 95) (20 + anc (M.1 95) c j))) (fun X => Fr sPo M1 X ∧ ∀ j, j ≤ n' → X.1 101 j = nI (nt (M.1 95) (20 + anc (M.1 95) c j))) (n' + 1) (by omega) ⟨fun _ => by rw [han0], rfl, Fr.refl _, fun j hj => by omega⟩ (by
    rintro k ⟨x, y, X⟩ hk ⟨hx, rfl, hF, hr⟩
    have hx' := hx (by omega)
    dsimp only at hx' hF hr
    subst hx'
    have eX : X.1 95 = M.1 95 := (hF.row (fun _ => rfl)).trans e1
    have lk := ha k (by omega)
    left
    refine ⟨(if k < n' then M.1 95 (116 + anc (M.1 95) c k) else nI (anc (M.1 95) c k), nI (k + 1), wI X 101 k (nI (nt (M.1 95) (20 + anc (M.1 95) c k)))), ?_, fun hk2 => ?_, rfl, hF.wI rfl, fun j hj => ?_⟩
    · unfold b_Mo_pole_94_59 jv_
      dsimp only
      rw [dle_t (by omega) (by omega), ite_tt, show (20 : Int32) = nI 20 from rfl, nI_addn, inb_t (by omega) (by omega), ite_tt, inb_t (by omega) (by omega), ite_tt, nI_cl (by omega), nI_cl (by omega), eX, ← (hhe k (by omega)).1, rdk (by omega), eX, d_lt (by omega) (by omega), nI_one]
      by_cases g : k < n'
      · rw [if_pos (decide_eq_true g), if_pos g, q116, nI_addn, inb_t (by omega) (by omega), ite_tt, nI_cl (by omega)]
      · rw [if_neg (by rw [decide_eq_true_eq]; exact g), if_neg g]
    · dsimp only
      rw [if_pos (by omega)]; exact hup k (by omega)
    · dsimp only
      by_cases g : j = k
      · rw [g]; exact rde
      · rw [rdi g]; exact hr j (by omega)) (by
    rintro ⟨x, y, X⟩ ⟨-, rfl, hF, hr⟩
    dsimp only at hF hr
    refine ⟨X, ?_, hF, fun j hj => hr j (by omega)⟩
    unfold b_Mo_pole_94_59
    dsimp only
    rw [dle_f (by omega) (by omega), ite_ff])
  generalize hsp : nt (M.1 95) 7 = sp at *
  have hh : ∀ j, j ≤ n' → (fun k => nt (M.1 95) (20 + anc (M.1 95) c k)) j < 10 := fun j hj => (hhe j hj).2
  have a3 : ∀ j, j ≤ n' → M2.1 101 j = nI ((fun k => nt (M.1 95) (20 + anc (M.1 95) c k)) j) := a3
  generalize hhd : (fun k => nt (M.1 95) (20 + anc (M.1 95) c k)) = h at *
  have e2 : M2.1 95 = M.1 95 := (a2.row (fun _ => rfl)).trans e1
  obtain ⟨M3, b1, b2, b3⟩ := itr_cnt (body := b_Mo_pole_94_110 (nI n')) (s0 := ((0 : Int32), M2)) (fun k s => s.1 = nI k ∧ Fr (fun a _ => a == 102) M2 s.2 ∧ ∀ j, j < k → s.2.1 102 j = nI (polN h sp j)) (fun X => Fr (fun a _ => a == 102) M2 X ∧ X.1 102 n' = nI (polN h sp n')) (n' + 1) (by omega) ⟨rfl, Fr.refl _, fun j hj => by omega⟩ (by
    rintro k ⟨x, X⟩ hk ⟨rfl, hF, hr⟩
    dsimp only at hF hr
    left
    by_cases g : k = 0
    · subst g
      refine ⟨(nI 1, wI X 102 0 1), ?_, rfl, hF.wI rfl, fun j hj => by rw [show j = 0 by omega]; exact rde⟩
      have hin : itr (b_Mo_pole_94_140 (nI 0, X)) FU (nI 0 - 1, wI X 102 0 1) = some (wI X 102 0 1) := by
        obtain ⟨e, q1, q2⟩ := itr_cnt (body := b_Mo_pole_94_140 (nI 0, X)) (s0 := (nI 0 - 1, wI X 102 0 1)) (fun _ s => s = (nI 0 - 1, wI X 102 0 1)) (fun e => e = wI X 102 0 1) 0 (by omega) rfl (fun k s hk => by omega) (by
          rintro s rfl
          refine ⟨_, ?_, rfl⟩
          unfold b_Mo_pole_94_140
          dsimp only
          rw [if_pos (show decide (nI 0 - 1 < 0) = true from rfl)])
        rw [q1, q2]
      unfold b_Mo_pole_94_110 jv_
      dsimp only
      rw [dle_t (by omega) (by omega), ite_tt, inb_t (by omega) (by omega), ite_tt, if_pos (show decide (nI 0 = 0) = true from rfl), nI_cl (by omega), hin, Option.bind_some]; rfl
    · obtain ⟨Y, q1, q2, q3⟩ := e_polM2 (M := wI X 102 k 1000000) (h := h) (sp := sp) (n := n') (k := k) (by omega) (by omega) (by omega) hh (by rw [rdk (by omega), hF.row (a := 95) (fun _ => rfl), e2]; exact e7) (by omega) hs1 (fun j hj => by rw [rdk (by omega), hF.row (a := 101) (fun _ => rfl)]; exact a3 j hj) (fun j hj => by rw [rdi (by omega)]; exact hr j hj) rde X
      refine ⟨(nI (k + 1), Y), ?_, rfl, ?_, fun j hj => ?_⟩
      · unfold b_Mo_pole_94_110 jv_
        dsimp only
        rw [dle_t (by omega) (by omega), ite_tt, inb_t (by omega) (by omega), ite_tt, show (0 : Int32) = nI 0 from rfl, d_eq (by omega) (by omega), if_neg (by rw [decide_eq_true_eq]; exact g), nI_cl (by omega), q1, Option.bind_some, nI_one]
      · exact (hF.wI rfl).trans (q2.mono (fun a i h => by
          rw [Bool.and_eq_true] at h; exact h.1))
      · dsimp only
        by_cases g2 : j = k
        · rw [g2]; exact q3
        · rw [q2.at_ (by simp only [Bool.and_eq_false_iff, beq_eq_false_iff_ne]; omega), rdi g2]; exact hr j (by omega)) (by
    rintro ⟨x, X⟩ ⟨rfl, hF, hr⟩
    dsimp only at hF hr
    refine ⟨X, ?_, hF, hr n' (by omega)⟩
    unfold b_Mo_pole_94_110
    dsimp only
    rw [dle_f (by omega) (by omega), ite_ff])
  have hb := pl_le (h := h) hs1 n'
  have F2 : Fr sPo M1 M3 := a2.trans (b2.mono (fun a i h => by unfold sPo; rw [h]; simp))
  refine ⟨nI (polN h sp n'), M1, M3, hC, ?_, Rel_mono (RelMs H1 (F2.mono sPo_sMs)) (by omega)⟩
  unfold f_Mo_pole_94
  rw [mo_farm, Option.bind_some, e1, if_pos c0, q164, nI_addn, inb_t (by omega) (by omega), ite_tt, nI_cl (by omega), ec, e_Mo_isOnLine lc, Option.bind_some, e1, if_pos ho, ite_tt, hml', Option.bind_some, ite_tt, a1, Option.bind_some, b1, Option.bind_some, inb_t (by omega) (by omega), ite_tt, nI_cl (by omega), b3, show (1000000 : Int32) = nI 1000000 from rfl, dlt_t (by omega) (by omega), ite_tt, ite_tt]
end O20
