section
section MV
def l64 (n : Nat) : Int64 := Int64.ofNat n
theorem l64_add (a b : Nat) : l64 a + l64 b = l64 (a + b) := (Int64.ofNat_add a b).symm
theorem l64_mul (a b : Nat) : l64 a * l64 b = l64 (a * b) := (Int64.ofNat_mul a b).symm
theorem l64_t {n : Nat} (h : n < 9223372036854775808) : (l64 n).toInt = n := Int64.toInt_ofNat_of_lt (by omega)
theorem l64_nI {n : Nat} (h : n < 2147483648) : (nI n).toInt64 = l64 n := Int64.toInt_inj.mp (by rw [Int32.toInt_toInt64, nI_toI h, l64_t (by omega)])
theorem l64_32 (n : Nat) : (l64 n).toInt32 = nI n := Int64.toInt32_ofNat'
theorem l64_div {a b : Nat} (ha : a < 9223372036854775808) (hb : b < 9223372036854775808) : l64 a / l64 b = l64 (a / b) := by
  apply Int64.toInt_inj.mp
  have : a / b ≤ a := Nat.div_le_self a b
  have hne : l64 b ≠ -1 := fun e => by
    have := congrArg Int64.toInt e
    rw [l64_t hb, show (-1 : Int64).toInt = -1 from rfl] at this
    omega
  rw [Int64.toInt_div_of_ne_right _ _ hne, l64_t ha, l64_t hb, l64_t (by omega)]
  rfl
theorem jabs_size (x : Int32) : (if x < 0 then -x else x) = jabs x := by
  unfold jabs
  by_cases g : x < 0
  · rw [if_pos g, if_neg (by rw [i_le, i_0]; rw [i_lt, i_0] at g; omega), Int32.zero_sub]
  · rw [if_neg g, if_pos (by rw [i_le, i_0]; rw [i_lt, i_0] at g; omega)]
theorem pig {t : Nat → Nat} {n c : Nat} (hi : InjT t n) (hb : ∀ i, i < n → t i < 48) (hc : c < 48) (hn : ∀ i, i < n → t i ≠ c) : n < 48 := by
  have h1 := lsum_im (G := fun _ => 1) hi hb n (Nat.le_refl _)
  have h2 : ∀ m, lsum (fun _ => 1) m = m := fun m => by
    induction m with
    | zero => rfl
    | succ m ih => rw [show lsum (fun _ => 1) (m + 1) = lsum (fun _ => 1) m + 1 from rfl, ih]
  have h3 : lnm t n c = false := by
    cases g : lnm t n c
    · rfl
    · obtain ⟨i, i1, i2⟩ := lnm_i.mp g
      exact absurd i2 (hn i i1)
  have h4 := lsum_lt (f := fun _ => 1) (g := fun c => if lnm t n c = true then 1 else 0) (i := c) (by rw [h3]; decide) 48 hc (fun d _ => by split <;> omega)
  rw [h2] at h1 h4
  omega
def upS (σ : Nat → Int32) (c : Nat) : Nat := nt σ (116 + c)
variable {M : Mem} {σ : Nat → Int32}
/-- rows of the line: n of them, those behind the first k are all in -/
def RowS (σ : Nat → Int32) (r : Nat → Nat) (n k : Nat) : Prop := (∀ i, i < n → r i < 48) ∧ nI (r 0) = σ 9 ∧ 1 ≤ n ∧ InjT r n ∧ (∀ i, 1 ≤ i → i < n → σ (116 + r i) ≠ -1 ∧ ∃ j, j < i ∧ j < k ∧ upS σ (r i) = r j) ∧ ∀ j, j < k → j < n → ∀ c, c < 48 → σ (116 + c) ≠ -1 → upS σ c = r j → ∃ i, i < n ∧ r i = c
theorem par_i (wl : wLand σ) {c d : Nat} (hc : c < 48) (hd : d < 48) : decide (σ (116 + c) = nI d) = (!decide (σ (116 + c) = -1) && decide (upS σ c = d)) := by
  rcases wl.2.2 c hc with h | h
  · rw [h, decide_eq_true rfl, decide_eq_false (fun e => nI_ne_m1 (a := d) (by omega) e.symm)]; rfl
  · obtain ⟨e, l⟩ := nI_of_inb h
    rw [e, nI_eqm1 (by omega), d_eq (by omega) (by omega)]
    rfl
theorem hs_off {τ : Nat → Int32} (Tr : Tree σ τ) {c : Nat} (hc : c < 48) (h : nI c = σ 9) : σ (116 + c) = -1 := by
  by_cases g : σ (116 + c) = -1
  · exact g
  · obtain ⟨i, i1, i2⟩ := (Tr.2.2 c hc).mp g
    obtain ⟨d, d1, d2, d3, -⟩ := Tr.1 i i1
    exact absurd (by rw [← d2, i2]; exact h) d3
theorem e_row1 {τ : Nat → Int32} (wl : wLand (M.1 95)) (Tr : Tree (M.1 95) τ) {r : Nat → Nat} {n k : Nat} (hk : k < n) (R : RowS (M.1 95) r n k) (hr : ∀ i, i < n → M.1 106 i = nI (r i)) (x : Int32) (X0 : Mem) : ∃ r' n' M', itr (b_Mo_rows_94_27 (x, nI k, X0)) FU (nI n, 0, M) = some (nI n', M') ∧ Fr (fun a _ => a == 106) M M' ∧ n ≤ n' ∧ RowS (M.1 95) r' n' (k + 1) ∧ ∀ i, i < n' → M'.1 106 i = nI (r' i) := by
  have hn48 : n ≤ 48 := by
    obtain ⟨a1, a2, a3, a4, -⟩ := R
    by_cases g : n ≤ 48
    · exact g
    · have := pig (t := r) (n := 48) (c := r 48) (fun i j hi hj => a4 i j (by omega) (by omega)) (fun i hi => a1 i (by omega)) (a1 48 (by omega)) (fun i hi e => by have := a4 i 48 (by omega) (by omega) e; omega)
      omega
  obtain ⟨e, h1, h2⟩ := itr_cnt (body := b_Mo_rows_94_27 (x, nI k, X0)) (s0 := (nI n, (0 : Int32), M)) (fun c s => Fr (fun a _ => a == 106) M s.2.2 ∧ s.2.1 = nI c ∧ ∃ r' n', s.1 = nI n' ∧ n' ≤ 48 ∧ n ≤ n' ∧ (∀ i, i < n' → s.2.2.1 106 i = nI (r' i)) ∧ (∀ i, i < n' → r' i < 48) ∧ nI (r' 0) = M.1 95 9 ∧ InjT r' n' ∧ (∀ i, 1 ≤ i → i < n' → M.1 95 (116 + r' i) ≠ -1 ∧ ∃ j, j < i ∧ j < k + 1 ∧ upS (M.1 95) (r' i) = r' j) ∧ (∀ j, j < k → ∀ c, c < 48 → M.1 95 (116 + c) ≠ -1 → upS (M.1 95) c = r' j → ∃ i, i < n' ∧ r' i = c) ∧ (∀ d, d < c → M.1 95 (116 + d) ≠ -1 → upS (M.1 95) d = r' k → ∃ i, i < n' ∧ r' i = d) ∧ ∀ i, 1 ≤ i → i < n' → upS (M.1 95) (r' i) = r' k → r' i < c) (fun e => Fr (fun a _ => a == 106) M e.2 ∧ ∃ r' n', e.1 = nI n' ∧ n ≤ n' ∧ RowS (M.1 95) r' n' (k + 1) ∧ ∀ i, i < n' → e.2.1 106 i = nI (r' i)) 48 (by omega) ⟨Fr.refl _, rfl, r, n, rfl, hn48, Nat.le_refl _, hr, R.1, R.2.1, R.2.2.2.1, fun i i1 i2 => by
      obtain ⟨b1, j, j1, j2, j3⟩ := R.2.2.2.2.1 i i1 i2
      exact ⟨b1, j, j1, by omega, j3⟩, fun j hj => R.2.2.2.2.2 j hj (by omega), fun d hd => by omega, fun i i1 i2 i3 => by
      obtain ⟨b1, j, j1, j2, j3⟩ := R.2.2.2.2.1 i i1 i2
      have := R.2.2.2.1 k j (by omega) (by omega) (i3.symm.trans j3)
      omega⟩ (by
    rintro c ⟨y, z, X⟩ hc ⟨hF, hz, r', n', hy, a0, a1, a2, a3, a4, a5, a6, a7, a8, a9⟩
    dsimp only at hF hz hy a2
    rw [hy, hz]
    left
    have e95 : X.1 95 = M.1 95 := hF.row (fun _ => rfl)
    have hst : b_Mo_rows_94_27 (x, nI k, X0) (nI n', nI c, X) = if (!decide (M.1 95 (116 + c) = -1) && decide (upS (M.1 95) c = r' k)) = true then (if inb (nI n') 48 then some (.inl (nI (n' + 1), nI (c + 1), wI X 106 n' (nI c))) else none) else some (.inl (nI n', nI (c + 1), X)) := by
      unfold b_Mo_rows_94_27 jv_
      dsimp only
      rw [show (48 : Int32) = nI 48 from rfl, dlt_t hc (by omega), ite_tt, show (116 : Int32) = nI 116 from rfl, nI_addn, inb_t (by omega) (by omega), ite_tt, inb_t (by omega) (by omega), ite_tt, nI_cl (by omega), nI_cl (by omega), e95, a2 k (by omega), par_i wl hc (a3 k (by omega)), nI_one, nI_one, nI_cl (by omega)]
    by_cases g : (!decide (M.1 95 (116 + c) = -1) && decide (upS (M.1 95) c = r' k)) = true
    · rw [if_pos g] at hst
      rw [Bool.and_eq_true, Bool.not_eq_true', decide_eq_false_iff_not, decide_eq_true_eq] at g
      obtain ⟨g1, g2⟩ := g
      have hnew : ∀ i, i < n' → r' i ≠ c := fun i hi e => by
        by_cases z0 : i = 0
        · rw [z0] at e
          rw [e] at a4
          exact g1 (hs_off Tr hc a4)
        · have := a9 i (by omega) hi (by rw [e]; exact g2)
          omega
      have hn' := pig a5 a3 hc hnew
      rw [inb_t hn' (by omega), ite_tt] at hst
      have u1 : updN r' n' c n' = c := updN_e
      have u2 : ∀ i, i < n' → updN r' n' c i = r' i := fun i hi => updN_n (by omega)
      refine ⟨_, hst, hF.wI rfl, rfl, updN r' n' c, n' + 1, rfl, by omega, by omega, fun i hi => ?_, fun i hi => ?_, by rw [u2 0 (by omega)]; exact a4, fun i j hi hj h => ?_, fun i i1 i2 => ?_, fun j hj d hd d1 d2 => ?_, fun d hd d1 d2 => ?_, fun i i1 i2 i3 => ?_⟩
      · dsimp only
        by_cases q : i = n'
        · rw [q, rde, u1]
        · rw [rdi q, u2 i (by omega)]; exact a2 i (by omega)
      · by_cases q : i = n'
        · rw [q, u1]; exact hc
        · rw [u2 i (by omega)]; exact a3 i (by omega)
      · by_cases q : i = n'
        · by_cases q2 : j = n'
          · omega
          · rw [q, u1, u2 j (by omega)] at h
            exact absurd h.symm (hnew j (by omega))
        · by_cases q2 : j = n'
          · rw [q2, u1, u2 i (by omega)] at h
            exact absurd h (hnew i (by omega))
          · rw [u2 i (by omega), u2 j (by omega)] at h
            exact a5 i j (by omega) (by omega) h
      · by_cases q : i = n'
        · rw [q, u1]
          exact ⟨g1, k, by omega, by omega, by rw [u2 k (by omega)]; exact g2⟩
        · rw [u2 i (by omega)]
          obtain ⟨b1, j, j1, j2, j3⟩ := a6 i i1 (by omega)
          exact ⟨b1, j, j1, j2, by rw [u2 j (by omega)]; exact j3⟩
      · rw [u2 j (by omega)] at d2
        obtain ⟨i, i1, i2⟩ := a7 j hj d hd d1 d2
        exact ⟨i, by omega, by rw [u2 i i1]; exact i2⟩
      · rw [u2 k (by omega)] at d2
        by_cases q : d = c
        · exact ⟨n', by omega, by rw [u1, q]⟩
        · obtain ⟨i, i1, i2⟩ := a8 d (by omega) d1 d2
          exact ⟨i, by omega, by rw [u2 i i1]; exact i2⟩
      · rw [u2 k (by omega)] at i3
        by_cases q : i = n'
        · rw [q, u1]; omega
        · rw [u2 i (by omega)] at i3 ⊢
          have := a9 i i1 (by omega) i3
          omega
    · rw [if_neg g] at hst
      refine ⟨_, hst, hF, rfl, r', n', rfl, a0, a1, a2, a3, a4, a5, a6, a7, fun d hd d1 d2 => ?_, fun i i1 i2 i3 => ?_⟩
      · by_cases q : d = c
        · exfalso
          rw [q] at d1 d2
          exact g (by rw [decide_eq_false d1, decide_eq_true d2]; rfl)
        · exact a8 d (by omega) d1 d2
      · have := a9 i i1 i2 i3
        omega) (by
    rintro ⟨y, z, X⟩ ⟨hF, hz, r', n', hy, a0, a1, a2, a3, a4, a5, a6, a7, a8, a9⟩
    dsimp only at hF hz hy a2
    rw [hy, hz]
    refine ⟨(nI n', X), ?_, hF, r', n', rfl, a1, ⟨a3, a4, by omega, a5, a6, fun j j1 j2 c hc c1 c2 => ?_⟩, a2⟩
    · unfold b_Mo_rows_94_27
      dsimp only
      rw [show (48 : Int32) = nI 48 from rfl, dlt_f (Nat.le_refl _) (by omega), ite_ff]
    · by_cases q : j = k
      · rw [q] at c2
        exact a8 c hc c1 c2
      · exact a7 j (by omega) c hc c1 c2)
  obtain ⟨e1, e2⟩ := e
  obtain ⟨hF, r', n', p1, p2, p3, p4⟩ := h2
  dsimp only at hF p1 p4
  exact ⟨r', n', e2, h1.trans (congrArg (fun z => some (z, e2)) p1), hF, p2, p3, p4⟩
theorem e_rows {τ : Nat → Int32} (wl : wLand (M.1 95)) (Tr : Tree (M.1 95) τ) (n9 : inb (M.1 95 9) 48 = true) : ∃ (r : Nat → Nat) (n : Nat) (M' : Mem), f_Mo_rows_94 M = some (nI (n + 1), M') ∧ Fr (fun a _ => a == 106) M M' ∧ (∀ i, i < n + 1 → M'.1 106 i = nI (r i)) ∧ n ≤ 47 ∧ r 0 = nt (M.1 95) 9 ∧ Top (upS (M.1 95)) (fun i => r (i + 1)) (nt (M.1 95) 9) n ∧ (∀ i, i < n → M.1 95 (116 + r (i + 1)) ≠ -1) ∧ ∀ c, c < 48 → M.1 95 (116 + c) ≠ -1 → lnm (fun i => r (i + 1)) n c = true := by
  obtain ⟨e9, l9⟩ := nt_inb n9
  obtain ⟨e, h1, h2⟩ := itr_cnt (body := b_Mo_rows_94_20) (s0 := ((0 : Int32) + 1, (0 : Int32), wI M 106 0 (M.1 95 9))) (fun k s => Fr (fun a _ => a == 106) M s.2.2 ∧ s.2.1 = nI k ∧ ∃ r n, s.1 = nI n ∧ RowS (M.1 95) r n k ∧ (∀ i, i < n → s.2.2.1 106 i = nI (r i)) ∧ k ≤ n) (fun e => Fr (fun a _ => a == 106) M e.2 ∧ ∃ r n, e.1 = nI n ∧ RowS (M.1 95) r n n ∧ ∀ i, i < n → e.2.1 106 i = nI (r i)) 49 (by omega) ⟨(Fr.refl M).wI rfl, rfl, fun _ => nt (M.1 95) 9, 1, rfl, ⟨fun _ _ => l9, e9.symm, Nat.le_refl _, fun i j hi hj _ => by omega, fun i i1 i2 => by omega, fun j hj => by omega⟩, fun i hi => by
      dsimp only
      rw [show i = 0 by omega, rde]; exact e9, by omega⟩ (by
    rintro k ⟨y, z, X⟩ hk ⟨hF, hz, r, n, hy, R, hr, hkn⟩
    dsimp only at hF hz hy hr
    rw [hy, hz]
    have e95 : X.1 95 = M.1 95 := hF.row (fun _ => rfl)
    have hn48 : n ≤ 48 := by
      obtain ⟨a1, a2, a3, a4, -⟩ := R
      by_cases g : n ≤ 48
      · exact g
      · have := pig (t := r) (n := 48) (c := r 48) (fun i j hi hj => a4 i j (by omega) (by omega)) (fun i hi => a1 i (by omega)) (a1 48 (by omega)) (fun i hi e => by have := a4 i 48 (by omega) (by omega) e; omega)
        omega
    by_cases g : k < n
    · left
      obtain ⟨r', n', Y, y1, y2, y3, y4, y5⟩ := e_row1 (M := X) (by rw [e95]; exact wl) (by rw [e95]; exact Tr) g (by rw [e95]; exact R) hr (nI n) X
      rw [e95] at y4
      refine ⟨(nI n', nI (k + 1), Y), ?_, hF.trans y2, rfl, r', n', rfl, y4, y5, by omega⟩
      unfold b_Mo_rows_94_20
      dsimp only
      rw [dlt_t g (by omega), ite_tt, y1, Option.bind_some, nI_one]
    · right
      have hkn' : k = n := by omega
      refine ⟨(nI n, X), ?_, hF, r, n, rfl, by rw [hkn'] at R; exact R, hr⟩
      unfold b_Mo_rows_94_20
      dsimp only
      rw [dlt_f (by omega) (by omega), ite_ff]) (by
    rintro ⟨y, z, X⟩ ⟨hF, hz, r, n, hy, R, hr, hkn⟩
    exfalso
    obtain ⟨a1, a2, a3, a4, -⟩ := R
    have := pig (t := r) (n := 48) (c := r 48) (fun i j hi hj => a4 i j (by omega) (by omega)) (fun i hi => a1 i (by omega)) (a1 48 (by omega)) (fun i hi e => by have := a4 i 48 (by omega) (by omega) e; omega)
    omega)
  obtain ⟨hF, r, n, p1, ⟨b1, b2, b3, b4, b5, b6⟩, p3⟩ := h2
  obtain ⟨m, rfl⟩ : ∃ m, n = m + 1 := ⟨n - 1, by omega⟩
  have hm48 : m ≤ 47 := by
    by_cases g : m ≤ 47
    · exact g
    · have := pig (t := r) (n := 48) (c := r 48) (fun i j hi hj => b4 i j (by omega) (by omega)) (fun i hi => b1 i (by omega)) (b1 48 (by omega)) (fun i hi e => by have := b4 i 48 (by omega) (by omega) e; omega)
      omega
  have r0 : r 0 = nt (M.1 95) 9 := by
    have := b1 0 (by omega)
    rw [e9] at b2
    exact (nI_inj (by omega) (by omega)).mp b2
  have hall : ∀ i, i < nt (M.1 95) 5 → ∀ c, c < 48 → τ i = nI c → ∃ j, 1 ≤ j ∧ j < m + 1 ∧ r j = c := by
    intro i
    induction i using Nat.strongRecOn with
    | _ i ih =>
      intro hi c hc hci
      obtain ⟨d, d1, d2, d3, d4⟩ := Tr.1 i hi
      have hdc : d = c := (nI_inj (by omega) (by omega)).mp (d2.symm.trans hci)
      rw [hdc] at d3 d4
      have hon : M.1 95 (116 + c) ≠ -1 := (Tr.2.2 c hc).mpr ⟨i, hi, hci⟩
      have hup : M.1 95 (116 + c) = nI (upS (M.1 95) c) ∧ upS (M.1 95) c < 48 := by
        rcases wl.2.2 c hc with h | h
        · exact absurd h hon
        · exact nI_of_inb h
      have hpar : ∃ j, j < m + 1 ∧ r j = upS (M.1 95) c := by
        rcases d4 with h | ⟨j, j1, j2⟩
        · refine ⟨0, by omega, ?_⟩
          rw [r0]
          rw [hup.1, e9] at h
          exact ((nI_inj (by omega) (by omega)).mp h).symm
        · obtain ⟨k, k1, k2, k3⟩ := ih j j1 (by omega) (upS (M.1 95) c) hup.2 (by rw [← j2]; exact hup.1)
          exact ⟨k, k2, k3⟩
      obtain ⟨j, j1, j2⟩ := hpar
      obtain ⟨k, k1, k2⟩ := b6 j j1 j1 c hc hon j2.symm
      refine ⟨k, ?_, k1, k2⟩
      by_cases z : k = 0
      · exfalso
        rw [z] at k2
        rw [k2] at b2
        exact d3 b2
      · omega
  obtain ⟨e1, e2⟩ := e
  dsimp only at hF p1 p3
  refine ⟨r, m, e2, ?_, hF, p3, hm48, r0, ⟨fun i hi => ⟨b1 (i + 1) (by omega), ?_, ?_⟩, fun i j hi hj h => ?_⟩, fun i hi => (b5 (i + 1) (by omega) (by omega)).1, fun c hc hon => ?_⟩
  · unfold f_Mo_rows_94 jv_
    dsimp only
    rw [h1]
    exact congrArg (fun z => some (z, e2)) p1
  · rw [← r0]
    exact fun h => by have := b4 (i + 1) 0 (by omega) (by omega) h; omega
  · obtain ⟨-, j, j1, j2, j3⟩ := b5 (i + 1) (by omega) (by omega)
    by_cases z : j = 0
    · left
      rw [z, r0] at j3; exact j3
    · right
      exact ⟨j - 1, by omega, by dsimp only; rw [show j - 1 + 1 = j by omega]; exact j3⟩
  · have := b4 (i + 1) (j + 1) (by omega) (by omega) h
    omega
  · obtain ⟨i, i1, i2⟩ := (Tr.2.2 c hc).mp hon
    obtain ⟨j, j1, j2, j3⟩ := hall i i1 c hc i2
    exact lnm_i.mpr ⟨j - 1, by omega, by rw [show j - 1 + 1 = j by omega]; exact j3⟩
end MV
end
