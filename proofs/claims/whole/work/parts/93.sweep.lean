section
section VO
theorem lsum_one {f g : Nat → Nat} {a v : Nat} : ∀ n, a < n → (∀ i, i < n → i ≠ a → f i = g i) → f a = g a + v → lsum f n = lsum g n + v
  | 0, h, _, _ => absurd h (by omega)
  | n + 1, h, h1, h2 => by
    rw [show lsum f (n + 1) = lsum f n + f n from rfl, show lsum g (n + 1) = lsum g n + g n from rfl]
    by_cases c : a = n
    · subst c
      rw [lsum_congr a (fun i hi => h1 i (by omega) (by omega)), h2]; omega
    · rw [lsum_one n (by omega) (fun i hi => h1 i (by omega)) h2, h1 n (by omega) (fun e => c e.symm)]; omega
theorem lsum_zero {f : Nat → Nat} : ∀ n, (∀ i, i < n → f i = 0) → lsum f n = 0
  | 0, _ => rfl
  | n + 1, h => by
    rw [show lsum f (n + 1) = lsum f n + f n from rfl, lsum_zero n (fun i hi => h i (by omega)), h n (by omega)]
def lnm (t : Nat → Nat) : Nat → Nat → Bool
  | 0, _ => false
  | n + 1, c => lnm t n c || decide (t n = c)
theorem lnm_i {t : Nat → Nat} {c : Nat} : ∀ {n}, lnm t n c = true ↔ ∃ i, i < n ∧ t i = c
  | 0 => ⟨fun h => absurd h (by unfold lnm; decide), fun ⟨i, h, _⟩ => absurd h (by omega)⟩
  | n + 1 => by
    unfold lnm
    rw [Bool.or_eq_true, decide_eq_true_eq, lnm_i]
    constructor
    · rintro (⟨i, h1, h2⟩ | h)
      · exact ⟨i, by omega, h2⟩
      · exact ⟨n, by omega, h⟩
    · rintro ⟨i, h1, h2⟩
      by_cases g : i = n
      · exact .inr (by rw [← g]; exact h2)
      · exact .inl ⟨i, by omega, h2⟩
def InjT (t : Nat → Nat) (n : Nat) : Prop := ∀ i j, i < n → j < n → t i = t j → i = j
theorem lnm_new {t : Nat → Nat} {n N : Nat} (hi : InjT t N) (h : n < N) : lnm t n (t n) = false := by
  cases c : lnm t n (t n)
  · rfl
  · obtain ⟨i, h1, h2⟩ := lnm_i.mp c
    have := hi i n (by omega) h h2
    omega
theorem lsum_im {t : Nat → Nat} {G : Nat → Nat} {N : Nat} (hi : InjT t N) (hb : ∀ i, i < N → t i < 48) : ∀ n, n ≤ N → lsum (fun i => G (t i)) n = lsum (fun c => if lnm t n c = true then G c else 0) 48
  | 0, _ => by
    rw [lsum_zero (f := fun c => if lnm t 0 c = true then G c else 0) 48 (fun i _ => if_neg (by unfold lnm; decide))]; rfl
  | n + 1, h => by
    rw [show lsum (fun i => G (t i)) (n + 1) = lsum (fun i => G (t i)) n + G (t n) from rfl, lsum_im hi hb n (by omega)]
    symm
    refine lsum_one 48 (hb n (by omega)) (fun i _ hne => ?_) ?_
    · rw [show lnm t (n + 1) i = (lnm t n i || decide (t n = i)) from rfl, decide_eq_false (fun e => hne e.symm), Bool.or_false]
    · rw [lnm_new hi (by omega), ite_ff, if_pos (lnm_i.mpr ⟨n, Nat.lt_succ_self n, rfl⟩)]; omega
variable {up t t' : Nat → Nat} {h N N' : Nat} {own own' : Nat → Nat}
/-- an order in which what is ahead comes first -/
def Top (up t : Nat → Nat) (h N : Nat) : Prop := (∀ i, i < N → t i < 48 ∧ t i ≠ h ∧ (up (t i) = h ∨ ∃ j, j < i ∧ up (t i) = t j)) ∧ InjT t N
theorem Top_ne (T : Top up t h N) {i j : Nat} (hj : j ≤ i) (hi : i < N) : up (t j) ≠ t i := fun e => by
  rcases (T.1 j (by omega)).2.2 with g | ⟨j', h1, h2⟩
  · exact (T.1 i hi).2.1 (e.symm.trans g)
  · have := T.2 i j' hi (by omega) (e.symm.trans h2)
    omega
def cfD (up t own : Nat → Nat) (N : Nat) : Nat → Nat → Nat
  | 0 => own
  | k + 1 => updN (cfD up t own N k) (up (t (N - 1 - k))) (cfD up t own N k (up (t (N - 1 - k))) + cfD up t own N k (t (N - 1 - k)))
def cfF (up t own : Nat → Nat) (N : Nat) : Nat → Nat := cfD up t own N N
theorem cfD_st (T : Top up t h N) {i : Nat} (hi : i < N) : ∀ d, N - 1 - i + d ≤ N → cfD up t own N (N - 1 - i + d) (t i) = cfD up t own N (N - 1 - i) (t i)
  | 0, _ => rfl
  | d + 1, hd => by
    rw [show N - 1 - i + (d + 1) = (N - 1 - i + d) + 1 by omega, show cfD up t own N ((N - 1 - i + d) + 1) = updN (cfD up t own N (N - 1 - i + d)) (up (t (N - 1 - (N - 1 - i + d)))) (cfD up t own N (N - 1 - i + d) (up (t (N - 1 - (N - 1 - i + d)))) + cfD up t own N (N - 1 - i + d) (t (N - 1 - (N - 1 - i + d)))) from rfl, updN_n (fun e => Top_ne T (by omega) hi e.symm)]
    exact cfD_st T hi d (by omega)
theorem cfF_at (T : Top up t h N) {i : Nat} (hi : i < N) : cfD up t own N (N - 1 - i) (t i) = cfF up t own N (t i) := by
  have := cfD_st (own := own) T hi (i + 1) (by omega)
  rw [show N - 1 - i + (i + 1) = N by omega] at this
  exact this.symm
theorem cfD_eq (T : Top up t h N) (x : Nat) : ∀ k, k ≤ N → cfD up t own N k x = own x + lsum (fun i => if N - k ≤ i ∧ up (t i) = x then cfF up t own N (t i) else 0) N
  | 0, _ => by
    rw [lsum_zero N (fun i hi => if_neg (by omega))]; rfl
  | k + 1, hk => by
    have hcf := cfF_at (own := own) T (i := N - 1 - k) (by omega)
    rw [show N - 1 - (N - 1 - k) = k by omega] at hcf
    unfold cfD
    by_cases g : x = up (t (N - 1 - k))
    · rw [g, updN_e, ← g, cfD_eq T x k (by omega), hcf, Nat.add_assoc]
      congr 1
      symm
      refine lsum_one N (a := N - 1 - k) (by omega) (fun i _ hne => ?_) ?_
      · by_cases c : N - k ≤ i ∧ up (t i) = x
        · rw [if_pos c, if_pos ⟨by omega, c.2⟩]
        · rw [if_neg c, if_neg (fun h => c ⟨by omega, h.2⟩)]
      · rw [if_pos ⟨by omega, g.symm⟩, if_neg (by omega), Nat.zero_add]
    · rw [updN_n g, cfD_eq T x k (by omega)]
      congr 1
      refine lsum_congr N (fun i _ => ?_)
      by_cases c : N - k ≤ i ∧ up (t i) = x
      · rw [if_pos c, if_pos ⟨by omega, c.2⟩]
      · rw [if_neg c, if_neg (fun h => ?_)]
        by_cases g2 : i = N - 1 - k
        · rw [g2] at h; exact g h.2.symm
        · exact c ⟨by omega, h.2⟩
theorem cfF_eq (T : Top up t h N) (x : Nat) : cfF up t own N x = own x + lsum (fun c => if lnm t N c = true then (if up c = x then cfF up t own N c else 0) else 0) 48 := by
  have h1 := cfD_eq (own := own) T x N (Nat.le_refl _)
  have h2 := lsum_im (G := fun c => if up c = x then cfF up t own N c else 0) T.2 (fun i hi => (T.1 i hi).1) N (Nat.le_refl _)
  rw [← h2]
  refine h1.trans ?_
  congr 1
  refine lsum_congr N (fun i _ => ?_)
  by_cases c : up (t i) = x
  · rw [if_pos ⟨by omega, c⟩, if_pos c]
  · rw [if_neg (fun h => c h.2), if_neg c]
theorem cfF_un (T : Top up t h N) (T' : Top up t' h N') (hm : ∀ c, c < 48 → lnm t N c = lnm t' N' c) (ho : ∀ i, i < N → own (t i) = own' (t i)) : ∀ d i, i < N → N - i ≤ d → cfF up t own N (t i) = cfF up t' own' N' (t i)
  | 0, i, h1, h2 => absurd h2 (by omega)
  | d + 1, i, h1, h2 => by
    rw [cfF_eq T, cfF_eq T', ho i h1]
    congr 1
    refine lsum_congr 48 (fun c hc => ?_)
    rw [← hm c hc]
    cases g : lnm t N c
    · rfl
    · rw [ite_tt, ite_tt]
      obtain ⟨j, j1, j2⟩ := lnm_i.mp g
      by_cases g2 : up c = t i
      · rw [if_pos g2, if_pos g2]
        have : i < j := by
          by_cases g3 : i < j
          · exact g3
          · exact absurd (show up (t j) = t i by rw [j2]; exact g2) (Top_ne T (by omega) h1)
        rw [← j2]
        exact cfF_un T T' hm ho d j j1 (by omega)
      · rw [if_neg g2, if_neg g2]
theorem lsum_ge {f : Nat → Nat} : ∀ n a, a < n → f a ≤ lsum f n
  | 0, a, h => absurd h (by omega)
  | n + 1, a, h => by
    rw [show lsum f (n + 1) = lsum f n + f n from rfl]
    by_cases g : a = n
    · rw [g]; omega
    · have := lsum_ge (f := f) n a (by omega); omega
def acV (t : Nat → Nat) (h n c : Nat) : Bool := lnm t n c || decide (c = h)
theorem cf_con (T : Top up t h N) (hh : h < 48) : ∀ k, k ≤ N → lsum (fun c => if acV t h (N - k) c = true then cfD up t own N k c else 0) 48 = lsum (fun c => if acV t h N c = true then own c else 0) 48
  | 0, _ => rfl
  | k + 1, hk => by
    obtain ⟨a1, a2, a3⟩ := T.1 (N - 1 - k) (by omega)
    have hac : ∀ c, acV t h (N - k) c = (acV t h (N - (k + 1)) c || decide (t (N - 1 - k) = c)) := fun c => by
      unfold acV
      rw [show N - k = (N - (k + 1)) + 1 by omega]
      rw [show lnm t (N - (k + 1) + 1) c = (lnm t (N - (k + 1)) c || decide (t (N - (k + 1)) = c)) from rfl, show N - (k + 1) = N - 1 - k by omega]
      cases lnm t (N - 1 - k) c <;> cases decide (t (N - 1 - k) = c) <;> cases decide (c = h) <;> rfl
    have hself : acV t h (N - (k + 1)) (t (N - 1 - k)) = false := by
      unfold acV
      rw [show N - (k + 1) = N - 1 - k by omega, lnm_new T.2 (by omega), decide_eq_false a2]; rfl
    have hup : acV t h (N - (k + 1)) (up (t (N - 1 - k))) = true ∧ up (t (N - 1 - k)) < 48 := by
      unfold acV
      rcases a3 with g | ⟨j, j1, j2⟩
      · rw [g, decide_eq_true rfl, Bool.or_true]; exact ⟨rfl, hh⟩
      · rw [lnm_i.mpr ⟨j, by omega, j2.symm⟩, Bool.true_or, j2]; exact ⟨rfl, (T.1 j (by omega)).1⟩
    have s1 := lsum_one (f := fun c => if acV t h (N - k) c = true then cfD up t own N k c else 0) (g := fun c => if acV t h (N - (k + 1)) c = true then cfD up t own N k c else 0) (a := t (N - 1 - k)) (v := cfD up t own N k (t (N - 1 - k))) 48 a1 (fun i _ hne => by
      rw [hac i, decide_eq_false (fun e => hne e.symm), Bool.or_false]) (by
      rw [hac, decide_eq_true rfl, Bool.or_true, if_pos rfl, hself, if_neg (by decide), Nat.zero_add])
    have s2 := lsum_one (f := fun c => if acV t h (N - (k + 1)) c = true then cfD up t own N (k + 1) c else 0) (g := fun c => if acV t h (N - (k + 1)) c = true then cfD up t own N k c else 0) (a := up (t (N - 1 - k))) (v := cfD up t own N k (t (N - 1 - k))) 48 hup.2 (fun i _ hne => by
      rw [show cfD up t own N (k + 1) i = cfD up t own N k i from updN_n hne]) (by
      rw [hup.1, if_pos rfl, if_pos rfl]
      exact updN_e)
    rw [s2, ← s1]
    exact cf_con T hh k (by omega)
theorem cfF_le (T : Top up t h N) (hh : h < 48) {i : Nat} (hi : i < N) : cfF up t own N (t i) ≤ lsum own 48 := by
  have h1 := cf_con (own := own) T hh (N - 1 - i) (by omega)
  have h2 := lsum_ge (f := fun c => if acV t h (N - (N - 1 - i)) c = true then cfD up t own N (N - 1 - i) c else 0) 48 (t i) (T.1 i hi).1
  skip
  rw [if_pos (by unfold acV; rw [lnm_i.mpr ⟨i, by omega, rfl⟩]; rfl), cfF_at T hi, h1] at h2
  refine Nat.le_trans h2 (lsum_le 48 (fun c _ => ?_))
  split
  · exact Nat.le_refl _
  · exact Nat.zero_le _
def updZ (f : Nat → Int32) (i : Nat) (v : Int32) : Nat → Int32 := fun c => if c = i then v else f c
theorem updZ_e {f : Nat → Int32} {i : Nat} {v : Int32} : updZ f i v i = v := if_pos rfl
theorem updZ_n {f : Nat → Int32} {i c : Nat} {v : Int32} (h : c ≠ i) : updZ f i v c = f c := if_neg h
def vfD (up t : Nat → Nat) (ls V : Nat → Int32) : Nat → Nat → Int32
  | 0 => V
  | k + 1 => updZ (vfD up t ls V k) (t k) (vfD up t ls V k (up (t k)) - ls (t k))
variable {ls ls' V V' : Nat → Int32}
theorem vfD_o {c : Nat} : ∀ k, (∀ i, i < k → t i ≠ c) → vfD up t ls V k c = V c
  | 0, _ => rfl
  | k + 1, h => by
    unfold vfD
    rw [updZ_n (fun e => h k (by omega) e.symm)]
    exact vfD_o k (fun i hi => h i (by omega))
theorem vfD_s (hi : InjT t N) {i : Nat} : ∀ d, i + 1 + d ≤ N → vfD up t ls V (i + 1 + d) (t i) = vfD up t ls V (i + 1) (t i)
  | 0, _ => rfl
  | d + 1, hd => by
    rw [show i + 1 + (d + 1) = (i + 1 + d) + 1 by omega]
    rw [show vfD up t ls V ((i + 1 + d) + 1) = updZ (vfD up t ls V (i + 1 + d)) (t (i + 1 + d)) (vfD up t ls V (i + 1 + d) (up (t (i + 1 + d))) - ls (t (i + 1 + d))) from rfl, updZ_n (fun e => by have := hi i (i + 1 + d) (by omega) (by omega) e; omega)]
    exact vfD_s hi d (by omega)
theorem vfD_N (hi : InjT t N) {i k : Nat} (h1 : i < k) (h2 : k ≤ N) : vfD up t ls V k (t i) = vfD up t ls V (i + 1) (t i) := by
  have := vfD_s (up := up) (ls := ls) (V := V) hi (i := i) (k - (i + 1)) (by omega)
  rw [show i + 1 + (k - (i + 1)) = k by omega] at this
  exact this
theorem vfD_h (T : Top up t h N) {k : Nat} (hk : k ≤ N) : vfD up t ls V k h = V h := vfD_o k (fun i hi => (T.1 i (by omega)).2.1)
theorem vfD_u (T : Top up t h N) {i : Nat} (hi : i < N) : vfD up t ls V i (up (t i)) = vfD up t ls V N (up (t i)) := by
  rcases (T.1 i hi).2.2 with g | ⟨j, j1, j2⟩
  · rw [g, vfD_h T (by omega), vfD_h T (Nat.le_refl _)]
  · rw [j2, vfD_N T.2 j1 (by omega), vfD_N T.2 (show j < N by omega) (Nat.le_refl _)]
theorem vfD_eq (T : Top up t h N) {i : Nat} (hi : i < N) : vfD up t ls V N (t i) = vfD up t ls V N (up (t i)) - ls (t i) := by
  rw [vfD_N T.2 hi (Nat.le_refl _), ← vfD_u T hi]
  exact updZ_e
theorem vfD_un (T : Top up t h N) (T' : Top up t' h N') (hm : ∀ c, c < 48 → lnm t N c = lnm t' N' c) (hl : ∀ i, i < N → ls (t i) = ls' (t i)) (hV : V h = V' h) : ∀ i, i < N → vfD up t ls V N (t i) = vfD up t' ls' V' N' (t i) := by
  intro i
  induction i using Nat.strongRecOn with
  | _ i ih =>
    intro hi
    have h1 : lnm t' N' (t i) = true := by rw [← hm (t i) (T.1 i hi).1]; exact lnm_i.mpr ⟨i, hi, rfl⟩
    obtain ⟨j, j1, j2⟩ := lnm_i.mp h1
    have h2 := vfD_eq (ls := ls') (V := V') T' j1
    rw [j2] at h2
    rw [vfD_eq T hi, h2, hl i hi]
    congr 1
    rcases (T.1 i hi).2.2 with g | ⟨k, k1, k2⟩
    · rw [g, vfD_h T (Nat.le_refl _), vfD_h T' (Nat.le_refl _), hV]
    · rw [k2]; exact ih k k1 (by omega)
/-- whether nothing changed by more than 1 -/
def bfD (up t : Nat → Nat) (ls V : Nat → Int32) : Nat → Bool
  | 0 => true
  | k + 1 => bfD up t ls V k && decide (jabs ((vfD up t ls V k (up (t k)) - ls (t k)) - vfD up t ls V k (t k)) ≤ 1)
theorem bfD_i (T : Top up t h N) : ∀ k, k ≤ N → (bfD up t ls V k = true ↔ ∀ i, i < k → jabs (vfD up t ls V N (t i) - V (t i)) ≤ 1)
  | 0, _ => ⟨fun _ i h => absurd h (by omega), fun _ => rfl⟩
  | k + 1, hk => by
    unfold bfD
    have e1 : vfD up t ls V k (t k) = V (t k) := vfD_o k (fun i hi e => by have := T.2 i k (by omega) (by omega) e; omega)
    have e2 : vfD up t ls V k (up (t k)) - ls (t k) = vfD up t ls V N (t k) := by rw [vfD_u T (by omega), vfD_eq T (by omega)]
    rw [Bool.and_eq_true, decide_eq_true_eq, e1, e2, bfD_i T k (by omega)]
    constructor
    · rintro ⟨a, b⟩ i hi
      by_cases g : i = k
      · rw [g]; exact b
      · exact a i (by omega)
    · exact fun a => ⟨fun i hi => a i (by omega), a k (by omega)⟩
theorem bfD_un (T : Top up t h N) (T' : Top up t' h N') (hm : ∀ c, c < 48 → lnm t N c = lnm t' N' c) (hl : ∀ i, i < N → ls (t i) = ls' (t i)) (hV : V h = V' h) (hV2 : ∀ i, i < N → V (t i) = V' (t i)) : bfD up t ls V N = bfD up t' ls' V' N' := by
  have hv := vfD_un (ls := ls) (ls' := ls') T T' hm hl hV
  rw [Bool.eq_iff_iff, bfD_i T N (Nat.le_refl _), bfD_i T' N' (Nat.le_refl _)]
  constructor
  · intro a j hj
    have h1 : lnm t N (t' j) = true := by rw [hm (t' j) (T'.1 j hj).1]; exact lnm_i.mpr ⟨j, hj, rfl⟩
    obtain ⟨i, i1, i2⟩ := lnm_i.mp h1
    rw [← i2, ← hv i i1, ← hV2 i i1]; exact a i i1
  · intro a i hi
    have h1 : lnm t' N' (t i) = true := by rw [← hm (t i) (T.1 i hi).1]; exact lnm_i.mpr ⟨i, hi, rfl⟩
    obtain ⟨j, j1, j2⟩ := lnm_i.mp h1
    have := a j j1
    rw [j2] at this
    rw [hv i hi, hV2 i hi]; exact this
/-- what the farms draw: at a place -/
def ownV (dr : Nat → Bool) (ce ld : Nat → Nat) (V : Nat → Int32) (x : Nat) : Nat → Nat
  | 0 => 0
  | k + 1 => ownV dr ce ld V x k + (if ce k = x ∧ 0 < V x ∧ dr k = true then ld k * 1000 / (V x).toNatClampNeg else 0)
theorem ownV_sum {dr : Nat → Bool} {ce ld : Nat → Nat} {V : Nat → Int32} : ∀ n, (∀ f, f < n → ce f < 48 ∧ ld f ≤ 50) → lsum (fun x => ownV dr ce ld V x n) 48 ≤ n * 50000
  | 0, _ => by
    rw [lsum_zero (f := fun x => ownV dr ce ld V x 0) 48 (fun i _ => rfl)]; omega
  | n + 1, H => by
    obtain ⟨h1, h2⟩ := H n (by omega)
    have ih := ownV_sum (dr := dr) (V := V) n (fun f hf => H f (by omega))
    have := lsum_one (f := fun x => ownV dr ce ld V x (n + 1)) (g := fun x => ownV dr ce ld V x n) (a := ce n) (v := if ce n = ce n ∧ 0 < V (ce n) ∧ dr n = true then ld n * 1000 / (V (ce n)).toNatClampNeg else 0) 48 h1 (fun i _ hne => by
      rw [show ownV dr ce ld V i (n + 1) = ownV dr ce ld V i n + (if ce n = i ∧ 0 < V i ∧ dr n = true then ld n * 1000 / (V i).toNatClampNeg else 0) from rfl, if_neg (fun h => hne h.1.symm), Nat.add_zero]) rfl
    have hv : (if ce n = ce n ∧ 0 < V (ce n) ∧ dr n = true then ld n * 1000 / (V (ce n)).toNatClampNeg else 0) ≤ 50000 := by
      split
      · exact Nat.le_trans (Nat.div_le_self _ _) (by omega)
      · omega
    omega
def lsW (w : Nat) (C : Nat → Nat) (c : Nat) : Int32 := nI (w * C c) / 10
/-- volts after some sweeps -/
def swV (up t : Nat → Nat) (N : Nat) (ow : (Nat → Int32) → Nat → Nat) (w : Nat) : Nat → Nat → Int32
  | 0 => fun _ => 1000
  | k + 1 => vfD up t (lsW w (cfF up t (ow (swV up t N ow w k)) N)) (swV up t N ow w k) N
def swC (up t : Nat → Nat) (N : Nat) (ow : (Nat → Int32) → Nat → Nat) (w : Nat) (k : Nat) : Nat → Nat := cfF up t (ow (swV up t N ow w k)) N
def swB (up t : Nat → Nat) (N : Nat) (ow : (Nat → Int32) → Nat → Nat) (w : Nat) (k : Nat) : Bool := bfD up t (lsW w (swC up t N ow w k)) (swV up t N ow w k) N
variable {ow ow' : (Nat → Int32) → Nat → Nat} {w : Nat}
theorem sw_un (T : Top up t h N) (T' : Top up t' h N') (hm : ∀ c, c < 48 → lnm t N c = lnm t' N' c) (ho : ∀ V V' : Nat → Int32, (∀ i, i < N → V (t i) = V' (t i)) → ∀ i, i < N → ow V (t i) = ow' V' (t i)) : ∀ k, swV up t N ow w k h = swV up t' N' ow' w k h ∧ ∀ i, i < N → swV up t N ow w k (t i) = swV up t' N' ow' w k (t i)
  | 0 => ⟨rfl, fun _ _ => rfl⟩
  | k + 1 => by
    obtain ⟨i1, i2⟩ := sw_un T T' hm ho k
    have hC := cfF_un T T' hm (ho _ _ i2) N
    have hl : ∀ i, i < N → lsW w (cfF up t (ow (swV up t N ow w k)) N) (t i) = lsW w (cfF up t' (ow' (swV up t' N' ow' w k)) N') (t i) := fun i hi => by
      unfold lsW
      rw [hC i hi (by omega)]
    refine ⟨?_, fun i hi => ?_⟩
    · unfold swV
      rw [vfD_h T (Nat.le_refl _), vfD_h T' (Nat.le_refl _)]; exact i1
    · unfold swV
      exact vfD_un T T' hm hl i1 i hi
theorem swC_un (T : Top up t h N) (T' : Top up t' h N') (hm : ∀ c, c < 48 → lnm t N c = lnm t' N' c) (ho : ∀ V V' : Nat → Int32, (∀ i, i < N → V (t i) = V' (t i)) → ∀ i, i < N → ow V (t i) = ow' V' (t i)) (k : Nat) {i : Nat} (hi : i < N) : swC up t N ow w k (t i) = swC up t' N' ow' w k (t i) := cfF_un T T' hm (ho _ _ (sw_un (w := w) T T' hm ho k).2) N i hi (by omega)
theorem swB_un (T : Top up t h N) (T' : Top up t' h N') (hm : ∀ c, c < 48 → lnm t N c = lnm t' N' c) (ho : ∀ V V' : Nat → Int32, (∀ i, i < N → V (t i) = V' (t i)) → ∀ i, i < N → ow V (t i) = ow' V' (t i)) (k : Nat) : swB up t N ow w k = swB up t' N' ow' w k := by
  obtain ⟨i1, i2⟩ := sw_un (w := w) T T' hm ho k
  unfold swB
  refine bfD_un T T' hm (fun i hi => ?_) i1 i2
  unfold lsW
  rw [swC_un T T' hm ho k hi]
/-- after how many sweeps it ends -/
def stN (B : Nat → Bool) (k : Nat) : Prop := 1 ≤ k ∧ k ≤ 30 ∧ (∀ j, 1 ≤ j → j < k → B (j - 1) = false) ∧ (B (k - 1) = true ∨ k = 30)
theorem stN_u {B : Nat → Bool} {a b : Nat} (ha : stN B a) (hb : stN B b) : a = b := by
  obtain ⟨a1, a2, a3, a4⟩ := ha
  obtain ⟨b1, b2, b3, b4⟩ := hb
  rcases Nat.lt_trichotomy a b with g | g | g
  · have h1 := b3 a a1 g
    rcases a4 with h2 | h2
    · rw [h1] at h2; exact absurd h2 (by decide)
    · omega
  · exact g
  · have h1 := a3 b b1 g
    rcases b4 with h2 | h2
    · rw [h1] at h2; exact absurd h2 (by decide)
    · omega
end VO
end
