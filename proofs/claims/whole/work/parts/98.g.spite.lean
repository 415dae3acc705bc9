section
section SI
variable {M : Mem} {σ : Nat → Int32} {a b c d d' i j : Nat}
theorem anc_add : ∀ k, anc σ (anc σ c i) k = anc σ c (i + k)
  | 0 => rfl
  | k + 1 => by
    show nt σ (116 + anc σ (anc σ c i) k) = nt σ (116 + anc σ c (i + k))
    rw [anc_add k]
theorem path_sub (h : Path σ a d) (hi : i ≤ d) : Path σ (anc σ a i) (d - i) := by
  obtain ⟨p1, p2, p3⟩ := h
  refine ⟨fun j hj => ?_, ?_, ?_⟩
  · rw [anc_add, anc_add]
    exact p1 (i + j) (by omega)
  · rw [anc_add, show i + (d - i) = d by omega]; exact p2
  · rw [anc_add, show i + (d - i) = d by omega]; exact p3
theorem path_un (h : Path σ c d) (h' : Path σ c d') : d = d' := by
  rcases Nat.lt_trichotomy d d' with g | g | g
  · exact absurd h.2.1 (h'.1 d g).1
  · exact g
  · exact absurd h'.2.1 (h.1 d' g).1
theorem path_inj (h : Path σ a d) (hi : i ≤ d) (hj : j ≤ d) (e : anc σ a i = anc σ a j) : i = j := by
  have h1 := path_sub h hi
  have h2 := path_sub h hj
  rw [e] at h1
  have := path_un h1 h2
  omega
theorem path_lt (h : Path σ a d) (hi : i ≤ d) : anc σ a i < 48 := by
  by_cases g : i = d
  · rw [g]; exact h.2.2
  · exact (h.1 i (by omega)).2.2
def chb (σ : Nat → Int32) (a d c : Nat) : Bool := lnm (anc σ a) (d + 1) c
theorem chb_i : chb σ a d c = true ↔ ∃ i, i ≤ d ∧ anc σ a i = c := by
  unfold chb
  rw [lnm_i]
  constructor
  · rintro ⟨i, h1, h2⟩; exact ⟨i, by omega, h2⟩
  · rintro ⟨i, h1, h2⟩; exact ⟨i, by omega, h2⟩
theorem chb_onL (h : Path σ a d) (hc : chb σ a d c = true) : onL σ c = true := by
  obtain ⟨i, i1, i2⟩ := chb_i.mp hc
  unfold onL
  by_cases g : i = d
  · rw [← i2, g, decide_eq_true h.2.1]; rfl
  · obtain ⟨-, g2, -⟩ := h.1 i (by omega)
    rw [← i2, decide_eq_false (show ¬ σ (116 + anc σ a i) = -1 from fun e => by
      rw [g2] at e
      exact nI_ne_m1 (by have := path_lt h (show i + 1 ≤ d by omega); omega) e), Bool.not_false, Bool.or_true]
/-- a cell that hangs on it and is on both ways -/
def bad (σ : Nat → Int32) (a d b d' c e : Nat) : Bool := decide (σ (116 + e) = nI c) && (chb σ a d e && chb σ b d' e)
theorem lca_s {i0 : Nat} (ha : Path σ a d) (hb : Path σ b d') (hs : σ (116 + anc σ a d) = -1) (h0 : i0 ≤ d) (h1 : chb σ b d' (anc σ a i0) = true) (h2 : ∀ i, i < i0 → chb σ b d' (anc σ a i) = false) (hc : c < 48) : ((chb σ a d c && chb σ b d' c) && decide (cnt (bad σ a d b d' c) 48 = 0)) = decide (c = anc σ a i0) := by
  by_cases g : c = anc σ a i0
  · rw [decide_eq_true g]
    have q1 : chb σ a d c = true := chb_i.mpr ⟨i0, h0, g.symm⟩
    have q2 : chb σ b d' c = true := by rw [g]; exact h1
    have q3 : cnt (bad σ a d b d' c) 48 = 0 := by
      rw [cnt_z0]
      intro e he
      cases hbad : bad σ a d b d' c e
      · rfl
      · exfalso
        unfold bad at hbad
        simp only [Bool.and_eq_true, decide_eq_true_eq] at hbad
        obtain ⟨w1, w2, w3⟩ := hbad
        obtain ⟨j, j1, j2⟩ := chb_i.mp w2
        by_cases jd : j = d
        · rw [← j2, jd, hs] at w1
          exact nI_ne_m1 (by omega) w1.symm
        · obtain ⟨-, t2, t3⟩ := ha.1 j (by omega)
          have t4 := path_lt ha (show j + 1 ≤ d by omega)
          rw [← j2, t2] at w1
          have t5 := (nI_inj (by omega) (by omega)).mp w1
          rw [g] at t5
          have t6 := path_inj ha (show j + 1 ≤ d by omega) h0 t5
          have := h2 j (by omega)
          rw [j2, w3] at this
          exact Bool.noConfusion this
    rw [q1, q2, decide_eq_true q3]; rfl
  · rw [decide_eq_false g]
    cases q1 : chb σ a d c
    · rfl
    · cases q2 : chb σ b d' c
      · rfl
      · rw [Bool.and_true, Bool.true_and]
        refine decide_eq_false (fun hz => ?_)
        rw [cnt_z0] at hz
        obtain ⟨i, i1, i2⟩ := chb_i.mp q1
        have hi : i0 < i := by
          rcases Nat.lt_trichotomy i i0 with l | l | l
          · have := h2 i l
            rw [i2, q2] at this
            exact Bool.noConfusion this
          · rw [l] at i2; exact absurd i2.symm g
          · exact l
        obtain ⟨j0, j1, j2⟩ := chb_i.mp h1
        have e1 := path_sub ha h0
        have e2 := path_sub hb j1
        rw [j2] at e2
        have e3 := path_un e1 e2
        have hin : chb σ b d' (anc σ a (i - 1)) = true := chb_i.mpr ⟨j0 + (i - 1 - i0), by omega, by
          rw [← anc_add, j2, anc_add, show i0 + (i - 1 - i0) = i - 1 by omega]⟩
        have hin2 : chb σ a d (anc σ a (i - 1)) = true := chb_i.mpr ⟨i - 1, by omega, rfl⟩
        obtain ⟨-, t2, t3⟩ := ha.1 (i - 1) (by omega)
        have := hz (anc σ a (i - 1)) t3
        unfold bad at this
        rw [hin, hin2, t2, show i - 1 + 1 = i by omega, i2, decide_eq_true rfl] at this
        exact Bool.noConfusion this
def btw (σ : Nat → Int32) (a d b d' c : Nat) : Bool := onL σ c && ((chb σ a d c ^^ chb σ b d' c) || ((chb σ a d c && chb σ b d' c) && decide (cnt (bad σ a d b d' c) 48 = 0)))
/-- class's bits -/
theorem e_between (R : Rline M.1 σ) (h9 : inb (σ 9) 48 = true) (h5 : inb (σ 5) 48 = true) (ha : a < 48) (hb : b < 48) (oa : onL σ a = true) (ob : onL σ b = true) : ∃ x M', f_Line_between_24 (nI a) (nI b) M = some (x, M') ∧ Fr s27 M M' ∧ ∀ c, c < 48 → btL x c = btw σ a (mil σ a) b (mil σ b) c := by
  obtain ⟨x1, M1, u1, u2, u3, -⟩ := e_upward R h9 h5 hb
  have RX : ∀ X : Mem, Fr s27 M X → Rline X.1 σ := fun X hF => by
    unfold Rline
    rw [hF.row (a := 24) (fun _ => rfl), hF.row (a := 25) (fun _ => rfl), hF.row (a := 26) (fun _ => rfl)]; exact R
  obtain ⟨x2, M2, v1, v2, v3, -⟩ := e_upward (RX M1 u2) h9 h5 ha
  obtain ⟨M3, w1, w2, w3, w4⟩ := e_climb (RX M2 (u2.trans v2)) h9 h5 ha
  obtain ⟨pa, la⟩ := path_mil' R.2.2.2.2 h9 h5 ha oa
  obtain ⟨pb, lb⟩ := path_mil' R.2.2.2.2 h9 h5 hb ob
  have l5 := (nt_inb h5).2
  obtain ⟨e9, l9⟩ := nt_inb h9
  have hoff : σ (116 + anc σ a (mil σ a)) = -1 := hs_off R.2.2.2.2 pa.2.2 pa.2.1
  have hhb : chb σ b (mil σ b) (anc σ a (mil σ a)) = true := chb_i.mpr ⟨mil σ b, Nat.le_refl _, (nI_inj (by have := pb.2.2; omega) (by have := pa.2.2; omega)).mp (pb.2.1.trans pa.2.1.symm)⟩
  have hup : ∀ c, c < 48 → btL x1 c = chb σ b (mil σ b) c := u3 ob
  have hua : ∀ c, c < 48 → btL x2 c = chb σ a (mil σ a) c := v3 oa
  obtain ⟨q, k1, i0, k2, k3, k4, k5⟩ := itr_cnt (body := b_Line_between_24_23 (x1, M1) (nI (mil σ a), M3)) (s0 := (nI a, nI (mil σ a))) (fun k z => z.2 = nI (mil σ a + 1 - k) - 1 ∧ (1 ≤ k → ∃ i0, mil σ a + 1 - k ≤ i0 ∧ i0 ≤ mil σ a ∧ z.1 = nI (anc σ a i0) ∧ chb σ b (mil σ b) (anc σ a i0) = true ∧ ∀ i, mil σ a + 1 - k ≤ i → i < i0 → chb σ b (mil σ b) (anc σ a i) = false)) (fun q => ∃ i0, i0 ≤ mil σ a ∧ q = nI (anc σ a i0) ∧ chb σ b (mil σ b) (anc σ a i0) = true ∧ ∀ i, i < i0 → chb σ b (mil σ b) (anc σ a i) = false) (mil σ a + 1) (by omega) ⟨(dm1 _).symm, fun h => absurd h (by omega)⟩ (by
    rintro k ⟨x, y⟩ hk ⟨hy, hx⟩
    dsimp only at hy hx
    left
    obtain ⟨m, hm⟩ : ∃ m, mil σ a + 1 - k = m + 1 := ⟨mil σ a - k, by omega⟩
    rw [hm, dm1] at hy
    rw [hy]
    have hmb := path_lt pa (show m ≤ mil σ a by omega)
    have hst : b_Line_between_24_23 (x1, M1) (nI (mil σ a), M3) (x, nI m) = some (.inl (if chb σ b (mil σ b) (anc σ a m) = true then nI (anc σ a m) else x, nI m - 1)) := by
      unfold b_Line_between_24_23
      dsimp only
      rw [nI_nneg (by omega), ite_ff, atv_nI (by omega) (by omega), w4 oa m (by omega), bL_bit x1 (by omega), hup _ hmb, am1]
      cases chb σ b (mil σ b) (anc σ a m) <;> rfl
    refine ⟨_, hst, by dsimp only; rw [show mil σ a + 1 - (k + 1) = m by omega], fun _ => ?_⟩
    dsimp only
    rw [show mil σ a + 1 - (k + 1) = m by omega]
    by_cases g : chb σ b (mil σ b) (anc σ a m) = true
    · rw [if_pos g]
      exact ⟨m, by omega, by omega, rfl, g, fun i i1 i2 => by omega⟩
    · rw [if_neg g]
      by_cases k0 : 1 ≤ k
      · obtain ⟨i0, i1, i2, i3, i4, i5⟩ := hx k0
        refine ⟨i0, by omega, i2, i3, i4, fun i g1 g2 => ?_⟩
        by_cases g3 : i = m
        · rw [g3]
          cases h : chb σ b (mil σ b) (anc σ a m)
          · rfl
          · exact absurd h g
        · exact i5 i (by omega) g2
      · exfalso
        rw [show m = mil σ a by omega] at g
        exact g hhb) (by
    rintro ⟨x, y⟩ ⟨hy, hx⟩
    dsimp only at hy hx
    obtain ⟨i0, i1, i2, i3, i4, i5⟩ := hx (by omega)
    rw [hy, Nat.sub_self]
    refine ⟨x, ?_, i0, i2, i3, i4, fun i hi => i5 i (by omega) hi⟩
    unfold b_Line_between_24_23
    dsimp only
    rw [neg1 0, ite_tt])
  refine ⟨(x2 ^^^ x1) ||| ((1 : Int64) <<< (q.toInt64 &&& 63)), M3, ?_, (u2.trans v2).trans w2, fun c hc => ?_⟩
  · unfold f_Line_between_24
    rw [u1, Option.bind_some, v1, Option.bind_some, w1, Option.bind_some, k1]
    rfl
  · have hlt := path_lt pa k2
    rw [bL_or, bL_xor, hua c hc, hup c hc, k3, bL_one _ (by omega) (by omega)]
    have hl := lca_s pa pb hoff k2 k4 k5 hc
    unfold btw
    rw [hl]
    cases ho : onL σ c
    · rw [Bool.false_and]
      cases q1 : chb σ a (mil σ a) c
      · cases q2 : chb σ b (mil σ b) c
        · rw [decide_eq_false (fun e => by
            have : chb σ a (mil σ a) c = true := chb_i.mpr ⟨i0, k2, e.symm⟩
            rw [q1] at this; exact Bool.noConfusion this)]; rfl
        · have := chb_onL pb q2
          rw [ho] at this; exact Bool.noConfusion this
      · have := chb_onL pa q1
        rw [ho] at this; exact Bool.noConfusion this
    · rw [Bool.true_and]
/-- the model's -/
theorem e_onWayHome (ha : Path (M.1 95) a d) (hs : M.1 95 (116 + anc (M.1 95) a d) = -1) (hd : d < 1000) (hc : c < 48) : f_Mo_isOnWayHome_94 (nI c) (nI a) M = some (chb (M.1 95) a d c) := by
  obtain ⟨e, h1, h2⟩ := itr_cnt (body := b_Mo_isOnWayHome_94_2 (nI c) M) (s0 := nI a) (fun k y => y = nI (anc (M.1 95) a k) ∧ ∀ i, i < k → anc (M.1 95) a i ≠ c) (fun e => decide (e = nI c) = chb (M.1 95) a d c) d (by omega) ⟨rfl, fun i hi => by omega⟩ (by
    rintro k y hk ⟨rfl, hy⟩
    obtain ⟨p1, p2, p3⟩ := ha.1 k hk
    unfold b_Mo_isOnWayHome_94_2
    by_cases g : anc (M.1 95) a k = c
    · right
      refine ⟨nI c, ?_, ?_⟩
      · rw [g, decide_eq_true rfl, ite_tt]
      · rw [decide_eq_true rfl, chb_i.mpr ⟨k, by omega, g⟩]
    · left
      refine ⟨nI (anc (M.1 95) a (k + 1)), ?_, rfl, fun i hi => ?_⟩
      · rw [d_eq (by omega) (by omega), decide_eq_false g, ite_ff, decide_eq_false p1, ite_ff, show (116 : Int32) = nI 116 from rfl, nI_addn, inb_t (by omega) (by omega), ite_tt, nI_cl (by omega), p2]
      · by_cases q : i = k
        · rw [q]; exact g
        · exact hy i (by omega)) (by
    rintro y ⟨rfl, hy⟩
    refine ⟨nI (anc (M.1 95) a d), ?_, ?_⟩
    · unfold b_Mo_isOnWayHome_94_2
      by_cases g : nI (anc (M.1 95) a d) = nI c
      · rw [decide_eq_true g, ite_tt]
      · rw [decide_eq_false g, ite_ff, decide_eq_true ha.2.1, ite_tt]
    · have hlt := ha.2.2
      rw [d_eq (by omega) (by omega), Bool.eq_iff_iff, decide_eq_true_eq, chb_i]
      constructor
      · exact fun h => ⟨d, Nat.le_refl _, h⟩
      · rintro ⟨i, i1, i2⟩
        by_cases q : i = d
        · rw [← q]; exact i2
        · exact absurd i2 (hy i (by omega)))
  unfold f_Mo_isOnWayHome_94
  rw [h1, Option.bind_some, h2]
  cases chb (M.1 95) a d c <;> rfl
theorem bI_eq (x y : Bool) : decide (bI x = bI y) = (x == y) := by cases x <;> cases y <;> rfl
theorem e_isBetween (ha : Path (M.1 95) a d) (hb : Path (M.1 95) b d') (hsa : M.1 95 (116 + anc (M.1 95) a d) = -1) (hsb : M.1 95 (116 + anc (M.1 95) b d') = -1) (hd : d < 1000) (hd' : d' < 1000) (hc : c < 48) : f_Mo_isBetween_94 (nI c) (nI a) (nI b) M = some (btw (M.1 95) a d b d' c) := by
  unfold f_Mo_isBetween_94
  rw [e_Mo_isOnLine hc, Option.bind_some]
  unfold btw
  cases ho : onL (M.1 95) c
  · rfl
  rw [ite_tt, e_onWayHome ha hsa hd hc, Option.bind_some, e_onWayHome hb hsb hd' hc, Option.bind_some, bI_eq, Bool.true_and]
  cases q1 : chb (M.1 95) a d c
  · cases q2 : chb (M.1 95) b d' c
    · rw [show (false == false) = true from rfl, ite_tt, show FU = 999999999 + 1 from rfl, itr_r (e := false) (by
        unfold b_Mo_isBetween_94_42
        dsimp only
        rw [if_pos (show decide ((0 : Int32) < 48) = true from rfl), ite_ff])]
      rfl
    · rfl
  · cases q2 : chb (M.1 95) b d' c
    · rfl
    · rw [show (true == true) = true from rfl, ite_tt]
      have hz : ∀ k, k ≤ 48 → cnt (bad (M.1 95) a d b d' c) k ≠ 0 → cnt (bad (M.1 95) a d b d' c) 48 ≠ 0 := fun k hk h => by
        have := cnt_n (p := bad (M.1 95) a d b d' c) (a := k) (48 - k)
        rw [show k + (48 - k) = 48 by omega] at this
        omega
      obtain ⟨e, h1, h2⟩ := itr_cnt (body := b_Mo_isBetween_94_42 (nI c) (nI a) (nI b) M) (s0 := (true, (0 : Int32))) (fun k z => z = (decide (cnt (bad (M.1 95) a d b d' c) k = 0), nI k)) (fun e => e = decide (cnt (bad (M.1 95) a d b d' c) 48 = 0)) 48 (by omega) rfl (by
        rintro k z hk rfl
        by_cases g : cnt (bad (M.1 95) a d b d' c) k = 0
        · left
          refine ⟨_, ?_, rfl⟩
          have hcn : decide (cnt (bad (M.1 95) a d b d' c) (k + 1) = 0) = !bad (M.1 95) a d b d' c k := by
            cases h : bad (M.1 95) a d b d' c k
            · rw [cnt_s0 h]; exact decide_eq_true g
            · rw [cnt_s h]; exact decide_eq_false (by omega)
          rw [hcn]
          unfold b_Mo_isBetween_94_42
          dsimp only
          rw [show (48 : Int32) = nI 48 from rfl, dlt_t hk (by omega), ite_tt, decide_eq_true g, ite_tt, show (116 : Int32) = nI 116 from rfl, nI_addn, inb_t (by omega) (by omega), ite_tt, nI_cl (by omega), e_onWayHome ha hsa hd hk, e_onWayHome hb hsb hd' hk, Option.bind_some, Option.bind_some, nI_one]
          rw [show bad (M.1 95) a d b d' c k = (decide (M.1 95 (116 + k) = nI c) && (chb (M.1 95) a d k && chb (M.1 95) b d' k)) from rfl]
          cases decide (M.1 95 (116 + k) = nI c)
          · rfl
          · cases chb (M.1 95) a d k
            · rfl
            · cases chb (M.1 95) b d' k <;> rfl
        · right
          refine ⟨false, ?_, (decide_eq_false (hz k (by omega) g)).symm⟩
          unfold b_Mo_isBetween_94_42
          dsimp only
          rw [show (48 : Int32) = nI 48 from rfl, dlt_t hk (by omega), ite_tt, decide_eq_false g, ite_ff]) (by
        rintro z rfl
        refine ⟨_, ?_, rfl⟩
        unfold b_Mo_isBetween_94_42
        dsimp only
        rw [show (48 : Int32) = nI 48 from rfl, dlt_f (Nat.le_refl _) (by omega), ite_ff])
      have h1' : itr (b_Mo_isBetween_94_42 (nI c) (nI a) (nI b) M) FU (true, 0) = some e := h1
      rw [h1', h2]
      rfl
theorem kf_5 {m : Int32} {n f : Nat} : decide (kf σ m n no no f = 5) = decide (wh σ m n f = 4) := by
  unfold kf k0
  rw [if_neg (show ¬ no f = true from by unfold no; decide), if_neg (show ¬ no f = true from by unfold no; decide)]
  by_cases g4 : wh σ m n f = 4
  · rw [g4]; rfl
  · rw [decide_eq_false g4]
    by_cases g0 : wh σ m n f = -1
    · rw [if_pos g0]; rfl
    · rw [if_neg g0]
      by_cases g1 : wh σ m n f = 1
      · rw [if_pos g1, if_pos rfl]
        cases mb σ m n no no f <;> rfl
      · rw [if_neg g1]
        by_cases g2 : wh σ m n f = 2
        · rw [if_pos g2]; rfl
        · rw [if_neg g2, if_neg g4]; rfl
end SI
end
