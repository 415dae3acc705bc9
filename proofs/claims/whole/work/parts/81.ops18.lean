section O18
def isum (f : Nat → Int32) : Nat → Int32
  | 0 => 0
  | n + 1 => isum f n + f n
theorem isum_congr {f g : Nat → Int32} : ∀ n, (∀ i, i < n → f i = g i) → isum f n = isum g n
  | 0, _ => rfl
  | n + 1, h => by
    show isum f n + f n = isum g n + g n
    rw [isum_congr n (fun i hi => h i (by omega)), h n (by omega)]
theorem isum_one {f g : Nat → Int32} {d : Nat} {x : Int32} (hx : g d = f d + x) : ∀ n, d < n → (∀ c, c < n → c ≠ d → g c = f c) → isum g n = isum f n + x
  | 0, h, _ => absurd h (by omega)
  | n + 1, h, ho => by
    show isum g n + g n = isum f n + f n + x
    by_cases c : d = n
    · rw [isum_congr n (fun i hi => ho i (by omega) (by omega)), ← c, hx, Int32.add_assoc]
    · rw [isum_one hx n (by omega) (fun c hc hd => ho c (by omega) hd), ho n (by omega) (by omega), Int32.add_assoc, Int32.add_assoc, Int32.add_comm x]
theorem isum_z {n : Nat} : isum (fun _ => 0) n = 0 := by
  induction n with
  | zero => rfl
  | succ n ih => show isum _ n + 0 = 0; rw [ih]; rfl
def tmem (τ : Nat → Int32) (c : Nat) : Nat → Bool
  | 0 => false
  | k + 1 => tmem τ c k || decide (τ k = nI c)
theorem tmem_iff {τ : Nat → Int32} {c : Nat} : ∀ n, tmem τ c n = true ↔ ∃ i, i < n ∧ τ i = nI c
  | 0 => ⟨fun h => (nomatch h), fun ⟨i, h, _⟩ => absurd h (by omega)⟩
  | n + 1 => by
    show (tmem τ c n || decide (τ n = nI c)) = true ↔ _
    rw [Bool.or_eq_true, tmem_iff n, decide_eq_true_eq]
    constructor
    · rintro (⟨i, h1, h2⟩ | h)
      · exact ⟨i, by omega, h2⟩
      · exact ⟨n, by omega, h⟩
    · rintro ⟨i, h1, h2⟩
      by_cases g : i = n
      · exact .inr (by rw [← g]; exact h2)
      · exact .inl ⟨i, by omega, h2⟩
theorem isum_perm {τ g : Nat → Int32} : ∀ N, (∀ i, i < N → ∃ c, c < 48 ∧ τ i = nI c) → (∀ i j, i < N → j < N → τ i = τ j → i = j) → isum (fun i => g (τ i).toNatClampNeg) N = isum (fun c => if tmem τ c N = true then g c else 0) 48
  | 0, _, _ => (isum_z (n := 48)).symm
  | N + 1, hv, hi => by
    obtain ⟨d, d1, d2⟩ := hv N (by omega)
    show isum (fun i => g (τ i).toNatClampNeg) N + g (τ N).toNatClampNeg = _
    rw [isum_perm N (fun i h => hv i (by omega)) (fun i j h1 h2 => hi i j (by omega) (by omega)), d2, nI_cl (by omega)]
    refine (isum_one (d := d) ?_ 48 d1 (fun c hc hd => ?_)).symm
    · have h1 : tmem τ d N = false := by
        cases h : tmem τ d N
        · rfl
        · obtain ⟨i, i1, i2⟩ := (tmem_iff N).mp h
          have := hi i N (by omega) (by omega) (i2.trans d2.symm)
          omega
      have h2 : tmem τ d (N + 1) = true := (tmem_iff _).mpr ⟨N, by omega, d2⟩
      rw [if_pos h2, if_neg (by rw [h1]; decide), Int32.zero_add]
    · have : tmem τ c (N + 1) = tmem τ c N := by
        show (tmem τ c N || decide (τ N = nI c)) = _
        rw [d2, d_eq (by omega) (by omega), decide_eq_false (fun e => hd e.symm), Bool.or_false]
      rw [this]
/-- the line's cost -/
def lcs (σ : Nat → Int32) (c : Nat) : Int32 := if σ (116 + c) = -1 then 0 else cst σ (nt σ (116 + c)) c
variable {n : Nat} {M : Mem}
theorem told_cell {σ τ : Nat → Int32} (T : Tree σ τ) (wl : ∀ c, c < 48 → σ (116 + c) = -1 ∨ inb (σ (116 + c)) 48 = true) {i : Nat} (hi : i < nt σ 5) : ∃ c, c < 48 ∧ τ i = nI c ∧ nt σ (116 + c) < 48 ∧ σ (116 + c) = nI (nt σ (116 + c)) ∧ σ (116 + c) ≠ -1 := by
  obtain ⟨c, c1, c2, -, -⟩ := T.1 i hi
  have hc : σ (116 + c) ≠ -1 := (T.2.2 c c1).mpr ⟨i, hi, c2⟩
  rcases wl c c1 with h | h
  · exact absurd h hc
  · obtain ⟨e, l⟩ := nt_inb h
    exact ⟨c, c1, c2, l, e, hc⟩
theorem e_costOn {σ : Nat → Int32} (I : Rline M.1 σ) (L : Rland M.1 σ) (wl : wLand σ) (h5 : inb (σ 5) 48 = true) : f_Line_costOn_24_2 M = some (isum (lcs σ) 48) := by
  obtain ⟨e5, l5⟩ := nt_inb h5
  have hT := I.2.2.2.2
  have hp : isum (fun i => lcs σ (M.1 26 i).toNatClampNeg) (nt σ 5) = isum (lcs σ) 48 := by
    rw [isum_perm (g := lcs σ) (nt σ 5) (fun i hi => by
      obtain ⟨c, c1, c2, -⟩ := hT.1 i hi
      exact ⟨c, c1, c2⟩) hT.2.1]
    apply isum_congr
    intro c hc
    by_cases g : tmem (M.1 26) c (nt σ 5) = true
    · rw [if_pos g]
    · rw [if_neg g]
      have : σ (116 + c) = -1 := by
        refine Classical.byContradiction fun h => g ?_
        exact (tmem_iff _).mpr ((hT.2.2 c hc).mp h)
      unfold lcs
      rw [if_pos this]
  unfold f_Line_costOn_24_2
  obtain ⟨e, h1, h2⟩ := itr_cnt (body := b_Line_costOn_24_2_4 M) (s0 := ((0 : Int32), (0 : Int32))) (fun k s => s = (isum (fun i => lcs σ (M.1 26 i).toNatClampNeg) k, nI k)) (fun e => e = isum (lcs σ) 48) (nt σ 5) (by omega) rfl (by
    rintro k s hk rfl
    left
    refine ⟨_, ?_, rfl⟩
    unfold b_Line_costOn_24_2_4
    dsimp only
    obtain ⟨c, c1, c2, c3, c4, c5⟩ := told_cell hT wl.2.2 hk
    rw [I.1, e5, dlt_t hk (by omega), ite_tt, atv_nI (by omega) (by omega), c2, e_ahead c1 (I.2.2.2.1 c c1), Option.bind_some, c4, e_stretch L c3 c1, Option.bind_some, nI_one]
    show _ = some (Sum.inl (isum _ k + lcs σ (M.1 26 k).toNatClampNeg, nI (k + 1)))
    rw [c2, nI_cl (by omega)]
    unfold lcs
    rw [if_neg c5]) (by
    rintro s rfl
    refine ⟨_, ?_, hp⟩
    unfold b_Line_costOn_24_2_4
    dsimp only
    rw [I.1, e5, dlt_f (Nat.le_refl _) (by omega), ite_ff])
  rw [h1, h2]; rfl
theorem e_MoCostOn (wl : wLand (M.1 95)) : itr (b_Mo_mile_94_73 M) FU (0, 0) = some (isum (lcs (M.1 95)) 48) := by
  obtain ⟨e, h1, h2⟩ := itr_cnt (body := b_Mo_mile_94_73 M) (s0 := ((0 : Int32), (0 : Int32))) (fun k s => s = (isum (lcs (M.1 95)) k, nI k)) (fun e => e = isum (lcs (M.1 95)) 48) 48 (by omega) rfl (by
    rintro k s hk rfl
    left
    refine ⟨(isum (lcs (M.1 95)) k + lcs (M.1 95) k, nI (k + 1)), ?_, rfl⟩
    unfold b_Mo_mile_94_73 jn_
    dsimp only
    rw [show (48 : Int32) = nI 48 from rfl, dlt_t hk (by omega), ite_tt, q116, nI_addn, inb_t (by omega) (by omega), ite_tt, ite_tt, nI_cl (by omega), nI_one]
    unfold lcs
    by_cases g : M.1 95 (116 + k) = -1
    · rw [if_pos (decide_eq_true g), if_pos g]
    · rw [if_neg (by rw [decide_eq_true_eq]; exact g), if_neg g]
      rcases wl.2.2 k hk with h | h
      · exact absurd h g
      · obtain ⟨e, l⟩ := nt_inb h
        rw [e, e_Mo_costOf l hk wl.1, Option.bind_some]) (by
    rintro s rfl
    refine ⟨_, ?_, rfl⟩
    unfold b_Mo_mile_94_73
    dsimp only
    rw [show (48 : Int32) = nI 48 from rfl, dlt_f (Nat.le_refl _) (by omega), ite_ff])
  rw [h1, h2]
theorem op_mile : Op_mile Rel := by
  intro n M v0 hn H
  have W := Rel_W hn H
  obtain ⟨gB, gL, gI, gR, gP, gT, gK, gO, gN⟩ := RS1_gs H.1
  have hmo : ∀ X, Rel n X → X.1 95 = M.1 95 → ∃ Y, f_Mo_looks_94 (M.1 95 0) (-1) (-1) 0 X = some Y ∧ Rel n Y ∧ Y.1 95 = M.1 95 ∧ (∀ f, f < nt (M.1 95) 1 → pK (Y.1 97) f = mbN (M.1 95) f) ∧ ∀ f, nt (M.1 95) 1 ≤ f → f < 10 → mbN (M.1 95) f = false := by
    intro X hX e
    obtain ⟨Y, g1, g2, g3, g4⟩ := e_lookNow (M := X) (by rw [e]; exact W)
    rw [e] at g1 g3 g4
    exact ⟨Y, g1, RelMs hX (g2.mono sLk_sMs), (g2.row (fun i => rfl)).trans e, g3, g4⟩
  obtain ⟨M1, h1, h2⟩ := e_membersIn (M := M) (σ := M.1 95) (m := M.1 95 0) no no H.1.1.1 W.1 W.2.1
  rw [msk_no] at h1
  have F1 : Fr sCs M M1 := h2.mono s13_sCs
  have H1 := RelC H F1
  have e1 : M1.1 95 = M.1 95 := F1.row (fun i => sCs_lo (by omega) i)
  have hR1 := H1.1.1
  rw [e1] at hR1
  have e16 : M.1 1 6 = M.1 95 0 := H.1.2.2.2.2.1
  obtain ⟨Y, y1, y2, y3, y4, y5⟩ := hmo M H rfl
  by_cases c0 : wthn v0 0 3 = true
  · obtain ⟨ev, lv⟩ := nI_of_inb (w_inb (a := 0) (b := 3) (by omega) (by omega) c0).1
    generalize v0.toNatClampNeg = d at *
    subst ev
    have hd : d = 0 ∨ d = 1 ∨ d = 2 ∨ d = 3 := by omega
    rcases hd with rfl | rfl | rfl | rfl
    · -- enough
      obtain ⟨M2, k1, k2⟩ := e_CF_isEnough hR1 W (by rw [h2.at_ rfl]; exact e16) (mbN (M.1 95))
      have H2 := RelC H1 (k2.mono sAc_sCs)
      have e2 : M2.1 95 = M.1 95 := ((k2.mono sAc_sCs).row (fun i => sCs_lo (by omega) i)).trans e1
      obtain ⟨Z, z1, z2, z3, z4, z5⟩ := hmo M2 H2 e2
      obtain ⟨M3, p1, p2⟩ := e_Mo_isEnough (M := Z) (p := mbN (M.1 95)) (by rw [z3]; exact W) (by rw [z3]; exact z4) (by rw [z3]; exact z5)
      rw [z3] at p1
      refine ⟨bI (enS (M.1 95) (mbN (M.1 95))), M2, M3, ?_, ?_, Rel_mono (RelMs z2 (p2.mono sNm_sMs)) (by omega)⟩
      · unfold f_CF_mile_0
        rw [if_pos c0, if_neg (by decide), if_neg (by decide), e16, h1, Option.bind_some]
        dsimp only
        show (if decide (nI 0 = 2) = true then _ else (f_CF_isEnough_0 (msk (mbN (M.1 95)) 10) M1).bind _) = _
        rw [if_neg (by decide), k1]; rfl
      · unfold f_Mo_mile_94
        rw [e2, z1, Option.bind_some, if_pos (by decide), p1, Option.bind_some]
        dsimp only
        cases enS (M.1 95) (mbN (M.1 95)) <;> rfl
    · refine ⟨M.1 95 5, M, Y, ?_, ?_, Rel_mono y2 (by omega)⟩
      · unfold f_CF_mile_0
        rw [if_pos c0, if_pos (by decide), gI.1]
      · unfold f_Mo_mile_94
        rw [y1, Option.bind_some, if_neg (by decide), if_pos (by decide), y3]
    · obtain ⟨Z, z1, z2, z3, z4, z5⟩ := hmo M1 H1 e1
      have hl := e_Mo_onLine (M := Z) (p := mbN (M.1 95)) (by rw [z3]; exact W) (by rw [z3]; exact z4) (by rw [z3]; exact z5)
      rw [z3] at hl
      refine ⟨nI (cnt (fun f => mbN (M.1 95) f && onF (M.1 95) f) 10), M1, Z, ?_, ?_, Rel_mono z2 (by omega)⟩
      · unfold f_CF_mile_0
        rw [if_pos c0, if_neg (by decide), if_neg (by decide), e16, h1, Option.bind_some]
        dsimp only
        rw [if_pos (by decide), e_farmsOnLine hR1 W, Option.bind_some]
        show some (bcnt (msk (mbN (M.1 95)) 10 &&& _), M1) = _
        rw [msk_and, bcnt_msk]
      · unfold f_Mo_mile_94
        rw [e1, z1, Option.bind_some, if_neg (by decide), if_neg (by decide), if_pos (by decide), hl]; rfl
    · refine ⟨isum (lcs (M.1 95)) 48, M, Y, ?_, ?_, Rel_mono y2 (by omega)⟩
      · unfold f_CF_mile_0
        rw [if_pos c0, if_neg (by decide), if_pos (by decide), e_costOn gI gL.1 gL.2 W.1.2.2.2.2.2.1]; rfl
      · unfold f_Mo_mile_94
        have hc := e_MoCostOn (M := Y) (by rw [y3]; exact gL.2)
        rw [y3] at hc
        rw [y1, Option.bind_some, if_neg (by decide), if_neg (by decide), if_neg (by decide), if_pos (by decide), hc]; rfl
  · refine ⟨-1, M, Y, ?_, ?_, Rel_mono y2 (by omega)⟩
    · unfold f_CF_mile_0
      rw [if_neg c0]
    · have hne : ∀ x : Int32, wthn x 0 3 = true → decide (v0 = x) = false := fun x h => decide_eq_false (fun e => c0 (by rw [e]; exact h))
      unfold f_Mo_mile_94
      rw [y1, Option.bind_some, hne 0 (by decide), hne 1 (by decide), hne 2 (by decide), hne 3 (by decide)]; rfl
end O18
