section
section CV
theorem nI_divn {a b : Nat} (ha : a < 2147483648) (hb : b < 2147483648) : nI a / nI b = nI (a / b) := by
  apply Int32.toInt_inj.mp
  have : a / b ≤ a := Nat.div_le_self a b
  rw [Int32.toInt_div_of_ne_right _ _ (nI_ne_m1 hb), nI_toI ha, nI_toI hb, nI_toI (by omega)]
  rfl
theorem dm1 (a : Nat) : nI (a + 1) - 1 = nI a := by rw [← nI_one]; exact Int32.add_sub_cancel _ _
theorem am1 (x : Int32) : x + (-1) = x - 1 := (Int32.sub_eq_add_neg x 1).symm
theorem pos_nI {V : Int32} (h : 0 < V) : V = nI V.toNatClampNeg ∧ 0 < V.toNatClampNeg ∧ V.toNatClampNeg < 2147483648 := by
  rw [i_lt, i_0] at h
  have hlt := Int32.toInt_lt V
  have hi : inb V 2147483647 = true ∨ V.toInt = 2147483647 := by
    by_cases g : V.toInt = 2147483647
    · exact .inr g
    · exact .inl (inb_iff.mpr ⟨by omega, by omega⟩)
  rcases hi with g | g
  · obtain ⟨e, l⟩ := nI_of_inb g
    refine ⟨e, ?_, by omega⟩
    rw [e, nI_toI (by omega)] at h; omega
  · have : V = nI 2147483647 := Int32.toInt_inj.mp (by rw [g, nI_toI (by omega)]; rfl)
    rw [this, nI_cl (by omega)]; exact ⟨rfl, by omega, by omega⟩
theorem npos {V : Int32} : decide (V ≤ 0) = !decide (0 < V) := by
  by_cases g : 0 < V
  · rw [decide_eq_true g, decide_eq_false (by rw [i_le, i_0]; rw [i_lt, i_0] at g; omega)]; rfl
  · rw [decide_eq_false g, decide_eq_true (by rw [i_le, i_0]; rw [i_lt, i_0] at g; omega)]; rfl
theorem jmx1 (x y : Int32) : decide (jmax x y ≤ 1) = (decide (x ≤ 1) && decide (y ≤ 1)) := by
  unfold jmax
  have h1 : (1 : Int32).toInt = 1 := rfl
  by_cases g : x < y
  · rw [if_pos g]
    rw [i_lt] at g
    by_cases c : y ≤ 1
    · rw [decide_eq_true c, decide_eq_true (by rw [i_le, h1] at c ⊢; omega)]; rfl
    · rw [decide_eq_false c, Bool.and_false]
  · rw [if_neg g]
    rw [i_lt] at g
    by_cases c : x ≤ 1
    · rw [decide_eq_true c, decide_eq_true (by rw [i_le, h1] at c ⊢; omega)]; rfl
    · rw [decide_eq_false c, Bool.false_and]
variable {M : Mem} {σ : Nat → Int32} {up t : Nat → Nat} {h N w : Nat} {dr : Nat → Bool} {V : Nat → Int32}
theorem Top_up (T : Top up t h N) (hh : h < 48) {i : Nat} (hi : i < N) : up (t i) < 48 := by
  rcases (T.1 i hi).2.2 with g | ⟨j, j1, j2⟩
  · rw [g]; exact hh
  · rw [j2]; exact (T.1 j (by omega)).1
def Lc (C : Nat → Nat → Int32) (up t : Nat → Nat) (N w : Nat) : Prop := C 24 2 = nI N ∧ C 24 4 = nI w ∧ ∀ i, i < N → C 26 i = nI (t i) ∧ C 25 (t i) = nI (up (t i))
theorem Lc_fr {S : Nat → Nat → Bool} {M' : Mem} (L : Lc M.1 up t N w) (hF : Fr S M M') (hS : ∀ a i, a = 24 ∨ a = 25 ∨ a = 26 → S a i = false) : Lc M'.1 up t N w := by
  unfold Lc
  rw [hF.row (a := 24) (fun i => hS 24 i (by omega)), hF.row (a := 25) (fun i => hS 25 i (by omega)), hF.row (a := 26) (fun i => hS 26 i (by omega))]; exact L
def ld (σ : Nat → Int32) (f : Nat) : Nat := nt σ (174 + f)
def owS (σ : Nat → Int32) (dr : Nat → Bool) (V : Nat → Int32) (x : Nat) : Nat := ownV dr (cel σ) (ld σ) V x (nt σ 1)
theorem e_draw1 (L : Rland M.1 σ) (wl : wLand σ) (e1 : σ 1 = nI (nt σ 1)) (n1 : nt σ 1 ≤ 10) (hV : ∀ c, c < 48 → M.1 87 c = V c) (h0 : ∀ c, c < 48 → M.1 88 c = 0) : ∃ M', itr (b_Volts_draw_86_10 (msk dr 10)) FU (0, M) = some M' ∧ Fr (fun a _ => a == 88) M M' ∧ ∀ c, c < 48 → M'.1 88 c = nI (owS σ dr V c) := by
  obtain ⟨e, h1, h2⟩ := itr_cnt (body := b_Volts_draw_86_10 (msk dr 10)) (s0 := ((0 : Int32), M)) (fun k z => z.1 = nI k ∧ Fr (fun a _ => a == 88) M z.2 ∧ ∀ c, c < 48 → z.2.1 88 c = nI (ownV dr (cel σ) (ld σ) V c k)) (fun X => Fr (fun a _ => a == 88) M X ∧ ∀ c, c < 48 → X.1 88 c = nI (owS σ dr V c)) (nt σ 1) (by omega) ⟨rfl, Fr.refl _, fun c hc => h0 c hc⟩ (by
    rintro k ⟨x, X⟩ hk ⟨rfl, hF, hr⟩
    dsimp only at hF hr
    left
    obtain ⟨ec, lc⟩ := nI_of_inb (wl.2.1 k hk).1
    obtain ⟨el, ll⟩ := nI_of_inb (wl.2.1 k hk).2.1
    have lc : cel σ k < 48 := lc
    have ll : ld σ k < 51 := ll
    have hcel : f_Land_cellOf_2 (nI k) X = some (nI (cel σ k)) := by
      unfold f_Land_cellOf_2
      rw [atv_nI (by omega) (by omega), hF.row (a := 5) (fun _ => rfl), (L.2.2.2 k (by omega)).1]
      exact congrArg some ec
    have eld : X.1 6 k = nI (ld σ k) := by
      rw [hF.row (a := 6) (fun _ => rfl), (L.2.2.2 k (by omega)).2]; exact el
    have hst : b_Volts_draw_86_10 (msk dr 10) (nI k, X) = some (.inl (nI (k + 1), if 0 < V (cel σ k) ∧ dr k = true then wI X 88 (cel σ k) (nI (ownV dr (cel σ) (ld σ) V (cel σ k) k + ld σ k * 1000 / (V (cel σ k)).toNatClampNeg)) else X)) := by
      unfold b_Volts_draw_86_10 jv_
      dsimp only
      rw [hF.row (a := 2) (fun _ => rfl), L.1, e1, dlt_t hk (by omega), ite_tt, hcel, Option.bind_some, atv_nI lc (by omega), hF.row (a := 87) (fun _ => rfl), hV _ lc, npos, nI_one]
      by_cases g : 0 < V (cel σ k)
      · rw [decide_eq_true g, Bool.not_true, ite_ff, hld_msk dr (by omega)]
        cases c : dr k
        · rw [ite_ff, if_neg (fun h => absurd h.2 (by decide))]
        · obtain ⟨p1, p2, p3⟩ := pos_nI g
          rw [ite_tt, if_pos ⟨g, rfl⟩, putv_nI lc (by omega), atv_nI lc (by omega), hr _ lc, atv_nI (by omega) (by omega), eld, show (1000 : Int32) = nI 1000 from rfl, nI_muln]
          have hp : prt (nI (ld σ k * 1000)) (V (cel σ k)) = nI (ld σ k * 1000 / (V (cel σ k)).toNatClampNeg) := by
            unfold prt
            rw [if_neg (fun e => by rw [e] at g; exact absurd g (by decide))]
            have := nI_divn (a := ld σ k * 1000) (b := (V (cel σ k)).toNatClampNeg) (by omega) p3
            rw [← p1] at this
            exact this
          rw [hp, nI_addn]
      · rw [decide_eq_false g, Bool.not_false, ite_tt, if_neg (fun h => g h.1)]
    refine ⟨_, hst, rfl, ?_, fun c hc => ?_⟩
    · dsimp only
      split
      · exact hF.wI rfl
      · exact hF
    · dsimp only
      rw [show ownV dr (cel σ) (ld σ) V c (k + 1) = ownV dr (cel σ) (ld σ) V c k + (if cel σ k = c ∧ 0 < V c ∧ dr k = true then ld σ k * 1000 / (V c).toNatClampNeg else 0) from rfl]
      by_cases g : 0 < V (cel σ k) ∧ dr k = true
      · rw [if_pos g]
        by_cases g2 : c = cel σ k
        · rw [g2, rde, if_pos ⟨rfl, g⟩]
        · rw [rdi g2, hr c hc, if_neg (fun h => g2 h.1.symm), Nat.add_zero]
      · rw [if_neg g, hr c hc, if_neg (fun h => g (by rw [h.1]; exact h.2)), Nat.add_zero]) (by
    rintro ⟨x, X⟩ ⟨rfl, hF, hr⟩
    dsimp only at hF hr
    refine ⟨X, ?_, hF, hr⟩
    unfold b_Volts_draw_86_10
    dsimp only
    rw [hF.row (a := 2) (fun _ => rfl), L.1, e1, dlt_f (Nat.le_refl _) (by omega), ite_ff])
  rw [h1]
  exact ⟨e, rfl, h2⟩
theorem e_aheadL (L : Lc M.1 up t N w) (T : Top up t h N) {i : Nat} (hi : i < N) : f_Line_ahead_24 (nI (t i)) M = some (nI (up (t i))) := by
  obtain ⟨a1, -⟩ := T.1 i hi
  unfold f_Line_ahead_24
  have hw : wthn (nI (t i)) 0 47 = true := by
    rw [show (47 : Int32) = nI 47 from rfl, inb_wthn (by omega)]; exact inb_t (by omega) (by omega)
  rw [hw, ite_tt, atv_nI a1 (by omega), (L.2.2 i hi).2]
theorem e_draw2 {own : Nat → Nat} (L : Lc M.1 up t N w) (T : Top up t h N) (hh : h < 48) (hN : N ≤ 47) (ho : ∀ c, c < 48 → M.1 88 c = nI (own c)) : ∃ M', itr b_Volts_draw_86_121 FU (nI N - 1, M) = some M' ∧ Fr (fun a _ => a == 88) M M' ∧ ∀ c, c < 48 → M'.1 88 c = nI (cfF up t own N c) := by
  obtain ⟨e, h1, h2⟩ := itr_cnt (body := b_Volts_draw_86_121) (s0 := (nI N - 1, M)) (fun k z => z.1 = nI (N - k) - 1 ∧ Fr (fun a _ => a == 88) M z.2 ∧ ∀ c, c < 48 → z.2.1 88 c = nI (cfD up t own N k c)) (fun X => Fr (fun a _ => a == 88) M X ∧ ∀ c, c < 48 → X.1 88 c = nI (cfF up t own N c)) N (by omega) ⟨rfl, Fr.refl _, ho⟩ (by
    rintro k ⟨x, X⟩ hk ⟨hx, hF, hr⟩
    dsimp only at hx hF hr
    left
    have hx : x = nI (N - 1 - k) := by rw [hx, show N - k = N - 1 - k + 1 by omega, dm1]
    have LX := Lc_fr L hF (fun a i h => by rcases h with rfl | rfl | rfl <;> rfl)
    obtain ⟨a1, a2, -⟩ := T.1 (N - 1 - k) (by omega)
    have a3 := Top_up T hh (i := N - 1 - k) (by omega)
    refine ⟨(nI (N - (k + 1)) - 1, wI X 88 (up (t (N - 1 - k))) (nI (cfD up t own N k (up (t (N - 1 - k))) + cfD up t own N k (t (N - 1 - k))))), ?_, rfl, hF.wI rfl, fun c hc => ?_⟩
    · rw [hx]
      unfold b_Volts_draw_86_121 jv_
      dsimp only
      rw [nI_nneg (by omega), ite_ff, atv_nI (by omega) (by omega), (LX.2.2 _ (by omega)).1, e_aheadL LX T (by omega), Option.bind_some, putv_nI a3 (by omega), atv_nI a3 (by omega), atv_nI a1 (by omega), hr _ a3, hr _ a1, nI_addn, am1, show N - (k + 1) = N - 1 - k by omega]
    · dsimp only
      rw [show cfD up t own N (k + 1) c = updN (cfD up t own N k) (up (t (N - 1 - k))) (cfD up t own N k (up (t (N - 1 - k))) + cfD up t own N k (t (N - 1 - k))) c from rfl]
      by_cases g : c = up (t (N - 1 - k))
      · rw [g, rde, updN_e]
      · rw [rdi g, updN_n g]; exact hr c hc) (by
    rintro ⟨x, X⟩ ⟨hx, hF, hr⟩
    dsimp only at hx hF hr
    rw [hx]
    refine ⟨X, ?_, hF, hr⟩
    unfold b_Volts_draw_86_121
    dsimp only
    rw [Nat.sub_self, if_pos (show decide (nI 0 - 1 < 0) = true from rfl)])
  rw [h1]
  exact ⟨e, rfl, h2⟩
theorem e_drop {C : Nat → Nat} (L : Lc M.1 up t N w) (T : Top up t h N) (hh : h < 48) (hN : N ≤ 47) (hV : ∀ c, c < 48 → M.1 87 c = V c) (hC : ∀ i, i < N → M.1 88 (t i) = nI (C (t i))) : ∃ g M', f_Volts_drop_86 M = some (g, M') ∧ decide (g ≤ 1) = bfD up t (lsW w C) V N ∧ Fr (fun a _ => a == 87) M M' ∧ ∀ c, c < 48 → M'.1 87 c = vfD up t (lsW w C) V N c := by
  obtain ⟨e, h1, h2⟩ := itr_cnt (body := b_Volts_drop_86_4) (s0 := ((0 : Int32), (0 : Int32), M)) (fun k z => decide (z.1 ≤ 1) = bfD up t (lsW w C) V k ∧ z.2.1 = nI k ∧ Fr (fun a _ => a == 87) M z.2.2 ∧ ∀ c, c < 48 → z.2.2.1 87 c = vfD up t (lsW w C) V k c) (fun e => decide (e.1 ≤ 1) = bfD up t (lsW w C) V N ∧ Fr (fun a _ => a == 87) M e.2 ∧ ∀ c, c < 48 → e.2.1 87 c = vfD up t (lsW w C) V N c) N (by omega) ⟨rfl, rfl, Fr.refl _, hV⟩ (by
    rintro k ⟨g, x, X⟩ hk ⟨hg, rfl, hF, hr⟩
    dsimp only at hg hF hr
    left
    have LX := Lc_fr L hF (fun a i h => by rcases h with rfl | rfl | rfl <;> rfl)
    obtain ⟨a1, a2, -⟩ := T.1 k hk
    have a3 := Top_up T hh hk
    refine ⟨(jmax g (jabs ((vfD up t (lsW w C) V k (up (t k)) - lsW w C (t k)) - vfD up t (lsW w C) V k (t k))), nI (k + 1), wI X 87 (t k) (vfD up t (lsW w C) V k (up (t k)) - lsW w C (t k))), ?_, ?_, rfl, hF.wI rfl, fun c hc => ?_⟩
    · unfold b_Volts_drop_86_4 jv_
      dsimp only
      rw [LX.1, dlt_t hk (by omega), ite_tt, LX.2.1, atv_nI (i := k) (by omega) (by omega), (LX.2.2 k hk).1, e_aheadL LX T hk, Option.bind_some, atv_nI a3 (by omega), atv_nI a1 (by omega), atv_nI a1 (by omega), putv_nI a1 (by omega), hr _ a3, hr _ a1, hF.row (a := 88) (fun _ => rfl), hC k hk, nI_muln, nI_one]
      rfl
    · dsimp only
      rw [jmx1, hg]; rfl
    · dsimp only
      rw [show vfD up t (lsW w C) V (k + 1) c = updZ (vfD up t (lsW w C) V k) (t k) (vfD up t (lsW w C) V k (up (t k)) - lsW w C (t k)) c from rfl]
      by_cases g : c = t k
      · rw [g, rde, updZ_e]
      · rw [rdi g, updZ_n g]; exact hr c hc) (by
    rintro ⟨g, x, X⟩ ⟨hg, rfl, hF, hr⟩
    dsimp only at hg hF hr
    have LX := Lc_fr L hF (fun a i h => by rcases h with rfl | rfl | rfl <;> rfl)
    refine ⟨(g, X), ?_, hg, hF, hr⟩
    unfold b_Volts_drop_86_4
    dsimp only
    rw [LX.1, dlt_f (Nat.le_refl _) (by omega), ite_ff])
  obtain ⟨e1, e2⟩ := e
  unfold f_Volts_drop_86
  rw [h1, Option.bind_some]
  exact ⟨e1, e2, rfl, h2⟩
def sVo (a i : Nat) : Bool := a == 13 || (a == 87 || (a == 88 || (a == 86 && (i == 3 || i == 4))))
theorem sVo_sCs : ∀ a i, sVo a i = true → sCs a i = true := fun a i h => by
  unfold sVo at h; unfold sCs
  simp only [Bool.or_eq_true, Bool.and_eq_true, beq_iff_eq, decide_eq_true_eq] at h ⊢; omega
theorem e_drawC (Ld : Rland M.1 σ) (wl : wLand σ) (e1 : σ 1 = nI (nt σ 1)) (n1 : nt σ 1 ≤ 10) (L : Lc M.1 up t N w) (T : Top up t h N) (hh : h < 48) (hN : N ≤ 47) (hV : ∀ c, c < 48 → M.1 87 c = V c) : ∃ M', f_Volts_draw_86 (msk dr 10) M = some M' ∧ Fr (fun a _ => a == 88) M M' ∧ ∀ c, c < 48 → M'.1 88 c = nI (cfF up t (owS σ dr V) N c) := by
  unfold f_Volts_draw_86 jv_
  have F0 : Fr (fun a _ => a == 88) M (wR M 88 (filv (M.1 88) 48 0)) := (Fr.refl M).wR (fun _ => rfl)
  obtain ⟨M1, a1, a2, a3⟩ := e_draw1 (M := wR M 88 (filv (M.1 88) 48 0)) (dr := dr) (V := V) (by unfold Rland; simp (disch := omega) only [rRk]; exact Ld) wl e1 n1 (fun c hc => by rw [rRk (by omega)]; exact hV c hc) (fun c hc => by
    rw [rRe]; unfold filv; rw [if_pos hc])
  have L1 := Lc_fr (Lc_fr L F0 (fun a i h => by rcases h with rfl | rfl | rfl <;> rfl)) a2 (fun a i h => by rcases h with rfl | rfl | rfl <;> rfl)
  obtain ⟨M2, b1, b2, b3⟩ := e_draw2 (M := M1) L1 T hh hN a3
  dsimp only
  rw [a1, Option.bind_some, L1.1, b1]
  exact ⟨M2, rfl, F0.trans (a2.trans b2), b3⟩
theorem e_sweepC {now : Int32} (Bk : Rbook M.1 σ) (Wn : wNum σ) (Wb : wBook σ) (Ld : Rland M.1 σ) (wl : wLand σ) (L : Lc M.1 up t N w) (T : Top up t h N) (hh : h < 48) (hN : N ≤ 47) (hnow : M.1 1 6 = now) : ∃ M' k, f_Volts_sweep_86 M = some M' ∧ Fr sVo M M' ∧ stN (swB up t N (owS σ (fun f => decide (wh σ now (nt σ 2) f = 2))) w) k ∧ M'.1 86 3 = nI k ∧ M'.1 86 4 = bI (swB up t N (owS σ (fun f => decide (wh σ now (nt σ 2) f = 2))) w (k - 1)) ∧ (∀ c, c < 48 → M'.1 87 c = swV up t N (owS σ (fun f => decide (wh σ now (nt σ 2) f = 2))) w k c) ∧ ∀ i, i < N → M'.1 88 (t i) = nI (swC up t N (owS σ (fun f => decide (wh σ now (nt σ 2) f = 2))) w (k - 1) (t i)) := by
  obtain ⟨e1, l1⟩ := nt_inb Wn.2.1
  have F0 : Fr sVo M (wI (wI (wR M 87 (filv (M.1 87) 48 1000)) 86 4 0) 86 3 0) := (((Fr.refl M).wR (fun _ => rfl)).wI rfl).wI rfl
  have hrows : ∀ X : Mem, Fr sVo M X → Rland X.1 σ ∧ Lc X.1 up t N w := fun X hX => ⟨by
    unfold Rland
    rw [hX.row (a := 2) (fun _ => rfl), hX.row (a := 3) (fun _ => rfl), hX.row (a := 4) (fun _ => rfl), hX.row (a := 5) (fun _ => rfl), hX.row (a := 6) (fun _ => rfl)]; exact Ld, Lc_fr L hX (fun a i h => by rcases h with rfl | rfl | rfl <;> rfl)⟩
  obtain ⟨M1, d1, d2⟩ := e_decidedBy (M := wI (wI (wR M 87 (filv (M.1 87) 48 1000)) 86 4 0) 86 3 0) (σ := σ) (m := now) 2 (by
    unfold Rbook; simp (disch := omega) only [rdk, rRk]; exact Bk) Wn Wb
  have F1 : Fr sVo M M1 := F0.trans (d2.mono (fun a i h => by rw [beq_iff_eq] at h; subst h; rfl))
  generalize hdr : (fun f => decide (wh σ now (nt σ 2) f = 2)) = dr at *
  generalize hsB : swB up t N (owS σ dr) w = B
  have hfl : ∀ b : Bool, isb (bI b) = true ∧ decide (bI b = 1) = b := fun b => by cases b <;> exact ⟨rfl, rfl⟩
  obtain ⟨e, h1, h2⟩ := itr_cnt (body := b_Volts_sweep_86_41 (msk dr 10, M1)) (s0 := ((0 : Int32), M1)) (fun k z => z.1 = nI k ∧ Fr sVo M z.2 ∧ z.2.1 86 3 = nI k ∧ z.2.1 86 4 = bI (decide (1 ≤ k) && B (k - 1)) ∧ (∀ c, c < 48 → z.2.1 87 c = swV up t N (owS σ dr) w k c) ∧ (1 ≤ k → ∀ i, i < N → z.2.1 88 (t i) = nI (swC up t N (owS σ dr) w (k - 1) (t i))) ∧ ∀ j, 1 ≤ j → j < k → B (j - 1) = false) (fun X => ∃ k, Fr sVo M X ∧ stN B k ∧ X.1 86 3 = nI k ∧ X.1 86 4 = bI (B (k - 1)) ∧ (∀ c, c < 48 → X.1 87 c = swV up t N (owS σ dr) w k c) ∧ ∀ i, i < N → X.1 88 (t i) = nI (swC up t N (owS σ dr) w (k - 1) (t i))) 30 (by omega) ⟨rfl, F1, by rw [d2.at_ rfl, rde]; rfl, by rw [d2.at_ rfl, rdi (by omega), rde]; rfl, fun c hc => by
      rw [d2.at_ rfl, rdk (by omega), rdk (by omega), rRe]; unfold filv; rw [if_pos hc]; rfl, fun h => absurd h (by omega), fun j _ h => absurd h (by omega)⟩ (by
    rintro k ⟨x, X⟩ hk ⟨rfl, hF, q1, q2, q3, q4, q5⟩
    dsimp only at hF q1 q2 q3 q4
    obtain ⟨g1, g2⟩ := hfl (decide (1 ≤ k) && B (k - 1))
    by_cases hs : (decide (1 ≤ k) && B (k - 1)) = true
    · right
      rw [Bool.and_eq_true, decide_eq_true_eq] at hs
      refine ⟨X, ?_, k, hF, ⟨hs.1, by omega, q5, .inl hs.2⟩, q1, by rw [q2, decide_eq_true hs.1, Bool.true_and], q3, q4 hs.1⟩
      unfold b_Volts_sweep_86_41
      dsimp only
      rw [show (30 : Int32) = nI 30 from rfl, dlt_t hk (by omega), ite_tt, q2, g1, ite_tt, g2, decide_eq_true hs.1, hs.2]; rfl
    · left
      obtain ⟨L1, L2⟩ := hrows X hF
      obtain ⟨Y, y1, y2, y3⟩ := e_drawC (M := X) (dr := dr) (V := swV up t N (owS σ dr) w k) L1 wl e1 (by omega) L2 T hh hN q3
      have FY : Fr sVo M Y := hF.trans (y2.mono (fun a i h => by rw [beq_iff_eq] at h; subst h; rfl))
      obtain ⟨g, Z, z1, z2, z3, z4⟩ := e_drop (M := Y) (C := cfF up t (owS σ dr (swV up t N (owS σ dr) w k)) N) (V := swV up t N (owS σ dr) w k) (hrows Y FY).2 T hh hN (fun c hc => by rw [y2.at_ rfl]; exact q3 c hc) (fun i hi => y3 _ (T.1 i hi).1)
      have FZ : Fr sVo M Z := FY.trans (z3.mono (fun a i h => by rw [beq_iff_eq] at h; subst h; rfl))
      have hB : decide (g ≤ 1) = B k := by rw [z2, ← hsB]; rfl
      have e863 : Z.1 86 3 = nI k := by rw [z3.at_ rfl, y2.at_ rfl, q1]
      refine ⟨(nI (k + 1), wI (wI Z 86 4 (bI (B k))) 86 3 (nI (k + 1))), ?_, rfl, (FZ.wI rfl).wI rfl, rde, ?_, fun c hc => ?_, fun _ i hi => ?_, fun j j1 j2 => ?_⟩
      · unfold b_Volts_sweep_86_41 jv_
        dsimp only
        rw [show (30 : Int32) = nI 30 from rfl, dlt_t hk (by omega), ite_tt, q2, g1, ite_tt, g2, if_neg hs, y1, Option.bind_some, z1, Option.bind_some]
        dsimp only
        rw [hB, rdi (by omega), e863, nI_one]
      · dsimp only
        rw [rdi (by omega), rde, decide_eq_true (by omega), Bool.true_and, Nat.add_sub_cancel]
      · dsimp only
        rw [rdk (by omega), rdk (by omega), z4 c hc]; rfl
      · dsimp only
        rw [rdk (by omega), rdk (by omega), z3.at_ rfl, y3 _ (T.1 i hi).1, Nat.add_sub_cancel]; rfl
      · by_cases g3 : j = k
        · rw [g3]
          cases c : B (k - 1)
          · rfl
          · exact absurd (show (decide (1 ≤ k) && B (k - 1)) = true by rw [c, decide_eq_true (by omega)]; rfl) hs
        · exact q5 j j1 (by omega)) (by
    rintro ⟨x, X⟩ ⟨rfl, hF, q1, q2, q3, q4, q5⟩
    dsimp only at hF q1 q2 q3 q4
    refine ⟨X, ?_, 30, hF, ⟨by omega, by omega, q5, .inr rfl⟩, q1, by rw [q2]; rfl, q3, q4 (by omega)⟩
    unfold b_Volts_sweep_86_41
    dsimp only
    rw [show (30 : Int32) = nI 30 from rfl, dlt_f (Nat.le_refl _) (by omega), ite_ff])
  obtain ⟨k, k1, k2⟩ := h2
  refine ⟨e, k, ?_, k1, k2⟩
  unfold f_Volts_sweep_86 jv_
  dsimp only
  rw [rdk (by omega), rdk (by omega), rRk (by omega), hnow, d1, Option.bind_some]
  dsimp only
  rw [h1]; rfl
end CV
end
