section
section OV
variable {M : Mem} {σ : Nat → Int32}
theorem ownV_cg {dr : Nat → Bool} {ce ld : Nat → Nat} {V V' : Nat → Int32} {x : Nat} (h : V x = V' x) : ∀ n, ownV dr ce ld V x n = ownV dr ce ld V' x n
  | 0 => rfl
  | n + 1 => by
    unfold ownV
    rw [ownV_cg h n, h]
def tld (M : Mem) (i : Nat) : Nat := nt (M.1 26) i
theorem Tree_top (R : Rline M.1 σ) (wl : wLand σ) (n9 : inb (σ 9) 48 = true) (n5 : inb (σ 5) 48 = true) (n8 : inb (σ 8) 10 = true) : Top (upS σ) (tld M) (nt σ 9) (nt σ 5) ∧ Lc M.1 (upS σ) (tld M) (nt σ 5) (nt σ 8) ∧ (∀ i, i < nt σ 5 → σ (116 + tld M i) ≠ -1) ∧ ∀ c, c < 48 → (lnm (tld M) (nt σ 5) c = true ↔ σ (116 + c) ≠ -1) := by
  obtain ⟨e9, l9⟩ := nt_inb n9
  obtain ⟨e5, l5⟩ := nt_inb n5
  obtain ⟨e8, l8⟩ := nt_inb n8
  obtain ⟨r1, -, r3, r4, t1, t2, t3⟩ := R
  have ht : ∀ i, i < nt σ 5 → M.1 26 i = nI (tld M i) ∧ tld M i < 48 ∧ nI (tld M i) ≠ σ 9 ∧ (σ (116 + tld M i) = σ 9 ∨ ∃ j, j < i ∧ σ (116 + tld M i) = M.1 26 j) := fun i hi => by
    obtain ⟨c, c1, c2, c3, c4⟩ := t1 i hi
    have : tld M i = c := by unfold tld nt; rw [c2, nI_cl (by omega)]
    rw [this]
    exact ⟨c2, c1, c3, c4⟩
  have hon : ∀ i, i < nt σ 5 → σ (116 + tld M i) ≠ -1 := fun i hi => (t3 _ (ht i hi).2.1).mpr ⟨i, hi, (ht i hi).1⟩
  have hup : ∀ i, i < nt σ 5 → σ (116 + tld M i) = nI (upS σ (tld M i)) ∧ upS σ (tld M i) < 48 := fun i hi => by
    rcases wl.2.2 _ (ht i hi).2.1 with g | g
    · exact absurd g (hon i hi)
    · exact nI_of_inb g
  refine ⟨⟨fun i hi => ⟨(ht i hi).2.1, fun h => (ht i hi).2.2.1 (by rw [h, ← e9]), ?_⟩, fun i j hi hj h => t2 i j hi hj (by rw [(ht i hi).1, (ht j hj).1, h])⟩, ⟨by rw [r1]; exact e5, by rw [r3]; exact e8, fun i hi => ⟨(ht i hi).1, by rw [r4 _ (ht i hi).2.1]; exact (hup i hi).1⟩⟩, hon, fun c hc => ⟨fun h => ?_, fun h => ?_⟩⟩
  · rcases (ht i hi).2.2.2 with g | ⟨j, j1, j2⟩
    · left
      rw [(hup i hi).1, e9] at g
      exact (nI_inj (by have := (hup i hi).2; omega) (by omega)).mp g
    · right
      rw [(hup i hi).1, (ht j (by omega)).1] at j2
      exact ⟨j, j1, (nI_inj (by have := (hup i hi).2; omega) (by have := (ht j (by omega)).2.1; omega)).mp j2⟩
  · obtain ⟨i, i1, i2⟩ := lnm_i.mp h
    rw [← i2]; exact hon i i1
  · obtain ⟨i, i1, i2⟩ := (t3 c hc).mp h
    refine lnm_i.mpr ⟨i, i1, ?_⟩
    rw [(ht i i1).1] at i2
    exact (nI_inj (by have := (ht i i1).2.1; omega) (by omega)).mp i2
theorem dlg (x y : Int64) : decide (lg_cmp x y ≤ 0) = !decide (y < x) := by
  unfold lg_cmp
  by_cases h : x > y
  · rw [if_pos h, decide_eq_true (show y < x from h)]; rfl
  · rw [if_neg h, decide_eq_false (show ¬ y < x from h)]
    split <;> rfl
/-- what both find -/
theorem e_both {n : Nat} (hn : n < 512) (H : Rel n M) : ∃ (M1 M2 : Mem) (N' k : Nat) (b : Bool) (S : Int64), f_Volts_sweep_86 M = some M1 ∧ f_Mo_settles_94 M1 = some (nI (N' + 1), M2) ∧ Rel n M1 ∧ Rel n M2 ∧ M1.1 95 = M.1 95 ∧ M2.1 95 = M.1 95 ∧ M1.1 86 3 = nI k ∧ M2.1 94 19 = nI k ∧ M1.1 86 4 = bI b ∧ M2.1 94 20 = bI b ∧ (∀ c, c < 48 → onL (M.1 95) c = true → M1.1 87 c = M2.1 105 c) ∧ itr (b_Volts_lost_86_4 M1) FU (0, 0) = some S ∧ itr (b_Mo_lose_94_50 (nI (N' + 1), M2)) FU (0, 1) = some S := by
  have W := Rel_W hn H
  obtain ⟨gB, gL, gI, gR, gP, gT', gK, gO, gN⟩ := RS1_gs H.1
  have h9 := W.1.2.2.2.2.2.2.2.2.2
  have h5 := W.1.2.2.2.2.2.1
  have h8 := W.1.2.2.2.2.2.2.2.2.1
  obtain ⟨e9, l9⟩ := nt_inb h9
  obtain ⟨e5, l5⟩ := nt_inb h5
  obtain ⟨e8, l8⟩ := nt_inb h8
  have l1 : nt (M.1 95) 1 ≤ 10 := by have := (nt_inb W.1.2.1).2; omega
  have e16 : M.1 1 6 = M.1 95 0 := H.1.2.2.2.2.1
  obtain ⟨T, Lt, hon, hm⟩ := Tree_top gI gL.2 h9 h5 h8
  obtain ⟨M1, k, a1, a2, a3, a4, a5, a6, a7⟩ := e_sweepC (M := M) (σ := M.1 95) gB.1 W.1 W.2.1 gL.1 gL.2 Lt T l9 (by omega) e16
  have H1 := RelC H (a2.mono sVo_sCs)
  have e1 : M1.1 95 = M.1 95 := a2.row (fun i => rfl)
  generalize hdr : (fun f => decide (wh (M.1 95) (M.1 95 0) (nt (M.1 95) 2) f = 2)) = dr at *
  obtain ⟨r, N', k', M2, b1, b2, b3, b4, b5, b6, b7, b8, b9, b10, b11⟩ := e_settles (M := M1) (τ := M.1 26) (dr := dr) (by rw [e1]; exact W) (by rw [e1]; exact gI.2.2.2.2) (fun f => by rw [e1, ← hdr])
  rw [e1] at b4 b5 b6 b8 b9 b10
  have H2 := RelMs H1 (b2.mono sVm_sMs)
  have e2 : M2.1 95 = M.1 95 := (b2.row (fun i => rfl)).trans e1
  have hmm : ∀ c, c < 48 → lnm (tld M) (nt (M.1 95) 5) c = lnm (fun i => r (i + 1)) N' c := fun c hc => by
    rw [Bool.eq_iff_iff, hm c hc, b5 c hc]
  have honL : ∀ i, i < nt (M.1 95) 5 → onL (M.1 95) (tld M i) = true := fun i hi => by
    unfold onL
    rw [decide_eq_false (hon i hi), Bool.not_false, Bool.or_true]
  have ho : ∀ V V' : Nat → Int32, (∀ i, i < nt (M.1 95) 5 → V (tld M i) = V' (tld M i)) → ∀ i, i < nt (M.1 95) 5 → owS (M.1 95) dr V (tld M i) = owW (M.1 95) dr V' (tld M i) := fun V V' hV i hi => by
    unfold owS owW owM
    rw [if_pos (honL i hi)]
    exact ownV_cg (hV i hi) _
  have hB : swB (upS (M.1 95)) (tld M) (nt (M.1 95) 5) (owS (M.1 95) dr) (nt (M.1 95) 8) = swB (upS (M.1 95)) (fun i => r (i + 1)) N' (owW (M.1 95) dr) (nt (M.1 95) 8) := funext fun j => swB_un T b4 hmm ho j
  have hk : k' = k := by rw [← hB] at b6; exact stN_u b6 a3
  rw [hk] at b7 b8 b9 b10
  rw [← hB] at b8
  obtain ⟨v1, v2⟩ := sw_un (w := nt (M.1 95) 8) T b4 hmm ho k
  have hCb : ∀ i, i < nt (M.1 95) 5 → swC (upS (M.1 95)) (tld M) (nt (M.1 95) 5) (owS (M.1 95) dr) (nt (M.1 95) 8) (k - 1) (tld M i) < 2147483648 := fun i hi => by
    have h1 := cfF_le (own := owS (M.1 95) dr (swV (upS (M.1 95)) (tld M) (nt (M.1 95) 5) (owS (M.1 95) dr) (nt (M.1 95) 8) (k - 1))) T l9 hi
    have h2 := ownV_sum (dr := dr) (ce := cel (M.1 95)) (ld := ld (M.1 95)) (V := swV (upS (M.1 95)) (tld M) (nt (M.1 95) 5) (owS (M.1 95) dr) (nt (M.1 95) 8) (k - 1)) (nt (M.1 95) 1) (fun f hf => ⟨(nI_of_inb (gL.2.2.1 f hf).1).2, by have := (nI_of_inb (gL.2.2.1 f hf).2.1).2; unfold ld nt; omega⟩)
    have h3 : lsum (owS (M.1 95) dr (swV (upS (M.1 95)) (tld M) (nt (M.1 95) 5) (owS (M.1 95) dr) (nt (M.1 95) 8) (k - 1))) 48 ≤ nt (M.1 95) 1 * 50000 := h2
    have h4 : swC (upS (M.1 95)) (tld M) (nt (M.1 95) 5) (owS (M.1 95) dr) (nt (M.1 95) 8) (k - 1) (tld M i) ≤ nt (M.1 95) 1 * 50000 := Nat.le_trans h1 h3
    omega
  refine ⟨M1, M2, N', k, _, l64 (lsum (fun i => nt (M.1 95) 8 * swC (upS (M.1 95)) (tld M) (nt (M.1 95) 5) (owS (M.1 95) dr) (nt (M.1 95) 8) (k - 1) (tld M i) * swC (upS (M.1 95)) (tld M) (nt (M.1 95) 5) (owS (M.1 95) dr) (nt (M.1 95) 8) (k - 1) (tld M i)) (nt (M.1 95) 5)), a1, b1, H1, H2, e1, e2, a4, b7, a5, b8, fun c hc h => ?_, ?_, ?_⟩
  · rw [a6 c hc, b9 c hc]
    by_cases g : nI c = M.1 95 9
    · have : c = nt (M.1 95) 9 := by rw [e9] at g; exact (nI_inj (by omega) (by omega)).mp g
      rw [this]; exact v1
    · have g2 : M.1 95 (116 + c) ≠ -1 := fun e => by
        unfold onL at h
        rw [decide_eq_false g, decide_eq_true e] at h
        exact absurd h (by decide)
      obtain ⟨i, i1, i2⟩ := lnm_i.mp ((hm c hc).mpr g2)
      rw [← i2]; exact v2 i i1
  · have L1 : Lc M1.1 (upS (M.1 95)) (tld M) (nt (M.1 95) 5) (nt (M.1 95) 8) := Lc_fr Lt a2 (fun a i h => by rcases h with rfl | rfl | rfl <;> rfl)
    generalize swC (upS (M.1 95)) (tld M) (nt (M.1 95) 5) (owS (M.1 95) dr) (nt (M.1 95) 8) (k - 1) = C at *
    have hC : ∀ i, i < nt (M.1 95) 5 → M1.1 88 (tld M i) = nI (C (tld M i)) := a7
    obtain ⟨e, h1, h2⟩ := itr_cnt (body := b_Volts_lost_86_4 M1) (s0 := ((0 : Int64), (0 : Int32))) (fun j z => z = (l64 (lsum (fun i => nt (M.1 95) 8 * C (tld M i) * C (tld M i)) j), nI j)) (fun e => e = l64 (lsum (fun i => nt (M.1 95) 8 * C (tld M i) * C (tld M i)) (nt (M.1 95) 5))) (nt (M.1 95) 5) (by omega) rfl (by
      rintro j z hj rfl
      left
      refine ⟨_, ?_, rfl⟩
      have hb := (T.1 j hj).1
      unfold b_Volts_lost_86_4 jv_
      dsimp only
      rw [L1.1, dlt_t hj (by omega), ite_tt, L1.2.1, atv_nI (i := j) (by omega) (by omega), (L1.2.2 j hj).1, atv_nI hb (by omega), hC j hj, l64_nI (by omega), l64_nI (hCb j hj), l64_mul, l64_mul, l64_add, nI_one]
      rfl) (by
      rintro z rfl
      refine ⟨_, ?_, rfl⟩
      unfold b_Volts_lost_86_4
      dsimp only
      rw [L1.1, dlt_f (Nat.le_refl _) (by omega), ite_ff])
    rw [h1, h2]
  · have hsum : lsum (fun i => nt (M.1 95) 8 * swC (upS (M.1 95)) (tld M) (nt (M.1 95) 5) (owS (M.1 95) dr) (nt (M.1 95) 8) (k - 1) (tld M i) * swC (upS (M.1 95)) (tld M) (nt (M.1 95) 5) (owS (M.1 95) dr) (nt (M.1 95) 8) (k - 1) (tld M i)) (nt (M.1 95) 5) = lsum (fun i => nt (M.1 95) 8 * swC (upS (M.1 95)) (fun i => r (i + 1)) N' (owW (M.1 95) dr) (nt (M.1 95) 8) (k - 1) (r (i + 1)) * swC (upS (M.1 95)) (fun i => r (i + 1)) N' (owW (M.1 95) dr) (nt (M.1 95) 8) (k - 1) (r (i + 1))) N' := by
      have q1 := lsum_im (G := fun c => nt (M.1 95) 8 * swC (upS (M.1 95)) (tld M) (nt (M.1 95) 5) (owS (M.1 95) dr) (nt (M.1 95) 8) (k - 1) c * swC (upS (M.1 95)) (tld M) (nt (M.1 95) 5) (owS (M.1 95) dr) (nt (M.1 95) 8) (k - 1) c) T.2 (fun i hi => (T.1 i hi).1) (nt (M.1 95) 5) (Nat.le_refl _)
      have q2 := lsum_im (G := fun c => nt (M.1 95) 8 * swC (upS (M.1 95)) (fun i => r (i + 1)) N' (owW (M.1 95) dr) (nt (M.1 95) 8) (k - 1) c * swC (upS (M.1 95)) (fun i => r (i + 1)) N' (owW (M.1 95) dr) (nt (M.1 95) 8) (k - 1) c) b4.2 (fun i hi => (b4.1 i hi).1) N' (Nat.le_refl _)
      refine q1.trans (Eq.trans ?_ q2.symm)
      refine lsum_congr 48 (fun c hc => ?_)
      rw [← hmm c hc]
      cases g : lnm (tld M) (nt (M.1 95) 5) c
      · rfl
      · obtain ⟨i, i1, i2⟩ := lnm_i.mp g
        have := swC_un (w := nt (M.1 95) 8) T b4 hmm ho (k - 1) i1
        rw [i2] at this
        rw [ite_tt, ite_tt, this]
    rw [hsum]
    generalize swC (upS (M.1 95)) (fun i => r (i + 1)) N' (owW (M.1 95) dr) (nt (M.1 95) 8) (k - 1) = C at *
    obtain ⟨e, h1, h2⟩ := itr_cnt (body := b_Mo_lose_94_50 (nI (N' + 1), M2)) (s0 := ((0 : Int64), (1 : Int32))) (fun j z => z = (l64 (lsum (fun i => nt (M.1 95) 8 * C (r (i + 1)) * C (r (i + 1))) j), nI (j + 1))) (fun e => e = l64 (lsum (fun i => nt (M.1 95) 8 * C (r (i + 1)) * C (r (i + 1))) N')) N' (by omega) rfl (by
      rintro j z hj rfl
      left
      refine ⟨_, ?_, rfl⟩
      have hb := (b4.1 j hj).1
      dsimp only at hb
      unfold b_Mo_lose_94_50 jv_
      dsimp only
      rw [dlt_t (by omega) (by omega), ite_tt, inb_t (by omega) (by omega), ite_tt, nI_cl (by omega), b11 (j + 1) (by omega), inb_t hb (by omega), ite_tt, ite_tt, ite_tt, nI_cl (by omega), b10 _ hb, e2, e8, l64_nI (by omega), l64_mul, l64_mul, l64_add, nI_one]
      rfl) (by
      rintro z rfl
      refine ⟨_, ?_, rfl⟩
      unfold b_Mo_lose_94_50
      dsimp only
      rw [dlt_f (Nat.le_refl _) (by omega), ite_ff])
    rw [h1, h2]
theorem op_volt : Op_volt Rel := by
  intro n M v0 hn H
  have W := Rel_W hn H
  obtain ⟨gB, gL, gI, gR, gP, gT', gK, gO, gN⟩ := RS1_gs H.1
  by_cases c0 : wthn v0 0 47 = true
  rotate_left
  · refine ⟨-1, M, M, ?_, ?_, Rel_mono H (by omega)⟩
    · unfold f_CF_volt_0; rw [if_neg c0]
    · unfold f_Mo_volt_94; rw [e_Mo_isCell, Option.bind_some, if_neg c0]
  obtain ⟨c, hc, rfl⟩ : ∃ c, c < 48 ∧ v0 = nI c := by
    have := c0
    rw [show (47 : Int32) = nI 47 from rfl, inb_wthn (by omega)] at this
    exact ⟨_, (nI_of_inb this).2, (nI_of_inb this).1⟩
  by_cases ho : onL (M.1 95) c = true
  rotate_left
  · refine ⟨-1, M, M, ?_, ?_, Rel_mono H (by omega)⟩
    · unfold f_CF_volt_0; rw [if_pos c0, e_CF_isOnLine gI gL.1.2.1 hc, Option.bind_some, if_neg ho]
    · unfold f_Mo_volt_94; rw [e_Mo_isCell, Option.bind_some, if_pos c0, e_Mo_isOnLine hc, Option.bind_some, if_neg ho]
  obtain ⟨M1, M2, N', k, b, S, q1, q2, q3, q4, q5, q6, q7, q8, q9, q10, q11, q12, q13⟩ := e_both hn H
  refine ⟨M2.1 105 c, M1, M2, ?_, ?_, Rel_mono q4 (by omega)⟩
  · unfold f_CF_volt_0; rw [if_pos c0, e_CF_isOnLine gI gL.1.2.1 hc, Option.bind_some, if_pos ho, q1, Option.bind_some, atv_nI hc (by omega), q11 c hc ho]
  · unfold f_Mo_volt_94; rw [e_Mo_isCell, Option.bind_some, if_pos c0, e_Mo_isOnLine hc, Option.bind_some, q5, if_pos ho, q2, Option.bind_some, inb_t hc (by omega), ite_tt, nI_cl (by omega)]
theorem op_lose : Op_lose Rel := by
  intro n M v0 hn H
  by_cases c0 : wthn v0 0 2 = true
  rotate_left
  · refine ⟨-1, M, M, ?_, ?_, Rel_mono H (by omega)⟩
    · unfold f_CF_lose_0; rw [if_neg c0]
    · unfold f_Mo_lose_94; rw [e_Mo_in, Option.bind_some, if_neg c0]
  obtain ⟨a, ha, rfl⟩ : ∃ c, c < 3 ∧ v0 = nI c := by
    have := c0
    rw [show (2 : Int32) = nI 2 from rfl, inb_wthn (by omega)] at this
    exact ⟨_, (nI_of_inb this).2, (nI_of_inb this).1⟩
  obtain ⟨M1, M2, N', k, b, S, q1, q2, q3, q4, q5, q6, q7, q8, q9, q10, q11, q12, q13⟩ := e_both hn H
  have hC : f_CF_lose_0 (nI a) M = if decide (nI a = 0) then (some (M1.1 86 3, M1)) else (if decide (nI a = 1) then (if isb (M1.1 86 4) then some (bI (decide (M1.1 86 4 = 1)), M1) else none) else ((f_Volts_lost_86 M1).bind fun q6 => some (q6, M1))) := by
    unfold f_CF_lose_0; rw [if_pos c0, q1, Option.bind_some]
  have hM : f_Mo_lose_94 (nI a) M1 = if decide (nI a < 2) then (if decide (nI a = 0) then (some (M2.1 94 19, M2)) else (if isb (M2.1 94 20) then if decide (M2.1 94 20 = 1) then (some (1, M2)) else (some (0, M2)) else none)) else ((itr (b_Mo_lose_94_50 (nI (N' + 1), M2)) FU (0, 1)).bind fun q15 => if decide ((lg_cmp (q15 / 1000) 1000000000) ≤ 0) then (some ((q15 / 1000).toInt32, M2)) else (some (1000000000, M2))) := by
    unfold f_Mo_lose_94; rw [e_Mo_in, Option.bind_some, if_pos c0, q2, Option.bind_some]
  rcases (show a = 0 ∨ a = 1 ∨ a = 2 by omega) with rfl | rfl | rfl
  · exact ⟨nI k, M1, M2, by rw [hC, ← q7]; rfl, by rw [hM, ← q8]; rfl, Rel_mono q4 (by omega)⟩
  · refine ⟨bI b, M1, M2, ?_, ?_, Rel_mono q4 (by omega)⟩
    · rw [hC, q9]; cases b <;> rfl
    · rw [hM, q10]; cases b <;> rfl
  · refine ⟨(jminL 1000000000 (S / 1000)).toInt32, M1, M2, ?_, ?_, Rel_mono q4 (by omega)⟩
    · rw [hC, show decide (nI 2 = 0) = false from rfl, show decide (nI 2 = 1) = false from rfl, ite_ff, ite_ff]
      unfold f_Volts_lost_86
      rw [q12]; rfl
    · rw [hM, show decide (nI 2 < 2) = false from rfl, ite_ff, q13, Option.bind_some, dlg]
      unfold jminL
      by_cases g : 1000000000 < S / 1000
      · rw [decide_eq_true g, Bool.not_true, ite_ff, if_neg (fun h : S / 1000 < 1000000000 => by
          rw [Int64.lt_iff_toInt_lt] at g h; omega)]
        rfl
      · rw [decide_eq_false g, Bool.not_false, ite_tt]
        by_cases g2 : S / 1000 < 1000000000
        · rw [if_pos g2]
        · rw [if_neg g2]
          have : S / 1000 = 1000000000 := Int64.toInt_inj.mp (by rw [Int64.lt_iff_toInt_lt] at g g2; omega)
          rw [this]
end OV
end
