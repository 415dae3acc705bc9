section O13
def BYt (a : Int64) (k : Nat) : Int32 := ((a >>> ((8 * nI k).toInt64 &&& 63)) &&& 255).toInt32
theorem by_inb (x : Int64) : inb (x &&& 255).toInt32 256 = true := by
  have h1 : (x &&& 255).toBitVec.toNat < 256 := by
    rw [Int64.toBitVec_and, BitVec.toNat_and]
    exact Nat.lt_succ_of_le Nat.and_le_right
  have h2 : (x &&& 255).toInt = ((x &&& 255).toBitVec.toNat : Int) := BitVec.toInt_eq_toNat_of_lt (by omega)
  rw [inb_iff, Int64.toInt_toInt32, h2, b_eq _ (by omega) (by omega)]
  omega
def fdg (a : Int64) (d t b : Nat) (f : Nat → Int32) (k : Nat) : Nat → Int32 := fun j => if b + t ≤ j ∧ j < b + t + k then BYt a (d - 1 - (j - b - t)) else f j
theorem fdg_in {a : Int64} {d t b : Nat} {f : Nat → Int32} {k j : Nat} (h : b + t ≤ j ∧ j < b + t + k) : fdg a d t b f k j = BYt a (d - 1 - (j - b - t)) := if_pos h
theorem fdg_out {a : Int64} {d t b : Nat} {f : Nat → Int32} {k j : Nat} (h : ¬ (b + t ≤ j ∧ j < b + t + k)) : fdg a d t b f k j = f j := if_neg h
theorem fdg_step {a : Int64} {d t b : Nat} {f : Nat → Int32} {k j : Nat} : fdg a d t b f (k + 1) j = if j = b + t + k then BYt a (d - 1 - k) else fdg a d t b f k j := by
  by_cases h : j = b + t + k
  · rw [if_pos h, fdg_in (by omega), show j - b - t = k by omega]
  · rw [if_neg h]
    by_cases g : b + t ≤ j ∧ j < b + t + k
    · rw [fdg_in g, fdg_in (by omega)]
    · rw [fdg_out g, fdg_out (by omega)]
theorem dn_1 {d k : Nat} : (k + 1 < d → nI (d - 1 - k) + (-1) = nI (d - 1 - (k + 1))) ∧ (k + 1 = d → nI (d - 1 - k) + (-1) = -1) := by
  refine ⟨fun h => ?_, fun h => ?_⟩
  · have : nI (d - 1 - k) = nI (d - 1 - (k + 1)) + nI 1 := by rw [nI_addn, show d - 1 - (k + 1) + 1 = d - 1 - k by omega]
    rw [this, Int32.add_assoc, show nI 1 + (-1) = 0 from rfl, Int32.add_zero]
  · rw [show d - 1 - k = 0 by omega]; rfl
theorem dn_f (x : Nat) (h : x < 2147483648) : decide (nI x < (0 : Int32)) = false := by
  rw [show (0 : Int32) = nI 0 from rfl]; exact dlt_f (Nat.zero_le _) h

theorem e_CF_fd {M : Mem} {a : Int64} {d t : Nat} (hd : 1 ≤ d) (ht : t + d ≤ 120) (h1 : M.1 14 1 = nI t) : ∃ M', itr (b_CF_feed_0_38 a) FU (nI (d - 1), M) = some M' ∧ M'.1 14 1 = nI (t + d) ∧ (∀ j, M'.1 15 j = fdg a d t 0 (M.1 15) d j) ∧ ((∀ x, x ≠ 14 → x ≠ 15 → M'.1 x = M.1 x) ∧ ∀ j, j ≠ 1 → M'.1 14 j = M.1 14 j) := by
  refine itr_cnt (body := b_CF_feed_0_38 a) (s0 := (nI (d - 1), M)) (fun k s => ((k < d → s.1 = nI (d - 1 - k)) ∧ (k = d → s.1 = -1)) ∧ s.2.1 14 1 = nI (t + k) ∧ (∀ j, s.2.1 15 j = fdg a d t 0 (M.1 15) k j) ∧ ((∀ x, x ≠ 14 → x ≠ 15 → s.2.1 x = M.1 x) ∧ ∀ j, j ≠ 1 → s.2.1 14 j = M.1 14 j)) (fun M' => M'.1 14 1 = nI (t + d) ∧ (∀ j, M'.1 15 j = fdg a d t 0 (M.1 15) d j) ∧ ((∀ x, x ≠ 14 → x ≠ 15 → M'.1 x = M.1 x) ∧ ∀ j, j ≠ 1 → M'.1 14 j = M.1 14 j)) d (by omega) ?_ ?_ ?_
  · exact ⟨⟨fun _ => rfl, fun h => absurd h (by omega)⟩, h1, fun j => (fdg_out (by omega)).symm, fun _ _ _ => rfl, fun _ _ => rfl⟩
  · rintro k ⟨y, X⟩ hk ⟨⟨hy, -⟩, e1, e2, e3⟩
    have hy' := hy hk
    dsimp only at hy'
    subst hy'
    dsimp only at e1 e2 e3
    left
    refine ⟨(nI (d - 1 - k) + (-1), wI (wI X 15 (0 + t + k) (BYt a (d - 1 - k))) 14 1 (nI (t + (k + 1)))), ?_, dn_1, rde, fun j => ?_, ?_⟩
    · unfold b_CF_feed_0_38 f_Rules_append_14 jv_
      dsimp only
      rw [dn_f _ (by omega), ite_ff, e1, putv_nI (by omega) (by omega), rdk (by omega), e1, nI_one, Nat.add_assoc, Nat.zero_add]
      rfl
    · dsimp only
      rw [rdk (by omega), fdg_step, rd_I, if_pos rfl, e2 j]
    · refine ⟨fun x hx hx' => ?_, fun j hj => ?_⟩
      · dsimp only
        rw [rdk hx, rdk hx']; exact e3.1 x hx hx'
      · dsimp only
        rw [rdi hj, rdk (by omega)]; exact e3.2 j hj
  · rintro ⟨y, X⟩ ⟨⟨-, hy⟩, e1, e2, e3⟩
    have hy' := hy rfl
    dsimp only at hy'
    subst hy'
    refine ⟨X, ?_, e1, e2, e3⟩
    unfold b_CF_feed_0_38
    rfl
theorem e_Mo_fd {M : Mem} {a : Int64} {d t : Nat} (hd : 1 ≤ d) (ht : t + d ≤ 120) (h1 : M.1 95 4 = nI t) : ∃ M', itr (b_Mo_feed_94_34 a) FU (nI (d - 1), M) = some M' ∧ M'.1 95 4 = nI (t + d) ∧ (∀ j, j ≠ 4 → M'.1 95 j = fdg a d t 2140 (M.1 95) d j) ∧ (∀ x, x ≠ 95 → M'.1 x = M.1 x) := by
  refine itr_cnt (body := b_Mo_feed_94_34 a) (s0 := (nI (d - 1), M)) (fun k s => ((k < d → s.1 = nI (d - 1 - k)) ∧ (k = d → s.1 = -1)) ∧ s.2.1 95 4 = nI (t + k) ∧ (∀ j, j ≠ 4 → s.2.1 95 j = fdg a d t 2140 (M.1 95) k j) ∧ (∀ x, x ≠ 95 → s.2.1 x = M.1 x)) (fun M' => M'.1 95 4 = nI (t + d) ∧ (∀ j, j ≠ 4 → M'.1 95 j = fdg a d t 2140 (M.1 95) d j) ∧ (∀ x, x ≠ 95 → M'.1 x = M.1 x)) d (by omega) ?_ ?_ ?_
  · exact ⟨⟨fun _ => rfl, fun h => absurd h (by omega)⟩, h1, fun j _ => (fdg_out (by omega)).symm, fun _ _ => rfl⟩
  · rintro k ⟨y, X⟩ hk ⟨⟨hy, -⟩, e1, e2, e3⟩
    have hy' := hy hk
    dsimp only at hy'
    subst hy'
    dsimp only at e1 e2 e3
    left
    refine ⟨(nI (d - 1 - k) + (-1), wI (wI X 95 (2140 + t + k) (BYt a (d - 1 - k))) 95 4 (nI (t + (k + 1)))), ?_, dn_1, rde, fun j hj => ?_, ?_⟩
    · unfold b_Mo_feed_94_34 jv_
      dsimp only
      rw [dn_f _ (by omega), ite_ff, e1, show (2140 : Int32) = nI 2140 from rfl, nI_addn, inb_t (by omega) (by omega), ite_tt, nI_cl (by omega), rdi (by omega), e1, nI_one, Nat.add_assoc, Nat.add_assoc]
      rfl
    · dsimp only
      rw [rdi hj, fdg_step, rd_I, if_pos rfl, e2 j hj]
    · intro x hx
      dsimp only
      rw [rdk hx, rdk hx]; exact e3 x hx
  · rintro ⟨y, X⟩ ⟨⟨-, hy⟩, e1, e2, e3⟩
    have hy' := hy rfl
    dsimp only at hy'
    subst hy'
    refine ⟨X, ?_, e1, e2, e3⟩
    unfold b_Mo_feed_94_34
    rfl
theorem op_feed : Op_feed Rel := by
  intro n M v0 v1 hn H
  have W := Rel_W hn H
  obtain ⟨b1, b2, b3, b6⟩ := Rel_b H
  obtain ⟨gB, gL, gI, gR, gP, gT, gK, gO, gN⟩ := RS1_gs H.1
  have hno : ∀ x, f_CF_feed_0 v0 v1 M = some (x, M) → f_Mo_feed_94 v0 v1 M = some (x, M) → ∃ r M1 M2, f_CF_feed_0 v0 v1 M = some (r, M1) ∧ f_Mo_feed_94 v0 v1 M1 = some (r, M2) ∧ Rel (n + 1) M2 := fun x h1 h2 => ⟨x, M, M, h1, h2, Rel_mono H (by omega)⟩
  obtain ⟨e4, l4⟩ := nt_inb W.1.2.2.2.2.1
  have hT : M.1 14 1 = M.1 95 4 := gT.1.1
  by_cases c0 : wthn v1 1 8 = true
  · by_cases c1 : decide (M.1 95 4 + v1 ≤ 120) = true
    · have hv := w_inb (a := 1) (b := 8) (by omega) (by omega) c0
      obtain ⟨ed, ld⟩ := nI_of_inb hv.1
      have d1 : 1 ≤ v1.toNatClampNeg := by
        rcases Nat.eq_zero_or_pos v1.toNatClampNeg with h | h
        · rw [h] at ed; exact absurd ed (hv.2 (by omega))
        · exact h
      generalize v1.toNatClampNeg = d at *
      generalize ht : nt (M.1 95) 4 = t at *
      subst ed
      have ht2 : t + d ≤ 120 := by
        rw [e4, nI_addn, show (120 : Int32) = nI 120 from rfl, d_le (by omega) (by omega)] at c1
        exact of_decide_eq_true c1
      have hs : nI d - 1 = nI (d - 1) := nI_subn (a := d) (b := 1) d1 (by omega)
      obtain ⟨M1, p0, p1, p2, p3, p4⟩ := e_CF_fd (M := M) (a := v0) d1 ht2 (hT.trans e4)
      have p95 : M1.1 95 = M.1 95 := p3 95 (by omega) (by omega)
      obtain ⟨M2, q0, q1, q2, q3⟩ := e_Mo_fd (M := M1) (a := v0) d1 ht2 (by rw [p95]; exact e4)
      have eC : ∀ a, (a ≠ 14 ∧ a ≠ 15 ∧ a ≠ 95) → M2.1 a = M.1 a := fun a ha => (q3 a (by omega)).trans (p3 a (by omega) (by omega))
      have e14 : ∀ j, j ≠ 1 → M2.1 14 j = M.1 14 j := fun j hj => by rw [q3 14 (by omega)]; exact p4 j hj
      have eσ : ∀ j, (j ≠ 4 ∧ ¬ (2140 + t ≤ j ∧ j < 2140 + t + d)) → M2.1 95 j = M.1 95 j := fun j hj => by
        rw [q2 j (by omega), fdg_out (by omega), p95]
      refine ⟨nI (t + d), M1, M2, ?_, ?_, Rel_same hn H ?_ ?_ ?_ ?_⟩
      · unfold f_CF_feed_0
        rw [if_pos c0, hT, if_pos c1, hs, p0, Option.bind_some, p1]
      · unfold f_Mo_feed_94
        rw [e_Mo_in, Option.bind_some, if_pos c0, p95, if_pos c1, hs, q0, Option.bind_some, q1]
      · refine RS1_mk ?_ ?_ ?_ ?_ ?_ ?_ ?_ ?_ ?_
        · exact GB_s (fun a h1 h2 => eC a (by omega)) (eσ 1 (by omega)) (eσ 2 (by omega)) (fun j h1 h2 => eσ j (by omega)) b2 gB
        · exact GL_s (fun a h1 h2 => eC a (by omega)) (eσ 1 (by omega)) (eσ 9 (by omega)) (fun j h1 h2 => eσ j (by omega)) b1 gL
        · exact Rline_s (fun a h1 h2 => eC a (by omega)) (eσ 5 (by omega)) (eσ 7 (by omega)) (eσ 8 (by omega)) (eσ 9 (by omega)) (fun j h1 h2 => eσ j (by omega)) gI
        · exact Rrule_s (e14 9 (by omega)) (fun a h1 h2 => eC a (by omega)) (eσ 3 (by omega)) (fun j h1 h2 => eσ j (by omega)) b3 gR
        · exact GP_s (eC 37 (by omega)) (eC 38 (by omega)) (eσ 1 (by omega)) (fun j h1 h2 => eσ j (by omega)) gP
        · obtain ⟨⟨x1, x2⟩, y⟩ := gT
          have h15 : M2.1 15 = M1.1 15 := q3 15 (by omega)
          refine ⟨⟨?_, fun j hj => ?_⟩, fun j hj => ?_⟩
          · rw [q1, q3 14 (by omega), p1]
          · rw [h15, p2 j, q2 _ (by omega), p95]
            by_cases g : t ≤ j ∧ j < t + d
            · rw [fdg_in (by omega), fdg_in (by omega), show 2140 + j - 2140 - t = j - 0 - t by omega]
            · rw [fdg_out (by omega), fdg_out (by omega)]; exact x2 j hj
          · rw [q2 _ (by omega), p95]
            by_cases g : t ≤ j ∧ j < t + d
            · rw [fdg_in (by omega)]; exact by_inb _
            · rw [fdg_out (by omega)]; exact y j hj
        · exact GK_s (by rw [eC 29 (by omega)]) (eC 30 (by omega)) (eC 31 (by omega)) (eσ 6 (by omega)) (fun j h1 h2 => eσ j (by omega)) (fun j h1 h2 => eσ j (by omega)) b6 gK
        · exact GO_s (eC 36 (by omega)) (fun j h1 h2 => eσ j (by omega)) gO
        · obtain ⟨x1, ⟨z0, z1, z2, z3, z4, z5, z6, z7, z8, z9⟩, x3⟩ := gN
          refine ⟨?_, ⟨?_, ?_, ?_, ?_, ?_, ?_, ?_, ?_, ?_, ?_⟩, ?_⟩
          · rw [eC 1 (by omega), eσ 0 (by omega)]; exact x1
          · rw [eσ 0 (by omega)]; exact z0
          · rw [eσ 1 (by omega)]; exact z1
          · rw [eσ 2 (by omega)]; exact z2
          · rw [eσ 3 (by omega)]; exact z3
          · rw [q1]; exact inb_t (by omega) (by omega)
          · rw [eσ 5 (by omega)]; exact z5
          · rw [eσ 6 (by omega)]; exact z6
          · rw [eσ 7 (by omega)]; exact z7
          · rw [eσ 8 (by omega)]; exact z8
          · rw [eσ 9 (by omega)]; exact z9
          · rw [eσ 3 (by omega)]; exact x3
      · exact ⟨⟨eσ 2 (by omega), eσ 3 (by omega), eσ 9 (by omega)⟩, fun j h1 h2 => eσ j (by omega), fun r hr => ⟨eσ _ (by omega), eσ _ (by omega), eσ _ (by omega), fun s hs => eσ _ (by omega), fun k hk => ⟨eσ _ (by omega), eσ _ (by omega), eσ _ (by omega)⟩⟩, fun j h => eσ j (by omega)⟩
      · exact eσ 1 (by omega)
      · intro a ha; exact eC a (by omega)
    · exact hno (-4) (by unfold f_CF_feed_0; rw [if_pos c0, hT, if_neg c1]) (by unfold f_Mo_feed_94; rw [e_Mo_in, Option.bind_some, if_pos c0, if_neg c1])
  · exact hno (-2) (by unfold f_CF_feed_0; rw [if_neg c0]) (by unfold f_Mo_feed_94; rw [e_Mo_in, Option.bind_some, if_neg c0])
end O13
