def sAc (a i : Nat) : Bool := a == 13 || (a == 27 || (a == 23 || ((a == 14 && i == 11) || (a == 79 || a == 80))))
theorem s13_sAc : ∀ a i : Nat, (a == 13) = true → sAc a i = true := fun a i h => by unfold sAc; rw [h]; rfl
theorem s27_sAc : ∀ a i : Nat, s27 a i = true → sAc a i = true := fun a i h => by unfold s27 at h; unfold sAc; rw [h]; simp
theorem s79_sAc : ∀ a i : Nat, s79 a i = true → sAc a i = true := fun a i h => by
  unfold s79 at h; unfold sAc
  simp only [Bool.or_eq_true, Bool.and_eq_true, beq_iff_eq, decide_eq_true_eq] at h ⊢; omega
theorem sRun_sAc : ∀ a i : Nat, sRun a i = true → sAc a i = true := fun a i h => by
  unfold sRun at h; unfold sAc
  simp only [Bool.or_eq_true, Bool.and_eq_true, beq_iff_eq] at h ⊢; omega
/-- class holds the row -/
def Rc0 (C : Nat → Nat → Int32) (σ : Nat → Int32) : Prop := Rbook C σ ∧ Rland C σ ∧ Rline C σ ∧ Rrule C σ ∧ ∀ k, k < 1210 → C 37 k = (if σ (2280 + k) = -1 then -5 else σ (2280 + k)) ∧ C 38 k = σ (3490 + k)
theorem Rclc_congr {C C' : Nat → Nat → Int32} (h : ∀ a, 16 ≤ a → a ≤ 22 → C' a = C a) {k b hi w : Nat} {c : List Int32} {u : Option (Nat × List Int32)} (H : Rcl C k b hi w c u) : Rcl C' k b hi w c u :=
  H.keep (by rw [h 19 (by omega) (by omega)]) (by rw [h 20 (by omega) (by omega)]) (by rw [h 21 (by omega) (by omega)]) (by rw [h 22 (by omega) (by omega)]) (fun i _ _ => by rw [h 16 (by omega) (by omega)]) (Nat.le_refl _)
theorem Ru1_congr {C C' : Nat → Nat → Int32} {σ : Nat → Int32} {r : Nat} (h : ∀ a, 16 ≤ a → a ≤ 22 → C' a = C a) (H : Ru1 C σ r) : Ru1 C' σ r := by
  obtain ⟨r1, r2, r3, l, l1, l2, l3, l4, l5⟩ := H
  refine ⟨by rw [h 18 (by omega) (by omega)]; exact r1, r2, r3, l, l1, l2, by rw [h 17 (by omega) (by omega)]; exact l3, l4, fun j hj => ?_⟩
  obtain ⟨m1, m2, m3⟩ := l5 j hj
  exact ⟨m1, Rclc_congr h m2, m3⟩
theorem Rrule_congr {C C' : Nat → Nat → Int32} {σ : Nat → Int32} (h9 : C' 14 9 = C 14 9) (h : ∀ a, 16 ≤ a → a ≤ 22 → C' a = C a) (H : Rrule C σ) : Rrule C' σ := ⟨h9.trans H.1, fun r hr => Ru1_congr h (H.2 r hr)⟩
theorem Rc0.fr {M M' : Mem} {σ : Nat → Int32} (R : Rc0 M.1 σ) (h : Fr sAc M M') : Rc0 M'.1 σ := by
  obtain ⟨r1, r2, r3, r4, r5⟩ := R
  have e : ∀ a, (a ≠ 13 ∧ a ≠ 27 ∧ a ≠ 23 ∧ a ≠ 14 ∧ a ≠ 79 ∧ a ≠ 80) → M'.1 a = M.1 a := fun a ha => h.row (fun i => by unfold sAc; simp [ha.1, ha.2.1, ha.2.2.1, ha.2.2.2.1, ha.2.2.2.2.1, ha.2.2.2.2.2])
  refine ⟨?_, ?_, ?_, Rrule_congr (h.at_ rfl) (fun a h1 h2 => e a (by omega)) r4, ?_⟩
  · unfold Rbook; rw [e 7 (by decide), e 8 (by decide), e 9 (by decide), e 10 (by decide), e 11 (by decide), e 12 (by decide)]; exact r1
  · unfold Rland; rw [e 2 (by decide), e 3 (by decide), e 4 (by decide), e 5 (by decide), e 6 (by decide)]; exact r2
  · unfold Rline; rw [e 24 (by decide), e 25 (by decide), e 26 (by decide)]; exact r3
  · rw [e 37 (by decide), e 38 (by decide)]; exact r5
theorem slt_nI {f m : Nat} (hf : f < 10) (hm : m < 121) : slt (nI f) (nI m) = nI (121 * f + m) := by
  unfold slt
  have h1 : wthn (nI f) 0 9 = true := by
    have := inb_wthn (x := nI f) (n := 9) (by omega)
    rw [show (9 : Int32) = nI 9 from rfl, this]; exact inb_t (by omega) (by omega)
  have h2 : wthn (nI m) 0 120 = true := by
    have := inb_wthn (x := nI m) (n := 120) (by omega)
    rw [show (120 : Int32) = nI 120 from rfl, this]; exact inb_t (by omega) (by omega)
  rw [h1, h2, show (121 : Int32) = nI 121 from rfl, nI_muln, nI_addn, Nat.mul_comm]; rfl
section WK
variable {M : Mem} {σ : Nat → Int32}
/-- class ahead of a month -/
def Wk (M : Mem) (σ : Nat → Int32) (f m : Nat) : Prop := Cmt M (mtX σ f m) ∧ M.1 79 4 = (arS σ f m).toInt32 ∧ M.1 80 1 = σ (174 + f) ∧ M.1 80 4 = nI (mil σ (cel σ f))
theorem names_ok {M : Mem} {f : Nat} {u k o : Int32} (h0 : M.1 80 0 = u) (h1 : M.1 80 1 = σ (174 + f)) (h2 : M.1 80 2 = k) (h3 : M.1 80 3 = o) (h4 : M.1 80 4 = nI (mil σ (cel σ f))) : ∀ i, i < 5 → M.1 80 i = Nm σ f u k o i := fun i hi => by
  have hi : i = 0 ∨ i = 1 ∨ i = 2 ∨ i = 3 ∨ i = 4 := by omega
  rcases hi with rfl | rfl | rfl | rfl | rfl
  · exact h0
  · exact h1
  · exact h2
  · exact h3
  · exact h4
set_option maxHeartbeats 4000000 in
theorem wk_step {f m : Nat} (W : Wm σ) (R : Rc0 M.1 σ) (hf : f < nt σ 1) (hm : m < 121) (H : Wk M σ f m) (a2 : Int32) (ha : decide (nI m ≤ a2) = true) : ∃ M', b_Account_walk_79_57 (nI f) a2 (nI m, M) = some (.inl (nI (m + 1), M')) ∧ Fr sAc M M' ∧ Wk M' σ f (m + 1) ∧ M'.1 79 2 = unS σ f m ∧ M'.1 79 3 = blS σ f m (arS σ f m).toInt32 := by
  obtain ⟨wn, wb, wl, wr, wp, ⟨τ, T⟩, -⟩ := W
  have hF10 : f < 10 := by have := (nt_inb wn.2.1).2; omega
  have hR9 : nt σ 3 ≤ 9 := by have := (nt_inb wn.2.2.2.1).2; omega
  have h3 := (nt_inb wn.2.2.2.1).1
  obtain ⟨c1, c2, c3, c4⟩ := H
  obtain ⟨rb, rl, rn, rr, rc⟩ := R
  have hb := mtX_b (σ := σ) hF10 wr m (by omega)
  -- kind
  obtain ⟨M9, k1, k2⟩ := e_kindIn (M := M) (m := nI m) (f := f) (e := -1) hF10 (.inl rfl) rb wn wb
  have hkd : km σ (nI m) (kn σ (-1)) f = kd σ f m := rfl
  rw [hkd] at k1
  have F9 : Fr sAc M M9 := k2.mono s13_sAc
  have e79 : ∀ i, M9.1 79 i = M.1 79 i := fun i => k2.at_ rfl
  have e80 : ∀ i, M9.1 80 i = M.1 80 i := fun i => k2.at_ rfl
  have C9 : Cmt M9 (mtX σ f m) := by
    obtain ⟨x1, x2, x3, x4, x5, x6⟩ := c1
    exact ⟨(e79 5).trans x1, (e79 9).trans x2, (e79 10).trans x3, (e79 6).trans x4, (e79 7).trans x5, (e79 8).trans x6⟩
  have e37 : M9.1 37 (121 * f + m) = (if σ (2280 + (121 * f + m)) = -1 then -5 else σ (2280 + (121 * f + m))) := by
    rw [k2.at_ rfl]; exact (rc _ (by omega)).1
  have hsl := slt_nI hF10 hm
  have hro : f_Coins_readOf_36 (nI f) (nI m) M9 = some (if σ (2280 + (121 * f + m)) = -1 then -5 else σ (2280 + (121 * f + m))) := by
    unfold f_Coins_readOf_36
    rw [hsl, nI_nneg (by omega), ite_ff, atv_nI (by omega) (by omega), e37]
  -- units
  have hun : ∃ M2, (if svd σ f m = true then ((f_Coins_readOf_36 (nI f) (nI m) M9).bind fun q40 => (f_Account_metered_79 q40 (nI m) M9).bind fun q41 => some (q41.1, q41.2)) else some ((0 : Int32), M9)) = some (unS σ f m, M2) ∧ Cmt M2 (mtX σ f (m + 1)) ∧ Fr s79 M9 M2 := by
    by_cases c : svd σ f m = true
    · rw [if_pos c]
      obtain ⟨M2, g1, g2, g3⟩ := e_metered (M := M9) hF10 hm wr hb c C9
      refine ⟨M2, ?_, g2, g3⟩
      rw [hro, Option.bind_some, g1]; rfl
    · rw [if_neg c]
      refine ⟨M9, ?_, ?_, Fr.refl M9⟩
      · have : unS σ f m = 0 := by unfold unS mtN; rw [if_neg c]
        rw [this]
      · have : mtX σ f (m + 1) = mtX σ f m := by
          show mtS σ f m (mtX σ f m) = _
          unfold mtS; rw [if_neg c]
        rw [this]; exact C9
  obtain ⟨M2, u1, u2, u3⟩ := hun
  -- the names
  have hM20 : ∃ M20 : Mem, M20 = wI (wI (wI (wI M2 79 2 (unS σ f m)) 80 0 (unS σ f m)) 80 2 (kd σ f m)) 80 3 (arS σ f m).toInt32 := ⟨_, rfl⟩
  obtain ⟨M20, hM20⟩ := hM20
  have F20 : Fr sAc M M20 := by rw [hM20]; exact ((((F9.trans (u3.mono s79_sAc)).wI rfl).wI rfl).wI rfl).wI rfl
  have e4 : M2.1 79 4 = (arS σ f m).toInt32 := by rw [u3.at_ rfl, e79]; exact c2
  have n20 : ∀ i, i < 5 → M20.1 80 i = Nm σ f (unS σ f m) (kd σ f m) (arS σ f m).toInt32 i := by
    rw [hM20]
    refine names_ok rfl ?_ rfl rfl ?_
    · show M2.1 80 1 = _
      rw [u3.at_ rfl, e80]; exact c3
    · show M2.1 80 4 = _
      rw [u3.at_ rfl, e80]; exact c4
  have C20 : Cmt M20 (mtX σ f (m + 1)) := by rw [hM20]; exact u2
  have t20 : M20.1 79 4 = (arS σ f m).toInt32 := by rw [hM20]; exact e4
  have v20 : M20.1 79 2 = unS σ f m := by rw [hM20]; rfl
  have R20 : Rc0 M20.1 σ := Rc0.fr ⟨rb, rl, rn, rr, rc⟩ F20
  -- the bill
  have hbl : ∃ M3, (if svd σ f m = true then ((f_Rules_worth_14_80 1 (nI m) M20).bind fun q37 => (f_Rules_worth_14_80 2 (nI m) q37.2).bind fun q38 => some (q37.1 + q38.1, q38.2)) else some ((0 : Int32), M20)) = some (blS σ f m (arS σ f m).toInt32, M3) ∧ Fr sRun M20 M3 := by
    unfold blS
    by_cases c : svd σ f m = true
    · rw [if_pos c, if_pos c]
      obtain ⟨M3, g1, g2, -⟩ := e_worthC (M := M20) (w := 1) (m := nI m) R20.2.2.2.1 hR9 h3 n20
      obtain ⟨M4, g3, g4, -⟩ := e_worthC (M := M3) (N := Nm σ f (unS σ f m) (kd σ f m) (arS σ f m).toInt32) (w := 2) (m := nI m) (Rc0.fr R20 (g2.mono sRun_sAc)).2.2.2.1 hR9 h3 (fun i hi => by rw [g2.at_ rfl]; exact n20 i hi)
      refine ⟨M4, ?_, g2.trans g4⟩
      rw [g1, Option.bind_some]
      dsimp only
      rw [g3]; rfl
    · rw [if_neg c, if_neg c]; exact ⟨M20, rfl, Fr.refl M20⟩
  obtain ⟨M3, b1, b2⟩ := hbl
  have hM25 : ∃ M25 : Mem, M25 = wI M3 79 3 (blS σ f m (arS σ f m).toInt32) := ⟨_, rfl⟩
  obtain ⟨M25, hM25⟩ := hM25
  have F25 : Fr sAc M20 M25 := by rw [hM25]; exact (b2.mono sRun_sAc).wI rfl
  have hpd : f_Coins_paidOf_36 (nI f) (nI m) M25 = some (σ (3490 + (121 * f + m))) := by
    unfold f_Coins_paidOf_36
    rw [hsl, atv_nI (by omega) (by omega), (Rc0.fr R20 F25).2.2.2.2 _ (by omega) |>.2]
  have t25 : M25.1 79 4 = (arS σ f m).toInt32 := by rw [hM25]; show M3.1 79 4 = _; rw [b2.at_ rfl]; exact t20
  have l25 : M25.1 79 3 = blS σ f m (arS σ f m).toInt32 := by rw [hM25]; exact rde
  have hx : (M25.1 79 4).toInt64 + (M25.1 79 3).toInt64 - (σ (3490 + (121 * f + m))).toInt64 = arN σ f m (arS σ f m) := by
    rw [t25, l25, t32 (arS_b σ f m).1 (arS_b σ f m).2]
    unfold arN
    have hb1 := blS_b (σ := σ) (f := f) (m := m) (arS σ f m).toInt32 hF10 hm wr
    have hb2 := inb_iff.mp (wp (121 * f + m) (by omega))
    have hb3 := arS_b σ f m
    generalize blS σ f m (arS σ f m).toInt32 = bl at *
    generalize σ (3490 + (121 * f + m)) = pd at *
    generalize arS σ f m = v at *
    apply Int64.toInt_inj.mp
    have e1 : (bl - pd).toInt = bl.toInt - pd.toInt := by rw [Int32.toInt_sub]; exact b_eq _ (by omega) (by omega)
    rw [Int64.toInt_sub, Int64.toInt_add, Int64.toInt_add, Int32.toInt_toInt64, Int32.toInt_toInt64, Int32.toInt_toInt64, e1]
    have b64 : ∀ x : Int, -9223372036854775808 ≤ x → x ≤ 9223372036854775807 → x.bmod (2 ^ 64) = x := fun x h1 h2 => Int.bmod_eq_of_le (by omega) (by omega)
    rw [b64 (v.toInt + bl.toInt) (by omega) (by omega), b64 _ (by omega) (by omega), b64 _ (by omega) (by omega)]
    omega
  -- late
  have n28 : ∀ i, i < 5 → (wI M25 80 0 0).1 80 i = Nm σ f 0 (kd σ f m) (arS σ f m).toInt32 i := by
    have q : ∀ i, i ≠ 0 → (wI M25 80 0 0).1 80 i = M20.1 80 i := fun i hi => by
      rw [rdi hi, hM25]
      show M3.1 80 i = _
      exact b2.at_ rfl
    refine names_ok rde ?_ ?_ ?_ ?_
    · rw [q 1 (by omega)]; exact n20 1 (by omega)
    · rw [q 2 (by omega)]; exact n20 2 (by omega)
    · rw [q 3 (by omega)]; exact n20 3 (by omega)
    · rw [q 4 (by omega)]; exact n20 4 (by omega)
  have F28 : Fr sAc M20 (wI M25 80 0 0) := F25.wI rfl
  have hlate : ∃ M4, (if decide (lg_cmp (arN σ f m (arS σ f m)) 0 ≤ 0) = true then some (arN σ f m (arS σ f m), wI M25 80 0 0) else ((f_Rules_worth_14_80 3 (nI m) (wI M25 80 0 0)).bind fun q35 => some (arN σ f m (arS σ f m) + ((arN σ f m (arS σ f m) * q35.1.toInt64) / 100), q35.2))) = some (arL σ f m (arS σ f m) (arN σ f m (arS σ f m)), M4) ∧ Fr sRun (wI M25 80 0 0) M4 := by
    unfold arL
    by_cases c : decide (lg_cmp (arN σ f m (arS σ f m)) 0 ≤ 0) = true
    · rw [if_pos c, if_pos c]; exact ⟨_, rfl, Fr.refl _⟩
    · rw [if_neg c, if_neg c]
      obtain ⟨M4, g1, g2, -⟩ := e_worthC (M := wI M25 80 0 0) (w := 3) (m := nI m) (Rc0.fr R20 F28).2.2.2.1 hR9 h3 n28
      exact ⟨M4, by rw [g1]; rfl, g2⟩
  obtain ⟨M4, a1, a3⟩ := hlate
  have F4 : Fr sAc M20 M4 := F28.trans (a3.mono sRun_sAc)
  have h79 : ∀ i, M4.1 79 i = M25.1 79 i := fun i => by rw [a3.at_ rfl]; rfl
  have h25 : ∀ i, i ≠ 3 → M25.1 79 i = M20.1 79 i := fun i hi => by rw [hM25, rdi hi]; exact b2.at_ rfl
  have hL : lmt (arL σ f m (arS σ f m) (arN σ f m (arS σ f m))) = arS σ f (m + 1) := rfl
  have hbody : b_Account_walk_79_57 (nI f) a2 (nI m, M) = some (.inl (nI (m + 1), wI M4 79 4 (lmt (arL σ f m (arS σ f m) (arN σ f m (arS σ f m)))).toInt32)) := by
    unfold b_Account_walk_79_57
    dsimp only [jv_]
    rw [ha, ite_tt, show (121 : Int32) = nI 121 from rfl, dlt_t hm (by omega), ite_tt, k1, Option.bind_some]
    dsimp only
    rw [kd_svd]
    have hcut : ∀ (F : Int32 × Mem → Option ((Int32 × Mem) ⊕ Mem)), jn_ F (fun k39 => if svd σ f m = true then ((f_Coins_readOf_36 (nI f) (nI m) M9).bind fun q40 => (f_Account_metered_79 q40 (nI m) M9).bind fun q41 => k39 (q41.1, q41.2)) else k39 (0, M9)) = F (unS σ f m, M2) := fun F => by
      unfold jn_
      dsimp only
      by_cases c : svd σ f m = true
      · rw [if_pos c] at u1 ⊢
        cases h1 : f_Coins_readOf_36 (nI f) (nI m) M9 with
        | none => rw [h1] at u1; cases u1
        | some q40 =>
          rw [h1, Option.bind_some] at u1
          rw [Option.bind_some]
          cases h2 : f_Account_metered_79 q40 (nI m) M9 with
          | none => rw [h2] at u1; cases u1
          | some q41 =>
            rw [h2, Option.bind_some] at u1
            rw [Option.bind_some, Option.some.inj u1]
      · rw [if_neg c] at u1 ⊢
        rw [Option.some.inj u1]
    rw [hcut]
    dsimp only
    rw [show putv (wI M2 79 2 (unS σ f m)) 80 5 0 ((wI M2 79 2 (unS σ f m)).1 79 2) = wI (wI M2 79 2 (unS σ f m)) 80 0 (unS σ f m) from putv_nI (i := 0) (by omega) (by omega), show ∀ X : Mem, putv X 80 5 2 (kd σ f m) = wI X 80 2 (kd σ f m) from fun X => putv_nI (i := 2) (by omega) (by omega), show ∀ X : Mem, ∀ v, putv X 80 5 3 v = wI X 80 3 v from fun X v => putv_nI (i := 3) (by omega) (by omega), show (wI (wI (wI M2 79 2 (unS σ f m)) 80 0 (unS σ f m)) 80 2 (kd σ f m)).1 79 4 = (arS σ f m).toInt32 from e4, ← hM20]
    have hcut2 : ∀ (F : Int32 × Mem → Option ((Int32 × Mem) ⊕ Mem)), jn_ F (fun k36 => if svd σ f m = true then ((f_Rules_worth_14_80 1 (nI m) M20).bind fun q37 => (f_Rules_worth_14_80 2 (nI m) q37.2).bind fun q38 => k36 (q37.1 + q38.1, q38.2)) else k36 (0, M20)) = F (blS σ f m (arS σ f m).toInt32, M3) := fun F => by
      unfold jn_
      dsimp only
      by_cases c : svd σ f m = true
      · rw [if_pos c] at b1 ⊢
        cases h1 : f_Rules_worth_14_80 1 (nI m) M20 with
        | none => rw [h1] at b1; cases b1
        | some q37 =>
          rw [h1, Option.bind_some] at b1
          rw [Option.bind_some]
          cases h2 : f_Rules_worth_14_80 2 (nI m) q37.2 with
          | none => rw [h2] at b1; cases b1
          | some q38 =>
            rw [h2, Option.bind_some] at b1
            rw [Option.bind_some, Option.some.inj b1]
      · rw [if_neg c] at b1 ⊢
        rw [Option.some.inj b1]
    rw [hcut2]
    dsimp only
    rw [← hM25, hpd, Option.bind_some, hx, show ∀ v, putv M25 80 5 0 v = wI M25 80 0 v from fun v => putv_nI (i := 0) (by omega) (by omega), nI_one]
    have hcut3 : ∀ (F : Int64 × Mem → Option ((Int32 × Mem) ⊕ Mem)), jn_ F (fun k34 => if decide (lg_cmp (arN σ f m (arS σ f m)) 0 ≤ 0) = true then k34 (arN σ f m (arS σ f m), wI M25 80 0 0) else ((f_Rules_worth_14_80 3 (nI m) (wI M25 80 0 0)).bind fun q35 => k34 (arN σ f m (arS σ f m) + ((arN σ f m (arS σ f m) * q35.1.toInt64) / 100), q35.2))) = F (arL σ f m (arS σ f m) (arN σ f m (arS σ f m)), M4) := fun F => by
      unfold jn_
      dsimp only
      by_cases c : decide (lg_cmp (arN σ f m (arS σ f m)) 0 ≤ 0) = true
      · rw [if_pos c] at a1 ⊢
        rw [Option.some.inj a1]
      · rw [if_neg c] at a1 ⊢
        cases h1 : f_Rules_worth_14_80 3 (nI m) (wI M25 80 0 0) with
        | none => rw [h1] at a1; cases a1
        | some q35 =>
          rw [h1, Option.bind_some] at a1
          rw [Option.bind_some, Option.some.inj a1]
    rw [hcut3]
    have hl : ∀ x, jmaxL (-1000000000) (jminL 1000000000 x) = lmt x := fun _ => rfl
    dsimp only
    rw [hl]
  refine ⟨_, hbody, (F20.trans F4).wI rfl, ⟨?_, ?_, ?_, ?_⟩, ?_, ?_⟩
  · obtain ⟨x1, x2, x3, x4, x5, x6⟩ := C20
    have q : ∀ i, i ≠ 4 → i ≠ 3 → (wI M4 79 4 (lmt (arL σ f m (arS σ f m) (arN σ f m (arS σ f m)))).toInt32).1 79 i = M20.1 79 i := fun i h1 h2 => by rw [rdi h1, h79, h25 i h2]
    exact ⟨(q 5 (by omega) (by omega)).trans x1, (q 9 (by omega) (by omega)).trans x2, (q 10 (by omega) (by omega)).trans x3, (q 6 (by omega) (by omega)).trans x4, (q 7 (by omega) (by omega)).trans x5, (q 8 (by omega) (by omega)).trans x6⟩
  · rw [rde, hL]
  · show M4.1 80 1 = _
    rw [a3.at_ rfl]; exact n28 1 (by omega)
  · show M4.1 80 4 = _
    rw [a3.at_ rfl]; exact n28 4 (by omega)
  · rw [rdi (by omega), h79, h25 2 (by omega)]; exact v20
  · rw [rdi (by omega), h79]; exact l25
end WK
