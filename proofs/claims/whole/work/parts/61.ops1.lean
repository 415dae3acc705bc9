theorem wthn_nI {v : Int32} {b : Nat} (hb : b < 2147483648) (h : wthn v 0 (nI b) = true) : ∃ c, c ≤ b ∧ v = nI c := by
  rw [inb_wthn hb] at h
  obtain ⟨e, l⟩ := nI_of_inb h
  exact ⟨_, by omega, e⟩
theorem farm_of {σ : Nat → Int32} {v : Int32} (n1 : inb (σ 1) 11 = true) (h : wthn v 0 (σ 1 - 1) = true) : ∃ f, f < nt σ 1 ∧ v = nI f := by
  obtain ⟨e1, l1⟩ := nt_inb n1
  rw [e1] at h
  cases hF : nt σ 1 with
  | zero =>
    rw [hF, show nI 0 - 1 = -1 from rfl] at h
    have := wthn_iff.mp h
    rw [i_0, m1_toI] at this; omega
  | succ k =>
    rw [hF, show nI (k + 1) - 1 = nI k from nI_subn (a := k + 1) (b := 1) (by omega) (by omega)] at h
    obtain ⟨c, c1, c2⟩ := wthn_nI (by omega) h
    exact ⟨c, by omega, c2⟩
theorem by_of {σ : Nat → Int32} {v : Int32} (n2 : inb (σ 2) 121 = true) (h : wthn v (-1) (σ 2) = true) : v = -1 ∨ inb v (nt σ 2 + 1) = true := by
  obtain ⟨e2, l2⟩ := nt_inb n2
  rw [e2] at h
  have h1 := wthn_iff.mp h
  rw [m1_toI, nI_toI (by omega)] at h1
  by_cases c : v.toInt = -1
  · exact .inl (Int32.toInt_inj.mp (c.trans m1_toI.symm))
  · exact .inr (inb_iff.mpr ⟨by omega, by omega⟩)
section O1
variable {n : Nat} {M : Mem}
theorem mo_farm (v : Int32) : f_Mo_isFarm_94 v M = some (wthn v 0 (M.1 95 1 - 1)) := by unfold f_Mo_isFarm_94; rw [e_Mo_in]; rfl
theorem mo_by (v : Int32) : f_Mo_isBy_94 v M = some (wthn v (-1) (M.1 95 2)) := by unfold f_Mo_isBy_94; rw [e_Mo_in]; rfl
theorem mo_month (v : Int32) : f_Mo_isMonth v = some (wthn v 0 120) := by unfold f_Mo_isMonth; rw [e_Mo_in]; rfl
theorem mo_gone (v : Int32) : f_Mo_isGone_94 v M = some (wthn v 0 (M.1 95 0)) := by unfold f_Mo_isGone_94; rw [e_Mo_in]; rfl
theorem cf_farm (H : Rel n M) (v : Int32) : f_CF_isFarm_0 v M = some (wthn v 0 (M.1 95 1 - 1)) := by unfold f_CF_isFarm_0; rw [H.1.1.2.1.1]
theorem cf_past (H : Rel n M) (v : Int32) : f_CF_isPast_0 v M = some (wthn v 0 (M.1 95 0)) := by unfold f_CF_isPast_0; rw [H.1.2.2.2.2.1]
theorem cf_before (H : Rel n M) (v : Int32) : f_CF_isBefore_0 v M = some (wthn v (-1) (M.1 95 2)) := by unfold f_CF_isBefore_0; rw [H.1.1.1.1]
theorem Rel_W (hn : n < 512) (H : Rel n M) : Wm (M.1 95) := Rel_Wm (by omega) H.1
theorem Rel_k (H : Rel n M) : ∃ k, k ≤ 1 + 40 * n ∧ M.1 94 21 = nI k ∧ CvU M k ∧ CvA M k := by
  obtain ⟨-, -, -, k, -, k2, k3, k4, k5⟩ := H
  exact ⟨k, k2, k3, k4, k5⟩
theorem RelA {M' : Mem} (hn : n < 512) (H : Rel n M) (F : Fr sMc M M') {k : Nat} (hk : k ≤ 1 + 40 * n) (e : M.1 94 21 = nI k) (U : CvU M' k) (V : CvA M' k) : Rel n M' :=
  RelM H F (fun k' h1 h2 _ _ => by
    rw [e] at h2
    have := (nI_inj (by omega) (by omega)).mp h2
    subst this
    exact ⟨U, V⟩)
theorem op_count : Op_count Rel := by
  intro n M v hn H
  have h : f_CF_count_0 v M = f_Mo_count_94 v M := by
    unfold f_CF_count_0 f_Mo_count_94
    rw [H.1.1.2.1.1, H.1.1.1.1, H.1.1.2.2.2.1.1, H.1.2.2.2.2.1, H.1.2.1.1, H.1.1.2.2.1.1, H.1.2.2.1.1, H.1.1.2.2.1.2.1, H.1.1.2.2.1.2.2.1, H.1.1.2.1.2.1]
  have h2 : ∃ r, f_Mo_count_94 v M = some r := by
    unfold f_Mo_count_94
    repeat' split
    all_goals exact ⟨_, rfl⟩
  obtain ⟨r, hr⟩ := h2
  exact ⟨r, h.trans hr, hr, Rel_mono H (by omega)⟩
/-- KIND, OWING too -/
def kO (σ : Nat → Int32) (f m : Nat) (e : Int32) : Int32 := if km σ (nI m) (kn σ e) f = 3 then (if (arS σ f (m + 1)).toInt32 ≤ 0 then 3 else 4) else km σ (nI m) (kn σ e) f
theorem e_kindOf {k f m : Nat} {e : Int32} (hf : f < nt (M.1 95) 1) (hm : m < 121) (he : e = -1 ∨ inb e (nt (M.1 95) 2 + 1) = true) (W : Wm (M.1 95)) (S : stK M k) (U : CvU M k) (A : CvA M k) : ∃ M', f_Mo_kindOf_94 (nI f) (nI m) e M = some (kO (M.1 95) f m e, M') ∧ Fr sAr M M' ∧ CvU M' k ∧ CvA M' k := by
  have hF10 : f < 10 := by have := (nt_inb W.1.2.1).2; omega
  obtain ⟨M1, h1, h2, h3⟩ := e_looks (M := M) (m := nI m) (e := e) (sgn := -1) (sg := no) (tk := no) he W.1 W.2.1 (fun k hk => nI_eqm1 (by omega)) (fun f h => by (cases h))
  rw [msk_no] at h1
  have F1 : Fr sNm M M1 := h2.mono sLk_sNm
  have e1 : M1.1 95 = M.1 95 := h2.row (fun i => rfl)
  have hk := h3 f hf
  unfold f_Mo_kindOf_94 kO km
  rw [h1, Option.bind_some, inb_t hF10 (by omega), ite_tt, nI_cl (by omega), hk]
  by_cases c : kf (M.1 95) (nI m) (kn (M.1 95) e) no no f = 3
  · rw [decide_eq_true c, ite_tt, if_pos c]
    obtain ⟨M2, g1, g2, g3, g4⟩ := e_Mo_arrears (M := M1) (m := m) (k := k) (by rw [e1]; exact hf) hm (by rw [e1]; exact W) ⟨by rw [h2.at_ rfl]; exact S.1, S.2⟩ (U.fr F1) (A.fr F1)
    rw [e1] at g1
    refine ⟨M2, ?_, (F1.mono sNm_sAr).trans g2, g3, g4⟩
    rw [g1, Option.bind_some, c]
    dsimp only
    by_cases d : (arS (M.1 95) f (m + 1)).toInt32 ≤ 0
    · rw [decide_eq_true d, if_pos d]; rfl
    · rw [decide_eq_false d, if_neg d]; rfl
  · rw [decide_eq_false c, ite_ff, if_neg c]
    exact ⟨M1, rfl, F1.mono sNm_sAr, U.fr F1, A.fr F1⟩
theorem e_owing {σ : Nat → Int32} {f m : Nat} {x : Int32} (W : Wm σ) (R : Rc0 M.1 σ) (hf : f < nt σ 1) (hm : m < 121) : ∃ M', f_CF_owing_0 (nI f) (nI m) x M = some (if x = 3 then (if (arS σ f (m + 1)).toInt32 ≤ 0 then 3 else 4) else x, M') ∧ Fr sAc M M' := by
  unfold f_CF_owing_0
  by_cases c : x = 3
  · obtain ⟨M1, h1, h2, h3, -⟩ := e_walk W R hf (k := m + 1) (by omega) (nI m) (mon_le' hm)
    rw [decide_eq_true c, ite_tt, if_pos c, h1, Option.bind_some, h3.2.1]
    refine ⟨M1, ?_, h2⟩
    by_cases d : (arS σ f (m + 1)).toInt32 ≤ 0
    · rw [decide_eq_true d, if_pos d]; rfl
    · rw [decide_eq_false d, if_neg d]; rfl
  · rw [decide_eq_false c, ite_ff, if_neg c]
    exact ⟨M, rfl, Fr.refl M⟩
theorem op_as : Op_as Rel := by
  intro n M v0 v1 v2 hn H
  have W := Rel_W hn H
  have hno : ∀ x, f_CF_as_0 v0 v1 v2 M = some (x, M) → f_Mo_as_94 v0 v1 v2 M = some (x, M) → ∃ r M1 M2, f_CF_as_0 v0 v1 v2 M = some (r, M1) ∧ f_Mo_as_94 v0 v1 v2 M1 = some (r, M2) ∧ Rel (n + 1) M2 := fun x h1 h2 => ⟨x, M, M, h1, h2, Rel_mono H (by omega)⟩
  by_cases c0 : wthn v0 0 (M.1 95 1 - 1) = true
  · by_cases c2 : wthn v2 (-1) (M.1 95 2) = true
    · by_cases c1 : wthn v1 0 120 = true
      · obtain ⟨f, hf, rfl⟩ := farm_of W.1.2.1 c0
        have he := by_of W.1.2.2.1 c2
        obtain ⟨m, hm, rfl⟩ := wthn_nI (b := 120) (by omega) c1
        have hF10 : f < 10 := by have := (nt_inb W.1.2.1).2; omega
        obtain ⟨M1, k1, k2⟩ := e_kindIn (M := M) (m := nI m) (f := f) (e := v2) hF10 he H.1.1.1 W.1 W.2.1
        have F1 : Fr sAc M M1 := k2.mono s13_sAc
        obtain ⟨M2, g1, g2⟩ := e_owing (M := M1) (x := km (M.1 95) (nI m) (kn (M.1 95) v2) f) W (H.1.1.fr F1) hf (show m < 121 by omega)
        have F2 : Fr sCs M M2 := (F1.trans g2).mono sAc_sCs
        have H2 := RelC H F2
        have e2 : M2.1 95 = M.1 95 := F2.row (fun i => sCs_lo (by omega) i)
        obtain ⟨k, q1, q2, q3, q4⟩ := Rel_k H2
        obtain ⟨M3, l1, l2, l3, l4⟩ := e_kindOf (M := M2) (k := k) (f := f) (m := m) (e := v2) (by rw [e2]; exact hf) (by omega) (by rw [e2]; exact he) (by rw [e2]; exact W) ⟨q2, by omega⟩ q3 q4
        rw [e2] at l1
        refine ⟨kO (M.1 95) f m v2, M2, M3, ?_, ?_, Rel_mono (RelA hn H2 (l2.mono sAr_sMc) q1 q2 l3 l4) (by omega)⟩
        · unfold f_CF_as_0
          rw [cf_farm H, Option.bind_some, if_pos c0, cf_before H, Option.bind_some, if_pos c2, if_pos c1, k1, Option.bind_some]
          dsimp only
          rw [g1, Option.bind_some]
          rfl
        · unfold f_Mo_as_94
          rw [mo_farm, Option.bind_some, e2, if_pos c0, mo_by, Option.bind_some, e2, if_pos c2, mo_month, Option.bind_some, if_pos c1, l1, Option.bind_some]
      · exact hno (-2) (by unfold f_CF_as_0; rw [cf_farm H, Option.bind_some, if_pos c0, cf_before H, Option.bind_some, if_pos c2, if_neg c1]) (by unfold f_Mo_as_94; rw [mo_farm, Option.bind_some, if_pos c0, mo_by, Option.bind_some, if_pos c2, mo_month, Option.bind_some, if_neg c1])
    · exact hno (-1) (by unfold f_CF_as_0; rw [cf_farm H, Option.bind_some, if_pos c0, cf_before H, Option.bind_some, if_neg c2]) (by unfold f_Mo_as_94; rw [mo_farm, Option.bind_some, if_pos c0, mo_by, Option.bind_some, if_neg c2])
  · exact hno (-1) (by unfold f_CF_as_0; rw [cf_farm H, Option.bind_some, if_neg c0]) (by unfold f_Mo_as_94; rw [mo_farm, Option.bind_some, if_neg c0])
theorem op_units : Op_units Rel := by
  intro n M v0 v1 hn H
  have W := Rel_W hn H
  have hno : ∀ x, f_CF_units_0 v0 v1 M = some (x, M) → f_Mo_units_94 v0 v1 M = some (x, M) → ∃ r M1 M2, f_CF_units_0 v0 v1 M = some (r, M1) ∧ f_Mo_units_94 v0 v1 M1 = some (r, M2) ∧ Rel (n + 1) M2 := fun x h1 h2 => ⟨x, M, M, h1, h2, Rel_mono H (by omega)⟩
  by_cases c0 : wthn v0 0 (M.1 95 1 - 1) = true
  · by_cases c1 : wthn v1 0 (M.1 95 0) = true
    · obtain ⟨f, hf, rfl⟩ := farm_of W.1.2.1 c0
      obtain ⟨e0, l0⟩ := nt_inb W.1.1
      have c1' := c1
      rw [e0] at c1'
      obtain ⟨m, hm, rfl⟩ := wthn_nI (by omega) c1'
      obtain ⟨M1, h1, h2, h3, -, h5⟩ := e_walk W H.1.1 hf (k := m + 1) (by omega) (nI m) (mon_le' (by omega))
      have F1 : Fr sCs M M1 := h2.mono sAc_sCs
      have H2 := RelC H F1
      have e2 : M1.1 95 = M.1 95 := F1.row (fun i => sCs_lo (by omega) i)
      obtain ⟨k, q1, q2, q3, q4⟩ := Rel_k H2
      obtain ⟨M3, g1, g2, g3, -, -⟩ := e_unitsIn (M := M1) (k := k) (f := f) (m := m) (by rw [e2]; exact hf) (by omega) (by rw [e2]; exact W) ⟨q2, by omega⟩ q3
      rw [e2] at g1
      refine ⟨unS (M.1 95) f m, M1, M3, ?_, ?_, Rel_mono (RelA hn H2 (g2.mono (fun a i h => sAr_sMc a i (by unfold sAr; rw [sU_sB a i h]; rfl))) q1 q2 g3 ?_) (by omega)⟩
      · unfold f_CF_units_0
        rw [cf_farm H, Option.bind_some, if_pos c0, cf_past H, Option.bind_some, if_pos c1, h1, Option.bind_some, (h5 m rfl).1]
      · unfold f_Mo_units_94
        rw [mo_farm, Option.bind_some, e2, if_pos c0, mo_gone, Option.bind_some, e2, if_pos c1, g1]; rfl
      · unfold CvA
        rw [g2.row (a := 95) (fun i => rfl), g2.row (a := 111) (fun i => rfl), g2.row (a := 110) (fun i => rfl)]; exact q4
    · exact hno (-1) (by unfold f_CF_units_0; rw [cf_farm H, Option.bind_some, if_pos c0, cf_past H, Option.bind_some, if_neg c1]) (by unfold f_Mo_units_94; rw [mo_farm, Option.bind_some, if_pos c0, mo_gone, Option.bind_some, if_neg c1])
  · exact hno (-1) (by unfold f_CF_units_0; rw [cf_farm H, Option.bind_some, if_neg c0]) (by unfold f_Mo_units_94; rw [mo_farm, Option.bind_some, if_neg c0])
theorem op_owe : Op_owe Rel := by
  intro n M v0 v1 hn H
  have W := Rel_W hn H
  have hno : ∀ x, f_CF_owe_0 v0 v1 M = some (x, M) → f_Mo_owe_94 v0 v1 M = some (x, M) → ∃ r M1 M2, f_CF_owe_0 v0 v1 M = some (r, M1) ∧ f_Mo_owe_94 v0 v1 M1 = some (r, M2) ∧ Rel (n + 1) M2 := fun x h1 h2 => ⟨x, M, M, h1, h2, Rel_mono H (by omega)⟩
  by_cases c0 : wthn v0 0 (M.1 95 1 - 1) = true
  · by_cases c1 : wthn v1 0 (M.1 95 0) = true
    · obtain ⟨f, hf, rfl⟩ := farm_of W.1.2.1 c0
      obtain ⟨e0, l0⟩ := nt_inb W.1.1
      have c1' := c1
      rw [e0] at c1'
      obtain ⟨m, hm, rfl⟩ := wthn_nI (by omega) c1'
      obtain ⟨M1, h1, h2, h3, -, h5⟩ := e_walk W H.1.1 hf (k := m + 1) (by omega) (nI m) (mon_le' (by omega))
      have F1 : Fr sCs M M1 := h2.mono sAc_sCs
      have H2 := RelC H F1
      have e2 : M1.1 95 = M.1 95 := F1.row (fun i => sCs_lo (by omega) i)
      obtain ⟨k, q1, q2, q3, q4⟩ := Rel_k H2
      obtain ⟨M3, g1, g2, g3, g4⟩ := e_Mo_arrears (M := M1) (k := k) (f := f) (m := m) (by rw [e2]; exact hf) (by omega) (by rw [e2]; exact W) ⟨q2, by omega⟩ q3 q4
      rw [e2] at g1
      refine ⟨(arS (M.1 95) f (m + 1)).toInt32, M1, M3, ?_, ?_, Rel_mono (RelA hn H2 (g2.mono sAr_sMc) q1 q2 g3 g4) (by omega)⟩
      · unfold f_CF_owe_0
        rw [cf_farm H, Option.bind_some, if_pos c0, cf_past H, Option.bind_some, if_pos c1, h1, Option.bind_some, h3.2.1]
      · unfold f_Mo_owe_94
        rw [mo_farm, Option.bind_some, e2, if_pos c0, mo_gone, Option.bind_some, e2, if_pos c1, g1]; rfl
    · exact hno (-1) (by unfold f_CF_owe_0; rw [cf_farm H, Option.bind_some, if_pos c0, cf_past H, Option.bind_some, if_neg c1]) (by unfold f_Mo_owe_94; rw [mo_farm, Option.bind_some, if_pos c0, mo_gone, Option.bind_some, if_neg c1])
  · exact hno (-1) (by unfold f_CF_owe_0; rw [cf_farm H, Option.bind_some, if_neg c0]) (by unfold f_Mo_owe_94; rw [mo_farm, Option.bind_some, if_neg c0])
/-- the model's bill -/
theorem e_billIn {k f m : Nat} (hf : f < nt (M.1 95) 1) (hm : m < 121) (W : Wm (M.1 95)) (S : stK M k) (U : CvU M k) (A : CvA M k) : ∃ M', f_Mo_billIn_94 (nI f) (nI m) M = some (blS (M.1 95) f m (arS (M.1 95) f m).toInt32, M') ∧ Fr sAr M M' ∧ CvU M' k ∧ CvA M' k := by
  have hpre : ∃ M1, f_Mo_billIn_94 (nI f) (nI m) M = ((f_Mo_billOf_94 (nI f) (nI m) (arS (M.1 95) f m).toInt32 M1).bind fun q5 => some (q5.1, q5.2)) ∧ Fr sAr M M1 ∧ CvU M1 k ∧ CvA M1 k := by
    unfold f_Mo_billIn_94 jn_
    dsimp only
    cases m with
    | zero => exact ⟨M, rfl, Fr.refl M, U, A⟩
    | succ m =>
      obtain ⟨M', h1, h2, h3, h4⟩ := e_Mo_arrears (m := m) hf (by omega) W S U A
      refine ⟨M', ?_, h2, h3, h4⟩
      rw [nI_eq0 (by omega) (by omega), ite_ff, show nI (m + 1) - 1 = nI m from nI_subn (a := m + 1) (b := 1) (by omega) (by omega), h1]; rfl
  obtain ⟨M1, h1, h2, h3, h4⟩ := hpre
  have e1 : M1.1 95 = M.1 95 := h2.row (fun i => rfl)
  obtain ⟨M2, g1, g2, g3⟩ := e_billOf (M := M1) (m := m) (k := k) (o := (arS (M.1 95) f m).toInt32) (by rw [e1]; exact hf) hm (by rw [e1]; exact W) ⟨by rw [h2.at_ rfl]; exact S.1, S.2⟩ h3
  rw [e1] at g1
  refine ⟨M2, by rw [h1, g1]; rfl, h2.trans (g2.mono (fun a i h => by unfold sAr; rw [h]; rfl)), g3, ?_⟩
  unfold CvA
  rw [g2.row (a := 95) (fun i => rfl), g2.row (a := 111) (fun i => rfl), g2.row (a := 110) (fun i => rfl)]; exact h4
theorem op_bill : Op_bill Rel := by
  intro n M v0 v1 hn H
  have W := Rel_W hn H
  have hno : ∀ x, f_CF_bill_0 v0 v1 M = some (x, M) → f_Mo_bill_94 v0 v1 M = some (x, M) → ∃ r M1 M2, f_CF_bill_0 v0 v1 M = some (r, M1) ∧ f_Mo_bill_94 v0 v1 M1 = some (r, M2) ∧ Rel (n + 1) M2 := fun x h1 h2 => ⟨x, M, M, h1, h2, Rel_mono H (by omega)⟩
  by_cases c0 : wthn v0 0 (M.1 95 1 - 1) = true
  · by_cases c1 : wthn v1 0 (M.1 95 0) = true
    · obtain ⟨f, hf, rfl⟩ := farm_of W.1.2.1 c0
      obtain ⟨e0, l0⟩ := nt_inb W.1.1
      have c1' := c1
      rw [e0] at c1'
      obtain ⟨m, hm, rfl⟩ := wthn_nI (by omega) c1'
      obtain ⟨M1, h1, h2, h3, -, h5⟩ := e_walk W H.1.1 hf (k := m + 1) (by omega) (nI m) (mon_le' (by omega))
      have F1 : Fr sCs M M1 := h2.mono sAc_sCs
      have H2 := RelC H F1
      have e2 : M1.1 95 = M.1 95 := F1.row (fun i => sCs_lo (by omega) i)
      obtain ⟨k, q1, q2, q3, q4⟩ := Rel_k H2
      obtain ⟨M3, g1, g2, g3, g4⟩ := e_billIn (M := M1) (k := k) (f := f) (m := m) (by rw [e2]; exact hf) (by omega) (by rw [e2]; exact W) ⟨q2, by omega⟩ q3 q4
      rw [e2] at g1
      refine ⟨blS (M.1 95) f m (arS (M.1 95) f m).toInt32, M1, M3, ?_, ?_, Rel_mono (RelA hn H2 (g2.mono sAr_sMc) q1 q2 g3 g4) (by omega)⟩
      · unfold f_CF_bill_0
        rw [cf_farm H, Option.bind_some, if_pos c0, cf_past H, Option.bind_some, if_pos c1, h1, Option.bind_some, (h5 m rfl).2]
      · unfold f_Mo_bill_94
        rw [mo_farm, Option.bind_some, e2, if_pos c0, mo_gone, Option.bind_some, e2, if_pos c1, g1]; rfl
    · exact hno (-1) (by unfold f_CF_bill_0; rw [cf_farm H, Option.bind_some, if_pos c0, cf_past H, Option.bind_some, if_neg c1]) (by unfold f_Mo_bill_94; rw [mo_farm, Option.bind_some, if_pos c0, mo_gone, Option.bind_some, if_neg c1])
  · exact hno (-1) (by unfold f_CF_bill_0; rw [cf_farm H, Option.bind_some, if_neg c0]) (by unfold f_Mo_bill_94; rw [mo_farm, Option.bind_some, if_neg c0])
end O1
