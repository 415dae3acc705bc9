section O11
theorem ld_h {n : Nat} {M : Mem} (hn : n < 512) (H : Rel n M) {c : Nat} {v : Int32} (hc : c < 48) (hv : inb v 10 = true) : Rel (n + 1) (wI (wI M 3 c v) 95 (20 + c) v) := by
  have W := Rel_W hn H
  obtain ⟨b1, b2, b3, b6⟩ := Rel_b H
  obtain ⟨gB, gL, gI, gR, gP, gT, gK, gO, gN⟩ := RS1_gs H.1
  have eC : ∀ a, (a ≠ 3 ∧ a ≠ 95) → (wI (wI M 3 c v) 95 (20 + c) v).1 a = M.1 a := fun a ha => by
    simp (disch := omega) only [rdk]
  have eσ : ∀ j, (j ≠ 20 + c) → (wI (wI M 3 c v) 95 (20 + c) v).1 95 j = M.1 95 j := fun j hj => by
    simp (disch := omega) only [rdi, rdk]
  refine Rel_same hn H ?_ ?_ ?_ ?_
  · refine RS1_mk ?_ ?_ ?_ ?_ ?_ ?_ ?_ ?_ ?_
    · exact GB_s (fun a h1 h2 => eC a (by omega)) (eσ 1 (by omega)) (eσ 2 (by omega)) (fun j h1 h2 => eσ j (by omega)) b2 gB
    · obtain ⟨⟨x1, x2, x3, x4⟩, y1, y2, y3⟩ := gL
      have w : ((wI (wI M 3 c v) 95 (20 + c) v).1 95) (20 + c) = v := rde
      have wC : (wI (wI M 3 c v) 95 (20 + c) v).1 3 c = v := by simp (disch := omega) only [rde, rdk]
      have wD : ∀ d, d ≠ c → (wI (wI M 3 c v) 95 (20 + c) v).1 3 d = M.1 3 d := fun d hd => by simp (disch := omega) only [rdi, rdk]
      refine ⟨⟨?_, ?_, fun d hd => ?_, fun f hf => ?_⟩, fun d hd => ?_, fun f hf => ?_, fun d hd => ?_⟩
      · rw [eC 2 (by omega), eσ 1 (by omega)]; exact x1
      · rw [eC 2 (by omega), eσ 9 (by omega)]; exact x2
      · by_cases e : d = c
        · subst e
          rw [wC, w, eC 4 (by omega), eσ (68 + d) (by omega)]
          exact ⟨rfl, (x3 d hd).2⟩
        · rw [wD d e, eC 4 (by omega), eσ (20 + d) (by omega), eσ (68 + d) (by omega)]; exact x3 d hd
      · rw [eC 5 (by omega), eC 6 (by omega), eσ _ (by omega), eσ _ (by omega)]; exact x4 f hf
      · by_cases e : d = c
        · subst e
          rw [w, eσ (68 + d) (by omega)]
          exact ⟨hv, (y1 d hd).2⟩
        · rw [eσ (20 + d) (by omega), eσ (68 + d) (by omega)]; exact y1 d hd
      · rw [nt_eq (eσ 1 (by omega))] at hf
        rw [eσ _ (by omega), eσ _ (by omega)]; exact y2 f hf
      · rw [eσ _ (by omega)]; exact y3 d hd
    · exact Rline_s (fun a h1 h2 => eC a (by omega)) (eσ 5 (by omega)) (eσ 7 (by omega)) (eσ 8 (by omega)) (eσ 9 (by omega)) (fun j h1 h2 => eσ j (by omega)) gI
    · exact Rrule_s (by rw [eC 14 (by omega)]) (fun a h1 h2 => eC a (by omega)) (eσ 3 (by omega)) (fun j h1 h2 => eσ j (by omega)) b3 gR
    · exact GP_s (eC 37 (by omega)) (eC 38 (by omega)) (eσ 1 (by omega)) (fun j h1 h2 => eσ j (by omega)) gP
    · exact GT_s (by rw [eC 14 (by omega)]) (eC 15 (by omega)) (eσ 4 (by omega)) (fun j h1 h2 => eσ j (by omega)) gT
    · exact GK_s (by rw [eC 29 (by omega)]) (eC 30 (by omega)) (eC 31 (by omega)) (eσ 6 (by omega)) (fun j h1 h2 => eσ j (by omega)) (fun j h1 h2 => eσ j (by omega)) b6 gK
    · exact GO_s (eC 36 (by omega)) (fun j h1 h2 => eσ j (by omega)) gO
    · exact GN_s (by rw [eC 1 (by omega)]) (fun j h => eσ j (by omega)) gN
  · exact ⟨⟨eσ 2 (by omega), eσ 3 (by omega), eσ 9 (by omega)⟩, fun j h1 h2 => eσ j (by omega), fun r hr => ⟨eσ _ (by omega), eσ _ (by omega), eσ _ (by omega), fun s hs => eσ _ (by omega), fun k hk => ⟨eσ _ (by omega), eσ _ (by omega), eσ _ (by omega)⟩⟩, fun j h => eσ j (by omega)⟩
  · exact eσ 1 (by omega)
  · intro a ha; exact eC a (by omega)
theorem ld_g {n : Nat} {M : Mem} (hn : n < 512) (H : Rel n M) {c : Nat} {v : Int32} (hc : c < 48) (hv : inb v 4 = true) : Rel (n + 1) (wI (wI M 4 c v) 95 (68 + c) v) := by
  have W := Rel_W hn H
  obtain ⟨b1, b2, b3, b6⟩ := Rel_b H
  obtain ⟨gB, gL, gI, gR, gP, gT, gK, gO, gN⟩ := RS1_gs H.1
  have eC : ∀ a, (a ≠ 4 ∧ a ≠ 95) → (wI (wI M 4 c v) 95 (68 + c) v).1 a = M.1 a := fun a ha => by
    simp (disch := omega) only [rdk]
  have eσ : ∀ j, (j ≠ 68 + c) → (wI (wI M 4 c v) 95 (68 + c) v).1 95 j = M.1 95 j := fun j hj => by
    simp (disch := omega) only [rdi, rdk]
  refine Rel_same hn H ?_ ?_ ?_ ?_
  · refine RS1_mk ?_ ?_ ?_ ?_ ?_ ?_ ?_ ?_ ?_
    · exact GB_s (fun a h1 h2 => eC a (by omega)) (eσ 1 (by omega)) (eσ 2 (by omega)) (fun j h1 h2 => eσ j (by omega)) b2 gB
    · obtain ⟨⟨x1, x2, x3, x4⟩, y1, y2, y3⟩ := gL
      have w : ((wI (wI M 4 c v) 95 (68 + c) v).1 95) (68 + c) = v := rde
      have wC : (wI (wI M 4 c v) 95 (68 + c) v).1 4 c = v := by simp (disch := omega) only [rde, rdk]
      have wD : ∀ d, d ≠ c → (wI (wI M 4 c v) 95 (68 + c) v).1 4 d = M.1 4 d := fun d hd => by simp (disch := omega) only [rdi, rdk]
      refine ⟨⟨?_, ?_, fun d hd => ?_, fun f hf => ?_⟩, fun d hd => ?_, fun f hf => ?_, fun d hd => ?_⟩
      · rw [eC 2 (by omega), eσ 1 (by omega)]; exact x1
      · rw [eC 2 (by omega), eσ 9 (by omega)]; exact x2
      · by_cases e : d = c
        · subst e
          rw [wC, w, eC 3 (by omega), eσ (20 + d) (by omega)]
          exact ⟨(x3 d hd).1, rfl⟩
        · rw [wD d e, eC 3 (by omega), eσ (20 + d) (by omega), eσ (68 + d) (by omega)]; exact x3 d hd
      · rw [eC 5 (by omega), eC 6 (by omega), eσ _ (by omega), eσ _ (by omega)]; exact x4 f hf
      · by_cases e : d = c
        · subst e
          rw [w, eσ (20 + d) (by omega)]
          exact ⟨(y1 d hd).1, hv⟩
        · rw [eσ (20 + d) (by omega), eσ (68 + d) (by omega)]; exact y1 d hd
      · rw [nt_eq (eσ 1 (by omega))] at hf
        rw [eσ _ (by omega), eσ _ (by omega)]; exact y2 f hf
      · rw [eσ _ (by omega)]; exact y3 d hd
    · exact Rline_s (fun a h1 h2 => eC a (by omega)) (eσ 5 (by omega)) (eσ 7 (by omega)) (eσ 8 (by omega)) (eσ 9 (by omega)) (fun j h1 h2 => eσ j (by omega)) gI
    · exact Rrule_s (by rw [eC 14 (by omega)]) (fun a h1 h2 => eC a (by omega)) (eσ 3 (by omega)) (fun j h1 h2 => eσ j (by omega)) b3 gR
    · exact GP_s (eC 37 (by omega)) (eC 38 (by omega)) (eσ 1 (by omega)) (fun j h1 h2 => eσ j (by omega)) gP
    · exact GT_s (by rw [eC 14 (by omega)]) (eC 15 (by omega)) (eσ 4 (by omega)) (fun j h1 h2 => eσ j (by omega)) gT
    · exact GK_s (by rw [eC 29 (by omega)]) (eC 30 (by omega)) (eC 31 (by omega)) (eσ 6 (by omega)) (fun j h1 h2 => eσ j (by omega)) (fun j h1 h2 => eσ j (by omega)) b6 gK
    · exact GO_s (eC 36 (by omega)) (fun j h1 h2 => eσ j (by omega)) gO
    · exact GN_s (by rw [eC 1 (by omega)]) (fun j h => eσ j (by omega)) gN
  · exact ⟨⟨eσ 2 (by omega), eσ 3 (by omega), eσ 9 (by omega)⟩, fun j h1 h2 => eσ j (by omega), fun r hr => ⟨eσ _ (by omega), eσ _ (by omega), eσ _ (by omega), fun s hs => eσ _ (by omega), fun k hk => ⟨eσ _ (by omega), eσ _ (by omega), eσ _ (by omega)⟩⟩, fun j h => eσ j (by omega)⟩
  · exact eσ 1 (by omega)
  · intro a ha; exact eC a (by omega)
theorem e_needed {M : Mem} {σ : Nat → Int32} (R : Rc0 M.1 σ) (W : Wm σ) {c : Nat} (hc : c < 48) : f_CF_isNeeded_0 (nI c) M = some (onL σ c || !decide (msk (fun f => decide (f < nt σ 1) && decide (cel σ f = c)) 10 = 0)) := by
  unfold f_CF_isNeeded_0
  rw [e_CF_isOnLine R.2.2.1 R.2.1.2.1 hc, Option.bind_some, e_farmsOn R.2.1 W.1.2.1 W.2.2.1]
  have : msk (fun f => decide (f < nt σ 1) && btL ((1 : Int64) <<< ((nI c).toInt64 &&& 63)) (cel σ f)) 10 = msk (fun f => decide (f < nt σ 1) && decide (cel σ f = c)) 10 := by
    apply msk_congr
    intro f hf
    by_cases h : f < nt σ 1
    · have := (nI_of_inb (W.2.2.1.2.1 f h).1).2
      have lc : cel σ f < 48 := this
      rw [bL_one c (by omega) (by omega)]
    · rw [decide_eq_false h]; rfl
  rw [this]
  cases onL σ c
  · rw [ite_ff, Option.bind_some]
    cases decide (msk (fun f => decide (f < nt σ 1) && decide (cel σ f = c)) 10 = 0) <;> rfl
  · rfl
theorem cnt_z0 {p : Nat → Bool} {n : Nat} : cnt p n = 0 ↔ ∀ i, i < n → p i = false := by
  induction n with
  | zero => exact ⟨fun _ i h => absurd h (by omega), fun _ => rfl⟩
  | succ n ih =>
    rw [show cnt p (n + 1) = cnt p n + (if p n = true then 1 else 0) from rfl]
    constructor
    · intro h i hi
      cases hp : p n with
      | true => rw [hp, if_pos rfl] at h; omega
      | false =>
        rw [hp, if_neg (by decide)] at h
        by_cases d : i = n
        · rw [d]; exact hp
        · exact ih.1 (by omega) i (by omega)
    · intro h
      rw [ih.2 (fun i hi => h i (by omega)), h n (by omega)]; rfl
theorem msk_z (p : Nat → Bool) : decide (msk p 10 = 0) = decide (cnt p 10 = 0) := by
  rw [Bool.eq_iff_iff, decide_eq_true_eq, decide_eq_true_eq, cnt_z0]
  constructor
  · intro h i hi
    rw [← b_msk_lo p hi, h, b_0]
  · intro h
    apply b_ext
    intro i hi
    rw [b_0]
    by_cases c : i < 10
    · rw [b_msk_lo p c]; exact h i c
    · exact b_msk_hi p (by omega) hi
theorem e_Mo_free {M : Mem} (W : Wm (M.1 95)) {c : Nat} (hc : c < 48) (b : Bool) : itr (b_Mo_land_94_67 (nI c) M) FU (b, 0) = some (b && decide (cnt (fun i => decide (i < nt (M.1 95) 1) && decide (cel (M.1 95) i = c)) 10 = 0)) := by
  obtain ⟨e1, l1⟩ := nt_inb W.1.2.1
  obtain ⟨r, h1, h2⟩ := itr_cnt (body := b_Mo_land_94_67 (nI c) M) (s0 := (b, 0)) (fun k s => s.2 = nI k ∧ (s.1 = true ↔ b = true ∧ ∀ i, i < k → cel (M.1 95) i ≠ c)) (fun r => (r = true ↔ b = true ∧ ∀ i, i < nt (M.1 95) 1 → cel (M.1 95) i ≠ c)) (nt (M.1 95) 1) (by omega) ⟨rfl, by simp⟩ (by
    rintro k ⟨x, i⟩ hk ⟨rfl, hx⟩
    left
    dsimp only at hx
    obtain ⟨ec, lc⟩ := nI_of_inb (W.2.2.1.2.1 k hk).1
    have ec : M.1 95 (164 + k) = nI (cel (M.1 95) k) := ec
    have lc : cel (M.1 95) k < 48 := lc
    refine ⟨(x && !decide (cel (M.1 95) k = c), nI (k + 1)), ?_, rfl, ?_⟩
    · unfold b_Mo_land_94_67
      dsimp only
      rw [e1, dlt_t hk (by omega), ite_tt, q164, nI_addn, inb_t (by omega) (by omega), ite_tt, nI_cl (by omega), ec, d_eq (by omega) (by omega), nI_one]
      cases x
      · rfl
      · cases decide (cel (M.1 95) k = c) <;> rfl
    · dsimp only
      rw [Bool.and_eq_true, hx, Bool.not_eq_true', decide_eq_false_iff_not]
      constructor
      · rintro ⟨⟨h1, h2⟩, h3⟩
        refine ⟨h1, fun i hi => ?_⟩
        by_cases d : i = k
        · rw [d]; exact h3
        · exact h2 i (by omega)
      · rintro ⟨h1, h2⟩
        exact ⟨⟨h1, fun i hi => h2 i (by omega)⟩, h2 k (by omega)⟩) (by
    rintro ⟨x, i⟩ ⟨rfl, hx⟩
    refine ⟨x, ?_, hx⟩
    unfold b_Mo_land_94_67
    dsimp only
    rw [e1, dlt_f (Nat.le_refl _) (by omega), ite_ff])
  rw [h1]
  refine congrArg some ?_
  rw [Bool.eq_iff_iff, h2, Bool.and_eq_true, decide_eq_true_eq, cnt_z0]
  constructor
  · rintro ⟨h3, h4⟩
    refine ⟨h3, fun i hi => ?_⟩
    by_cases d : i < nt (M.1 95) 1
    · rw [decide_eq_false (h4 i d), Bool.and_false]
    · rw [decide_eq_false d]; rfl
  · rintro ⟨h3, h4⟩
    refine ⟨h3, fun i hi h => ?_⟩
    have := h4 i (by omega)
    rw [decide_eq_true hi, decide_eq_true h] at this
    exact absurd this (by decide)
theorem op_land : Op_land Rel := by
  intro n M v0 v1 v2 hn H
  have W := Rel_W hn H
  have hno : ∀ x, f_CF_land_0 v0 v1 v2 M = some (x, M) → f_Mo_land_94 v0 v1 v2 M = some (x, M) → ∃ r M1 M2, f_CF_land_0 v0 v1 v2 M = some (r, M1) ∧ f_Mo_land_94 v0 v1 v2 M1 = some (r, M2) ∧ Rel (n + 1) M2 := fun x h1 h2 => ⟨x, M, M, h1, h2, Rel_mono H (by omega)⟩
  by_cases c0 : wthn v0 0 47 = true
  · obtain ⟨c, hc, rfl⟩ := wthn_nI (b := 47) (by omega) c0
    by_cases c1 : wthn v1 0 1 = true
    · by_cases c2 : wthn v2 0 (if decide (v1 = 0) = true then 9 else 3) = true
      · have hcls : f_CF_land_0 (nI c) v1 v2 M = if (decide (v1 = 1) && (decide (v2 = 3) && (onL (M.1 95) c || !decide (cnt (fun i => decide (i < nt (M.1 95) 1) && decide (cel (M.1 95) i = c)) 10 = 0)))) = true then some (-3, M) else (if decide (v1 = 0) = true then some (M.1 95 (20 + c), wI M 3 c v2) else some (M.1 95 (68 + c), wI M 4 c v2)) := by
          unfold f_CF_land_0 jn_ jv_
          dsimp only
          rw [if_pos c0, if_pos c1, if_pos c2, e_needed H.1.1 W (by omega), msk_z, putv_nI (by omega) (by omega), putv_nI (by omega) (by omega), atv_nI (by omega) (by omega), atv_nI (by omega) (by omega), (H.1.1.2.1.2.2.1 c (by omega)).1, (H.1.1.2.1.2.2.1 c (by omega)).2]
          cases decide (v1 = 1)
          · rfl
          · cases decide (v2 = 3)
            · rfl
            · rw [Option.bind_some]; rfl
        have hmo : ∀ X : Mem, X.1 95 = M.1 95 → f_Mo_land_94 (nI c) v1 v2 X = if (decide (v1 = 1) && (decide (v2 = 3) && (onL (M.1 95) c || !decide (cnt (fun i => decide (i < nt (M.1 95) 1) && decide (cel (M.1 95) i = c)) 10 = 0)))) = true then some (-3, X) else (if decide (v1 = 0) = true then some (M.1 95 (20 + c), wI X 95 (20 + c) v2) else some (M.1 95 (68 + c), wI X 95 (68 + c) v2)) := fun X hX => by
          have hfin : (if inb (if decide (v1 = 0) = true then (20 : Int32) + nI c else 68 + nI c) 4700 = true then if inb (if decide (v1 = 0) = true then (20 : Int32) + nI c else 68 + nI c) 4700 = true then some (X.1 95 (if decide (v1 = 0) = true then (20 : Int32) + nI c else 68 + nI c).toNatClampNeg, wI X 95 (if decide (v1 = 0) = true then (20 : Int32) + nI c else 68 + nI c).toNatClampNeg v2) else none else none) = (if decide (v1 = 0) = true then some (M.1 95 (20 + c), wI X 95 (20 + c) v2) else some (M.1 95 (68 + c), wI X 95 (68 + c) v2)) := by
            rw [q20, q68, nI_addn, nI_addn, hX]
            cases decide (v1 = 0)
            · rw [ite_ff, ite_ff, inb_t (by omega) (by omega), ite_tt, ite_tt, nI_cl (by omega)]
            · rw [ite_tt, ite_tt, inb_t (by omega) (by omega), ite_tt, ite_tt, nI_cl (by omega)]
          unfold f_Mo_land_94 jn_ jv_
          dsimp only
          rw [e_Mo_isCell, Option.bind_some, if_pos c0, e_Mo_in, Option.bind_some, if_pos c1, e_Mo_in, Option.bind_some, if_pos c2, hfin, e_Mo_isOnLine (by omega), Option.bind_some, e_Mo_free (by rw [hX]; exact W) (by omega), Option.bind_some, hX]
          cases decide (v1 = 1)
          · rfl
          · cases decide (v2 = 3)
            · rfl
            · cases onL (M.1 95) c
              · cases decide (cnt (fun i => decide (i < nt (M.1 95) 1) && decide (cel (M.1 95) i = c)) 10 = 0) <;> rfl
              · rfl
        by_cases cs : (decide (v1 = 1) && (decide (v2 = 3) && (onL (M.1 95) c || !decide (cnt (fun i => decide (i < nt (M.1 95) 1) && decide (cel (M.1 95) i = c)) 10 = 0)))) = true
        · exact hno (-3) (by rw [hcls, if_pos cs]) (by rw [hmo M rfl, if_pos cs])
        · rw [if_neg cs] at hcls
          by_cases cz : v1 = 0
          · rw [decide_eq_true cz, ite_tt] at hcls c2
            have hv := w_inb (a := 0) (b := 9) (by omega) (by omega) c2
            refine ⟨_, _, _, hcls, ?_, ld_h hn H (c := c) (by omega) hv.1⟩
            rw [hmo (wI M 3 c v2) rfl, if_neg cs, decide_eq_true cz]; rfl
          · rw [decide_eq_false cz, ite_ff] at hcls c2
            have hv := w_inb (a := 0) (b := 3) (by omega) (by omega) c2
            refine ⟨_, _, _, hcls, ?_, ld_g hn H (c := c) (by omega) hv.1⟩
            rw [hmo (wI M 4 c v2) rfl, if_neg cs, decide_eq_false cz]; rfl
      · exact hno (-2) (by unfold f_CF_land_0 jv_; dsimp only; rw [if_pos c0, if_pos c1, if_neg c2]) (by unfold f_Mo_land_94 jv_; dsimp only; rw [e_Mo_isCell, Option.bind_some, if_pos c0, e_Mo_in, Option.bind_some, if_pos c1, e_Mo_in, Option.bind_some, if_neg c2])
    · exact hno (-1) (by unfold f_CF_land_0 jv_; dsimp only; rw [if_pos c0, if_neg c1]) (by unfold f_Mo_land_94 jv_; dsimp only; rw [e_Mo_isCell, Option.bind_some, if_pos c0, e_Mo_in, Option.bind_some, if_neg c1])
  · exact hno (-1) (by unfold f_CF_land_0 jv_; dsimp only; rw [if_neg c0]) (by unfold f_Mo_land_94 jv_; dsimp only; rw [e_Mo_isCell, Option.bind_some, if_neg c0])
end O11
