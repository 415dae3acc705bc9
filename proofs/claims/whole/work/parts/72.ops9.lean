theorem cnt_diff {p q : Nat → Bool} : ∀ (n : Nat), (∀ i, i < n → p i = true → q i = true) → cnt (fun i => q i && !p i) n + cnt p n = cnt q n
  | 0, _ => rfl
  | n + 1, h => by
    have ih := cnt_diff (p := p) (q := q) n (fun i hi => h i (by omega))
    have hn := h n (by omega)
    show (cnt (fun i => q i && !p i) n + if (q n && !p n) = true then 1 else 0) + (cnt p n + if p n = true then 1 else 0) = cnt q n + if q n = true then 1 else 0
    cases hp : p n
    · cases hq : q n
      · simp; omega
      · simp; omega
    · rw [hn hp]; simp; omega
section O9
variable {σ : Nat → Int32} {m : Int32} {n : Nat}
theorem p0_mono {sg sg' tk : Nat → Bool} {f : Nat} (h : sg f = true → sg' f = true) (hp : p0 σ m n sg tk f = true) : p0 σ m n sg' tk f = true := by
  unfold p0 at hp ⊢
  simp only [Bool.and_eq_true, Bool.or_eq_true] at hp ⊢
  refine ⟨?_, hp.2⟩
  rcases hp.1 with h1 | h1
  · exact .inl (h h1)
  · exact .inr h1
theorem mb_closed {sg tk : Nat → Bool} {f : Nat} (hf : f < 10) (hw : wav σ m n f = true) (hn : nd σ m n f ≤ nI (cnt (mb σ m n sg tk) 10)) (ht : tk f = false) : mb σ m n sg tk f = true := by
  have := rnds_closed (wav σ m n) (nd σ m n) tk (p0 σ m n sg tk) hf
  unfold mb at hn ⊢
  rw [← this]
  unfold rnd
  rw [hw, decide_eq_true hn, ht]; simp
theorem mb_mono {sg sg' tk : Nat → Bool} (h : ∀ f, f < 10 → sg f = true → mb σ m n sg' tk f = true ∨ sg' f = true) {f : Nat} (hf : f < 10) (hp : mb σ m n sg tk f = true) (htk : ∀ f, tk f = false) : mb σ m n sg' tk f = true := by
  refine rnds_least (w := wav σ m n) (nd := nd σ m n) (tk := tk) (p := p0 σ m n sg tk) (q := mb σ m n sg' tk) (fun g hg h1 => ?_) (fun g hg h1 h2 h3 => mb_closed hg h1 h2 h3) 10 f hf hp
  unfold p0 at h1
  simp only [Bool.and_eq_true, Bool.or_eq_true] at h1
  have hge : ∀ g, p0 σ m n sg' tk g = true → mb σ m n sg' tk g = true := fun g h => rnds_ge h 10
  rcases h1.1 with h2 | h2
  · rcases h g hg h2 with h3 | h3
    · exact h3
    · refine hge g ?_
      unfold p0
      rw [h3, htk]; rfl
  · refine hge g ?_
    unfold p0
    rw [h2, htk]; simp
theorem op_tip : Op_tip Rel := by
  intro n M v0 hn H
  have W := Rel_W hn H
  have hF : nt (M.1 95) 1 ≤ 10 := by have := (nt_inb W.1.2.1).2; omega
  have hE : nt (M.1 95) 2 ≤ 120 := by have := (nt_inb W.1.2.2.1).2; omega
  by_cases c0 : wthn v0 0 (M.1 95 1 - 1) = true
  · obtain ⟨f, hf, rfl⟩ := farm_of W.1.2.1 c0
    obtain ⟨M1, h1, h2⟩ := e_membersIn (M := M) (σ := M.1 95) (m := M.1 95 0) no no H.1.1.1 W.1 W.2.1
    rw [msk_no] at h1
    have F1 : Fr sCs M M1 := h2.mono s13_sCs
    have H1 := RelC H F1
    have e1 : M1.1 95 = M.1 95 := F1.row (fun i => sCs_lo (by omega) i)
    have hR1 := H1.1.1.1
    rw [e1] at hR1
    obtain ⟨M2, g1, g2⟩ := e_membersIn (M := M1) (σ := M.1 95) (m := M.1 95 0) (fun i => decide (i = f)) no hR1 W.1 W.2.1
    rw [msk_no, msk_one (by omega)] at g1
    have F2 : Fr sCs M1 M2 := g2.mono s13_sCs
    have H2 := RelC H1 F2
    have e2 : M2.1 95 = M.1 95 := (F2.row (fun i => sCs_lo (by omega) i)).trans e1
    have hsub : ∀ i, i < 10 → mbN (M.1 95) i = true → mb (M.1 95) (M.1 95 0) (nt (M.1 95) 2) (fun i => decide (i = f)) no i = true := fun i hi h => mb_mono (fun g _ h => by (cases h)) hi h (fun _ => rfl)
    have hcls : f_CF_tip_0 (nI f) M = some (nI (cnt (mb (M.1 95) (M.1 95 0) (nt (M.1 95) 2) (fun i => decide (i = f)) no) 10) - nI (cnt (mbN (M.1 95)) 10), M2) := by
      unfold f_CF_tip_0
      rw [cf_farm H, Option.bind_some, if_pos c0, H.1.2.2.2.2.1, h1, Option.bind_some]
      dsimp only
      have e16 : M1.1 1 6 = M.1 95 0 := by rw [h2.at_ rfl]; exact H.1.2.2.2.2.1
      rw [e16, g1, Option.bind_some]
      dsimp only
      rw [bcnt_msk, bcnt_msk]; rfl
    obtain ⟨M3, k1, k2, k3, k4⟩ := e_lookNow (M := M2) (by rw [e2]; exact W)
    have e3 : M3.1 95 = M.1 95 := (k2.row (fun i => rfl)).trans e2
    rw [e2] at k1 k3 k4
    have hmem := e_Mo_members (M := M3) (p := mbN (M.1 95)) (by rw [e3]; exact W.1) (by rw [e3]; exact k3) (by rw [e3]; exact k4)
    have hmo : f_Mo_tip_94 (nI f) M2 = if mbN (M.1 95) f = true then some (0, M3) else ((f_Mo_looks_94 (M.1 95 0) (-1) (nI f) 0 M3).bind fun q6 => (f_Mo_members_94 q6).bind fun q7 => (f_Mo_count1 (q7 &&& (msk (mbN (M.1 95)) 10 ^^^ (-1)))).bind fun q8 => some (q8, q6)) := by
      unfold f_Mo_tip_94
      rw [mo_farm, Option.bind_some, e2, if_pos c0, k1, Option.bind_some, hmem, Option.bind_some, shr_1 _ (by omega), b_msk_lo _ (by omega), e3]
    have H3 := RelMs H2 (k2.mono sLk_sMs)
    by_cases c1 : mbN (M.1 95) f = true
    · rw [if_pos c1] at hmo
      refine ⟨0, M2, M3, ?_, hmo, Rel_mono H3 (by omega)⟩
      rw [hcls]
      have : cnt (mb (M.1 95) (M.1 95 0) (nt (M.1 95) 2) (fun i => decide (i = f)) no) 10 = cnt (mbN (M.1 95)) 10 := by
        apply cnt_congr
        intro i hi
        rw [Bool.eq_iff_iff]
        refine ⟨fun h => ?_, hsub i hi⟩
        exact mb_mono (sg' := no) (fun g hg h => .inl (by
          have : g = f := of_decide_eq_true h
          rw [this]; exact c1)) hi h (fun _ => rfl)
      rw [this, Int32.sub_self]
    · rw [if_neg c1] at hmo
      obtain ⟨M4, l1, l2, l3⟩ := e_looks (M := M3) (m := M.1 95 0) (e := -1) (sgn := nI f) (sg := fun i => decide (i = f)) (tk := no) (.inl rfl) (by rw [e3]; exact W.1) (by rw [e3]; exact W.2.1) (fun k hk => d_eq (by omega) (by omega)) (fun g h => by
        have : g = f := of_decide_eq_true h
        rw [e3, this]; exact hf)
      rw [msk_no] at l1
      rw [e3] at l3
      have e4 : M4.1 95 = M.1 95 := (l2.row (fun i => rfl)).trans e3
      have hsg : ∀ g, (fun i => decide (i = f)) g = true → g < nt (M.1 95) 1 := fun g h => by
        have : g = f := of_decide_eq_true h
        rw [this]; exact hf
      have hmem2 := e_Mo_members (M := M4) (p := mb (M.1 95) (M.1 95 0) (nt (M.1 95) 2) (fun i => decide (i = f)) no) (by rw [e4]; exact W.1) (by
        rw [e4]
        intro g hg
        unfold pK
        rw [l3 g hg]
        exact kf_mem (Nat.le_refl _) hE hF W.2.1 hsg (by omega) hg) (by
        rw [e4]
        intro g hg hg2
        cases hm : mb (M.1 95) (M.1 95 0) (nt (M.1 95) 2) (fun i => decide (i = f)) no g
        · rfl
        · have := mb_lt (Nat.le_refl _) hE hF W.2.1 hsg hg2 hm
          omega)
      refine ⟨_, M2, M4, hcls, ?_, Rel_mono (RelMs H3 (l2.mono sLk_sMs)) (by omega)⟩
      rw [hmo, l1, Option.bind_some, hmem2, Option.bind_some, msk_andn, e_count1, Option.bind_some]
      have hd := cnt_diff (p := mbN (M.1 95)) (q := mb (M.1 95) (M.1 95 0) (nt (M.1 95) 2) (fun i => decide (i = f)) no) 10 hsub
      have hle := cnt_le (mb (M.1 95) (M.1 95 0) (nt (M.1 95) 2) (fun i => decide (i = f)) no) 10
      rw [nI_subn (by omega) (by omega)]
      refine congrArg (fun x => some (nI x, M4)) ?_
      omega
  · refine ⟨-1, M, M, ?_, ?_, Rel_mono H (by omega)⟩
    · unfold f_CF_tip_0; rw [cf_farm H, Option.bind_some, if_neg c0]
    · unfold f_Mo_tip_94; rw [mo_farm, Option.bind_some, if_neg c0]
end O9
