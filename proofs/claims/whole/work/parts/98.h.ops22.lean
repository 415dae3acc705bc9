section
section OS
theorem op_spite : Op_spite Rel := by
  intro n M v0 v1 v2 hn H
  have W := Rel_W hn H
  obtain ⟨gB, gL, gI, gR, gP, gT', gK, gO, gN⟩ := RS1_gs H.1
  have h9 := W.1.2.2.2.2.2.2.2.2.2
  have h5 := W.1.2.2.2.2.2.1
  obtain ⟨e1', l1⟩ := nt_inb W.1.2.1
  have hF : nt (M.1 95) 1 ≤ 10 := by omega
  have hE : nt (M.1 95) 2 ≤ 120 := by have := (nt_inb W.1.2.2.1).2; omega
  obtain ⟨e0, l0⟩ := nt_inb W.1.1
  have l5 := (nt_inb h5).2
  have hcell : ∀ v : Int32, wthn v 0 47 = true → ∃ c, c < 48 ∧ v = nI c := fun v h => by
    rw [show (47 : Int32) = nI 47 from rfl, inb_wthn (by omega)] at h
    exact ⟨_, (nI_of_inb h).2, (nI_of_inb h).1⟩
  by_cases c0 : wthn v0 0 47 = true
  rotate_left
  · refine ⟨-1, M, M, ?_, ?_, Rel_mono H (by omega)⟩
    · unfold f_CF_spite_0; rw [if_neg c0]
    · unfold f_Mo_spite_94; rw [e_Mo_isCell, Option.bind_some, if_neg c0]
  by_cases c1 : wthn v1 0 47 = true
  rotate_left
  · refine ⟨-1, M, M, ?_, ?_, Rel_mono H (by omega)⟩
    · unfold f_CF_spite_0; rw [if_pos c0, if_neg c1]
    · unfold f_Mo_spite_94; rw [e_Mo_isCell, Option.bind_some, if_pos c0, e_Mo_isCell, Option.bind_some, if_neg c1]
  by_cases c2 : wthn v2 0 1 = true
  rotate_left
  · refine ⟨-1, M, M, ?_, ?_, Rel_mono H (by omega)⟩
    · unfold f_CF_spite_0; rw [if_pos c0, if_pos c1, if_neg c2]
    · unfold f_Mo_spite_94; rw [e_Mo_isCell, Option.bind_some, if_pos c0, e_Mo_isCell, Option.bind_some, if_pos c1, e_Mo_in, Option.bind_some, if_neg c2]
  obtain ⟨a, la, rfl⟩ := hcell v0 c0
  obtain ⟨b, lb, rfl⟩ := hcell v1 c1
  have hCb : f_CF_spite_0 (nI a) (nI b) v2 M = if onL (M.1 95) a then (if onL (M.1 95) b then ((f_Line_between_24 (nI a) (nI b) M).bind fun q8 => (f_Land_farmsOn_2 q8.1 q8.2).bind fun q9 => (f_Book_decidedBy_7 4 (q8.2.1 1 6) q8.2).bind fun q10 => (itr (b_CF_spite_0_99 q9 q10) FU (0, 0, q10.2)).bind fun q16 => if decide (v2 = 0) then (some (bcnt q16.1, q16.2)) else ((f_Book_membersIn_7 (q16.2.1 1 6) 0 q16.1 q16.2).bind fun q18 => (f_CF_isEnough_0 q18.1 q18.2).bind fun q19 => jv_ ((!q19.1) : Bool) fun u22 => some (bI u22, q19.2))) else (some ((-3), M))) else (some ((-3), M)) := by
    unfold f_CF_spite_0
    rw [if_pos c0, if_pos c1, if_pos c2, e_CF_isOnLine gI gL.1.2.1 la, Option.bind_some, e_CF_isOnLine gI gL.1.2.1 lb, Option.bind_some]
  have hMb : ∀ X : Mem, X.1 95 = M.1 95 → f_Mo_spite_94 (nI a) (nI b) v2 X = if onL (M.1 95) a then (if onL (M.1 95) b then ((itr (b_Mo_spite_94_50 (nI a) (nI b)) FU (0, 0, X)).bind fun q29 => if decide (v2 = 0) then ((f_Mo_count1 q29.1).bind fun q31 => some (q31, q29.2)) else ((f_Mo_looks_94 (q29.2.1 95 0) (-1) (-1) q29.1 q29.2).bind fun q32 => (f_Mo_isEnough_94 q32).bind fun q33 => if q33.1 then (some (0, q33.2)) else (some (1, q33.2)))) else (some ((-3), X))) else (some ((-3), X)) := by
    intro X e
    unfold f_Mo_spite_94
    rw [e_Mo_isCell, Option.bind_some, if_pos c0, e_Mo_isCell, Option.bind_some, if_pos c1, e_Mo_in, Option.bind_some, if_pos c2, e_Mo_isOnLine la, Option.bind_some, e, e_Mo_isOnLine lb, Option.bind_some, e]
  by_cases oa : onL (M.1 95) a = true
  rotate_left
  · refine ⟨-3, M, M, by rw [hCb, if_neg oa], by rw [hMb M rfl, if_neg oa], Rel_mono H (by omega)⟩
  by_cases ob : onL (M.1 95) b = true
  rotate_left
  · refine ⟨-3, M, M, by rw [hCb, if_pos oa, if_neg ob], by rw [hMb M rfl, if_pos oa, if_neg ob], Rel_mono H (by omega)⟩
  rw [if_pos oa, if_pos ob] at hCb
  obtain ⟨pa, ma⟩ := path_mil' gI.2.2.2.2 h9 h5 la oa
  obtain ⟨pb, mb'⟩ := path_mil' gI.2.2.2.2 h9 h5 lb ob
  have sa : M.1 95 (116 + anc (M.1 95) a (mil (M.1 95) a)) = -1 := hs_off gI.2.2.2.2 pa.2.2 pa.2.1
  have sb : M.1 95 (116 + anc (M.1 95) b (mil (M.1 95) b)) = -1 := hs_off gI.2.2.2.2 pb.2.2 pb.2.1
  obtain ⟨x, M1, x1, x2, x3⟩ := e_between gI h9 h5 la lb oa ob
  have F1 : Fr sCs M M1 := x2.mono (fun a i h => by unfold s27 at h; rw [beq_iff_eq] at h; subst h; rfl)
  have H1 := RelC H F1
  have eM1 : M1.1 95 = M.1 95 := F1.row (fun i => sCs_lo (by omega) i)
  have hR1 := H1.1.1
  rw [eM1] at hR1
  have e16 : M1.1 1 6 = M.1 95 0 := by rw [x2.at_ rfl]; exact H.1.2.2.2.2.1
  obtain ⟨M2, d1, d2⟩ := e_decidedBy (M := M1) (σ := M.1 95) (m := M.1 95 0) 4 hR1.1 W.1 W.2.1
  have F2 : Fr sCs M1 M2 := d2.mono s13_sCs
  have H2 := RelC H1 F2
  have eM2 : M2.1 95 = M.1 95 := (F2.row (fun i => sCs_lo (by omega) i)).trans eM1
  have e16' : M2.1 1 6 = M.1 95 0 := by rw [d2.at_ rfl]; exact e16
  -- what is along
  generalize hal : (fun f => (decide (f < nt (M.1 95) 1) && btw (M.1 95) a (mil (M.1 95) a) b (mil (M.1 95) b) (cel (M.1 95) f)) && !decide (wh (M.1 95) (M.1 95 0) (nt (M.1 95) 2) f = 4)) = al
  have halong : msk (fun f => decide (f < nt (M.1 95) 1) && btL x (cel (M.1 95) f)) 10 &&& (msk (fun f => decide (wh (M.1 95) (M.1 95 0) (nt (M.1 95) 2) f = 4)) 10 ^^^ (-1)) = msk al 10 := by
    rw [msk_andn]
    apply msk_congr
    intro f hf
    rw [← hal]
    dsimp only
    by_cases g : f < nt (M.1 95) 1
    · have hx : btL x (cel (M.1 95) f) = _ := x3 (cel (M.1 95) f) (nI_of_inb (gL.2.2.1 f g).1).2
      rw [hx]
    · rw [decide_eq_false g]; rfl
  generalize htk : (fun f => al f && decide (rlS (M.1 95) 5 f (nt (M.1 95) 0) 0 = 0)) = tk
  have htkF : ∀ f, nt (M.1 95) 1 ≤ f → f < 10 → tk f = false := fun f h1 h2 => by
    rw [← htk, ← hal]
    dsimp only
    rw [decide_eq_false (show ¬ f < nt (M.1 95) 1 by omega), Bool.false_and, Bool.false_and, Bool.false_and]
  have hmore : msk tk (nt (M.1 95) 1) = msk tk 10 := by
    have := msk_more (p := tk) (n := nt (M.1 95) 1) (10 - nt (M.1 95) 1) (fun i g1 g2 => htkF i g1 (by omega))
    rw [show nt (M.1 95) 1 + (10 - nt (M.1 95) 1) = 10 by omega] at this
    exact this.symm
  -- class's loop
  obtain ⟨e, r1, r2⟩ := itr_cnt (body := b_CF_spite_0_99 (msk (fun f => decide (f < nt (M.1 95) 1) && btL x (cel (M.1 95) f)) 10) (msk (fun f => decide (wh (M.1 95) (M.1 95 0) (nt (M.1 95) 2) f = 4)) 10, M2)) (s0 := ((0 : Int32), (0 : Int32), M2)) (fun k z => z.1 = msk tk k ∧ z.2.1 = nI k ∧ Fr sAc M2 z.2.2) (fun e => e.1 = msk tk 10 ∧ Fr sAc M2 e.2) (nt (M.1 95) 1) (by omega) ⟨rfl, rfl, Fr.refl _⟩ (by
    rintro k ⟨y, z, X⟩ hk ⟨hy, hz, hG⟩
    dsimp only at hy hz hG
    rw [hy, hz]
    left
    have HX := RelC H2 (hG.mono sAc_sCs)
    have eX : X.1 95 = M.1 95 := ((hG.mono sAc_sCs).row (fun i => sCs_lo (by omega) i)).trans eM2
    have RX := HX.1.1
    rw [eX] at RX
    have e2X : X.1 2 4 = nI (nt (M.1 95) 1) := by rw [RX.2.1.1]; exact e1'
    have e16X : X.1 1 6 = nI (nt (M.1 95) 0) := by rw [HX.1.2.2.2.2.1, eX]; exact e0
    obtain ⟨Y, y1, y2, -⟩ := e_ruled (M := X) (σ := M.1 95) (f := k) (m := nt (M.1 95) 0) (w := 5) (u := 0) W RX hk l0
    cases ca : al k
    · refine ⟨(msk tk (k + 1), nI (k + 1), X), ?_, rfl, rfl, hG⟩
      unfold b_CF_spite_0_99
      dsimp only
      rw [e2X, dlt_t hk (by omega), ite_tt, halong, hld_msk _ (by omega), ca, ite_ff, nI_one, msk_s, if_neg (show ¬ tk k = true by rw [← htk]; dsimp only; rw [ca, Bool.false_and]; decide)]
    · refine ⟨(msk tk (k + 1), nI (k + 1), Y), ?_, rfl, rfl, hG.trans y2⟩
      have htv : tk k = decide (rlS (M.1 95) 5 k (nt (M.1 95) 0) 0 = 0) := by rw [← htk]; dsimp only; rw [ca, Bool.true_and]
      unfold b_CF_spite_0_99
      dsimp only
      rw [e2X, dlt_t hk (by omega), ite_tt, halong, hld_msk _ (by omega), ca, ite_tt, e16X, y1, Option.bind_some, nI_one, msk_s, htv]
      dsimp only
      cases decide (rlS (M.1 95) 5 k (nt (M.1 95) 0) 0 = 0) <;> rfl) (by
    rintro ⟨y, z, X⟩ ⟨hy, hz, hG⟩
    dsimp only at hy hz hG
    rw [hy, hz]
    have e2X : X.1 2 4 = nI (nt (M.1 95) 1) := by
      rw [hG.row (a := 2) (fun i => by rfl), d2.row (a := 2) (fun _ => rfl), hR1.2.1.1]; exact e1'
    refine ⟨(msk tk (nt (M.1 95) 1), X), ?_, hmore, hG⟩
    unfold b_CF_spite_0_99
    dsimp only
    rw [e2X, dlt_f (Nat.le_refl _) (by omega), ite_ff])
  obtain ⟨t, M3⟩ := e
  obtain ⟨rfl, r2⟩ : t = msk tk 10 ∧ Fr sAc M2 M3 := r2
  have H3 := RelC H2 (r2.mono sAc_sCs)
  have eM3 : M3.1 95 = M.1 95 := ((r2.mono sAc_sCs).row (fun i => sCs_lo (by omega) i)).trans eM2
  have R3 := H3.1.1
  rw [eM3] at R3
  have e16'' : M3.1 1 6 = M.1 95 0 := by rw [H3.1.2.2.2.2.1, eM3]
  have hC1 : f_CF_spite_0 (nI a) (nI b) v2 M = if decide (v2 = 0) then (some (bcnt (msk tk 10), M3)) else ((f_Book_membersIn_7 (M.1 95 0) 0 (msk tk 10) M3).bind fun q18 => (f_CF_isEnough_0 q18.1 q18.2).bind fun q19 => jv_ ((!q19.1) : Bool) fun u22 => some (bI u22, q19.2)) := by
    rw [hCb, x1, Option.bind_some]
    dsimp only
    rw [e_farmsOn hR1.2.1 W.1.2.1 gL.2, Option.bind_some, e16, d1, Option.bind_some]
    dsimp only
    rw [r1, Option.bind_some]
    dsimp only
    rw [e16'']
  -- the model's loop
  have hMo : ∀ X : Mem, Rel n X → X.1 95 = M.1 95 → ∃ Y, itr (b_Mo_spite_94_50 (nI a) (nI b)) FU (0, 0, X) = some (msk tk 10, Y) ∧ Rel n Y ∧ Y.1 95 = M.1 95 := by
    intro X0 HX0 eX0
    obtain ⟨e, r1, r2⟩ := itr_cnt (body := b_Mo_spite_94_50 (nI a) (nI b)) (s0 := ((0 : Int32), (0 : Int32), X0)) (fun k z => z.1 = msk tk k ∧ z.2.1 = nI k ∧ Rel n z.2.2 ∧ z.2.2.1 95 = M.1 95) (fun e => e.1 = msk tk 10 ∧ Rel n e.2 ∧ e.2.1 95 = M.1 95) (nt (M.1 95) 1) (by omega) ⟨rfl, rfl, HX0, eX0⟩ (by
      rintro k ⟨y, z, X⟩ hk ⟨hy, hz, HX, eX⟩
      dsimp only at hy hz HX eX
      rw [hy, hz]
      left
      obtain ⟨Y, g1, g2, g3⟩ := e_looks (M := X) (m := M.1 95 0) (e := -1) (sgn := -1) (sg := no) (tk := no) (.inl rfl) (by rw [eX]; exact W.1) (by rw [eX]; exact W.2.1) (fun k hk => nI_eqm1 (by omega)) (fun f h => by (cases h))
      rw [msk_no] at g1
      rw [eX] at g3
      have eY : Y.1 95 = M.1 95 := (g2.row (fun i => rfl)).trans eX
      have HY := RelMs HX (g2.mono sLk_sMs)
      obtain ⟨ec, lc⟩ := nI_of_inb (gL.2.2.1 k hk).1
      have ec : M.1 95 (164 + k) = nI (cel (M.1 95) k) := ec
      have lc : cel (M.1 95) k < 48 := lc
      have hbt := e_isBetween (M := Y) (a := a) (d := mil (M.1 95) a) (b := b) (d' := mil (M.1 95) b) (c := cel (M.1 95) k) (by rw [eY]; exact pa) (by rw [eY]; exact pb) (by rw [eY]; exact sa) (by rw [eY]; exact sb) (by omega) (by omega) lc
      rw [eY] at hbt
      have hkf : decide (Y.1 97 k = 5) = decide (wh (M.1 95) (M.1 95 0) (nt (M.1 95) 2) k = 4) := by
        rw [g3 k hk]; exact kf_5
      obtain ⟨kk, q1, q2, q3, q4⟩ := Rel_k HY
      obtain ⟨Z, z1, z2, z3, z4⟩ := e_ruleFor (M := Y) (f := k) (m := nt (M.1 95) 0) (k := kk) (w := 5) (u := 0) (by rw [eY]; exact hk) l0 (by rw [eY]; exact W) ⟨q2, by omega⟩ q3 q4
      rw [eY, ← e0] at z1
      have HZ := RelA hn HY (z2.mono sAr_sMc) q1 q2 z3 z4
      have eZ : Z.1 95 = M.1 95 := (z2.row (fun _ => rfl)).trans eY
      have htv : tk k = ((btw (M.1 95) a (mil (M.1 95) a) b (mil (M.1 95) b) (cel (M.1 95) k) && !decide (wh (M.1 95) (M.1 95 0) (nt (M.1 95) 2) k = 4)) && decide (rlS (M.1 95) 5 k (nt (M.1 95) 0) 0 = 0)) := by
        rw [← htk, ← hal]
        dsimp only
        rw [decide_eq_true hk, Bool.true_and]
      have hbeg : ∀ V : Mem, (tk k = false → V.1 95 = M.1 95 → some (Sum.inl (msk tk k ||| 0, nI k + 1, V)) = some (Sum.inl (msk tk (k + 1), nI (k + 1), V) : (Int32 × Int32 × Mem) ⊕ (Int32 × Mem))) ∧ (tk k = true → some (Sum.inl (msk tk k ||| ((1 : Int32) <<< (nI k &&& 31)), nI k + 1, V)) = some (Sum.inl (msk tk (k + 1), nI (k + 1), V) : (Int32 × Int32 × Mem) ⊕ (Int32 × Mem))) := fun V => ⟨fun h _ => by rw [or_0, nI_one, msk_s, h]; rfl, fun h => by rw [nI_one, msk_s, h]; rfl⟩
      have hst : ∃ V, b_Mo_spite_94_50 (nI a) (nI b) (msk tk k, nI k, X) = some (.inl (msk tk (k + 1), nI (k + 1), V)) ∧ Rel n V ∧ V.1 95 = M.1 95 := by
        unfold b_Mo_spite_94_50 jn_
        dsimp only
        rw [eX, e1', dlt_t hk (by omega), ite_tt, g1, Option.bind_some, inb_t (by omega) (by omega), ite_tt, nI_cl (by omega), hkf, q164, nI_addn, inb_t (by omega) (by omega), ite_tt, nI_cl (by omega), eY, ec, hbt, Option.bind_some, z1, Option.bind_some]
        dsimp only
        cases ct : decide (wh (M.1 95) (M.1 95 0) (nt (M.1 95) 2) k = 4)
        · rw [ite_ff]
          cases cb : btw (M.1 95) a (mil (M.1 95) a) b (mil (M.1 95) b) (cel (M.1 95) k)
          · rw [ite_ff, ite_ff]
            refine ⟨Y, (hbeg Y).1 ?_ eY, HY, eY⟩
            rw [htv, cb]; rfl
          · rw [ite_tt, ite_tt]
            cases cr : decide (rlS (M.1 95) 5 k (nt (M.1 95) 0) 0 = 0)
            · rw [ite_ff]
              refine ⟨Z, (hbeg Z).1 ?_ eZ, HZ, eZ⟩
              rw [htv, cr, Bool.and_false]
            · rw [ite_tt]
              refine ⟨Z, (hbeg Z).2 ?_, HZ, eZ⟩
              rw [htv, cr, cb, ct]; rfl
        · rw [ite_tt, ite_ff]
          refine ⟨Y, (hbeg Y).1 ?_ eY, HY, eY⟩
          rw [htv, ct, Bool.not_true, Bool.and_false, Bool.false_and]
      obtain ⟨V, v1, v2, v3⟩ := hst
      exact ⟨_, v1, rfl, rfl, v2, v3⟩) (by
      rintro ⟨y, z, X⟩ ⟨hy, hz, HX, eX⟩
      dsimp only at hy hz HX eX
      rw [hy, hz]
      refine ⟨(msk tk (nt (M.1 95) 1), X), ?_, hmore, HX, eX⟩
      unfold b_Mo_spite_94_50
      dsimp only
      rw [eX, e1', dlt_f (Nat.le_refl _) (by omega), ite_ff])
    obtain ⟨t, Y⟩ := e
    obtain ⟨rfl, r3, r4⟩ : t = msk tk 10 ∧ Rel n Y ∧ Y.1 95 = M.1 95 := r2
    exact ⟨Y, r1, r3, r4⟩
  by_cases w0 : decide (v2 = 0) = true
  · rw [if_pos w0, bcnt_msk] at hC1
    obtain ⟨Y, y1, y2, y3⟩ := hMo M3 H3 eM3
    refine ⟨_, M3, Y, hC1, ?_, Rel_mono y2 (by omega)⟩
    rw [hMb M3 eM3, if_pos oa, if_pos ob, y1, Option.bind_some, if_pos w0]
    dsimp only
    rw [e_count1, Option.bind_some]
  · rw [if_neg w0] at hC1
    obtain ⟨M4, s1, s2⟩ := e_membersIn (M := M3) (σ := M.1 95) (m := M.1 95 0) no tk R3.1 W.1 W.2.1
    rw [msk_no] at s1
    have F4 : Fr sCs M3 M4 := s2.mono s13_sCs
    have H4 := RelC H3 F4
    have eM4 : M4.1 95 = M.1 95 := (F4.row (fun i => sCs_lo (by omega) i)).trans eM3
    have R4 := H4.1.1
    rw [eM4] at R4
    obtain ⟨M5, u1, u2⟩ := e_CF_isEnough (M := M4) (σ := M.1 95) R4 W (by rw [H4.1.2.2.2.2.1, eM4]) (mb (M.1 95) (M.1 95 0) (nt (M.1 95) 2) no tk)
    have F5 : Fr sCs M4 M5 := u2.mono sAc_sCs
    have H5 := RelC H4 F5
    have eM5 : M5.1 95 = M.1 95 := (F5.row (fun i => sCs_lo (by omega) i)).trans eM4
    obtain ⟨Y, y1, y2, y3⟩ := hMo M5 H5 eM5
    obtain ⟨Z, g1, g2, g3⟩ := e_looks (M := Y) (m := M.1 95 0) (e := -1) (sgn := -1) (sg := no) (tk := tk) (.inl rfl) (by rw [y3]; exact W.1) (by rw [y3]; exact W.2.1) (fun k hk => nI_eqm1 (by omega)) (fun f h => by (cases h))
    rw [y3] at g3
    have eZ : Z.1 95 = M.1 95 := (g2.row (fun i => rfl)).trans y3
    have HZ := RelMs y2 (g2.mono sLk_sMs)
    obtain ⟨V, v1, v2⟩ := e_Mo_isEnough (M := Z) (p := mb (M.1 95) (M.1 95 0) (nt (M.1 95) 2) no tk) (by rw [eZ]; exact W) (by
      rw [eZ]
      intro g hg
      unfold pK
      rw [g3 g hg]
      exact kf_mem (Nat.le_refl _) hE hF W.2.1 (fun f h => by (cases h)) (by omega) hg) (by
      rw [eZ]
      intro g hg hg2
      cases hm : mb (M.1 95) (M.1 95 0) (nt (M.1 95) 2) no tk g
      · rfl
      · have := mb_lt (Nat.le_refl _) hE hF W.2.1 (fun f h => by (cases h)) hg2 hm
        omega)
    rw [eZ] at v1
    refine ⟨bI (!enS (M.1 95) (mb (M.1 95) (M.1 95 0) (nt (M.1 95) 2) no tk)), M5, V, ?_, ?_, Rel_mono (RelMs HZ (v2.mono sNm_sMs)) (by omega)⟩
    · rw [hC1, s1, Option.bind_some]
      dsimp only
      rw [u1]
      rfl
    · rw [hMb M5 eM5, if_pos oa, if_pos ob, y1, Option.bind_some, if_neg w0]
      dsimp only
      rw [y3, g1, Option.bind_some, v1, Option.bind_some]
      cases enS (M.1 95) (mb (M.1 95) (M.1 95 0) (nt (M.1 95) 2) no tk) <;> rfl
end OS
end
