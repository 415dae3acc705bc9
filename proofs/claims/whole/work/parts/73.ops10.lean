theorem km_cases (σ : Nat → Int32) (m : Int32) (n f : Nat) : km σ m n f = 0 ∨ km σ m n f = 1 ∨ km σ m n f = 2 ∨ km σ m n f = 3 ∨ km σ m n f = 5 := by
  unfold km kf k0
  rw [show no f = false from rfl, ite_ff, ite_ff]
  generalize wh σ m n f = w
  by_cases c1 : w = -1
  · rw [if_pos c1, if_neg (by decide)]; simp
  · rw [if_neg c1]
    by_cases c2 : w = 1
    · rw [if_pos c2, if_pos rfl]
      split <;> simp
    · rw [if_neg c2]
      by_cases c3 : w = 2
      · rw [if_pos c3, if_neg (by decide)]; simp
      · rw [if_neg c3]
        by_cases c4 : w = 4
        · rw [if_pos c4, if_neg (by decide)]; simp
        · rw [if_neg c4, if_neg (by decide)]; simp
theorem un_eq1 : ∀ y, y < 6 → ∀ x, x < 6 → x ≠ 3 → x ≠ 4 → f_CF_isUnder (nI x) (nI y) = f_Mo_isUnder (nI x) (nI y) ∧ (f_Mo_isUnder (nI x) (nI y)).isSome = true := by
  have h : ∀ y, y < 6 → ∀ x, x < 6 → (x = 3 ∨ x = 4 ∨ (f_CF_isUnder (nI x) (nI y) = f_Mo_isUnder (nI x) (nI y) ∧ (f_Mo_isUnder (nI x) (nI y)).isSome = true)) := by decide +kernel
  intro y hy x hx h3 h4
  rcases h y hy x hx with h | h | h
  · exact absurd h h3
  · exact absurd h h4
  · exact h
theorem un_eq2 : ∀ y, y < 6 → ∀ z, 3 ≤ z → z < 5 → f_CF_isUnder (if decide (nI y = 4) = true then nI z else 3) (nI y) = f_Mo_isUnder (nI z) (nI y) ∧ (f_Mo_isUnder (nI z) (nI y)).isSome = true := by
  intro y hy z h1 h2
  have h : ∀ y, y < 6 → ∀ z, z < 2 → f_CF_isUnder (if decide (nI y = 4) = true then nI (z + 3) else 3) (nI y) = f_Mo_isUnder (nI (z + 3)) (nI y) ∧ (f_Mo_isUnder (nI (z + 3)) (nI y)).isSome = true := by decide +kernel
  have := h y hy (z - 3) (by omega)
  rw [show z - 3 + 3 = z by omega] at this
  exact this
def unS' (k x : Int32) : Bool := (f_Mo_isUnder x k).getD false
theorem un_all {σ : Nat → Int32} {f m y : Nat} {e : Int32} (hy : y < 6) : f_CF_isUnder (if decide (nI y = 4) = true then kO σ f m e else km σ (nI m) (kn σ e) f) (nI y) = some (unS' (nI y) (kO σ f m e)) ∧ f_Mo_isUnder (kO σ f m e) (nI y) = some (unS' (nI y) (kO σ f m e)) := by
  have key : ∀ a b : Option Bool, a = b ∧ b.isSome = true → a = some (b.getD false) ∧ b = some (b.getD false) := fun a b ⟨h1, h2⟩ => by
    cases b with
    | none => cases h2
    | some v => exact ⟨h1, rfl⟩
  unfold unS'
  apply key
  have hk := km_cases σ (nI m) (kn σ e) f
  unfold kO
  rcases hk with h | h | h | h | h
  · rw [h, if_neg (show ¬ (0 : Int32) = 3 by decide), ite_self]; exact un_eq1 y hy 0 (by omega) (by omega) (by omega)
  · rw [h, if_neg (show ¬ (1 : Int32) = 3 by decide), ite_self]; exact un_eq1 y hy 1 (by omega) (by omega) (by omega)
  · rw [h, if_neg (show ¬ (2 : Int32) = 3 by decide), ite_self]; exact un_eq1 y hy 2 (by omega) (by omega) (by omega)
  · rw [h, if_pos rfl]
    by_cases d : (arS σ f (m + 1)).toInt32 ≤ 0
    · rw [if_pos d]; exact un_eq2 y hy 3 (by omega) (by omega)
    · rw [if_neg d]; exact un_eq2 y hy 4 (by omega) (by omega)
  · rw [h, if_neg (show ¬ (5 : Int32) = 3 by decide), ite_self]; exact un_eq1 y hy 5 (by omega) (by omega) (by omega)
theorem op_many : Op_many Rel := by
  intro n M v0 v1 v2 hn H
  have W := Rel_W hn H
  have hno : ∀ x, f_CF_many_0 v0 v1 v2 M = some (x, M) → f_Mo_many_94 v0 v1 v2 M = some (x, M) → ∃ r M1 M2, f_CF_many_0 v0 v1 v2 M = some (r, M1) ∧ f_Mo_many_94 v0 v1 v2 M1 = some (r, M2) ∧ Rel (n + 1) M2 := fun x h1 h2 => ⟨x, M, M, h1, h2, Rel_mono H (by omega)⟩
  by_cases c0 : wthn v0 0 5 = true
  · by_cases c2 : wthn v2 (-1) (M.1 95 2) = true
    · by_cases c1 : wthn v1 0 120 = true
      · obtain ⟨y, hy, rfl⟩ := wthn_nI (b := 5) (by omega) c0
        have he := by_of W.1.2.2.1 c2
        obtain ⟨m, hm, rfl⟩ := wthn_nI (b := 120) (by omega) c1
        obtain ⟨e1, l1⟩ := nt_inb W.1.2.1
        generalize hσ : M.1 95 = σ at *
        -- class
        obtain ⟨q, k1, k2, k3⟩ := itr_cnt (body := b_CF_many_0_38 (nI y) (nI m) v2) (s0 := (0, 0, M)) (fun f s => s.1 = nI (cnt (fun g => unS' (nI y) (kO σ g m v2)) f) ∧ s.2.1 = nI f ∧ Fr sAc M s.2.2) (fun q => q.1 = nI (cnt (fun g => unS' (nI y) (kO σ g m v2)) (nt σ 1)) ∧ Fr sAc M q.2) (nt σ 1) (by omega) ⟨rfl, rfl, Fr.refl M⟩ (by
          rintro f ⟨a, i, M1⟩ hf ⟨rfl, rfl, hF⟩
          left
          dsimp only at hF
          have R1 : Rc0 M1.1 σ := by rw [← hσ]; exact Rc0.fr H.1.1 hF
          obtain ⟨M2, g1, g2⟩ := e_kindIn (M := M1) (m := nI m) (f := f) (e := v2) (by omega) he R1.1 W.1 W.2.1
          have F2 : Fr sAc M1 M2 := g2.mono s13_sAc
          have hstep : ∃ M3, jn_ (fun (u11 : Int32 × Mem) => (f_CF_isUnder u11.1 (nI y)).bind fun q12 => if q12 = true then (some (Sum.inl (nI (cnt (fun g => unS' (nI y) (kO σ g m v2)) f) + 1, nI f + 1, u11.2))) else (some (Sum.inl (nI (cnt (fun g => unS' (nI y) (kO σ g m v2)) f), nI f + 1, u11.2)))) (fun k14 => if decide (nI y = 4) = true then ((f_CF_owing_0 (nI f) (nI m) (km σ (nI m) (kn σ v2) f) M2).bind fun q15 => k14 (q15.1, q15.2)) else (k14 (km σ (nI m) (kn σ v2) f, M2))) = some ((Sum.inl (nI (cnt (fun g => unS' (nI y) (kO σ g m v2)) (f + 1)), nI (f + 1), M3) : (Int32 × Int32 × Mem) ⊕ (Int32 × Mem))) ∧ Fr sAc M2 M3 := by
            obtain ⟨un1, -⟩ := un_all (σ := σ) (f := f) (m := m) (y := y) (e := v2) (by omega)
            unfold jn_
            dsimp only
            have hfin : ∀ X : Mem, (some (unS' (nI y) (kO σ f m v2))).bind (fun q12 => if q12 = true then (some ((Sum.inl (nI (cnt (fun g => unS' (nI y) (kO σ g m v2)) f) + 1, nI f + 1, X) : (Int32 × Int32 × Mem) ⊕ (Int32 × Mem)))) else (some (Sum.inl (nI (cnt (fun g => unS' (nI y) (kO σ g m v2)) f), nI f + 1, X)))) = some (Sum.inl (nI (cnt (fun g => unS' (nI y) (kO σ g m v2)) (f + 1)), nI (f + 1), X)) := fun X => by
              show _ = some (Sum.inl (nI (cnt (fun g => unS' (nI y) (kO σ g m v2)) f + if unS' (nI y) (kO σ f m v2) = true then 1 else 0), nI (f + 1), X))
              rw [Option.bind_some, nI_one, nI_one]
              cases unS' (nI y) (kO σ f m v2) <;> rfl
            by_cases d : nI y = 4
            · rw [decide_eq_true d, ite_tt]
              rw [decide_eq_true d, ite_tt] at un1
              obtain ⟨M3, o1, o2⟩ := e_owing (M := M2) (x := km σ (nI m) (kn σ v2) f) W (R1.fr F2) hf (show m < 121 by omega)
              refine ⟨M3, ?_, o2⟩
              rw [o1, Option.bind_some]
              dsimp only
              rw [show (if km σ (nI m) (kn σ v2) f = 3 then (if (arS σ f (m + 1)).toInt32 ≤ 0 then 3 else 4) else km σ (nI m) (kn σ v2) f) = kO σ f m v2 from rfl, un1]
              exact hfin M3
            · rw [decide_eq_false d, ite_ff]
              rw [decide_eq_false d, ite_ff] at un1
              refine ⟨M2, ?_, Fr.refl M2⟩
              rw [un1]
              exact hfin M2
          obtain ⟨M3, t1, t2⟩ := hstep
          refine ⟨(nI (cnt (fun g => unS' (nI y) (kO σ g m v2)) (f + 1)), nI (f + 1), M3), ?_, rfl, rfl, hF.trans (F2.trans t2)⟩
          unfold b_CF_many_0_38
          dsimp only
          rw [R1.2.1.1, e1, dlt_t hf (by omega), ite_tt, g1, Option.bind_some]
          exact t1) (by
          rintro ⟨a, i, M1⟩ ⟨rfl, rfl, hF⟩
          dsimp only at hF
          have R1 : Rc0 M1.1 σ := by rw [← hσ]; exact Rc0.fr H.1.1 hF
          refine ⟨(nI (cnt (fun g => unS' (nI y) (kO σ g m v2)) (nt σ 1)), M1), ?_, rfl, hF⟩
          unfold b_CF_many_0_38
          dsimp only
          rw [R1.2.1.1, e1, dlt_f (Nat.le_refl _) (by omega), ite_ff])
        obtain ⟨r, M1⟩ := q
        dsimp only at k2 k3
        have F1 : Fr sCs M M1 := k3.mono sAc_sCs
        have H1 := RelC H F1
        have ee1 : M1.1 95 = σ := (F1.row (fun i => sCs_lo (by omega) i)).trans hσ
        obtain ⟨k, q1, q2, q3, q4⟩ := Rel_k H1
        -- the model
        obtain ⟨p, l1', l2', l3', l4', l5'⟩ := itr_cnt (body := b_Mo_many_94_35 (nI y) (nI m) v2) (s0 := (0, 0, M1)) (fun f s => s.1 = nI (cnt (fun g => unS' (nI y) (kO σ g m v2)) f) ∧ s.2.1 = nI f ∧ Fr sAr M1 s.2.2 ∧ CvU s.2.2 k ∧ CvA s.2.2 k) (fun q => q.1 = nI (cnt (fun g => unS' (nI y) (kO σ g m v2)) (nt σ 1)) ∧ Fr sAr M1 q.2 ∧ CvU q.2 k ∧ CvA q.2 k) (nt σ 1) (by omega) ⟨rfl, rfl, Fr.refl M1, q3, q4⟩ (by
          rintro f ⟨a, i, M2⟩ hf ⟨rfl, rfl, hF, hU, hA⟩
          left
          dsimp only at hF hU hA
          have e2 : M2.1 95 = σ := (hF.row (fun i => rfl)).trans ee1
          obtain ⟨M3, g1, g2, g3, g4⟩ := e_kindOf (M := M2) (k := k) (f := f) (m := m) (e := v2) (by rw [e2]; exact hf) (by omega) (by rw [e2]; exact he) (by rw [e2]; exact W) ⟨by rw [hF.at_ rfl]; exact q2, by omega⟩ hU hA
          rw [e2] at g1
          obtain ⟨-, un2⟩ := un_all (σ := σ) (f := f) (m := m) (y := y) (e := v2) (by omega)
          refine ⟨(nI (cnt (fun g => unS' (nI y) (kO σ g m v2)) (f + 1)), nI (f + 1), M3), ?_, rfl, rfl, hF.trans g2, g3, g4⟩
          unfold b_Mo_many_94_35 jv_
          dsimp only
          rw [e2, e1, dlt_t hf (by omega), ite_tt, g1, Option.bind_some]
          dsimp only
          rw [un2, Option.bind_some, nI_one]
          show _ = some (Sum.inl (nI (cnt (fun g => unS' (nI y) (kO σ g m v2)) f + if unS' (nI y) (kO σ f m v2) = true then 1 else 0), nI (f + 1), M3))
          cases unS' (nI y) (kO σ f m v2)
          · exact congrArg (fun x => some (Sum.inl (x, nI (f + 1), M3))) (nI_addn _ 0)
          · exact congrArg (fun x => some (Sum.inl (x, nI (f + 1), M3))) (nI_addn _ 1)) (by
          rintro ⟨a, i, M2⟩ ⟨rfl, rfl, hF, hU, hA⟩
          dsimp only at hF hU hA
          have e2 : M2.1 95 = σ := (hF.row (fun i => rfl)).trans ee1
          refine ⟨(nI (cnt (fun g => unS' (nI y) (kO σ g m v2)) (nt σ 1)), M2), ?_, rfl, hF, hU, hA⟩
          unfold b_Mo_many_94_35
          dsimp only
          rw [e2, e1, dlt_f (Nat.le_refl _) (by omega), ite_ff])
        obtain ⟨r2, M2⟩ := p
        dsimp only at l2' l3' l4' l5'
        refine ⟨nI (cnt (fun g => unS' (nI y) (kO σ g m v2)) (nt σ 1)), M1, M2, ?_, ?_, Rel_mono (RelA hn H1 (l3'.mono sAr_sMc) q1 q2 l4' l5') (by omega)⟩
        · unfold f_CF_many_0
          have hb := cf_before H v2
          rw [hσ] at hb
          rw [if_pos c0, hb, Option.bind_some, if_pos c2, if_pos c1, k1, k2]; rfl
        · unfold f_Mo_many_94
          rw [e_Mo_in, Option.bind_some, if_pos c0, mo_by, Option.bind_some, ee1, if_pos c2, mo_month, Option.bind_some, if_pos c1, l1', l2']; rfl
      · exact hno (-2) (by unfold f_CF_many_0; rw [if_pos c0, cf_before H, Option.bind_some, if_pos c2, if_neg c1]) (by unfold f_Mo_many_94; rw [e_Mo_in, Option.bind_some, if_pos c0, mo_by, Option.bind_some, if_pos c2, mo_month, Option.bind_some, if_neg c1])
    · exact hno (-1) (by unfold f_CF_many_0; rw [if_pos c0, cf_before H, Option.bind_some, if_neg c2]) (by unfold f_Mo_many_94; rw [e_Mo_in, Option.bind_some, if_pos c0, mo_by, Option.bind_some, if_neg c2])
  · exact hno (-1) (by unfold f_CF_many_0; rw [if_neg c0]) (by unfold f_Mo_many_94; rw [e_Mo_in, Option.bind_some, if_neg c0])
