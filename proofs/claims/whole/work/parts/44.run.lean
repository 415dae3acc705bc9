theorem e_stepped {M : Mem} {p k : Nat} {l : List Int32} {u : Int32} (hl : l.length = k) (h1 : 1 ≤ k) (hp : p + k < 60) (hu : M.1 23 p = u) (hi : ∀ i, i < k → M.1 23 (p + 1 + i) = l.getD i 0) : f_Rules_stepped_14 (nI p) (nI k) M = some (stV u l) := by
  unfold f_Rules_stepped_14
  have hj : jmax 0 (atv (M.1 23) 60 (nI p)) = if u < 0 then 0 else u := by
    rw [atv_nI (by omega) (by omega), hu]
    unfold jmax
    by_cases c : (0 : Int32) < u
    · rw [if_pos c, if_neg (fun h => Int32.lt_irrefl (Int32.lt_trans c h))]
    · rw [if_neg c]
      by_cases c2 : u < 0
      · rw [if_pos c2]
      · rw [if_neg c2]
        exact Int32.le_antisymm (Int32.not_lt.mp c2) (Int32.not_lt.mp c)
  obtain ⟨r, h2, h3⟩ := itr_cnt (body := b_Rules_stepped_14_19 (nI p) (nI k) M) (s0 := (jmax 0 (atv (M.1 23) 60 (nI p)), 0, 1)) (fun j s => s.2.2 = nI (j + 1) ∧ (j < k → s.2.1 + stL s.1 (l.drop j) = stV u l) ∧ (j = k → s.2.1 = stV u l)) (fun r => r = stV u l) k (by omega) ⟨rfl, fun _ => by
      show (0 : Int32) + stL _ l = _
      rw [Int32.zero_add, hj]; rfl, fun h => by omega⟩ (by
    rintro j ⟨rest, all, i⟩ hjk ⟨rfl, hA, -⟩
    left
    have hA := hA hjk
    dsimp only at hA
    have hd : l.drop j = l[j] :: l.drop (j + 1) := List.drop_eq_getElem_cons (by omega)
    have hx : atv (M.1 23) 60 (nI p + nI (j + 1)) = l[j] := by
      rw [nI_addn, atv_nI (by omega) (by omega), show p + (j + 1) = p + 1 + j by omega, hi j hjk, List.getD_eq_getElem?_getD]
      simp [show j < l.length by omega]
    refine ⟨_, by
      unfold b_Rules_stepped_14_19 jv_
      dsimp only
      rw [dle_t (by omega) (by omega), ite_tt, hx, nI_one], rfl, fun h => ?_, fun h => ?_⟩
    · dsimp only
      have hd2 : l.drop (j + 1) = l[j + 1] :: l.drop (j + 1 + 1) := List.drop_eq_getElem_cons (by omega)
      rw [dlt_t (by omega) (by omega), ite_tt, ← hA, hd, hd2, stL_2, ← hd2, Int32.add_assoc]
    · dsimp only
      rw [dlt_f (by omega) (by omega), ite_ff, ← hA, hd, List.drop_eq_nil_of_le (by omega), stL_1]) (by
    rintro ⟨rest, all, i⟩ ⟨rfl, -, hA⟩
    refine ⟨all, ?_, hA rfl⟩
    unfold b_Rules_stepped_14_19
    dsimp only
    rw [dle_f (by omega) (by omega), ite_ff])
  rw [h2, h3]; rfl
theorem neg10 {x : Int32} (h : x < -10) : ∃ k, 1 ≤ k ∧ k < 2147483648 ∧ -10 - x = nI k := by
  have h1 := Int32.le_toInt x
  rw [i_lt, show (-10 : Int32).toInt = -10 from rfl] at h
  have hk0 : (-10 - x).toInt = -10 - x.toInt := by
    rw [Int32.toInt_sub, show (-10 : Int32).toInt = -10 from rfl]
    exact Int.bmod_eq_of_le (by omega) (by omega)
  generalize -10 - x = X at hk0
  generalize x.toInt = y at *
  refine ⟨(-10 - y).toNat, by omega, by omega, ?_⟩
  apply Int32.toInt_inj.mp
  rw [hk0, nI_toI (by omega)]; omega
theorem ev_split {N : Nat → Int32} {c : List Int32} {r : List Int32} (h : ev N c [] = some r) (j : Nat) : ∃ st, ev N (c.take j) [] = some st := by
  rw [← List.take_append_drop j c, ev_app] at h
  cases h2 : ev N (c.take j) [] with
  | none => rw [h2] at h; cases h
  | some st => exact ⟨st, rfl⟩
def s23 (a _i : Nat) : Bool := a == 23
def sRun (a i : Nat) : Bool := a == 23 || (a == 14 && i == 11)
theorem s23_sRun : ∀ a i, s23 a i = true → sRun a i = true := fun a i h => by
  unfold s23 at h; unfold sRun; rw [h]; rfl
theorem e_run {M : Mem} {N : Nat → Int32} {c : List Int32} {v : Int32} {fr : Nat} (hc : fr + c.length ≤ 1080) (hM : ∀ i, i < c.length → M.1 16 (fr + i) = c.getD i 0) (hN : ∀ i, i < 5 → M.1 80 i = N i) (hev : ev N c [] = some [v]) (hn : ∀ x ∈ c, x < 0 → ¬ x ≤ -6 → ∃ i, i < 5 ∧ -1 - x = nI i) (hpu : pu c ≤ 60) : ∃ M', f_Rules_run_14_80 (nI fr) (nI (fr + c.length)) M = some (v, M') ∧ Fr s23 M M' := by
  obtain ⟨r, h2, h3, h4⟩ := itr_cnt (body := b_Rules_run_14_80_6 (nI (fr + c.length))) (s0 := (-1, nI fr, M)) (fun j s => s.2.1 = nI (fr + j) ∧ ∃ st, ev N (c.take j) [] = some st ∧ s.1 = nI st.length - 1 ∧ Fr s23 M s.2.2 ∧ (∀ x, x < st.length → s.2.2.1 23 x = st.getD (st.length - 1 - x) 0) ∧ st.length + pu (c.drop j) ≤ 60) (fun M' => M'.1 23 0 = v ∧ Fr s23 M M') c.length (by omega) ⟨rfl, [], rfl, rfl, Fr.refl M, fun x h => absurd h (by simp), by simpa using hpu⟩ (by
    rintro j ⟨top, i, M'⟩ hj ⟨rfl, st, e1, rfl, hF, hS, hP⟩
    left
    dsimp only at hF hS
    have hd : c.drop j = c[j] :: c.drop (j + 1) := List.drop_eq_getElem_cons hj
    have ht : c.take (j + 1) = c.take j ++ [c[j]] := (List.take_append_getElem hj).symm
    obtain ⟨st', e2⟩ := ev_split hev (j + 1)
    rw [ht, ev_app, e1, Option.bind_some] at e2
    have e3 : stp1 N c[j] st = some st' := by
      have : ev N [c[j]] st = (stp1 N c[j] st).bind (ev N []) := rfl
      rw [this] at e2
      cases h : stp1 N c[j] st with
      | none => rw [h] at e2; cases e2
      | some y => rw [h] at e2; exact e2
    have e4 : ev N (c.take (j + 1)) [] = some st' := by
      rw [ht, ev_app, e1, Option.bind_some]
      show (stp1 N c[j] st).bind (ev N []) = _
      rw [e3]; rfl
    have hpd : pu (c.drop j) = (if c[j] ≤ -6 then 0 else 1) + pu (c.drop (j + 1)) := by rw [hd]; rfl
    have hcode : atv (M'.1 16) 1080 (nI (fr + j)) = c[j] := by
      rw [atv_nI (by omega) (by omega), hF.at_ (a := 16) rfl, hM j hj, List.getD_eq_getElem?_getD]
      simp [hj]
    have hx5 := hn c[j] (List.getElem_mem hj)
    generalize c[j] = x at e3 hpd hcode hx5
    unfold b_Rules_run_14_80_6 jv_
    dsimp only
    rw [dlt_t (by omega) (by omega), ite_tt, hcode, nI_one]
    unfold stp1 at e3
    by_cases c1 : x < -10
    · rw [if_pos c1] at e3
      have hx6 : x ≤ -6 := Int32.le_of_lt (Int32.lt_trans c1 (by decide))
      rw [if_pos hx6, Nat.zero_add] at hpd
      obtain ⟨k, hk1, hk2, hk⟩ := neg10 c1
      rw [hk, nI_cl hk2] at e3
      by_cases c2 : k < st.length
      · rw [if_pos c2] at e3
        have e3 := Option.some.inj e3
        have htop : nI st.length - 1 - (-10 - x) = nI (st.length - k) - 1 := by
          rw [hk, show (1 : Int32) = nI 1 from rfl, nI_subn (by omega) (by omega), nI_subn (by omega) (by omega), nI_subn (by omega) (by omega)]
          congr 1; omega
        have htp : nI (st.length - k) - 1 = nI (st.length - k - 1) := by
          rw [show (1 : Int32) = nI 1 from rfl, nI_subn (by omega) (by omega)]
        have hst := e_stepped (M := M') (p := st.length - k - 1) (k := k) (l := (st.take k).reverse) (u := st.getD k 0) (by simp; omega) hk1 (by omega) (by rw [hS _ (by omega)]; congr 1; omega) (fun i hi => by
          rw [hS _ (by omega), List.getD_eq_getElem?_getD, List.getD_eq_getElem?_getD, List.getElem?_reverse (by simp; omega)]
          congr 1
          rw [List.length_take, List.getElem?_take, if_pos (by omega)]
          congr 1; omega)
        refine ⟨(nI (st.length - k) - 1, nI (fr + j + 1), wI M' 23 (st.length - k - 1) (stV (st.getD k 0) (st.take k).reverse)), ?_, by simp only [Nat.add_assoc], st', e4, ?_, hF.wI rfl, ?_, ?_⟩
        · rw [decide_eq_true c1, ite_tt, htop, htp, hk, hst, Option.bind_some, putv_nI (by omega) (by omega)]
        · rw [← e3]
          dsimp only
          rw [List.length_cons, List.length_drop]
          congr 2; omega
        · dsimp only
          intro y hy
          rw [← e3] at hy ⊢
          rw [List.length_cons, List.length_drop] at hy ⊢
          by_cases c3 : y = st.length - k - 1
          · rw [c3, rde, show st.length - (k + 1) + 1 - 1 - (st.length - k - 1) = 0 by omega]; rfl
          · rw [rdi c3, hS _ (by omega)]
            rw [show st.length - (k + 1) + 1 - 1 - y = (st.length - k - 2 - y) + 1 by omega, List.getD_cons_succ, List.getD_eq_getElem?_getD, List.getD_eq_getElem?_getD, List.getElem?_drop]
            congr 2; omega
        · rw [← e3, List.length_cons, List.length_drop]; omega
      · rw [if_neg c2] at e3; cases e3
    · rw [if_neg c1] at e3
      rw [decide_eq_false c1, ite_ff]
      by_cases c2 : x ≤ -6
      · rw [if_pos c2] at e3
        rw [if_pos c2, Nat.zero_add] at hpd
        rw [decide_eq_true c2, ite_tt]
        rcases st with _ | ⟨b, _ | ⟨a, r⟩⟩
        · cases e3
        · cases e3
        · have e3 := Option.some.inj e3
          have hlen : (b :: a :: r).length = r.length + 2 := rfl
          rw [hlen] at hS hP ⊢
          have htop : nI (r.length + 2) - 1 + -1 = nI r.length := by
            rw [show nI (r.length + 2) - 1 = nI (r.length + 1) from nI_subn (a := r.length + 2) (b := 1) (by omega) (by omega)]
            rw [← Int32.sub_eq_add_neg]
            exact nI_subn (a := r.length + 1) (b := 1) (by omega) (by omega)
          have ha : M'.1 23 r.length = a := by
            rw [hS _ (by omega), show r.length + 2 - 1 - r.length = 1 by omega]; rfl
          have hb : M'.1 23 (r.length + 1) = b := by
            rw [hS _ (by omega), show r.length + 2 - 1 - (r.length + 1) = 0 by omega]; rfl
          refine ⟨(nI r.length, nI (fr + j + 1), wI M' 23 r.length (biV x a b)), ?_, by simp only [Nat.add_assoc], st', e4, ?_, hF.wI rfl, ?_, ?_⟩
          · rw [htop, nI_one, atv_nI (by omega) (by omega), atv_nI (by omega) (by omega), ha, hb]
            have hj : f_Rules_joined x a b = some (biV x a b) := by
              unfold f_Rules_joined biV
              by_cases d1 : x = -6
              · rw [decide_eq_true d1, if_pos d1]; rfl
              · rw [decide_eq_false d1, if_neg d1, ite_ff]
                by_cases d2 : x = -7
                · rw [decide_eq_true d2, if_pos d2]; rfl
                · rw [decide_eq_false d2, if_neg d2, ite_ff]
                  by_cases d3 : x = -8
                  · rw [decide_eq_true d3, if_pos d3]; rfl
                  · rw [decide_eq_false d3, if_neg d3, ite_ff]
            rw [hj, Option.bind_some, putv_nI (by omega) (by omega)]
          · rw [← e3]
            exact (nI_subn (a := r.length + 1) (b := 1) (by omega) (by omega)).symm
          · dsimp only
            intro y hy
            rw [← e3] at hy ⊢
            rw [List.length_cons] at hy ⊢
            by_cases c3 : y = r.length
            · rw [c3, rde, show r.length + 1 - 1 - r.length = 0 by omega]; rfl
            · rw [rdi c3, hS _ (by omega), show r.length + 2 - 1 - y = (r.length - 1 - y) + 1 + 1 by omega, show r.length + 1 - 1 - y = (r.length - 1 - y) + 1 by omega]; rfl
          · rw [← e3, List.length_cons]; omega
      · rw [if_neg c2] at e3
        rw [if_neg c2] at hpd
        rw [decide_eq_false c2, ite_ff]
        have e3 := Option.some.inj e3
        have htop : nI st.length - 1 + 1 = nI st.length := Int32.sub_add_cancel _ _
        refine ⟨(nI st.length, nI (fr + j + 1), wI M' 23 st.length (if x < 0 then N (-1 - x).toNatClampNeg else x)), ?_, by simp only [Nat.add_assoc], st', e4, ?_, hF.wI rfl, ?_, ?_⟩
        · rw [htop, putv_nI (by omega) (by omega)]
          by_cases c3 : x < 0
          · obtain ⟨g0, g2, g1⟩ := hx5 c3 c2
            rw [decide_eq_true c3, ite_tt, if_pos c3, g1, atv_nI g2 (by omega), nI_cl (by omega), hF.at_ (a := 80) rfl, hN _ g2]
          · rw [decide_eq_false c3, ite_ff, if_neg c3]
        · rw [← e3]
          exact (nI_subn (a := st.length + 1) (b := 1) (by omega) (by omega)).symm
        · dsimp only
          intro y hy
          rw [← e3] at hy ⊢
          rw [List.length_cons] at hy ⊢
          by_cases c3 : y = st.length
          · rw [c3, rde, show st.length + 1 - 1 - st.length = 0 by omega]; rfl
          · rw [rdi c3, hS _ (by omega), show st.length + 1 - 1 - y = (st.length - 1 - y) + 1 by omega]; rfl
        · rw [← e3, List.length_cons]; omega) (by
    rintro ⟨top, i, M'⟩ ⟨rfl, st, e1, rfl, hF, hS, hP⟩
    rw [List.take_length, hev] at e1
    cases e1
    refine ⟨M', ?_, hS 0 Nat.zero_lt_one, hF⟩
    unfold b_Rules_run_14_80_6
    dsimp only
    rw [dlt_f (by omega) (by omega), ite_ff])
  refine ⟨r, ?_, h4⟩
  unfold f_Rules_run_14_80
  rw [h2, Option.bind_some, show (0 : Int32) = nI 0 from rfl, atv_nI (by omega) (by omega), h3]
