section
section MT
variable {M : Mem} {p : Nat → Bool} {T : Nat → Nat → Nat} {s : Nat}
theorem e_MJ {X : Mem} {c v q : Nat} (hs : s < 64) (hc : c < 48) (hq : q < s ∨ q = 0) (hqs : q &&& s = q) (hv : v ≤ 1000000) (hT : ∀ s' c, 1 ≤ s' → s' < s → c < 48 → T s' c ≤ 1000000) (hR : ∀ s', 1 ≤ s' → s' < s → rowG X s' (T s')) (X0 : Mem) : itr (b_Mo_best_94_80 (nI s, X0) (nI c, X)) FU (nI v, nI q) = some (nI (JF T s c 64 v q)) := by
  obtain ⟨e, h1, h2⟩ := itr_cnt (body := b_Mo_best_94_80 (nI s, X0) (nI c, X)) (s0 := (nI v, nI q)) (fun k z => ∃ v' q', z = (nI v', nI q') ∧ (q' < s ∨ q' = 0) ∧ q' &&& s = q' ∧ q' ≤ 64 - k ∧ v' ≤ 1000000 ∧ JF T s c (64 - k) v' q' = JF T s c 64 v q) (fun e => e = nI (JF T s c 64 v q)) 64 (by omega) ⟨v, q, rfl, hq, hqs, by omega, hv, rfl⟩ (by
    rintro k z hk ⟨v', q', rfl, q1, q2, q3, q4, q5⟩
    by_cases z : q' = 0
    · right
      refine ⟨nI v', ?_, by rw [← q5, z, JF_z]⟩
      unfold b_Mo_best_94_80
      dsimp only
      rw [z, if_pos (show decide (nI 0 ≤ 0) = true from dle_t (a := 0) (b := 0) (by omega) (by omega))]
    · left
      obtain ⟨r1, r2, r3⟩ := sub1 hs (show q' < 64 by omega) z
      obtain ⟨t1, t2⟩ := rest hs (show q' < 64 by omega) q2
      have w1 := hT q' c (by omega) (by omega) hc
      have w2 := hT (s - q') c (by omega) (by omega) hc
      refine ⟨(nI (if T q' c + T (s - q') c < v' then T q' c + T (s - q') c else v'), nI ((q' - 1) &&& s)), ?_, _, _, rfl, by omega, r3, by omega, by split <;> omega, ?_⟩
      · unfold b_Mo_best_94_80 jv_
        dsimp only
        rw [show decide (nI q' ≤ 0) = false from dle_f (a := q') (b := 0) (by omega) (by omega), ite_ff, t1, show (48 : Int32) = nI 48 from rfl, nI_muln, nI_muln, nI_addn, nI_addn, inb_t (by omega) (by omega), ite_tt, inb_t (by omega) (by omega), ite_tt, nI_cl (by omega), nI_cl (by omega), hR q' (by omega) (by omega) c hc, hR (s - q') (by omega) (by omega) c hc, nI_addn, d_lt (by omega) (by omega), r1]
        by_cases g1 : T q' c + T (s - q') c < v'
        · rw [if_pos g1, if_pos (decide_eq_true g1)]
        · rw [if_neg g1, if_neg (by rw [decide_eq_true_eq]; exact g1)]
      · rw [← q5, show 64 - k = 64 - (k + 1) + 1 by omega, JF_s z]) (by
    rintro z ⟨v', q', rfl, q1, q2, q3, q4, q5⟩
    have z : q' = 0 := by omega
    refine ⟨nI v', ?_, by rw [← q5, z, JF_z]⟩
    unfold b_Mo_best_94_80
    dsimp only
    rw [z, if_pos (show decide (nI 0 ≤ 0) = true from dle_t (a := 0) (b := 0) (by omega) (by omega))])
  rw [h1, h2]
def rJ (T : Nat → Nat → Nat) (s c : Nat) : Nat := JF T s c 64 (if s = 0 then 0 else 1000000) ((s - 1) &&& s)
theorem s_pre (hs : s < 64) : (nI s - 1) &&& nI s = nI ((s - 1) &&& s) ∧ ((s - 1) &&& s < s ∨ (s - 1) &&& s = 0) ∧ ((s - 1) &&& s) &&& s = (s - 1) &&& s := by
  by_cases g : s = 0
  · rw [g]; exact ⟨by decide, .inr rfl, rfl⟩
  · obtain ⟨r1, r2, r3⟩ := sub1 hs hs g
    exact ⟨r1, .inl (by omega), r3⟩
theorem e_M51 (hs : s < 64) (hT : ∀ s' c, 1 ≤ s' → s' < s → c < 48 → T s' c ≤ 1000000) (hR : ∀ s', 1 ≤ s' → s' < s → rowG M s' (T s')) (X0 : Mem) : ∃ M', itr (b_Mo_best_94_51 (nI s, X0)) FU (0, M) = some M' ∧ Fr (s100 s) M M' ∧ rowG M' s (rJ T s) := by
  obtain ⟨r1, r2, r3⟩ := s_pre hs
  obtain ⟨e, h1, h2⟩ := itr_cnt (body := b_Mo_best_94_51 (nI s, X0)) (s0 := ((0 : Int32), M)) (fun k z => z.1 = nI k ∧ Fr (s100 s) M z.2 ∧ ∀ c, c < k → z.2.1 100 (48 * s + c) = nI (rJ T s c)) (fun X => Fr (s100 s) M X ∧ rowG X s (rJ T s)) 48 (by omega) ⟨rfl, Fr.refl _, fun c hc => by omega⟩ (by
    rintro k ⟨x, X⟩ hk ⟨rfl, hF, hr⟩
    dsimp only at hF hr
    left
    have hj := e_MJ (X := X) (c := k) (v := if s = 0 then 0 else 1000000) (q := (s - 1) &&& s) hs hk r2 r3 (by split <;> omega) hT (fun s' a1 a2 c hc => by
      rw [hF.at_ (a := 100) (by unfold s100; rw [decide_eq_false (by omega)]; rfl)]; exact hR s' a1 a2 c hc) X0
    refine ⟨(nI (k + 1), wI X 100 (48 * s + k) (nI (rJ T s k))), ?_, rfl, hF.wI (s100_c hk), fun c hc => ?_⟩
    · unfold b_Mo_best_94_51 jv_
      dsimp only
      have hu : (if decide (nI s = 0) = true then (0 : Int32) else 1000000) = nI (if s = 0 then 0 else 1000000) := by
        rw [show (0 : Int32) = nI 0 from rfl, d_eq (by omega) (by omega)]
        by_cases g : s = 0
        · rw [if_pos g, if_pos (decide_eq_true g)]
        · rw [if_neg g, if_neg (by rw [decide_eq_true_eq]; exact g)]; rfl
      rw [hu, r1, show (48 : Int32) = nI 48 from rfl, dlt_t hk (by omega), ite_tt, hj, Option.bind_some, nI_muln, nI_addn, inb_t (by omega) (by omega), ite_tt, nI_cl (by omega), nI_one]; rfl
    · dsimp only
      by_cases g : c = k
      · rw [g]; exact rde
      · rw [rdi (by omega)]; exact hr c (by omega)) (by
    rintro ⟨x, X⟩ ⟨rfl, hF, hr⟩
    dsimp only at hF hr
    refine ⟨X, ?_, hF, hr⟩
    unfold b_Mo_best_94_51
    dsimp only
    rw [show (48 : Int32) = nI 48 from rfl, dlt_f (Nat.le_refl _) (by omega), ite_ff])
  rw [h1]
  exact ⟨e, rfl, h2⟩
theorem e_M174 {g : Nat → Nat} (hs : s < 64) (W : Wm (M.1 95)) (hp : ∀ i, nt (M.1 95) 1 ≤ i → i < 10 → p i = false) (hr : rowG M s g) (X0 : Mem) : ∃ M', itr (b_Mo_best_94_174 (msk p 10) (nI s, X0)) FU (0, 0, M) = some M' ∧ Fr (s100 s) M M' ∧ rowG M' s (fun c => if tF p s < 10 ∧ cel (M.1 95) (tF p s) = c then 0 else g c) := by
  obtain ⟨e1, l1⟩ := nt_inb W.1.2.1
  obtain ⟨e, h1, h2⟩ := itr_cnt (body := b_Mo_best_94_174 (msk p 10) (nI s, X0)) (s0 := ((0 : Int32), (0 : Int32), M)) (fun k z => z.1 = nI (cnt p k) ∧ z.2.1 = nI k ∧ Fr (s100 s) M z.2.2 ∧ rowG z.2.2 s (fun c => if (tF p s < 10 ∧ cel (M.1 95) (tF p s) = c) ∧ tF p s < k then 0 else g c)) (fun X => Fr (s100 s) M X ∧ rowG X s (fun c => if tF p s < 10 ∧ cel (M.1 95) (tF p s) = c then 0 else g c)) (nt (M.1 95) 1) (by omega) ⟨rfl, rfl, Fr.refl _, fun c hc => by
      dsimp only
      rw [if_neg (by omega)]; exact hr c hc⟩ (by
    rintro k ⟨x, y, X⟩ hk ⟨hx, hy, hF, hR⟩
    dsimp only at hx hy hF hR
    rw [hx, hy]
    left
    have e95 : X.1 95 = M.1 95 := hF.row (fun _ => s100_o (by omega))
    obtain ⟨ec, lc⟩ := nI_of_inb (W.2.2.1.2.1 k hk).1
    have ec : M.1 95 (164 + k) = nI (cel (M.1 95) k) := ec
    have lc : cel (M.1 95) k < 48 := lc
    have hst : b_Mo_best_94_174 (msk p 10) (nI s, X0) (nI (cnt p k), nI k, X) = some (.inl (nI (cnt p (k + 1)), nI (k + 1), if p k = true ∧ s = 2 ^ cnt p k then wI X 100 (48 * s + cel (M.1 95) k) (nI 0) else X)) := by
      unfold b_Mo_best_94_174 jv_
      dsimp only
      rw [e95, e1, dlt_t hk (by omega), ite_tt, shr_1 _ (by omega), b_msk_lo p (by omega)]
      cases c : p k
      · rw [ite_ff, if_neg (fun h => absurd h.1 (by decide)), cnt_s0 c, nI_one]
      · have hlt := cnt_lt10 c (show k < 10 by omega)
        have h9 := cnt_le p 10
        have := pw_le (show cnt p k ≤ 10 by omega)
        rw [ite_tt, one_fin _ (by omega), d_eq (by omega) (by omega), cnt_s c]
        by_cases g2 : s = 2 ^ cnt p k
        · rw [if_pos (decide_eq_true g2), if_pos (show true = true ∧ s = 2 ^ cnt p k from ⟨rfl, g2⟩), q164, nI_addn, inb_t (by omega) (by omega), ite_tt, nI_cl (by omega), ec, show (48 : Int32) = nI 48 from rfl, nI_muln, nI_addn, inb_t (by omega) (by omega), ite_tt, nI_cl (by omega), nI_one, nI_one]; rfl
        · rw [if_neg (by rw [decide_eq_true_eq]; exact g2), if_neg (fun h => g2 h.2), nI_one, nI_one]
    refine ⟨_, hst, rfl, rfl, ?_, fun c hc => ?_⟩
    · dsimp only
      split
      · exact hF.wI (s100_c lc)
      · exact hF
    · dsimp only
      rcases tF_s (p := p) (set := s) with ⟨t1, t2, t3, t4⟩ | ⟨t1, t2⟩
      · by_cases g2 : p k = true ∧ s = 2 ^ cnt p k
        · have hkt := t4 k (by omega) g2.1 g2.2
          rw [if_pos g2]
          by_cases g3 : c = cel (M.1 95) k
          · rw [g3, rde, if_pos ⟨⟨t1, by rw [← hkt]⟩, by omega⟩]
          · have : ¬ cel (M.1 95) (tF p s) = c := by rw [← hkt]; exact fun h => g3 h.symm
            rw [rdi (by omega), hR c hc]
            congr 1
            dsimp only
            rw [if_neg (fun h => this h.1.2), if_neg (fun h => this h.1.2)]
        · have hne : tF p s ≠ k := fun h => g2 (by rw [← h]; exact ⟨t2, t3⟩)
          rw [if_neg g2, hR c hc]
          congr 1
          dsimp only
          by_cases g4 : tF p s < 10 ∧ cel (M.1 95) (tF p s) = c
          · by_cases g5 : tF p s < k
            · rw [if_pos ⟨g4, g5⟩, if_pos ⟨g4, by omega⟩]
            · rw [if_neg (fun h => g5 h.2), if_neg (fun h => g5 (by have := h.2; omega))]
          · rw [if_neg (fun h => g4 h.1), if_neg (fun h => g4 h.1)]
      · rw [if_neg (fun h => t2 k (by omega) h.1 h.2), hR c hc]
        congr 1
        dsimp only
        rw [if_neg (by omega), if_neg (by omega)]) (by
    rintro ⟨x, y, X⟩ ⟨hx, hy, hF, hR⟩
    dsimp only at hx hy hF hR
    rw [hx, hy]
    have e95 : X.1 95 = M.1 95 := hF.row (fun _ => s100_o (by omega))
    refine ⟨X, ?_, hF, fun c hc => ?_⟩
    · unfold b_Mo_best_94_174
      dsimp only
      rw [e95, e1, dlt_f (Nat.le_refl _) (by omega), ite_ff]
    · rw [hR c hc]
      congr 1
      dsimp only
      by_cases g4 : tF p s < 10 ∧ cel (M.1 95) (tF p s) = c
      · have : tF p s < nt (M.1 95) 1 := by
          rcases tF_s (p := p) (set := s) with ⟨t1, t2, t3, t4⟩ | ⟨t1, t2⟩
          · by_cases g : tF p s < nt (M.1 95) 1
            · exact g
            · rw [hp _ (by omega) t1] at t2; exact absurd t2 (by decide)
          · omega
        rw [if_pos ⟨g4, this⟩, if_pos g4]
      · rw [if_neg (fun h => g4 h.1), if_neg g4])
  rw [h1]
  exact ⟨e, rfl, h2⟩
theorem e_Mo_best (W : Wm (M.1 95)) (hp : ∀ i, nt (M.1 95) 1 ≤ i → i < 10 → p i = false) (h6 : cnt p 10 ≤ 6) (hw : wthn (msk p 10) 0 (((1 : Int32) <<< (M.1 95 1 &&& 31)) - 1) = true) (hT : ∀ set, 1 ≤ set → set < 64 → isD (okW (M.1 95)) (wW (M.1 95)) (gT (M.1 95) p T set) (T set)) : ∃ M', f_Mo_best_94 (msk p 10) M = some (if cnt p 10 = 0 then 0 else if T (2 ^ cnt p 10 - 1) (nt (M.1 95) 9) < 1000000 then nI (T (2 ^ cnt p 10 - 1) (nt (M.1 95) 9)) else -5, M') ∧ Fr (fun a _ => a == 100) M M' := by
  have h64 := pw_le h6
  have hpos := pw_le (Nat.zero_le (cnt p 10))
  have hTb : ∀ s' c, 1 ≤ s' → s' < 64 → c < 48 → T s' c ≤ 1000000 := fun s' c x1 x2 hc => Nat.le_trans ((hT s' x1 x2).1 c hc) gT_le
  have hgo : ∀ b, ∀ a i, s100 b a i = true → (a == 100) = true := fun b a i h => by
    unfold s100 at h
    rw [Bool.and_eq_true] at h; exact h.1
  obtain ⟨e, h1, h2⟩ := itr_cnt (body := b_Mo_best_94_42 (msk p 10) (nI (cnt p 10))) (s0 := ((0 : Int32), M)) (fun k z => z.1 = nI k ∧ Fr (fun a _ => a == 100) M z.2 ∧ ∀ s, s < k → rowG z.2 s (if s = 0 then (fun _ => 0) else T s)) (fun X => Fr (fun a _ => a == 100) M X ∧ ∀ s, s < 2 ^ cnt p 10 → rowG X s (if s = 0 then (fun _ => 0) else T s)) (2 ^ cnt p 10) (by omega) ⟨rfl, Fr.refl _, fun s h1 => by omega⟩ (by
    rintro k ⟨x, X⟩ hk ⟨rfl, hF, hr⟩
    dsimp only at hF hr
    left
    have e95 : X.1 95 = M.1 95 := hF.row (fun _ => rfl)
    obtain ⟨Y, y1, y2, y3⟩ := e_M51 (M := X) (T := T) (s := k) (by omega) (fun s' c x1 x2 x3 => hTb s' c x1 (by omega) x3) (fun s' x1 x2 => by have := hr s' x2; rw [if_neg (by omega)] at this; exact this) X
    have eY : Y.1 95 = M.1 95 := (y2.row (fun _ => s100_o (by omega))).trans e95
    obtain ⟨Z, z1, z2, z3⟩ := e_M174 (M := Y) (p := p) (s := k) (g := rJ T k) (by omega) (by rw [eY]; exact W) (by rw [eY]; exact hp) y3 X
    rw [eY] at z3
    have eZ : Z.1 95 = M.1 95 := (z2.row (fun _ => s100_o (by omega))).trans eY
    have FZ := hF.trans ((y2.mono (hgo _)).trans (z2.mono (hgo _)))
    have hlow : ∀ s, s < k → ∀ c, c < 48 → Z.1 100 (48 * s + c) = X.1 100 (48 * s + c) := fun s h c hc => by
      have : ¬ (48 * k ≤ 48 * s + c) := by omega
      rw [z2.at_ (a := 100) (by unfold s100; rw [decide_eq_false this]; rfl), y2.at_ (a := 100) (by unfold s100; rw [decide_eq_false this]; rfl)]
    by_cases g : k = 0
    · refine ⟨(nI (k + 1), Z), ?_, rfl, FZ, fun s hs => ?_⟩
      · unfold b_Mo_best_94_42
        dsimp only
        rw [one_fin _ (by omega), dlt_t hk (by omega), ite_tt, y1, Option.bind_some, z1, Option.bind_some, if_pos (show decide (nI k ≤ 0) = true by rw [g]; decide), nI_one]
      · have hs0 : s = 0 := by omega
        rw [if_pos hs0, hs0]
        intro c hc
        have := z3 c hc
        rw [g] at this
        dsimp only at this ⊢
        rw [this]
        have hj : rJ T 0 c = 0 := by unfold rJ; rw [if_pos rfl]; exact JF_z 64 0
        rw [hj]
        congr 1
        split <;> rfl
    · have hgt : ∀ c, (if tF p k < 10 ∧ cel (M.1 95) (tF p k) = c then 0 else rJ T k c) = gT (M.1 95) p T k c := fun c => by
        unfold gT uT rJ
        rw [if_neg g]
        by_cases g4 : tF p k < 10 ∧ cel (M.1 95) (tF p k) = c
        · rw [if_pos g4, if_pos g4]
          have := JF_le (T := T) (set := k) (c := c) 64 0 ((k - 1) &&& k)
          omega
        · rw [if_neg g4, if_neg g4]
      obtain ⟨V, v1, v2, v3⟩ := e_goesOnG (M := Z) (S := k) (f := gT (M.1 95) p T k) (D := T k) (by omega) (by rw [eZ]; exact W.2.2.1) (fun c _ => gT_le) (fun c hc => by rw [← hgt c]; exact z3 c hc) (by rw [eZ]; exact hT k (by omega) (by omega))
      refine ⟨(nI (k + 1), V), ?_, rfl, FZ.trans (v2.mono (hgo _)), fun s hs => ?_⟩
      · unfold b_Mo_best_94_42
        dsimp only
        rw [one_fin _ (by omega), dlt_t hk (by omega), ite_tt, y1, Option.bind_some, z1, Option.bind_some, if_neg (show ¬ decide (nI k ≤ 0) = true by rw [show decide (nI k ≤ 0) = false from dle_f (a := k) (b := 0) (by omega) (by omega)]; decide), v1, Option.bind_some, nI_one]
      · by_cases g5 : s = k
        · rw [g5, if_neg g]; exact v3
        · intro c hc
          have : ¬ (48 * k ≤ 48 * s + c) := by omega
          rw [v2.at_ (a := 100) (by unfold s100; rw [decide_eq_false this]; rfl), hlow s (by omega) c hc]
          exact hr s (by omega) c hc) (by
    rintro ⟨x, X⟩ ⟨rfl, hF, hr⟩
    dsimp only at hF hr
    refine ⟨X, ?_, hF, hr⟩
    unfold b_Mo_best_94_42
    dsimp only
    rw [one_fin _ (by omega), dlt_f (Nat.le_refl _) (by omega), ite_ff])
  obtain ⟨h2, h3⟩ := h2
  have e95 : e.1 95 = M.1 95 := h2.row (fun _ => rfl)
  refine ⟨e, ?_, h2⟩
  obtain ⟨e9, l9⟩ := nt_inb W.1.2.2.2.2.2.2.2.2.2
  unfold f_Mo_best_94 jv_
  rw [e_Mo_in, Option.bind_some, hw, ite_tt, e_count1, Option.bind_some, show (6 : Int32) = nI 6 from rfl, dle_t h6 (by omega), ite_tt, Option.bind_some, h1, Option.bind_some, top_fin _ (by omega), e95, e9, show (48 : Int32) = nI 48 from rfl, nI_muln, nI_addn, inb_t (by omega) (by omega), ite_tt, nI_cl (by omega), h3 (2 ^ cnt p 10 - 1) (by omega) _ l9]
  dsimp only
  by_cases g : cnt p 10 = 0
  · rw [if_pos g, if_pos (show 2 ^ cnt p 10 - 1 = 0 by rw [g])]
    rfl
  · have h2p := pw_le (show 1 ≤ cnt p 10 by omega)
    have hb := hTb (2 ^ cnt p 10 - 1) (nt (M.1 95) 9) (by omega) (by omega) l9
    rw [if_neg g, if_neg (show ¬ 2 ^ cnt p 10 - 1 = 0 by omega), show (1000000 : Int32) = nI 1000000 from rfl, d_lt (by omega) (by omega)]
    by_cases g2 : T (2 ^ cnt p 10 - 1) (nt (M.1 95) 9) < 1000000
    · rw [if_pos g2, if_pos (decide_eq_true g2)]
    · rw [if_neg g2, if_neg (by rw [decide_eq_true_eq]; exact g2)]
theorem op_best : Op_best Rel := by
  intro n M v0 hn H
  have W := Rel_W hn H
  obtain ⟨gB, gL, gI, gR, gP, gT', gK, gO, gN⟩ := RS1_gs H.1
  obtain ⟨e1, l1⟩ := nt_inb W.1.2.1
  have hai := all_in l1 v0
  rw [← e1] at hai
  have h24 : M.1 2 4 = M.1 95 1 := gL.1.1
  by_cases c0 : v0 &&& ((((1 : Int32) <<< (M.1 95 1 &&& 31)) - 1) ^^^ (-1)) = 0
  rotate_left
  · rw [decide_eq_false c0] at hai
    refine ⟨-2, M, M, ?_, ?_, Rel_mono H (by omega)⟩
    · unfold f_CF_best_0; rw [h24, if_neg (by rw [decide_eq_true_eq]; exact c0)]
    · unfold f_Mo_best_94; rw [e_Mo_in, Option.bind_some, ← hai, ite_ff]
  have c0' := c0
  rw [e1] at c0'
  obtain ⟨p, rfl, hp⟩ := all_msk l1 c0'
  rw [decide_eq_true c0] at hai
  by_cases h6 : cnt p 10 ≤ 6
  rotate_left
  · have h9 := cnt_le p 10
    refine ⟨-2, M, M, ?_, ?_, Rel_mono H (by omega)⟩
    · unfold f_CF_best_0; rw [h24, if_pos (decide_eq_true c0), bcnt_msk, show (6 : Int32) = nI 6 from rfl, dle_f (by omega) (by omega), ite_ff]
    · unfold f_Mo_best_94; rw [e_Mo_in, Option.bind_some, ← hai, ite_tt, e_count1, Option.bind_some, show (6 : Int32) = nI 6 from rfl, dle_f (by omega) (by omega), ite_ff]
  obtain ⟨T, hT⟩ := T_ex (M.1 95) p 64
  have hR1 := H.1
  obtain ⟨M1, a1, a2⟩ := e_leastTree (M := M) (σ := M.1 95) (p := p) (T := T) gL.1 gL.2 (by omega) W.1.2.2.2.2.2.2.2.2.2 hp h6 hT
  have H1 : Rel n M1 := RelC H (a2.mono (fun a i h => by
    unfold sTree at h; unfold sCs
    simp only [Bool.or_eq_true, Bool.and_eq_true, beq_iff_eq, decide_eq_true_eq] at h ⊢; omega))
  have e95 : M1.1 95 = M.1 95 := a2.row (fun _ => rfl)
  obtain ⟨M2, b1, b2⟩ := e_Mo_best (M := M1) (p := p) (T := T) (by rw [e95]; exact W) (by rw [e95]; exact hp) h6 (by rw [e95]; exact hai.symm) (by rw [e95]; exact hT)
  rw [e95] at b1
  refine ⟨_, M1, M2, ?_, b1, Rel_mono (RelMs H1 (b2.mono (fun a i h => by
    rw [beq_iff_eq] at h; subst h; rfl))) (by omega)⟩
  unfold f_CF_best_0
  rw [h24, if_pos (decide_eq_true c0), bcnt_msk, show (6 : Int32) = nI 6 from rfl, dle_t h6 (by omega), ite_tt, a1]
  rfl
end MT
end
