def fnd (c : Int32) : List Int32 → Nat → Nat
  | [], i => i
  | x :: t, i => if c = x then i else fnd c t (i + 1)
theorem fnd_le (c : Int32) : ∀ (l : List Int32) (i : Nat), i ≤ fnd c l i ∧ fnd c l i ≤ i + l.length
  | [], i => ⟨Nat.le_refl _, Nat.le_refl _⟩
  | x :: t, i => by
    unfold fnd
    by_cases h : c = x
    · rw [if_pos h]; simp
    · rw [if_neg h]
      have := fnd_le c t (i + 1)
      rw [List.length_cons]; omega
theorem nmOf_fnd (c : Int32) : nmOf c = fnd c [117, 108, 107, 111, 109] 0 := rfl
def wdOf (c : Int32) : Nat := fnd c [109, 114, 102, 108, 115, 116] 0
def ofOK (n fst : Nat) (fs : List Int32) : Prop := fs.length = n ∧ ∀ i, i < n → f_Reader_textOf (nI fst + nI i) = some (fst + i) ∧ semp (fst + i) = false ∧ inb 0 (sr_len.getD (fst + i) 0) = true ∧ schr (fst + i) 0 = fs.getD i 0 ∧ fst + i < 26
theorem of_nm : ofOK 5 6 [117, 108, 107, 111, 109] := by
  unfold ofOK
  decide +kernel
theorem of_wd : ofOK 6 0 [109, 114, 102, 108, 115, 116] := by
  unfold ofOK
  decide +kernel
section RQ
variable {M : Mem} {L b : Nat} {ch : Nat → Int32}
theorem r_oneOf (T : TC M L ch) {s : Nat} (hs : s ≤ L) {n fst : Nat} {fs : List Int32} (H : ofOK n fst fs) : ∀ (l : List Int32) (i k : Nat), fs.drop i = l → i ≤ n → n < 100 → l.length < k → itr (b_Reader_oneOf_77_2 (nI n) (nI fst) (pl M s)) k (nI i) = some (if fnd (ch s) l i < n then .inr (nI (fnd (ch s) l i), fst + fnd (ch s) l i) else .inl ())
  | [], i, k + 1, hd, hi, hn, hk => by
    obtain ⟨hl, -⟩ := H
    have h1 : i = n := by
      have := congrArg List.length hd
      rw [List.length_drop] at this
      simp at this
      omega
    rw [if_neg (by unfold fnd; omega)]
    refine itr_r ?_
    unfold b_Reader_oneOf_77_2
    rw [dlt_f (by omega) (by omega), ite_ff]
  | x :: l, i, k + 1, hd, hi, hn, hk => by
    have H0 := H
    obtain ⟨hl, hh⟩ := H
    have h1 : i < n := by
      have := congrArg List.length hd
      rw [List.length_drop, List.length_cons] at this
      omega
    have hdd : fs.drop (i + 1) = l := by
      rw [← List.drop_drop, hd]; rfl
    have hx : fs.getD i 0 = x := by
      rw [List.getD_eq_getElem?_getD]
      have := congrArg (fun l => l[0]?) hd
      have h2 : fs[i]? = some x := by simpa using this
      rw [h2]; rfl
    obtain ⟨a1, a2, a3, a4, a5⟩ := hh i h1
    have hb : b_Reader_oneOf_77_2 (nI n) (nI fst) (pl M s) (nI i) = (if decide (ch s = x) = true then some (.inr (.inr (nI i, fst + i))) else some (.inl (nI (i + 1)))) := by
      unfold b_Reader_oneOf_77_2
      rw [dlt_t h1 (by omega), ite_tt, a1, Option.bind_some, decide_eq_true a5, ite_tt, a2, ite_ff, r_coming T hs, Option.bind_some, ite_tt, a3, ite_tt, a4, hx, nI_one]
    unfold fnd
    by_cases c : ch s = x
    · rw [if_pos c, if_pos h1]
      rw [decide_eq_true c, ite_tt] at hb
      exact itr_r hb
    · rw [if_neg c]
      rw [decide_eq_false c, ite_ff] at hb
      rw [itr_l hb]
      exact r_oneOf T hs H0 l (i + 1) k hdd h1 hn (by simp at hk; omega)
theorem e_oneOf (T : TC M L ch) {s : Nat} (hs : s ≤ L) {n fst : Nat} {fs : List Int32} (H : ofOK n fst fs) (hn : n < 100) : f_Reader_oneOf_77 (nI n) (nI fst) (pl M s) = some (if fnd (ch s) fs 0 < n then Sum.elim (fun e => (-1, pl M e)) (fun s' => (nI (fnd (ch s) fs 0), pl M s')) (lit ch (sr_byt.getD (fst + fnd (ch s) fs 0) []) s) else (-1, pl M s)) := by
  have h1 := r_oneOf T hs H fs 0 FU rfl (Nat.zero_le _) hn (by rw [H.1]; unfold FU; omega)
  unfold f_Reader_oneOf_77
  show (itr _ FU (nI 0)).bind _ = _
  rw [h1, Option.bind_some]
  by_cases c : fnd (ch s) fs 0 < n
  · rw [if_pos c, if_pos c]
    show (f_Reader_passes_77 _ _).bind _ = _
    rw [e_passes T (H.2 _ c).2.2.2.2 hs, Option.bind_some]
    cases lit ch (sr_byt.getD (fst + fnd (ch s) fs 0) []) s <;> rfl
  · rw [if_neg c, if_neg c]; rfl
def elX : (Mem ⊕ Mem ⊕ Mem ⊕ Mem) → Option (Bool × Mem) := Sum.elim (fun (y32 : Mem) => some (false, y32)) (Sum.elim (fun (y33 : Mem) => some (false, y33)) (Sum.elim (fun (y34 : Mem) => some (true, y34)) (fun (y35 : Mem) => some (false, y35))))
theorem RS.pop {s : Nat} {o : Int32} {W out : List Int32} (R : RS b M s (o :: W) out) : RS b (wI M 77 2 (nI W.length)) s W out := by
  obtain ⟨g1, g2, g3, g4, g5⟩ := R
  refine ⟨rde, g2, g3, fun i hi => ?_, g5⟩
  rw [show (wI M 77 2 (nI W.length)).1 78 i = M.1 78 i from rfl, g4 i (by rw [List.length_cons]; omega), List.length_cons, show W.length + 1 - 1 - i = (W.length - 1 - i) + 1 by omega]; rfl
theorem RS.dep {s : Nat} {o : Int32} {W out : List Int32} (R : RS b M s (o :: W) out) (h : W.length < 1000) : wI M 77 2 (M.1 77 2 - 1) = wI M 77 2 (nI W.length) := by
  rw [R.1, List.length_cons, show nI (W.length + 1) - 1 = nI W.length from nI_subn (a := W.length + 1) (b := 1) (by omega) (by omega)]
theorem RS.opn {s : Nat} {o : Int32} {W out : List Int32} (R : RS b M s (o :: W) out) (h : W.length < 120) : atv (M.1 78) 120 (M.1 77 2 - 1) = o := by
  rw [R.1, List.length_cons, show nI (W.length + 1) - 1 = nI W.length from nI_subn (a := W.length + 1) (b := 1) (by omega) (by omega), atv_nI h (by omega), R.2.2.2.1 _ (by rw [List.length_cons]; omega), List.length_cons, show W.length + 1 - 1 - W.length = 0 by omega]; rfl
theorem e_goesOn {s : Nat} {o : Int32} {W out : List Int32} (R : RS b M s (o :: W) out) (hl : b + out.length < 1080) (hW : W.length < 120) (c : Int32) : (∀ d' s' W' out', syG c s (o :: W) out = .inl (d', s', W', out') → ∃ M', f_Reader_goesOn_77 o c M = some (true, M') ∧ RS b M' s' W' out' ∧ Fr (sRd b) M M' ∧ s' = s + 1 ∧ out'.length + W'.length ≤ out.length + W.length + 1 ∧ d' = (decide (c = 58) || decide (c = 44))) ∧ ∀ ok s' out', syG c s (o :: W) out = .inr (ok, s', out') → f_Reader_goesOn_77 o c M = some (false, M) ∧ ok = false ∧ s' = s ∧ out' = out := by
  have hdep := R.dep (by omega)
  have R1 := R.pop
  have F1 : Fr (sRd b) M (wI M 77 2 (nI W.length)) := (Fr.refl M).wI rfl
  unfold syG f_Reader_goesOn_77 jn_ jv_
  dsimp only
  by_cases c1 : c = 41
  · subst c1
    by_cases c2 : o = 40
    · subst c2
      refine ⟨fun d' s' W' out' h => ?_, fun ok s' out' h => by (rw [if_pos ⟨rfl, rfl⟩] at h; cases h)⟩
      rw [if_pos ⟨rfl, rfl⟩] at h
      cases h
      refine ⟨wI (wI M 77 2 (nI W.length)) 77 3 (nI (s + 1)), ?_, R1.pl (s + 1), F1.wI rfl, rfl, by omega, rfl⟩
      rw [hdep]
      show some (true, wI (wI M 77 2 (nI W.length)) 77 3 ((wI M 77 2 (nI W.length)).1 77 3 + 1)) = _
      rw [R1.2.1, nI_one]
    · refine ⟨fun d' s' W' out' h => ?_, fun ok s' out' h => ?_⟩
      · rw [if_neg (fun h => c2 h.2), if_neg (fun h => absurd h.1 (by decide)), if_neg (fun h => by rcases h with h | h <;> exact absurd h.1 (by decide))] at h
        cases h
      · rw [if_neg (fun h => c2 h.2), if_neg (fun h => absurd h.1 (by decide)), if_neg (fun h => by rcases h with h | h <;> exact absurd h.1 (by decide))] at h
        cases h
        refine ⟨?_, rfl, rfl, rfl⟩
        rw [decide_eq_false c2]; rfl
  · by_cases c2 : c = 93
    · subst c2
      by_cases c3 : o ≤ 256
      · have hn : ∀ q : SS ⊕ SE, (if (93 : Int32) = 41 ∧ o = 40 then .inl (false, s + 1, W, out) else if (93 : Int32) = 93 ∧ ¬ o ≤ 256 then .inl (false, s + 1, W, out ++ [-10 - (o - 256)]) else if ((93 : Int32) = 58 ∧ o = 256) ∨ ((93 : Int32) = 44 ∧ ¬ o ≤ 256 ∧ o < 260) then .inl (true, s + 1, (o + 1) :: W, out) else .inr (false, s, out)) = q → q = .inr (false, s, out) := fun q h => by
          rw [if_neg (fun h => c1 h.1), if_neg (fun h => h.2 c3), if_neg (fun h => by rcases h with h | h <;> exact absurd h.1 (by decide))] at h
          exact h.symm
        refine ⟨fun d' s' W' out' h => ?_, fun ok s' out' h => ?_⟩
        · have := hn _ h; cases this
        · have := hn _ h
          cases this
          refine ⟨?_, rfl, rfl, rfl⟩
          rw [decide_eq_true c3]; rfl
      · refine ⟨fun d' s' W' out' h => ?_, fun ok s' out' h => by (rw [if_neg (fun h => c1 h.1), if_pos ⟨rfl, c3⟩] at h; cases h)⟩
        rw [if_neg (fun h => c1 h.1), if_pos ⟨rfl, c3⟩] at h
        cases h
        obtain ⟨M2, e1, e2, e3⟩ := r_emit R1 hl (-10 - (o - 256))
        refine ⟨wI M2 77 3 (nI (s + 1)), ?_, e2.pl (s + 1), (F1.trans e3).wI rfl, rfl, by simp; omega, rfl⟩
        rw [decide_eq_false c3, hdep]
        rw [show (if decide ((93 : Int32) = 41) = true then decide (o = 40) || decide ((93 : Int32) = 93) && !false else decide ((93 : Int32) = 93) && !false) = true from rfl, ite_tt, show decide ((93 : Int32) = 93) = true from rfl, ite_tt]
        rw [show (if decide ((93 : Int32) = 58) = true then decide (o = 256) || decide ((93 : Int32) = 44) && (!false && decide (o < 260)) else decide ((93 : Int32) = 44) && (!false && decide (o < 260))) = false from rfl]
        rw [e1, Option.bind_some, ite_ff, e2.2.1, nI_one]
    · have hu3 : (if decide (c = 41) = true then decide (o = 40) || decide (c = 93) && !decide (o ≤ 256) else decide (c = 93) && !decide (o ≤ 256)) = false := by
        rw [decide_eq_false c1, decide_eq_false c2]; rfl
      rw [hu3]
      by_cases c3 : (c = 58 ∧ o = 256) ∨ (c = 44 ∧ ¬ o ≤ 256 ∧ o < 260)
      · refine ⟨fun d' s' W' out' h => ?_, fun ok s' out' h => by (rw [if_neg (fun h => c1 h.1), if_neg (fun h => c2 h.1), if_pos c3] at h; cases h)⟩
        rw [if_neg (fun h => c1 h.1), if_neg (fun h => c2 h.1), if_pos c3] at h
        cases h
        obtain ⟨M2, e1, e2, e3⟩ := r_await R1 (by omega) (o + 1)
        have hu6 : (if decide (c = 58) = true then decide (o = 256) || decide (c = 44) && (!decide (o ≤ 256) && decide (o < 260)) else decide (c = 44) && (!decide (o ≤ 256) && decide (o < 260))) = true := by
          rcases c3 with ⟨rfl, rfl⟩ | ⟨rfl, h2, h3⟩
          · rfl
          · rw [decide_eq_false h2, decide_eq_true h3]; rfl
        refine ⟨M2, ?_, e2, F1.trans e3, rfl, by rw [List.length_cons]; omega, ?_⟩
        · rw [hu6, ite_ff, ite_tt, hdep, decide_eq_false c2, ite_ff, ite_tt, e1]; rfl
        · rcases c3 with ⟨rfl, -⟩ | ⟨rfl, -⟩ <;> rfl
      · have hu6 : (if decide (c = 58) = true then decide (o = 256) || decide (c = 44) && (!decide (o ≤ 256) && decide (o < 260)) else decide (c = 44) && (!decide (o ≤ 256) && decide (o < 260))) = false := by
          by_cases d1 : c = 58
          · have d2 : ¬ o = 256 := fun h => c3 (.inl ⟨d1, h⟩)
            rw [d1, decide_eq_false d2]; rfl
          · rw [decide_eq_false d1, ite_ff]
            by_cases d2 : c = 44
            · rw [decide_eq_true d2]
              by_cases d3 : o ≤ 256
              · rw [decide_eq_true d3]; rfl
              · have d4 : ¬ o < 260 := fun h => c3 (.inr ⟨d2, d3, h⟩)
                rw [decide_eq_false d3, decide_eq_false d4]; rfl
            · rw [decide_eq_false d2]; rfl
        refine ⟨fun d' s' W' out' h => ?_, fun ok s' out' h => ?_⟩
        · rw [if_neg (fun h => c1 h.1), if_neg (fun h => c2 h.1), if_neg c3] at h; cases h
        · rw [if_neg (fun h => c1 h.1), if_neg (fun h => c2 h.1), if_neg c3] at h
          cases h
          refine ⟨?_, rfl, rfl, rfl⟩
          rw [hu6]; rfl
theorem rd_step {due : Bool} {s st : Nat} {W out : List Int32} (T : TC M L ch) (R : RS b M s W out) (hI : out.length + W.length ≤ s ∧ s ≤ L) (hb : b + 120 ≤ 1080) (hst : st ≤ s) : (∀ d' s' W' out', sy ch (due, s, W, out) = .inl (d', s', W', out') → ∃ M', b_Reader_sum_77_9 (due, nI st, M) = some (.inl (d', nI (st + 1), M')) ∧ RS b M' s' W' out' ∧ Fr (sRd b) M M' ∧ s + 1 ≤ s' ∧ out'.length + W'.length ≤ s' ∧ s' ≤ L) ∧ ∀ ok s' out', sy ch (due, s, W, out) = .inr (ok, s', out') → ∃ M' X, b_Reader_sum_77_9 (due, nI st, M) = some (.inr X) ∧ elX X = some (ok, M') ∧ RF b M' s' out' ∧ Fr (sRd b) M M' ∧ out'.length ≤ s := by
  have hL : L ≤ 120 := T.2.1
  obtain ⟨hI1, hI2⟩ := hI
  have hM : M = pl M s := (pl_same R.2.1).symm
  have hcom := r_coming' T hI2 R.2.1
  have hbeg : ∀ o, b_Reader_sum_77_9 (due, nI st, M) = o → b_Reader_sum_77_9 (due, nI st, M) = o := fun o h => h
  unfold sy
  dsimp only
  cases due
  · rw [if_neg (by decide)]
    by_cases c1 : 0 < rk (ch s)
    · rw [if_pos c1]
      refine ⟨fun d' s' W' out' h => ?_, fun ok s' out' h => by (cases h)⟩
      cases h
      have hsL : s < L := T.lt rfl (fun h => by rw [h] at c1; exact absurd c1 (by decide))
      obtain ⟨M1, e1, e2, e3⟩ := e_unload (rk_le (ch s)) R (by omega) (by omega)
      have hul := unl_len (rk (ch s)) W out
      obtain ⟨M2, g1, g2, g3⟩ := r_await e2 (by omega) (ch s)
      refine ⟨M2, ?_, g2, e3.trans g3, by omega, by rw [List.length_cons]; omega, by omega⟩
      unfold b_Reader_sum_77_9
      dsimp only
      rw [show (120 : Int32) = nI 120 from rfl, dle_t (by omega) (by omega), ite_tt, hcom, Option.bind_some, ite_ff, rk_rank, Option.bind_some, show (0 : Int32) = nI 0 from rfl, dle_f c1 (by have := rk_le (ch s); omega), ite_ff, Option.bind_some, e1, Option.bind_some, g1, Option.bind_some, nI_one]
    · rw [if_neg c1]
      have hrk0 : rk (ch s) = 0 := by omega
      obtain ⟨M1, e1, e2, e3⟩ := e_unload (r := 1) (by omega) R (by omega) (by omega)
      have hul := unl_len 1 W out
      generalize (unl 1 W out).1 = W1 at e2 hul ⊢
      generalize (unl 1 W out).2 = o1 at e2 hul ⊢
      have hbody : b_Reader_sum_77_9 (false, nI st, M) = (if decide ((M1.1 77 2) = 0) = true then (some (.inr (.inr (.inr (.inl M1))))) else ((f_Reader_goesOn_77 (atv (M1.1 78) 120 ((M1.1 77 2) - 1)) (ch s) M1).bind fun q27 => if q27.1 = true then (if decide (ch s = 58) = true then (some (.inl (true, nI (st + 1), q27.2))) else (if decide (ch s = 44) = true then (some (.inl (true, nI (st + 1), q27.2))) else (some (.inl (false, nI (st + 1), q27.2))))) else (some (.inr (.inr (.inr (.inr (q27.2)))))))) := by
        unfold b_Reader_sum_77_9
        dsimp only
        rw [show (120 : Int32) = nI 120 from rfl, dle_t (by omega) (by omega), ite_tt, hcom, Option.bind_some, ite_ff, rk_rank, Option.bind_some, hrk0, show decide (nI 0 ≤ 0) = true from rfl, ite_tt, show (1 : Int32) = nI 1 from rfl, e1, Option.bind_some, nI_addn]
      rw [hbody]
      cases W1 with
      | nil =>
        refine ⟨fun d' s' W' out' h => by (cases h), fun ok s' out' h => ?_⟩
        cases h
        refine ⟨M1, .inr (.inr (.inl M1)), ?_, rfl, e2.rf, e3, by simp at hul; omega⟩
        rw [e2.1]; rfl
      | cons o W1 =>
        rw [List.length_cons] at hul
        have hd0 : decide (M1.1 77 2 = 0) = false := by
          rw [e2.1, List.length_cons]; exact nI_eq0 (by omega) (by omega)
        rw [hd0, ite_ff, e2.opn (by omega)]
        obtain ⟨k1, k2⟩ := e_goesOn e2 (by omega) (by omega) (ch s)
        refine ⟨fun d' s' W' out' h => ?_, fun ok s' out' h => ?_⟩
        · obtain ⟨M2, g1, g2, g3, g4, g5, g6⟩ := k1 d' s' W' out' h
          have hsL : s < L := by
            apply Nat.lt_of_not_le
            intro hle
            have hm1 : ch s = -1 := by rw [T.2.2 s, if_neg (by omega)]
            rw [hm1] at h
            unfold syG at h
            dsimp only at h
            rw [if_neg (fun h => absurd h.1 (by decide)), if_neg (fun h => absurd h.1 (by decide)), if_neg (fun h => by rcases h with h | h <;> exact absurd h.1 (by decide))] at h
            cases h
          refine ⟨M2, ?_, g2, e3.trans g3, by omega, by omega, by omega⟩
          rw [g1, Option.bind_some, g6]
          dsimp only
          rw [ite_tt]
          by_cases c3 : ch s = 58
          · rw [decide_eq_true c3]; rfl
          · rw [decide_eq_false c3]
            by_cases c4 : ch s = 44
            · rw [decide_eq_true c4]; rfl
            · rw [decide_eq_false c4]; rfl
        · obtain ⟨g1, rfl, rfl, rfl⟩ := k2 ok s' out' h
          refine ⟨M1, .inr (.inr (.inr M1)), ?_, rfl, e2.rf, e3, by omega⟩
          rw [g1]; rfl
  · rw [if_pos rfl]
    have hbody : b_Reader_sum_77_9 (true, nI st, M) = (if (decide (ch s = 40) || decide (ch s = 91)) = true then ((f_Reader_await_77 (if decide (ch s = 91) = true then 256 else ch s) M).bind fun q13 => some (.inl ((decide (ch s = 40) || decide (ch s = 91)), nI (st + 1), q13))) else ((f_Reader_number_77 (ch s) M).bind fun q14 => if q14.1 = true then (some (.inl ((decide (ch s = 40) || decide (ch s = 91)), nI (st + 1), q14.2))) else ((f_Reader_oneOf_77 5 6 q14.2).bind fun q16 => if decide (q16.1 < 0) = true then (some (.inr (.inr (.inl q16.2)))) else ((f_Reader_emit_77 ((-1) - q16.1) q16.2).bind fun q18 => some (.inl ((decide (ch s = 40) || decide (ch s = 91)), nI (st + 1), q18)))))) := by
      unfold b_Reader_sum_77_9 jv_
      dsimp only
      rw [show (120 : Int32) = nI 120 from rfl, dle_t (by omega) (by omega), ite_tt, hcom, Option.bind_some, ite_tt, nI_one]
    rw [hbody]
    unfold syD
    by_cases c1 : ch s = 40 ∨ ch s = 91
    · rw [if_pos c1]
      have hsL : s < L := by
        rcases c1 with c1 | c1
        · exact T.lt c1 (by decide)
        · exact T.lt c1 (by decide)
      have hor : (decide (ch s = 40) || decide (ch s = 91)) = true := by
        rcases c1 with c1 | c1 <;> rw [c1] <;> rfl
      have hif : (if decide (ch s = 91) = true then (256 : Int32) else ch s) = if ch s = 91 then 256 else ch s := by
        by_cases c : ch s = 91
        · rw [decide_eq_true c, if_pos c]; rfl
        · rw [decide_eq_false c, if_neg c]; rfl
      refine ⟨fun d' s' W' out' h => ?_, fun ok s' out' h => by (cases h)⟩
      cases h
      obtain ⟨M2, g1, g2, g3⟩ := r_await R (by omega) (if ch s = 91 then 256 else ch s)
      refine ⟨M2, ?_, g2, g3, by omega, by rw [List.length_cons]; omega, by omega⟩
      rw [hor, ite_tt, hif, g1]; rfl
    · rw [if_neg c1]
      have hor : (decide (ch s = 40) || decide (ch s = 91)) = false := by
        rw [decide_eq_false (fun h => c1 (.inl h)), decide_eq_false (fun h => c1 (.inr h))]; rfl
      rw [hor, ite_ff]
      by_cases c2 : wthn (ch s) 48 57 = true
      · rw [if_pos c2]
        have hsL := T.lt rfl (fun h => by rw [h] at c2; exact absurd c2 (by decide))
        have hle := nmb_hi (ch := ch) (L := L) (fun s h => by rw [T.2.2 s, if_neg (by omega)]) 3 (s + 1) (ch s - 48) (by omega)
        refine ⟨fun d' s' W' out' h => ?_, fun ok s' out' h => by (cases h)⟩
        cases h
        obtain ⟨M2, g1, g2, g3⟩ := e_number T R hI2 (by omega) c2
        refine ⟨M2, ?_, g2, g3, by omega, by simp; omega, by omega⟩
        rw [g1]; rfl
      · rw [if_neg c2, e_number_no c2, Option.bind_some]
        dsimp only
        rw [ite_ff]
        have ho := e_oneOf T hI2 of_nm (by omega)
        rw [← hM, ← nmOf_fnd] at ho
        rw [show (5 : Int32) = nI 5 from rfl, show (6 : Int32) = nI 6 from rfl, ho, Option.bind_some]
        by_cases c4 : nmOf (ch s) < 5
        · rw [if_pos c4, if_pos c4]
          have hne : ∀ c ∈ nmS (nmOf (ch s)), c ≠ -1 := sr_nm1 (6 + nmOf (ch s)) (by omega)
          have hpos : 0 < (nmS (nmOf (ch s))).length := by
            have : ∀ i, i < 5 → 0 < (nmS i).length := by decide +kernel
            exact this _ c4
          have hnn : nmS (nmOf (ch s)) ≠ [] := fun h => by rw [h] at hpos; exact absurd hpos (by decide)
          show (∀ d' s' W' out', Sum.elim _ _ (lit ch (nmS (nmOf (ch s))) s) = _ → _) ∧ ∀ ok s' out', Sum.elim _ _ (lit ch (nmS (nmOf (ch s))) s) = _ → _
          have e0 : sr_byt.getD (6 + nmOf (ch s)) [] = nmS (nmOf (ch s)) := rfl
          rw [e0]
          cases hl : lit ch (nmS (nmOf (ch s))) s with
          | inl e =>
            refine ⟨fun d' s' W' out' h => by (cases h), fun ok s' out' h => ?_⟩
            cases h
            exact ⟨pl M e, .inr (.inl (pl M e)), rfl, rfl, (R.pl e).rf, (Fr.refl M).wI rfl, by omega⟩
          | inr s1 =>
            have h1 := lit_len ch _ _ _ hl
            have h2 := lit_hi (ch := ch) (L := L) (fun s h => by rw [T.2.2 s, if_neg (by omega)]) _ _ _ hne hnn hl
            refine ⟨fun d' s' W' out' h => ?_, fun ok s' out' h => by (cases h)⟩
            cases h
            obtain ⟨M2, g1, g2, g3⟩ := r_emit (R.pl s1) (by omega) (-1 - nI (nmOf (ch s)))
            refine ⟨M2, ?_, g2, ((Fr.refl M).wI rfl).trans g3, by omega, by simp; omega, by omega⟩
            show (if decide (nI (nmOf (ch s)) < 0) = true then _ else (f_Reader_emit_77 (-1 - nI (nmOf (ch s))) (pl M s1)).bind _) = _
            rw [nI_nneg (by omega), ite_ff, g1]; rfl
        · rw [if_neg c4, if_neg c4]
          refine ⟨fun d' s' W' out' h => by (cases h), fun ok s' out' h => ?_⟩
          cases h
          exact ⟨M, .inr (.inl M), rfl, rfl, R.rf, Fr.refl M, by omega⟩
theorem rd_go (hb : b + 120 ≤ 1080) : ∀ (k : Nat) (x y : SS) (M : Mem) (st n : Nat), Gok ch k x y → TC M L ch → RS b M x.2.1 x.2.2.1 x.2.2.2 → x.2.2.2.length + x.2.2.1.length ≤ x.2.1 → x.2.1 ≤ L → st ≤ x.2.1 → ∃ M' st', itr b_Reader_sum_77_9 (n + k) (x.1, nI st, M) = itr b_Reader_sum_77_9 n (y.1, nI st', M') ∧ TC M' L ch ∧ RS b M' y.2.1 y.2.2.1 y.2.2.2 ∧ y.2.2.2.length + y.2.2.1.length ≤ y.2.1 ∧ y.2.1 ≤ L ∧ st' ≤ y.2.1 ∧ Fr (sRd b) M M' ∧ x.2.1 + k ≤ y.2.1
  | 0, x, y, M, st, n, h, T, R, h1, h2, h3 => by
    cases (show x = y from h)
    exact ⟨M, st, rfl, T, R, h1, h2, h3, Fr.refl M, Nat.le_refl _⟩
  | k + 1, (d, s, W, out), y, M, st, n, ⟨(d', s', W', out'), hz, hg⟩, T, R, h1, h2, h3 => by
    dsimp only at R h1 h2 h3
    obtain ⟨M1, e1, e2, e3, e4, e5, e6⟩ := (rd_step T R ⟨h1, h2⟩ hb h3).1 d' s' W' out' hz
    obtain ⟨M2, st2, g1, g2, g3, g4, g5, g6, g7, g8⟩ := rd_go hb k (d', s', W', out') y M1 (st + 1) n hg (T.fr e3) e2 e5 e6 (by dsimp only; omega)
    refine ⟨M2, st2, ?_, g2, g3, g4, g5, g6, e3.trans g7, by dsimp only at g8 ⊢; omega⟩
    rw [show n + (k + 1) = (n + k) + 1 by omega, itr_l e1]
    exact g1
/-- class's sum: reads what the parser reads -/
theorem e_sum (T : TC M L ch) {s : Nat} {out : List Int32} (R : RF b M s out) (ho : out.length ≤ s) (hs : s ≤ L) (hb : b + 120 ≤ 1080) : (∀ e, PC ch 500 0 s = .inl e → ∃ M' out', f_Reader_sum_77 M = some (false, M') ∧ RF b M' e out' ∧ Fr (sRd b) M M') ∧ ∀ s' c, PC ch 500 0 s = .inr (s', c) → s < s' ∧ s' ≤ L ∧ (out ++ c).length ≤ s' ∧ ∃ M', f_Reader_sum_77 M = some (true, M') ∧ RF b M' s' (out ++ c) ∧ Fr (sRd b) M M' := by
  have hL := T.2.1
  have hc : ∀ s, L ≤ s → ch s = -1 := fun s h => by rw [T.2.2 s, if_neg (by omega)]
  have F1 : Fr (sRd b) M (wI M 77 2 0) := (Fr.refl M).wI rfl
  have R1 : RS b (wI M 77 2 0) s [] out := ⟨rfl, R.1, R.2.1, fun i h => absurd h (by simp), R.2.2⟩
  obtain ⟨w1, w2⟩ := sy_whole hc hL hs out
  have key : ∀ y ok s' out', Gs ch (true, s, [], out) y → sy ch y = .inr (ok, s', out') → ∃ M', f_Reader_sum_77 M = some (ok, M') ∧ RF b M' s' out' ∧ Fr (sRd b) M M' ∧ out'.length ≤ y.2.1 := fun y ok s' out' ⟨k, hk⟩ hy => by
    obtain ⟨yd, ys, yW, yo⟩ := y
    obtain ⟨M1, st1, g1, g2, g3, g4, g5, g6, g7, g8⟩ := rd_go hb k (true, s, [], out) (yd, ys, yW, yo) (wI M 77 2 0) 0 (FU - k) hk (T.fr F1) R1 (by simpa using ho) hs (Nat.zero_le _)
    dsimp only at g1 g3 g4 g5 g6 g8
    obtain ⟨M2, X, h1, h2, h3, h4, h5⟩ := (rd_step g2 g3 ⟨g4, g5⟩ hb g6).2 ok s' out' hy
    refine ⟨M2, ?_, h3, (F1.trans g7).trans h4, h5⟩
    unfold f_Reader_sum_77 jv_
    show ((itr b_Reader_sum_77_9 FU (true, nI 0, wI M 77 2 0)).bind elX) = _
    have hF : FU = (FU - k - 1) + 1 + k := by unfold FU; omega
    have hF2 : FU - k = (FU - k - 1) + 1 := by unfold FU; omega
    rw [hF2] at g1
    rw [hF, g1, itr_r h1, Option.bind_some, h2]
  refine ⟨fun e h => ?_, fun s' c h => ?_⟩
  · obtain ⟨y, out', h1, h2⟩ := w1 e h
    obtain ⟨M', k1, k2, k3, -⟩ := key y false e out' h1 h2
    exact ⟨M', out', k1, k2, k3⟩
  · obtain ⟨g1, g2, y, h1, h2⟩ := w2 s' c h
    obtain ⟨M', k1, k2, k3, k4⟩ := key y true s' (out ++ c) h1 h2
    have hys : y.2.1 ≤ s' := by
      obtain ⟨yd, ys, yW, yo⟩ := y
      unfold sy at h2
      dsimp only at h2 ⊢
      cases yd
      · rw [if_neg (by decide)] at h2
        by_cases c1 : 0 < rk (ch ys)
        · rw [if_pos c1] at h2; cases h2
        · rw [if_neg c1] at h2
          unfold syG at h2
          cases hW : (unl 1 yW yo).1 with
          | nil =>
            rw [hW] at h2
            have h3 := Sum.inr.inj h2
            have h4 : ys = s' := (Prod.mk.inj (Prod.mk.inj h3).2).1
            omega
          | cons o W1 =>
            rw [hW] at h2
            dsimp only at h2
            split at h2
            · cases h2
            · split at h2
              · cases h2
              · split at h2
                · cases h2
                · cases h2
      · rw [if_pos rfl] at h2
        unfold syD at h2
        split at h2
        · cases h2
        · split at h2
          · cases h2
          · split at h2
            · cases hl : lit ch (nmS (nmOf (ch ys))) ys with
              | inl e => rw [hl] at h2; cases h2
              | inr e => rw [hl] at h2; cases h2
            · cases h2
    exact ⟨g1, g2, by omega, M', k1, k2, k3⟩
end RQ
