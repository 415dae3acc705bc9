/-- codes' algebra -/
def cNu (x : Int32) : List Int32 := [x]
def cNa (i : Nat) : List Int32 := [-1 - nI i]
def cBi (o : Int32) (a b : List Int32) : List Int32 := a ++ (b ++ [o])
def cSt (u : List Int32) (l : List (List Int32)) : List Int32 := u ++ (l.flatten ++ [-10 - nI l.length])
abbrev PC (ch : Nat → Int32) : Nat → Nat → Nat → PR (List Int32) := PP ch cNu cNa cBi cSt
abbrev PV (ch N : Nat → Int32) : Nat → Nat → Nat → PR Int32 := PP ch (fun x => x) N biV stV
def pu : List Int32 → Nat
  | [] => 0
  | x :: t => (if x ≤ -6 then 0 else 1) + pu t
theorem pu_app : ∀ a b : List Int32, pu (a ++ b) = pu a + pu b
  | [], b => by rw [List.nil_append]; unfold pu; omega
  | x :: t, b => by
    show (if x ≤ -6 then 0 else 1) + pu (t ++ b) = (if x ≤ -6 then 0 else 1) + pu t + pu b
    rw [pu_app t b]; omega
def stp1 (N : Nat → Int32) (code : Int32) (st : List Int32) : Option (List Int32) :=
  if code < -10 then (if (-10 - code).toNatClampNeg < st.length then some (stV (st.getD (-10 - code).toNatClampNeg 0) (st.take (-10 - code).toNatClampNeg).reverse :: st.drop ((-10 - code).toNatClampNeg + 1)) else none)
  else if code ≤ -6 then (match st with
    | b :: a :: r => some (biV code a b :: r)
    | _ => none)
  else some ((if code < 0 then N (-1 - code).toNatClampNeg else code) :: st)
def ev (N : Nat → Int32) : List Int32 → List Int32 → Option (List Int32)
  | [], st => some st
  | x :: t, st => (stp1 N x st).bind (ev N t)
theorem ev_app (N : Nat → Int32) : ∀ (a b st : List Int32), ev N (a ++ b) st = (ev N a st).bind (ev N b)
  | [], b, st => rfl
  | x :: t, b, st => by
    show (stp1 N x st).bind (ev N (t ++ b)) = ((stp1 N x st).bind (ev N t)).bind (ev N b)
    cases stp1 N x st with
    | none => rfl
    | some y => exact ev_app N t b y
section RO
variable (N : Nat → Int32)
/-- codes and value of what stands from s to s' -/
def ro (s s' : Nat) (c : List Int32) (v : Int32) : Prop := s < s' ∧ 2 * pu c ≤ s' - s + 1 ∧ c.length ≤ s' - s ∧ c ≠ [] ∧ ∀ st, ev N c st = some (v :: st)
def rol (s s' : Nat) (c : List (List Int32)) (v : List Int32) : Prop := s < s' ∧ c.length = v.length ∧ 2 * pu c.flatten ≤ s' - s + 1 ∧ c.flatten.length ≤ s' - s ∧ ∀ st, ev N c.flatten st = some (v.reverse ++ st)
variable {N}
theorem ro_bin {s a b : Nat} {c1 c2 : List Int32} {v1 v2 o : Int32} (h1 : ro N s a c1 v1) (h2 : ro N (a + 1) b c2 v2) (ho : o = -6 ∨ o = -7 ∨ o = -8 ∨ o = -9) : ro N s b (cBi o c1 c2) (biV o v1 v2) := by
  obtain ⟨a1, a2, a3, a4, a5⟩ := h1
  obtain ⟨b1, b2, b3, b4, b5⟩ := h2
  have hp : pu [o] = 0 := by rcases ho with rfl | rfl | rfl | rfl <;> decide
  unfold cBi
  refine ⟨by omega, ?_, ?_, by simp [a4], fun st => ?_⟩
  · rw [pu_app, pu_app, hp]; omega
  · rw [List.length_append, List.length_append]; show _ + (_ + 1) ≤ _; omega
  · rw [ev_app, a5, Option.bind_some, ev_app, b5, Option.bind_some]
    show (stp1 N o (v2 :: v1 :: st)).bind (ev N []) = _
    have h : stp1 N o (v2 :: v1 :: st) = some (biV o v1 v2 :: st) := by
      unfold stp1
      rw [if_neg (by rcases ho with rfl | rfl | rfl | rfl <;> decide), if_pos (by rcases ho with rfl | rfl | rfl | rfl <;> decide)]
    rw [h]; rfl
theorem ro_par {s a : Nat} {c : List Int32} {v : Int32} (h1 : ro N (s + 1) a c v) : ro N s (a + 1) c v := by
  obtain ⟨a1, a2, a3, a4, a5⟩ := h1
  exact ⟨by omega, by omega, by omega, a4, a5⟩
theorem ro_push {s s' : Nat} {x v : Int32} (h : s < s') (h2 : stp1 N x = fun st => some (v :: st)) (hx : ¬ x ≤ -6) : ro N s s' [x] v := by
  refine ⟨h, ?_, by show 1 ≤ _; omega, by simp, fun st => ?_⟩
  · show 2 * ((if x ≤ -6 then 0 else 1) + 0) ≤ _
    rw [if_neg hx]; omega
  · show (stp1 N x st).bind (ev N []) = _
    rw [h2]; rfl
theorem ro_num {s s' w : Nat} (h : s < s') (hw : w < 2147483648) : ro N s s' (cNu (nI w)) (nI w) := by
  have h1 : ¬ nI w < -10 := by rw [i_lt, nI_toI hw, show (-10 : Int32).toInt = -10 from rfl]; omega
  have h2 : ¬ nI w ≤ -6 := by rw [i_le, nI_toI hw, show (-6 : Int32).toInt = -6 from rfl]; omega
  have h3 : ¬ nI w < 0 := by rw [i_lt, nI_toI hw, i_0]; omega
  refine ro_push h ?_ h2
  funext st
  unfold stp1
  rw [if_neg h1, if_neg h2, if_neg h3]
theorem ro_name {s s' i : Nat} (h : s < s') (hi : i < 5) : ro N s s' (cNa i) (N i) := by
  have h1 : ∀ i, i < 5 → ¬ (-1 - nI i) < -10 := by decide +kernel
  have h2 : ∀ i, i < 5 → ¬ (-1 - nI i) ≤ -6 := by decide +kernel
  have h3 : ∀ i, i < 5 → (-1 - nI i) < 0 := by decide +kernel
  have h4 : ∀ i, i < 5 → (-1 - (-1 - nI i)).toNatClampNeg = i := by decide +kernel
  refine ro_push h ?_ (h2 i hi)
  funext st
  unfold stp1
  rw [if_neg (h1 i hi), if_neg (h2 i hi), if_pos (h3 i hi), h4 i hi]
theorem rol_one {s s' : Nat} {c : List Int32} {v : Int32} (h : ro N s s' c v) : rol N s s' ([] ++ [c]) ([] ++ [v]) := by
  obtain ⟨a1, a2, a3, a4, a5⟩ := h
  refine ⟨a1, rfl, ?_, ?_, fun st => ?_⟩
  · simpa using a2
  · simpa using a3
  · simpa using a5 st
theorem rol_more {s a b : Nat} {cl : List (List Int32)} {vl c : List Int32} {v : Int32} (h1 : rol N s a cl vl) (h : ro N (a + 1) b c v) : rol N s b (cl ++ [c]) (vl ++ [v]) := by
  obtain ⟨a1, a2, a3, a4, a5⟩ := h1
  obtain ⟨b1, b2, b3, b4, b5⟩ := h
  have e : (cl ++ [c]).flatten = cl.flatten ++ c := by simp
  refine ⟨by omega, by rw [List.length_append, List.length_append, a2]; rfl, ?_, ?_, fun st => ?_⟩
  · rw [e, pu_app]; omega
  · rw [e, List.length_append]; omega
  · rw [e, ev_app, a5, Option.bind_some, b5]; simp
theorem ro_steps {s s1 s2 : Nat} {u : List Int32} {w : Int32} {cl : List (List Int32)} {vl : List Int32} (hu : ro N (s + 1) s1 u w) (hl : rol N (s1 + 1) s2 cl vl) (h1 : 1 ≤ vl.length) (h4 : vl.length ≤ 4) : ro N s (s2 + 1) (cSt u cl) (stV w vl) := by
  obtain ⟨a1, a2, a3, a4, a5⟩ := hu
  obtain ⟨b1, b2, b3, b4, b5⟩ := hl
  have q1 : ∀ n, n < 5 → 1 ≤ n → (-10 - nI n) < -10 := by decide +kernel
  have q2 : ∀ n, n < 5 → (-10 - (-10 - nI n)).toNatClampNeg = n := by decide +kernel
  have q3 : ∀ n, n < 5 → (-10 - nI n) ≤ -6 := by decide +kernel
  unfold cSt
  rw [b2]
  refine ⟨by omega, ?_, ?_, by simp [a4], fun st => ?_⟩
  · rw [pu_app, pu_app]
    have : pu [-10 - nI vl.length] = 0 := by
      unfold pu
      rw [if_pos (q3 _ (by omega))]; rfl
    omega
  · rw [List.length_append, List.length_append]; show _ + (_ + 1) ≤ _; omega
  · rw [ev_app, a5, Option.bind_some, ev_app, b5, Option.bind_some]
    show (stp1 N _ (vl.reverse ++ w :: st)).bind (ev N []) = _
    have h : stp1 N (-10 - nI vl.length) (vl.reverse ++ w :: st) = some (stV w vl :: st) := by
      unfold stp1
      have e1 : (vl.reverse ++ w :: st).take vl.length = vl.reverse := by
        rw [List.take_append_of_le_length (by simp), List.take_of_length_le (by simp)]
      have e2 : (vl.reverse ++ w :: st).getD vl.length 0 = w := by
        rw [List.getD_eq_getElem?_getD, List.getElem?_append_right (by simp)]
        simp
      have e3 : (vl.reverse ++ w :: st).drop (vl.length + 1) = st := by
        rw [List.drop_append, List.drop_of_length_le (by simp)]
        simp
      rw [if_pos (q1 _ (by omega) h1), q2 _ (by omega), if_pos (by simp), e1, e2, e3, List.reverse_reverse]
    rw [h]; rfl
theorem lit_len (ch : Nat → Int32) : ∀ (l : List Int32) (s s' : Nat), lit ch l s = .inr s' → s' = s + l.length
  | [], s, s', h => by cases h; rfl
  | b :: l, s, s', h => by
    unfold lit at h
    by_cases c : ch s = b
    · rw [if_pos c] at h
      have := lit_len ch l (s + 1) s' h
      rw [List.length_cons]; omega
    · rw [if_neg c] at h; cases h
theorem dig_nI {x : Int32} (h : wthn x 48 57 = true) : ∃ c, 48 ≤ c ∧ c ≤ 57 ∧ x = nI c := by
  have h1 := wthn_iff.mp h
  rw [show (48 : Int32).toInt = 48 from rfl, show (57 : Int32).toInt = 57 from rfl] at h1
  have h2 : inb x 58 = true := inb_iff.mpr ⟨by omega, by omega⟩
  obtain ⟨e, l⟩ := nI_of_inb h2
  refine ⟨x.toNatClampNeg, ?_, by omega, e⟩
  rw [e, nI_toI (by omega)] at h1; omega
theorem nmb_val (ch : Nat → Int32) : ∀ (k s w : Nat), k ≤ 3 → w * 10 ^ k < 10000 → w < 10 ^ (4 - k) → ∃ w', w' < 10000 ∧ (nmb ch k s (nI w)).2 = nI w' ∧ s ≤ (nmb ch k s (nI w)).1
  | 0, s, w, _, h, h2 => ⟨w, by omega, rfl, Nat.le_refl _⟩
  | k + 1, s, w, hk, h, h2 => by
    unfold nmb
    by_cases c : wthn (ch s) 48 57 = true ∧ ¬ nI w ≤ 0
    · rw [if_pos c]
      obtain ⟨x, x1, x2, x3⟩ := dig_nI c.1
      have hw : w < 10000 := Nat.lt_of_lt_of_le h2 (Nat.pow_le_pow_right (n := 10) (by decide) (show 4 - (k + 1) ≤ 4 by omega))
      have e : 10 * nI w + ch s - 48 = nI (10 * w + x - 48) := by
        rw [x3, show (10 : Int32) = nI 10 from rfl, show (48 : Int32) = nI 48 from rfl, nI_muln, nI_addn, nI_subn (by omega) (by omega)]
      rw [e]
      have hpow : (10 : Nat) ^ (4 - k) = 10 * 10 ^ (4 - (k + 1)) := by
        rw [show 4 - k = (4 - (k + 1)) + 1 by omega, Nat.pow_succ, Nat.mul_comm]
      have hpos : 0 < (10 : Nat) ^ k := Nat.pow_pos (by decide)
      have h4 : 10 * w + x - 48 < 10 ^ (4 - k) := by rw [hpow]; omega
      have h5 : (10 : Nat) ^ (4 - k) * 10 ^ k = 10000 := by rw [← Nat.pow_add, show 4 - k + k = 4 by omega]
      obtain ⟨w', g1, g2, g3⟩ := nmb_val ch k (s + 1) (10 * w + x - 48) (by omega) (by rw [← h5]; exact Nat.mul_lt_mul_of_pos_right h4 hpos) h4
      exact ⟨w', g1, g2, by omega⟩
    · rw [if_neg c]
      exact ⟨w, Nat.lt_of_lt_of_le h2 (Nat.pow_le_pow_right (n := 10) (by decide) (show 4 - (k + 1) ≤ 4 by omega)), rfl, Nat.le_refl _⟩
/-- codes against values -/
def Rr (N : Nat → Int32) (s : Nat) (r1 : PR (List Int32)) (r2 : PR Int32) : Prop := (∃ e, r1 = .inl e ∧ r2 = .inl e) ∨ ∃ s' c v, r1 = .inr (s', c) ∧ r2 = .inr (s', v) ∧ ro N s s' c v
section RR
variable {ch : Nat → Int32} {p1 : Nat → Nat → PR (List Int32)} {p2 : Nat → Nat → PR Int32}
theorem rr_lpT (hp : ∀ t s, t < 3 → Rr N s (p1 t s) (p2 t s)) (s0 : Nat) : ∀ (g s : Nat) (c : List Int32) (v : Int32), ro N s0 s c v → Rr N s0 (lpT ch cBi p1 g s c) (lpT ch biV p2 g s v)
  | 0, s, c, v, h => .inl ⟨s, rfl, rfl⟩
  | g + 1, s, c, v, h => by
    unfold lpT
    by_cases k : ch s = 42 ∨ ch s = 47
    · rw [if_pos k, if_pos k]
      rcases hp 2 (s + 1) (by omega) with ⟨e, h1, h2⟩ | ⟨s', c', v', h1, h2, h3⟩
      · exact .inl ⟨e, rb_inl h1, rb_inl h2⟩
      · rw [rb_inr h1, rb_inr h2]
        refine rr_lpT hp s0 g s' _ _ (ro_bin h h3 ?_)
        by_cases k2 : ch s = 42
        · rw [if_pos k2]; simp
        · rw [if_neg k2]; simp
    · rw [if_neg k, if_neg k]
      exact .inr ⟨s, c, v, rfl, rfl, h⟩
theorem rr_lpS (hp : ∀ t s, t < 3 → Rr N s (p1 t s) (p2 t s)) (s0 : Nat) : ∀ (g s : Nat) (c : List Int32) (v : Int32), ro N s0 s c v → Rr N s0 (lpS ch cBi p1 g s c) (lpS ch biV p2 g s v)
  | 0, s, c, v, h => .inl ⟨s, rfl, rfl⟩
  | g + 1, s, c, v, h => by
    unfold lpS
    by_cases k : ch s = 43 ∨ ch s = 45
    · rw [if_pos k, if_pos k]
      rcases hp 1 (s + 1) (by omega) with ⟨e, h1, h2⟩ | ⟨s', c', v', h1, h2, h3⟩
      · exact .inl ⟨e, rb_inl h1, rb_inl h2⟩
      · rw [rb_inr h1, rb_inr h2]
        refine rr_lpS hp s0 g s' _ _ (ro_bin h h3 ?_)
        by_cases k2 : ch s = 43
        · rw [if_pos k2]; simp
        · rw [if_neg k2]; simp
    · rw [if_neg k, if_neg k]
      exact .inr ⟨s, c, v, rfl, rfl, h⟩
theorem rr_lpP (hp : ∀ t s, t < 3 → Rr N s (p1 t s) (p2 t s)) (s0 : Nat) : ∀ (k s : Nat) (cl : List (List Int32)) (vl : List Int32), k ≤ 4 → 1 ≤ k → vl.length = 4 - k → ((cl = [] ∧ vl = [] ∧ s = s0) ∨ ∃ a, s = a + 1 ∧ rol N s0 a cl vl) → (∃ e, lpP ch p1 k s cl = .inl e ∧ lpP ch p2 k s vl = .inl e) ∨ ∃ s' c v, lpP ch p1 k s cl = .inr (s', c) ∧ lpP ch p2 k s vl = .inr (s', v) ∧ rol N s0 s' c v ∧ 1 ≤ v.length ∧ v.length ≤ 4
  | 0, s, cl, vl, _, h, _, _ => by omega
  | k + 1, s, cl, vl, hk, h1, hl, h => by
    unfold lpP
    rcases hp 0 s (by omega) with ⟨e, h2, h3⟩ | ⟨s', c', v', h2, h3, h4⟩
    · exact .inl ⟨e, rb_inl h2, rb_inl h3⟩
    · rw [rb_inr h2, rb_inr h3]
      have hr : rol N s0 s' (cl ++ [c']) (vl ++ [v']) := by
        rcases h with ⟨rfl, rfl, rfl⟩ | ⟨a, rfl, h⟩
        · exact rol_one h4
        · exact rol_more h h4
      have hlen : (vl ++ [v']).length = 4 - k := by rw [List.length_append, hl]; exact (by omega : ∀ k : Nat, k + 1 ≤ 4 → 4 - (k + 1) + 1 = 4 - k) k hk
      by_cases q : 1 ≤ k ∧ ch s' = 44
      · rw [if_pos q, if_pos q]
        exact rr_lpP hp s0 k (s' + 1) _ _ (by omega) q.1 hlen (.inr ⟨s', rfl, hr⟩)
      · rw [if_neg q, if_neg q]
        exact .inr ⟨s', _, _, rfl, rfl, hr, by omega, by omega⟩
end RR
theorem rr_all (ch : Nat → Int32) : ∀ d, (∀ t s, t < 3 → Rr N s (PC ch d t s) (PV ch N d t s)) ∧ ∀ s, Rr N s (PC ch d 3 (s + 1)) (PV ch N d 3 (s + 1))
  | 0 => ⟨fun t s _ => .inl ⟨s, rfl, rfl⟩, fun s => .inl ⟨s + 1, rfl, rfl⟩⟩
  | d + 1 => by
    obtain ⟨ih, ih3⟩ := rr_all ch d
    refine ⟨fun t s ht => ?_, fun s => ?_⟩
    · have ht : t = 0 ∨ t = 1 ∨ t = 2 := by omega
      rcases ht with rfl | rfl | rfl
      · show Rr N s (pSum ch cBi (PC ch d) s) (pSum ch biV (PV ch N d) s)
        unfold pSum
        rcases ih 1 s (by omega) with ⟨e, h2, h3⟩ | ⟨s', c', v', h2, h3, h4⟩
        · exact .inl ⟨e, rb_inl h2, rb_inl h3⟩
        · rw [rb_inr h2, rb_inr h3]
          exact rr_lpS ih s 121 s' c' v' h4
      · show Rr N s (pTerm ch cBi (PC ch d) s) (pTerm ch biV (PV ch N d) s)
        unfold pTerm
        rcases ih 2 s (by omega) with ⟨e, h2, h3⟩ | ⟨s', c', v', h2, h3, h4⟩
        · exact .inl ⟨e, rb_inl h2, rb_inl h3⟩
        · rw [rb_inr h2, rb_inr h3]
          exact rr_lpT ih s 121 s' c' v' h4
      · show Rr N s (pOne ch cNu cNa (PC ch d) s) (pOne ch (fun x => x) N (PV ch N d) s)
        unfold pOne
        by_cases c1 : wthn (ch s) 48 57 = true
        · rw [if_pos c1, if_pos c1]
          obtain ⟨x, x1, x2, x3⟩ := dig_nI c1
          have e : ch s - 48 = nI (x - 48) := by rw [x3, show (48 : Int32) = nI 48 from rfl, nI_subn (by omega) (by omega)]
          obtain ⟨w', g1, g2, g3⟩ := nmb_val ch 3 (s + 1) (x - 48) (by omega) (by show (x - 48) * 1000 < _; omega) (by show _ < 10; omega)
          rw [e]
          refine .inr ⟨_, _, _, rfl, rfl, ?_⟩
          rw [g2]
          exact ro_num (by omega) (by omega)
        · rw [if_neg c1, if_neg c1]
          by_cases c2 : ch s = 40
          · rw [if_pos c2, if_pos c2]
            rcases ih 0 (s + 1) (by omega) with ⟨e, h2, h3⟩ | ⟨s', c', v', h2, h3, h4⟩
            · exact .inl ⟨e, rb_inl h2, rb_inl h3⟩
            · rw [rb_inr h2, rb_inr h3]
              by_cases c3 : ch s' = 41
              · rw [if_pos c3, if_pos c3]
                exact .inr ⟨_, _, _, rfl, rfl, ro_par h4⟩
              · rw [if_neg c3, if_neg c3]
                exact .inl ⟨_, rfl, rfl⟩
          · rw [if_neg c2, if_neg c2]
            by_cases c3 : ch s = 91
            · rw [if_pos c3, if_pos c3]
              exact ih3 s
            · rw [if_neg c3, if_neg c3]
              by_cases c4 : nmOf (ch s) < 5
              · rw [if_pos c4, if_pos c4]
                cases hl : lit ch (nmS (nmOf (ch s))) s with
                | inl e => exact .inl ⟨e, rfl, rfl⟩
                | inr s' =>
                  have h5 := lit_len ch _ _ _ hl
                  have hpos : 0 < (nmS (nmOf (ch s))).length := by
                    have : ∀ i, i < 5 → 0 < (nmS i).length := by decide +kernel
                    exact this _ c4
                  exact .inr ⟨s', _, _, rfl, rfl, ro_name (by omega) c4⟩
              · rw [if_neg c4, if_neg c4]
                exact .inl ⟨s, rfl, rfl⟩
    · show Rr N s (pSteps ch cSt (PC ch d) (s + 1)) (pSteps ch stV (PV ch N d) (s + 1))
      unfold pSteps
      rcases ih 0 (s + 1) (by omega) with ⟨e, h2, h3⟩ | ⟨s1, c', v', h2, h3, h4⟩
      · exact .inl ⟨e, rb_inl h2, rb_inl h3⟩
      · rw [rb_inr h2, rb_inr h3]
        by_cases c : ch s1 = 58
        · rw [if_pos c, if_pos c]
          rcases rr_lpP ih (s1 + 1) 4 (s1 + 1) [] [] (by omega) (by omega) rfl (.inl ⟨rfl, rfl, rfl⟩) with ⟨e, h5, h6⟩ | ⟨s2, cl, vl, h5, h6, h7, h8, h9⟩
          · exact .inl ⟨e, rb_inl h5, rb_inl h6⟩
          · rw [rb_inr h5, rb_inr h6]
            by_cases c2 : ch s2 = 93
            · rw [if_pos c2, if_pos c2]
              exact .inr ⟨_, _, _, rfl, rfl, ro_steps h4 h7 h8 h9⟩
            · rw [if_neg c2, if_neg c2]
              exact .inl ⟨_, rfl, rfl⟩
        · rw [if_neg c, if_neg c]
          exact .inl ⟨_, rfl, rfl⟩
end RO
