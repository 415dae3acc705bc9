def rk (x : Int32) : Nat := if x = 43 then 1 else if x = 45 then 1 else if x = 42 then 2 else if x = 47 then 2 else 0
def cdO (x : Int32) : Int32 := if x = 43 then -6 else if x = 45 then -7 else if x = 42 then -8 else -9
def unl (r : Nat) : List Int32 → List Int32 → List Int32 × List Int32
  | [], out => ([], out)
  | w :: W, out => if rk w < r then (w :: W, out) else unl r W (out ++ [cdO w])
/-- class's reader: due, the place, signs that wait (the last first), codes -/
abbrev SS : Type := Bool × Nat × List Int32 × List Int32
abbrev SE : Type := Bool × Nat × List Int32
def syD (ch : Nat → Int32) (s : Nat) (W out : List Int32) : SS ⊕ SE :=
  if ch s = 40 ∨ ch s = 91 then .inl (true, s + 1, (if ch s = 91 then 256 else ch s) :: W, out)
  else if wthn (ch s) 48 57 = true then .inl (false, (nmb ch 3 (s + 1) (ch s - 48)).1, W, out ++ [(nmb ch 3 (s + 1) (ch s - 48)).2])
  else if nmOf (ch s) < 5 then Sum.elim (fun e => .inr (false, e, out)) (fun s' => .inl (false, s', W, out ++ [-1 - nI (nmOf (ch s))])) (lit ch (nmS (nmOf (ch s))) s)
  else .inr (false, s, out)
def syG (c : Int32) (s : Nat) (W out : List Int32) : SS ⊕ SE :=
  match W with
  | [] => .inr (true, s, out)
  | o :: W => if c = 41 ∧ o = 40 then .inl (false, s + 1, W, out)
    else if c = 93 ∧ ¬ o ≤ 256 then .inl (false, s + 1, W, out ++ [-10 - (o - 256)])
    else if (c = 58 ∧ o = 256) ∨ (c = 44 ∧ ¬ o ≤ 256 ∧ o < 260) then .inl (true, s + 1, (o + 1) :: W, out)
    else .inr (false, s, out)
def sy (ch : Nat → Int32) (x : SS) : SS ⊕ SE :=
  if x.1 = true then syD ch x.2.1 x.2.2.1 x.2.2.2
  else if 0 < rk (ch x.2.1) then .inl (true, x.2.1 + 1, ch x.2.1 :: (unl (rk (ch x.2.1)) x.2.2.1 x.2.2.2).1, (unl (rk (ch x.2.1)) x.2.2.1 x.2.2.2).2)
  else syG (ch x.2.1) x.2.1 (unl 1 x.2.2.1 x.2.2.2).1 (unl 1 x.2.2.1 x.2.2.2).2
def Gok (ch : Nat → Int32) : Nat → SS → SS → Prop
  | 0, x, y => x = y
  | k + 1, x, y => ∃ z, sy ch x = .inl z ∧ Gok ch k z y
def Gs (ch : Nat → Int32) (x y : SS) : Prop := ∃ k, Gok ch k x y
def Fl (ch : Nat → Int32) (x : SS) (e : Nat) : Prop := ∃ y out, Gs ch x y ∧ sy ch y = .inr (false, e, out)
section SY
variable {ch : Nat → Int32}
theorem Gok.trans : ∀ {a : Nat} {x y : SS}, Gok ch a x y → ∀ {b : Nat} {z : SS}, Gok ch b y z → Gok ch (a + b) x z
  | 0, x, y, h, b, z, h2 => by
    have h : x = y := h
    rw [Nat.zero_add, h]; exact h2
  | a + 1, x, y, ⟨w, h1, h⟩, b, z, h2 => by
    rw [show a + 1 + b = (a + b) + 1 by omega]
    exact ⟨w, h1, Gok.trans h h2⟩
theorem Gs.refl (x : SS) : Gs ch x x := ⟨0, rfl⟩
theorem Gs.trans {x y z : SS} (h1 : Gs ch x y) (h2 : Gs ch y z) : Gs ch x z := by
  obtain ⟨a, h1⟩ := h1
  obtain ⟨b, h2⟩ := h2
  exact ⟨a + b, h1.trans h2⟩
theorem Gs.one {x y : SS} (h : sy ch x = .inl y) : Gs ch x y := ⟨1, y, h, rfl⟩
theorem Gs.fl {x y : SS} {e : Nat} (h1 : Gs ch x y) (h2 : Fl ch y e) : Fl ch x e := by
  obtain ⟨z, out, h3, h4⟩ := h2
  exact ⟨z, out, h1.trans h3, h4⟩
theorem unl_all {r : Nat} : ∀ (O W out : List Int32), (∀ o ∈ O, r ≤ rk o) → (∀ w, W.head? = some w → rk w < r) → unl r (O ++ W) out = (W, out ++ O.map cdO)
  | [], [], out, _, _ => by simp [unl]
  | [], w :: W, out, _, h => by
    show (if rk w < r then (w :: W, out) else _) = _
    rw [if_pos (h w rfl)]; simp
  | o :: O, W, out, ho, h => by
    show (if rk o < r then (o :: (O ++ W), out) else unl r (O ++ W) (out ++ [cdO o])) = _
    have := ho o List.mem_cons_self
    rw [if_neg (by omega), unl_all O W _ (fun x hx => ho x (List.mem_cons_of_mem _ hx)) h]
    simp
variable {L : Nat} {pc : Nat → Nat → PR (List Int32)}
/-- what the reader does for a parser's answer -/
def K2 (ch : Nat → Int32) (L : Nat) (r : PR (List Int32)) (s : Nat) : Prop := ∀ W out, (∀ e, r = .inl e → Fl ch (true, s, W, out) e) ∧ ∀ s' c, r = .inr (s', c) → s < s' ∧ s' ≤ L ∧ Gs ch (true, s, W, out) (false, s', W, out ++ c)
def Kr (ch : Nat → Int32) (L q : Nat) (r : PR (List Int32)) (s : Nat) : Prop := ∀ W out, (∀ w, W.head? = some w → rk w < q) → (∀ e, r = .inl e → Fl ch (true, s, W, out) e) ∧ ∀ s' c, r = .inr (s', c) → s < s' ∧ s' ≤ L ∧ rk (ch s') < q ∧ ∃ O out1, Gs ch (true, s, W, out) (false, s', O ++ W, out1) ∧ out1 ++ O.map cdO = out ++ c ∧ ∀ o ∈ O, q ≤ rk o
def K3 (ch : Nat → Int32) (L : Nat) (r : PR (List Int32)) (s : Nat) : Prop := ∀ W out, (∀ e, r = .inl e → Fl ch (true, s, 256 :: W, out) e) ∧ ∀ s' c, r = .inr (s', c) → s < s' ∧ s' ≤ L ∧ Gs ch (true, s, 256 :: W, out) (false, s', W, out ++ c)
theorem sy_lpT (hc : ∀ s, L ≤ s → ch s = -1) (s0 : Nat) (hr : ∀ s, s0 ≤ s → s < L → K2 ch L (pc 2 (s + 1)) (s + 1)) : ∀ (g s : Nat) (c : List Int32), L - s < g → s ≤ L ∧ s0 ≤ s → ∀ W out, (∀ w, W.head? = some w → rk w < 2) → ∀ O out1, (∀ o ∈ O, 2 ≤ rk o) → out1 ++ O.map cdO = out ++ c → (∀ e, lpT ch cBi pc g s c = .inl e → Fl ch (false, s, O ++ W, out1) e) ∧ ∀ s' c', lpT ch cBi pc g s c = .inr (s', c') → s ≤ s' ∧ s' ≤ L ∧ rk (ch s') < 2 ∧ ∃ O' out2, Gs ch (false, s, O ++ W, out1) (false, s', O' ++ W, out2) ∧ out2 ++ O'.map cdO = out ++ c' ∧ ∀ o ∈ O', 2 ≤ rk o
  | 0, s, c, h, _, _, _, _, _, _, _, _ => by omega
  | g + 1, s, c, hg, ⟨hs, hs0⟩, W, out, hW, O, out1, hO, hout => by
    unfold lpT
    by_cases k : ch s = 42 ∨ ch s = 47
    · rw [if_pos k]
      have hsL : s < L := by
        apply Nat.lt_of_not_le
        intro h
        rw [hc s h] at k
        rcases k with k | k <;> exact absurd k (by decide)
      have hrk : rk (ch s) = 2 := by rcases k with k | k <;> rw [k] <;> rfl
      have hstep : sy ch (false, s, O ++ W, out1) = .inl (true, s + 1, ch s :: W, out ++ c) := by
        unfold sy
        dsimp only
        rw [if_neg (by decide), hrk, if_pos (by decide), unl_all O W out1 hO hW, hout]
      obtain ⟨f1, f2⟩ := hr s hs0 hsL (ch s :: W) (out ++ c)
      cases hp : pc 2 (s + 1) with
      | inl e =>
        have := (Gs.one hstep).fl (f1 e hp)
        refine ⟨fun e' h => ?_, fun s' c' h => by cases h⟩
        cases h; exact this
      | inr q =>
        obtain ⟨s', c2⟩ := q
        obtain ⟨g1, g2, g3⟩ := f2 s' c2 hp
        have hco : cdO (ch s) = if ch s = 42 then -8 else -9 := by
          rcases k with k | k <;> rw [k] <;> rfl
        obtain ⟨r1, r2⟩ := sy_lpT hc s0 hr g s' (cBi (if ch s = 42 then -8 else -9) c c2) (by omega) ⟨g2, by omega⟩ W out hW [ch s] (out ++ c ++ c2) (fun o ho => by
          rw [List.mem_singleton.mp ho, hrk]; exact Nat.le_refl _) (by
          unfold cBi
          rw [← hco]; simp)
        have hgo : Gs ch (false, s, O ++ W, out1) (false, s', [ch s] ++ W, out ++ c ++ c2) := (Gs.one hstep).trans g3
        refine ⟨fun e h => hgo.fl (r1 e h), fun s'' c' h => ?_⟩
        obtain ⟨a1, a2, a3, O', out2, a4, a5, a6⟩ := r2 s'' c' h
        exact ⟨by omega, a2, a3, O', out2, hgo.trans a4, a5, a6⟩
    · rw [if_neg k]
      refine ⟨fun e h => by (cases h), fun s' c' h => ?_⟩
      cases h
      refine ⟨Nat.le_refl _, hs, ?_, O, out1, Gs.refl _, hout, hO⟩
      unfold rk
      by_cases k1 : ch s = 43
      · rw [if_pos k1]; decide
      · rw [if_neg k1]
        by_cases k2 : ch s = 45
        · rw [if_pos k2]; decide
        · rw [if_neg k2, if_neg (fun h => k (.inl h)), if_neg (fun h => k (.inr h))]; decide
theorem sy_lpS (hc : ∀ s, L ≤ s → ch s = -1) (s0 : Nat) (hr : ∀ s, s0 ≤ s → s < L → Kr ch L 2 (pc 1 (s + 1)) (s + 1)) : ∀ (g s : Nat) (c : List Int32), L - s < g → s ≤ L ∧ s0 ≤ s → rk (ch s) < 2 → ∀ W out, (∀ w, W.head? = some w → rk w < 1) → ∀ O out1, (∀ o ∈ O, 1 ≤ rk o) → out1 ++ O.map cdO = out ++ c → (∀ e, lpS ch cBi pc g s c = .inl e → Fl ch (false, s, O ++ W, out1) e) ∧ ∀ s' c', lpS ch cBi pc g s c = .inr (s', c') → s ≤ s' ∧ s' ≤ L ∧ rk (ch s') < 1 ∧ ∃ O' out2, Gs ch (false, s, O ++ W, out1) (false, s', O' ++ W, out2) ∧ out2 ++ O'.map cdO = out ++ c' ∧ ∀ o ∈ O', 1 ≤ rk o
  | 0, s, c, h, _, _, _, _, _, _, _, _, _ => by omega
  | g + 1, s, c, hg, ⟨hs, hs0⟩, hk2, W, out, hW, O, out1, hO, hout => by
    unfold lpS
    by_cases k : ch s = 43 ∨ ch s = 45
    · rw [if_pos k]
      have hsL : s < L := by
        apply Nat.lt_of_not_le
        intro h
        rw [hc s h] at k
        rcases k with k | k <;> exact absurd k (by decide)
      have hrk : rk (ch s) = 1 := by rcases k with k | k <;> rw [k] <;> rfl
      have hstep : sy ch (false, s, O ++ W, out1) = .inl (true, s + 1, ch s :: W, out ++ c) := by
        unfold sy
        dsimp only
        rw [if_neg (by decide), hrk, if_pos (by decide), unl_all O W out1 hO hW, hout]
      obtain ⟨f1, f2⟩ := hr s hs0 hsL (ch s :: W) (out ++ c) (fun w hw => by
        cases hw; rw [hrk]; decide)
      cases hp : pc 1 (s + 1) with
      | inl e =>
        have := (Gs.one hstep).fl (f1 e hp)
        refine ⟨fun e' h => ?_, fun s' c' h => by cases h⟩
        cases h; exact this
      | inr q =>
        obtain ⟨s', c2⟩ := q
        obtain ⟨g1, g2, g3, O2, out2, g4, g5, g6⟩ := f2 s' c2 hp
        have hco : cdO (ch s) = if ch s = 43 then -6 else -7 := by
          rcases k with k | k <;> rw [k] <;> rfl
        obtain ⟨r1, r2⟩ := sy_lpS hc s0 hr g s' (cBi (if ch s = 43 then -6 else -7) c c2) (by omega) ⟨g2, by omega⟩ g3 W out hW (O2 ++ [ch s]) out2 (fun o ho => by
          rcases List.mem_append.mp ho with h | h
          · have := g6 o h; omega
          · rw [List.mem_singleton.mp h, hrk]; exact Nat.le_refl _) (by
          unfold cBi
          rw [← hco, List.map_append, ← List.append_assoc, g5]; simp)
        have hgo : Gs ch (false, s, O ++ W, out1) (false, s', (O2 ++ [ch s]) ++ W, out2) := by
          rw [show (O2 ++ [ch s]) ++ W = O2 ++ (ch s :: W) by simp]
          exact (Gs.one hstep).trans g4
        refine ⟨fun e h => hgo.fl (r1 e h), fun s'' c' h => ?_⟩
        obtain ⟨a1, a2, a3, O', out3, a4, a5, a6⟩ := r2 s'' c' h
        exact ⟨by omega, a2, a3, O', out3, hgo.trans a4, a5, a6⟩
    · rw [if_neg k]
      refine ⟨fun e h => by (cases h), fun s' c' h => ?_⟩
      cases h
      refine ⟨Nat.le_refl _, hs, ?_, O, out1, Gs.refl _, hout, hO⟩
      unfold rk at hk2 ⊢
      rw [if_neg (fun h => k (.inl h)), if_neg (fun h => k (.inr h))] at hk2 ⊢
      by_cases k1 : ch s = 42
      · rw [if_pos k1] at hk2; omega
      · rw [if_neg k1] at hk2 ⊢
        by_cases k2 : ch s = 47
        · rw [if_pos k2] at hk2; omega
        · rw [if_neg k2]; decide
/-- after a sum in a bracket: the sign behind it -/
theorem sy_close {s : Nat} {O W out1 out c : List Int32} {o : Int32} (hrk : rk (ch s) < 1) (hO : ∀ o ∈ O, 1 ≤ rk o) (ho : rk o < 1) (hout : out1 ++ O.map cdO = out ++ c) : sy ch (false, s, O ++ (o :: W), out1) = syG (ch s) s (o :: W) (out ++ c) := by
  unfold sy
  dsimp only
  rw [if_neg (by decide), if_neg (by omega), unl_all O (o :: W) out1 hO (fun w hw => by cases hw; exact ho), hout]
theorem lit_hi (hc : ∀ s, L ≤ s → ch s = -1) : ∀ (l : List Int32) (s s' : Nat), (∀ c ∈ l, c ≠ -1) → l ≠ [] → lit ch l s = .inr s' → s' ≤ L
  | [], s, s', _, h, _ => absurd rfl h
  | b :: l, s, s', hn, _, h => by
    unfold lit at h
    by_cases c : ch s = b
    · rw [if_pos c] at h
      have h1 : s < L := by
        apply Nat.lt_of_not_le
        intro h2
        rw [hc s h2] at c
        exact hn b List.mem_cons_self c.symm
      by_cases h2 : l = []
      · subst h2; cases h; omega
      · exact lit_hi hc l (s + 1) s' (fun c h => hn c (List.mem_cons_of_mem _ h)) h2 h
    · rw [if_neg c] at h; cases h
theorem nmb_hi (hc : ∀ s, L ≤ s → ch s = -1) : ∀ (k s : Nat) (v : Int32), s ≤ L → s ≤ (nmb ch k s v).1 ∧ (nmb ch k s v).1 ≤ L
  | 0, s, v, h => ⟨Nat.le_refl _, h⟩
  | k + 1, s, v, h => by
    unfold nmb
    by_cases c : wthn (ch s) 48 57 = true ∧ ¬ v ≤ 0
    · rw [if_pos c]
      have h2 : s < L := by
        apply Nat.lt_of_not_le
        intro h2
        rw [hc s h2] at c
        exact absurd c.1 (by decide)
      have := nmb_hi hc k (s + 1) ((10 * v + ch s) - 48) (by omega)
      omega
    · rw [if_neg c]; exact ⟨Nat.le_refl _, h⟩
end SY
