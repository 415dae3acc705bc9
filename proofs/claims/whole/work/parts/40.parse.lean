/-- reading on, or the place of the fault -/
abbrev PR (V : Type) : Type := Nat ⊕ (Nat × V)
def rb {V W : Type} (r : PR V) (f : Nat → V → PR W) : PR W := Sum.elim (fun e => .inl e) (fun q => f q.1 q.2) r
def lit (ch : Nat → Int32) : List Int32 → Nat → Nat ⊕ Nat
  | [], s => .inr s
  | c :: t, s => if ch s = c then lit ch t (s + 1) else .inl s
def nmb (ch : Nat → Int32) : Nat → Nat → Int32 → Nat × Int32
  | 0, s, v => (s, v)
  | k + 1, s, v => if wthn (ch s) 48 57 = true ∧ ¬ v ≤ 0 then nmb ch k (s + 1) ((10 * v + ch s) - 48) else (s, v)
def nmOf (c : Int32) : Nat := if c = 117 then 0 else if c = 108 then 1 else if c = 107 then 2 else if c = 111 then 3 else if c = 109 then 4 else 5
def nmS (i : Nat) : List Int32 := sr_byt.getD (6 + i) []
section PA
variable {V : Type} (ch : Nat → Int32) (nu : Int32 → V) (na : Nat → V) (bi : Int32 → V → V → V) (stp : V → List V → V)
def lpT (rec : Nat → Nat → PR V) : Nat → Nat → V → PR V
  | 0, s, _ => .inl s
  | g + 1, s, v => if ch s = 42 ∨ ch s = 47 then rb (rec 2 (s + 1)) (fun s' w => lpT rec g s' (bi (if ch s = 42 then -8 else -9) v w)) else .inr (s, v)
def lpS (rec : Nat → Nat → PR V) : Nat → Nat → V → PR V
  | 0, s, _ => .inl s
  | g + 1, s, v => if ch s = 43 ∨ ch s = 45 then rb (rec 1 (s + 1)) (fun s' w => lpS rec g s' (bi (if ch s = 43 then -6 else -7) v w)) else .inr (s, v)
def lpP (rec : Nat → Nat → PR V) : Nat → Nat → List V → PR (List V)
  | 0, s, _ => .inl s
  | k + 1, s, acc => rb (rec 0 s) (fun s' v => if 1 ≤ k ∧ ch s' = 44 then lpP rec k (s' + 1) (acc ++ [v]) else .inr (s', acc ++ [v]))
def pOne (rec : Nat → Nat → PR V) (s : Nat) : PR V :=
  if wthn (ch s) 48 57 = true then .inr ((nmb ch 3 (s + 1) (ch s - 48)).1, nu (nmb ch 3 (s + 1) (ch s - 48)).2)
  else if ch s = 40 then rb (rec 0 (s + 1)) (fun s' v => if ch s' = 41 then .inr (s' + 1, v) else .inl s')
  else if ch s = 91 then rec 3 (s + 1)
  else if nmOf (ch s) < 5 then Sum.elim (fun e => .inl e) (fun s' => .inr (s', na (nmOf (ch s)))) (lit ch (nmS (nmOf (ch s))) s)
  else .inl s
def pTerm (rec : Nat → Nat → PR V) (s : Nat) : PR V := rb (rec 2 s) (fun s' v => lpT ch bi rec 121 s' v)
def pSum (rec : Nat → Nat → PR V) (s : Nat) : PR V := rb (rec 1 s) (fun s' v => lpS ch bi rec 121 s' v)
def pSteps (rec : Nat → Nat → PR V) (s : Nat) : PR V := rb (rec 0 s) (fun s1 u => if ch s1 = 58 then rb (lpP ch rec 4 (s1 + 1) []) (fun s2 l => if ch s2 = 93 then .inr (s2 + 1, stp u l) else .inl s2) else .inl s1)
def PP : Nat → Nat → Nat → PR V
  | 0, _, s => .inl s
  | d + 1, t, s => if t = 0 then pSum ch bi (PP d) s else if t = 1 then pTerm ch bi (PP d) s else if t = 2 then pOne ch nu na (PP d) s else pSteps ch stp (PP d) s
end PA
/-- numbers' algebra -/
def biV (o a b : Int32) : Int32 := if o = -6 then a + b else if o = -7 then a - b else if o = -8 then a * b else prt a b
def stL : Int32 → List Int32 → Int32
  | _, [] => 0
  | left, x :: t => match t with
    | [] => left * x
    | _ :: _ => jmin 10 left * x + stL (left - jmin 10 left) t
def stV (u : Int32) (l : List Int32) : Int32 := stL (if u < 0 then 0 else u) l
theorem stL_1 (left x : Int32) : stL left [x] = left * x := by unfold stL; rfl
theorem stL_2 (left x y : Int32) (t : List Int32) : stL left (x :: y :: t) = jmin 10 left * x + stL (left - jmin 10 left) (y :: t) := by
  conv => lhs; unfold stL
/-- the model's text -/
def Tx (M : Mem) (a L : Nat) (ch : Nat → Int32) : Prop := M.1 94 6 = nI a ∧ a ≤ 8 ∧ L ≤ 120 ∧ M.1 95 (800 + a) = nI L ∧ ∀ s, ch s = if s < L then M.1 95 (810 + 120 * a + s) else -1
/-- the model's spot, and whether it is wrong -/
def sp (M : Mem) (s : Nat) (w : Int32) : Mem := wR M 94 (fun j => if j = 7 then nI s else if j = 8 then w else M.1 94 j)
theorem sp_w7 (M : Mem) (s s' : Nat) (w : Int32) : wI (sp M s w) 94 7 (nI s') = sp M s' w := by
  unfold sp
  rw [wI_wR]
  congr 1
  funext j
  unfold upd
  by_cases h : j = 7
  · rw [if_pos h, if_pos h]
  · rw [if_neg h]; dsimp only; rw [if_neg h, if_neg h]
theorem sp_w8 (M : Mem) (s : Nat) (w w' : Int32) : wI (sp M s w) 94 8 w' = sp M s w' := by
  unfold sp
  rw [wI_wR]
  congr 1
  funext j
  unfold upd
  by_cases h : j = 8
  · rw [if_pos h, if_neg (by omega), if_pos h]
  · simp only [if_neg h]
theorem sp_7 (M : Mem) (s : Nat) (w : Int32) : (sp M s w).1 94 7 = nI s := rfl
theorem sp_8 (M : Mem) (s : Nat) (w : Int32) : (sp M s w).1 94 8 = w := rfl
theorem sp_same {M : Mem} {s : Nat} {w : Int32} (h7 : M.1 94 7 = nI s) (h8 : M.1 94 8 = w) : sp M s w = M := by
  unfold sp
  have : (fun j => if j = 7 then nI s else if j = 8 then w else M.1 94 j) = M.1 94 := by
    funext j
    by_cases h : j = 7
    · rw [if_pos h, h, h7]
    · rw [if_neg h]
      by_cases h2 : j = 8
      · rw [if_pos h2, h2, h8]
      · rw [if_neg h2]
  rw [this, wR_same]
theorem itr_l {S E : Type} {body : S → Option (S ⊕ E)} {s s' : S} {n : Nat} (h : body s = some (.inl s')) : itr body (n + 1) s = itr body n s' := by
  show (body s).bind _ = _
  rw [h]; rfl
theorem itr_r {S E : Type} {body : S → Option (S ⊕ E)} {s : S} {e : E} {n : Nat} (h : body s = some (.inr e)) : itr body (n + 1) s = some e := by
  show (body s).bind _ = _
  rw [h]; rfl
theorem nI_eq0 {k : Nat} (h : 0 < k) (hk : k < 2147483648) : decide (nI k = 0) = false := by
  rw [show (0 : Int32) = nI 0 from rfl, d_eq hk (by omega)]; exact decide_eq_false (by omega)
section MS
variable {M : Mem} {a L : Nat} {ch : Nat → Int32}
theorem ch_lt (T : Tx M a L ch) {s : Nat} {c : Int32} (h : ch s = c) (hc : c ≠ -1) : s < L := by
  obtain ⟨-, -, -, -, h5⟩ := T
  apply Nat.lt_of_not_le
  intro h6
  rw [h5 s, if_neg (by omega)] at h
  exact hc h.symm
theorem s_here (T : Tx M a L ch) {s : Nat} (hs : s ≤ L) (w : Int32) : f_Mo_here_94 (sp M s w) = some (ch s) := by
  obtain ⟨h1, h2, h3, h4, h5⟩ := T
  have e6 : (sp M s w).1 94 6 = nI a := h1
  have e95 : ∀ x, (sp M s w).1 95 x = M.1 95 x := fun x => rfl
  unfold f_Mo_here_94
  rw [e6, sp_7, show (800 : Int32) = nI 800 from rfl, show (810 : Int32) = nI 810 from rfl, show (120 : Int32) = nI 120 from rfl, nI_muln, nI_addn, nI_addn, nI_addn, inb_t (by omega) (by omega), ite_tt, nI_cl (by omega), e95, h4, d_lt (by omega) (by omega), h5]
  by_cases c : s < L
  · rw [decide_eq_true c, ite_tt, if_pos c, inb_t (by omega) (by omega), ite_tt, nI_cl (by omega)]; rfl
  · rw [decide_eq_false c, ite_ff, if_neg c]
theorem s_must0 (T : Tx M a L ch) {s : Nat} (hs : s ≤ L) (c : Int32) : f_Mo_must_94 c (sp M s 0) = some (if ch s = c then sp M (s + 1) 0 else sp M s 1) := by
  unfold f_Mo_must_94 jn_ jv_
  dsimp only
  rw [sp_8, show isb 0 = true from rfl, ite_tt, show decide ((0 : Int32) = 1) = false from rfl, ite_ff, s_here T hs, Option.bind_some]
  by_cases h : ch s = c
  · rw [decide_eq_true h, ite_tt, if_pos h, sp_w8, sp_8, sp_7, nI_one, sp_w7]; rfl
  · rw [decide_eq_false h, ite_ff, if_neg h, sp_w8, sp_8, sp_7, show (0 : Int32) = nI 0 from rfl, nI_addn, Nat.add_zero, sp_w7]; rfl
theorem s_must1 {s : Nat} (c : Int32) : f_Mo_must_94 c (sp M s 1) = some (sp M s 1) := by
  unfold f_Mo_must_94 jn_ jv_
  dsimp only
  rw [sp_8, show isb 1 = true from rfl, ite_tt, show decide ((1 : Int32) = 1) = true from rfl, ite_tt, sp_w8, sp_8, sp_7, show (0 : Int32) = nI 0 from rfl, nI_addn, Nat.add_zero, sp_w7]; rfl
def litM (M : Mem) (r : Nat ⊕ Nat) : Mem := Sum.elim (fun e => sp M e 1) (fun s' => sp M s' 0) r
theorem lit_app (ch : Nat → Int32) (c : Int32) : ∀ (l : List Int32) (s : Nat), lit ch (l ++ [c]) s = Sum.elim (fun e => .inl e) (fun s' => if ch s' = c then .inr (s' + 1) else .inl s') (lit ch l s)
  | [], s => by
    show (if ch s = c then lit ch [] (s + 1) else .inl s) = _
    rfl
  | b :: l, s => by
    show (if ch s = b then lit ch (l ++ [c]) (s + 1) else .inl s) = Sum.elim _ _ (if ch s = b then lit ch l (s + 1) else .inl s)
    by_cases h : ch s = b
    · rw [if_pos h, if_pos h, lit_app ch c l]
    · rw [if_neg h, if_neg h]; rfl
theorem lit_le (T : Tx M a L ch) : ∀ (l : List Int32) (s : Nat), (∀ c ∈ l, c ≠ -1) → s ≤ L → match lit ch l s with | .inl e => e ≤ L | .inr s' => s' = s + l.length ∧ s' ≤ L
  | [], s, _, h => ⟨rfl, h⟩
  | b :: l, s, hc, h => by
    have hb := hc b List.mem_cons_self
    unfold lit
    by_cases c : ch s = b
    · rw [if_pos c]
      have h2 := ch_lt T c hb
      have h3 := lit_le T l (s + 1) (fun c h => hc c (List.mem_cons_of_mem _ h)) (by omega)
      cases h4 : lit ch l (s + 1) with
      | inl e => rw [h4] at h3; exact h3
      | inr s' =>
        rw [h4] at h3
        dsimp only at h3 ⊢
        rw [List.length_cons]
        omega
    · rw [if_neg c]; exact h
theorem sr_nm1 : ∀ i, i < 26 → ∀ c ∈ sr_byt.getD i [], c ≠ -1 := by decide +kernel
theorem s_spells (T : Tx M a L ch) {i s : Nat} (hi : i < 26) (hs : s ≤ L) : f_Mo_spells_94 i (sp M s 0) = some (litM M (lit ch (sr_byt.getD i []) s)) := by
  obtain ⟨-, hlen, hl20⟩ := sr_ok i hi
  have hne := sr_nm1 i hi
  generalize hB : sr_byt.getD i [] = B at hlen hne
  unfold f_Mo_spells_94
  have key := itr_for' (body := b_Mo_spells_94_2 i) (fun k => (nI k, litM M (lit ch (B.take k) s))) B.length (by omega) (e := litM M (lit ch B s)) (fun k hk => by
    unfold b_Mo_spells_94_2
    have hsl : slen i = nI B.length := by unfold slen; rw [hlen]; rfl
    have hsc : schr i (nI k) = B[k] := by
      unfold schr
      rw [hB, nI_cl (by omega)]
      simp [hk]
    dsimp only
    rw [decide_eq_true hi, ite_tt, hsl, dlt_t hk (by omega), ite_tt, ite_tt, inb_t (by omega) (by omega), ite_tt, hsc]
    have h6 : B.take (k + 1) = B.take k ++ [B[k]] := (List.take_append_getElem hk).symm
    have h7 := lit_le T (B.take k) s (fun c h => hne c (List.mem_of_mem_take h)) hs
    rw [h6, lit_app]
    cases h8 : lit ch (B.take k) s with
    | inl e =>
      show (f_Mo_must_94 _ (sp M e 1)).bind _ = _
      rw [s_must1, Option.bind_some, nI_one]; rfl
    | inr s' =>
      rw [h8] at h7
      show (f_Mo_must_94 _ (sp M s' 0)).bind _ = some (Sum.inl (nI (k + 1), litM M (if ch s' = B[k] then .inr (s' + 1) else .inl s')))
      rw [s_must0 T h7.2, Option.bind_some, nI_one]
      by_cases c : ch s' = B[k]
      · rw [if_pos c, if_pos c]; rfl
      · rw [if_neg c, if_neg c]; rfl) (by
    unfold b_Mo_spells_94_2
    have hsl : slen i = nI B.length := by unfold slen; rw [hlen]; rfl
    dsimp only
    rw [decide_eq_true hi, ite_tt, hsl, dlt_f (Nat.le_refl _) (by omega), ite_ff, List.take_length])
  show (itr _ FU (nI 0, litM M (lit ch (B.take 0) s))).bind _ = _
  rw [key]; rfl
theorem nmb_le (T : Tx M a L ch) : ∀ (k s : Nat) (v : Int32), s ≤ L → s ≤ (nmb ch k s v).1 ∧ (nmb ch k s v).1 ≤ L
  | 0, s, v, h => ⟨Nat.le_refl _, h⟩
  | k + 1, s, v, h => by
    unfold nmb
    by_cases c : wthn (ch s) 48 57 = true ∧ ¬ v ≤ 0
    · rw [if_pos c]
      have h2 : s < L := ch_lt T rfl (fun h => by rw [h] at c; exact absurd c.1 (by decide))
      have := nmb_le T k (s + 1) ((10 * v + ch s) - 48) (by omega)
      omega
    · rw [if_neg c]; exact ⟨Nat.le_refl _, h⟩
theorem s_num (T : Tx M a L ch) : ∀ (k s : Nat) (v : Int32) (n : Nat), k ≤ 3 → k < n → s ≤ L → itr b_Mo_number_94_4 n (v, nI (4 - k), sp M s 0) = some ((nmb ch k s v).2, sp M (nmb ch k s v).1 0)
  | 0, s, v, n + 1, _, _, hs => by
    refine itr_r ?_
    rfl
  | k + 1, s, v, n + 1, hk, hn, hs => by
    have e4 : (4 : Int32) = nI 4 := rfl
    unfold nmb
    by_cases c : wthn (ch s) 48 57 = true ∧ ¬ v ≤ 0
    · rw [if_pos c]
      have h2 : s < L := ch_lt T rfl (fun h => by rw [h] at c; exact absurd c.1 (by decide))
      rw [itr_l (s' := (((10 * v) + ch s) - 48, nI (4 - k), sp M (s + 1) 0))]
      · exact s_num T k (s + 1) _ n (by omega) (by omega) (by omega)
      · unfold b_Mo_number_94_4 jn_ jv_
        dsimp only
        rw [e4, dlt_t (by omega) (by omega), ite_tt, s_here T hs, Option.bind_some, e_Mo_in, Option.bind_some, c.1, ite_tt, nI_eq0 (by omega) (by omega), ite_ff, decide_eq_false c.2, ite_ff, Option.bind_some, nI_one, show 4 - (k + 1) + 1 = 4 - k by omega, sp_7, nI_one]
        show some (Sum.inl (_, _, wI (sp M s 0) 94 7 (nI (s + 1)))) = _
        rw [sp_w7]
    · rw [if_neg c]
      refine itr_r ?_
      unfold b_Mo_number_94_4 jn_ jv_
      dsimp only
      rw [e4, dlt_t (by omega) (by omega), ite_tt, s_here T hs, Option.bind_some, e_Mo_in, Option.bind_some]
      cases h : wthn (ch s) 48 57
      · rw [ite_ff]
      · rw [h] at c
        have h2 : v ≤ 0 := Classical.byContradiction fun h => c ⟨rfl, h⟩
        rw [ite_tt, nI_eq0 (by omega) (by omega), ite_ff, decide_eq_true h2, ite_tt]
theorem s_number (T : Tx M a L ch) {s : Nat} (hs : s ≤ L) (hd : wthn (ch s) 48 57 = true) : f_Mo_number_94 (sp M s 0) = some ((nmb ch 3 (s + 1) (ch s - 48)).2, sp M (nmb ch 3 (s + 1) (ch s - 48)).1 0) := by
  have h2 : s < L := ch_lt T rfl (fun h => by rw [h] at hd; exact absurd hd (by decide))
  unfold f_Mo_number_94
  have hF : FU = 999999999 + 1 := rfl
  rw [hF, itr_l (s' := (ch s - 48, nI (4 - 3), sp M (s + 1) 0)), s_num T 3 (s + 1) _ _ (by omega) (by omega) (by omega)]
  · rfl
  · unfold b_Mo_number_94_4 jn_ jv_
    dsimp only
    rw [show decide ((0 : Int32) < 4) = true from rfl, ite_tt, s_here T hs, Option.bind_some, e_Mo_in, Option.bind_some, hd, ite_tt, show decide ((0 : Int32) = 0) = true from rfl, ite_tt, Option.bind_some, sp_7, nI_one, sp_w7]
    have e : (10 : Int32) * 0 + ch s = ch s := by
      rw [show (10 : Int32) * 0 = 0 from rfl, Int32.zero_add]
    rw [e]; rfl
end MS
