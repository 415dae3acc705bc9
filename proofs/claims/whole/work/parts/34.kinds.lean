/-- rounds in which wavering ones come to count -/
def rnd (w : Nat → Bool) (nd : Nat → Int32) (tk p : Nat → Bool) : Nat → Bool := fun f => p f || ((w f && decide (nd f ≤ nI (cnt p 10))) && !tk f)
def rnds (w : Nat → Bool) (nd : Nat → Int32) (tk p : Nat → Bool) : Nat → Nat → Bool
  | 0 => p
  | k + 1 => rnd w nd tk (rnds w nd tk p k)
theorem rnd_ge {w : Nat → Bool} {nd : Nat → Int32} {tk p : Nat → Bool} {f : Nat} (h : p f = true) : rnd w nd tk p f = true := by unfold rnd; rw [h]; rfl
theorem rnds_ge {w : Nat → Bool} {nd : Nat → Int32} {tk p : Nat → Bool} {f : Nat} (h : p f = true) : ∀ k, rnds w nd tk p k f = true
  | 0 => h
  | k + 1 => rnd_ge (rnds_ge h k)
theorem rnd_congr {w : Nat → Bool} {nd : Nat → Int32} {tk p q : Nat → Bool} (h : ∀ f, f < 10 → p f = q f) {f : Nat} (hf : f < 10) : rnd w nd tk p f = rnd w nd tk q f := by
  unfold rnd
  rw [h f hf, cnt_congr 10 h]
theorem rnds_grow (w : Nat → Bool) (nd : Nat → Int32) (tk p : Nat → Bool) : ∀ k, (∀ f, f < 10 → rnd w nd tk (rnds w nd tk p k) f = rnds w nd tk p k f) ∨ k ≤ cnt (rnds w nd tk p k) 10
  | 0 => .inr (Nat.zero_le _)
  | k + 1 => by
    by_cases hc : ∀ f, f < 10 → rnd w nd tk (rnds w nd tk p k) f = rnds w nd tk p k f
    · refine .inl fun f hf => ?_
      show rnd w nd tk (rnd w nd tk (rnds w nd tk p k)) f = rnd w nd tk (rnds w nd tk p k) f
      exact rnd_congr hc hf
    · rcases rnds_grow w nd tk p k with h1 | h1
      · exact absurd h1 hc
      · right
        have h2 : ∃ f, f < 10 ∧ rnd w nd tk (rnds w nd tk p k) f ≠ rnds w nd tk p k f := by
          apply Classical.byContradiction
          intro h
          exact hc fun f hf => Classical.byContradiction fun h3 => h ⟨f, hf, h3⟩
        obtain ⟨f, hf, h3⟩ := h2
        have h4 : rnds w nd tk p k f = false := by
          cases h5 : rnds w nd tk p k f with
          | false => rfl
          | true => exact absurd ((rnd_ge h5).trans h5.symm) h3
        have h5 : rnd w nd tk (rnds w nd tk p k) f = true := by
          cases h6 : rnd w nd tk (rnds w nd tk p k) f with
          | true => rfl
          | false => rw [h4, h6] at h3; exact absurd rfl h3
        have := cnt_lt (p := rnds w nd tk p k) (q := rnds w nd tk p (k + 1)) 10 (fun i _ h => rnd_ge h) ⟨f, hf, h4, h5⟩
        omega
theorem rnds_closed (w : Nat → Bool) (nd : Nat → Int32) (tk p : Nat → Bool) {f : Nat} (hf : f < 10) : rnd w nd tk (rnds w nd tk p 10) f = rnds w nd tk p 10 f := by
  rcases rnds_grow w nd tk p 10 with h | h
  · exact h f hf
  · have := cnt_full 10 h f hf
    rw [this]
    exact rnd_ge this
theorem rnds_least {w : Nat → Bool} {nd : Nat → Int32} {tk p q : Nat → Bool} (hp : ∀ f, f < 10 → p f = true → q f = true) (hq : ∀ f, f < 10 → w f = true → nd f ≤ nI (cnt q 10) → tk f = false → q f = true) : ∀ k f, f < 10 → rnds w nd tk p k f = true → q f = true
  | 0, f, hf, h => hp f hf h
  | k + 1, f, hf, h => by
    have ih := rnds_least (w := w) (nd := nd) (tk := tk) hp hq k
    have h2 : rnd w nd tk (rnds w nd tk p k) f = true := h
    unfold rnd at h2
    simp only [Bool.or_eq_true, Bool.and_eq_true, decide_eq_true_eq, Bool.not_eq_true'] at h2
    rcases h2 with h2 | ⟨⟨h2, h3⟩, h4⟩
    · exact ih f hf h2
    · refine hq f hf h2 ?_ h4
      have h5 := cnt_mono (p := rnds w nd tk p k) (q := q) 10 ih
      have h6 := cnt_le q 10
      have h7 := cnt_le (rnds w nd tk p k) 10
      rw [i_le] at h3 ⊢
      rw [nI_toI (by omega)] at h3 ⊢
      omega
def wav (σ : Nat → Int32) (m : Int32) (n f : Nat) : Bool := decide (wh σ m n f = 1)
def pm (σ : Nat → Int32) (m : Int32) (n f : Nat) : Bool := decide (wh σ m n f = 0) || (decide (wh σ m n f = 2) || decide (wh σ m n f = 3))
def p0 (σ : Nat → Int32) (m : Int32) (n : Nat) (sg tk : Nat → Bool) (f : Nat) : Bool := (sg f || pm σ m n f) && !tk f
/-- MEMBERS, some being signed, some taken -/
def mb (σ : Nat → Int32) (m : Int32) (n : Nat) (sg tk : Nat → Bool) : Nat → Bool := rnds (wav σ m n) (nd σ m n) tk (p0 σ m n sg tk) 10
theorem or_as (a b c : Int32) : (a ||| b) ||| c = a ||| (b ||| c) := by
  apply b_ext; intro i _; simp only [b_or, Bool.or_assoc]
theorem or_0 (a : Int32) : a ||| 0 = a := by
  apply b_ext; intro i _; simp only [b_or, b_0, Bool.or_false]
theorem msk_s {p : Nat → Bool} {k : Nat} : msk p (k + 1) = if p k = true then msk p k ||| ((1 : Int32) <<< (nI k &&& 31)) else msk p k := rfl
section KI
variable {M : Mem} {σ : Nat → Int32} {m : Int32} {n : Nat}
theorem e_reached (hn : n ≤ nt σ 2) (hE : nt σ 2 ≤ 120) (B : Rbook M.1 σ) (L : Lk σ m n M) (c : Nat) (hc : c ≤ 10) : f_Book_reached_7 (nI c) M = some (msk (fun f => wav σ m n f && decide (nd σ m n f ≤ nI c)) 10) := by
  unfold f_Book_reached_7
  rw [itr_for (s0 := (0, 0)) (fun k => (msk (fun f => wav σ m n f && decide (nd σ m n f ≤ nI c)) k, nI k)) 10 (by omega) rfl (e := msk (fun f => wav σ m n f && decide (nd σ m n f ≤ nI c)) 10)]
  · rfl
  · intro k hk
    unfold b_Book_reached_7_4 jv_
    dsimp only
    rw [show (10 : Int32) = nI 10 from rfl, dlt_t hk (by omega), if_pos rfl, atv_nI hk (by omega), L k hk, msk_s (k := k)]
    rcases dk_spec σ m n k n (by omega) with h | ⟨j, j1, j2, j3, -⟩
    · have e1 : wav σ m n k = false := by unfold wav wh; rw [if_pos h]; decide
      rw [h, m1_neg, e1, nI_one]; rfl
    · have e1 : wav σ m n k = decide (σ (190 + j) = 1) := by unfold wav wh; rw [j2, if_neg (nI_ne_m1 (by omega)), nI_cl (by omega)]
      have e2 : nd σ m n k = σ (550 + j) := by unfold nd; rw [j2, nI_cl (by omega)]
      obtain ⟨b9, -, b11, -⟩ := B.2 j (by omega)
      rw [j2, nI_nneg (by omega), atv_nI (by omega) (by omega), atv_nI (by omega) (by omega), b9, b11, e1, e2, nI_one]
      by_cases c1 : σ (190 + j) = 1
      · rw [decide_eq_true c1]
        by_cases c2 : σ (550 + j) ≤ nI c
        · rw [decide_eq_true c2]; rfl
        · rw [decide_eq_false c2]; rfl
      · rw [decide_eq_false c1]; rfl
  · unfold b_Book_reached_7_4
    dsimp only
    rw [show (10 : Int32) = nI 10 from rfl, dlt_f (Nat.le_refl _) (by omega)]; rfl
theorem e_members (hn : n ≤ nt σ 2) (hE : nt σ 2 ≤ 120) (B : Rbook M.1 σ) (L : Lk σ m n M) (sg tk : Nat → Bool) : f_Book_members_7 (msk sg 10) (msk tk 10) M = some (msk (mb σ m n sg tk) 10) := by
  unfold f_Book_members_7
  have q : ∀ p : Nat → Bool, msk p 10 ||| 0 = msk p 10 := fun p => or_0 _
  rw [itr_for (s0 := (msk sg 10, 0)) (fun k => (msk sg 10 ||| msk (pm σ m n) k, nI k)) 10 (by omega) (by show (msk sg 10 ||| 0, (0 : Int32)) = _; rw [or_0]) (e := msk sg 10 ||| msk (pm σ m n) 10)]
  · rw [Option.bind_some, msk_or, msk_andn]
    show ((itr (b_Book_members_7_59 (msk tk 10) M) FU (msk (p0 σ m n sg tk) 10, 0)).bind _) = _
    rw [itr_for (s0 := (msk (p0 σ m n sg tk) 10, 0)) (fun k => (msk (rnds (wav σ m n) (nd σ m n) tk (p0 σ m n sg tk) k) 10, nI k)) 10 (by omega) rfl (e := msk (mb σ m n sg tk) 10)]
    · rfl
    · intro k hk
      unfold b_Book_members_7_59
      dsimp only
      rw [show (10 : Int32) = nI 10 from rfl, dlt_t hk (by omega), if_pos rfl, bcnt_msk, e_reached hn hE B L _ (cnt_le _ _), Option.bind_some, msk_andn, msk_or, nI_one]
      rfl
    · unfold b_Book_members_7_59
      dsimp only
      rw [show (10 : Int32) = nI 10 from rfl, dlt_f (Nat.le_refl _) (by omega)]; rfl
  · intro k hk
    unfold b_Book_members_7_5
    dsimp only
    rw [show (10 : Int32) = nI 10 from rfl, dlt_t hk (by omega), if_pos rfl, e_decided hk hn hE B L, Option.bind_some, msk_s (p := pm σ m n) (k := k), nI_one]
    unfold pm
    by_cases c0 : wh σ m n k = 0
    · rw [decide_eq_true c0, or_as]; rfl
    · rw [decide_eq_false c0]
      by_cases c2 : wh σ m n k = 2
      · rw [decide_eq_true c2, or_as]; rfl
      · rw [decide_eq_false c2]
        by_cases c3 : wh σ m n k = 3
        · rw [decide_eq_true c3, or_as]; rfl
        · rw [decide_eq_false c3]; rfl
  · unfold b_Book_members_7_5
    dsimp only
    rw [show (10 : Int32) = nI 10 from rfl, dlt_f (Nat.le_refl _) (by omega)]; rfl
/-- KINDS, OWING as SERVED -/
def k0 (σ : Nat → Int32) (m : Int32) (n : Nat) (sg tk : Nat → Bool) (f : Nat) : Int32 :=
  if tk f = true then 5 else if sg f = true then 1 else if wh σ m n f = -1 then 0 else if wh σ m n f = 1 then 2 else if wh σ m n f = 2 then 3 else if wh σ m n f = 4 then 5 else 1
def kf (σ : Nat → Int32) (m : Int32) (n : Nat) (sg tk : Nat → Bool) (f : Nat) : Int32 :=
  if k0 σ m n sg tk f = 2 then (if mb σ m n sg tk f = true then 1 else 2) else k0 σ m n sg tk f
def no : Nat → Bool := fun _ => false
theorem msk_no : msk no 10 = 0 := msk_0
def km (σ : Nat → Int32) (m : Int32) (n f : Nat) : Int32 := kf σ m n no no f
theorem e_kindIn {f : Nat} {e : Int32} (hf : f < 10) (he : e = -1 ∨ inb e (nt σ 2 + 1) = true) (B : Rbook M.1 σ) (N : wNum σ) (W : wBook σ) : ∃ M', f_Book_kindIn_7 (nI f) m e M = some (km σ m (kn σ e) f, M') ∧ Fr (fun a _ => a == 13) M M' := by
  obtain ⟨M', h1, L, h3, B'⟩ := e_look' m e he B N W
  refine ⟨M', ?_, h3⟩
  have hE : nt σ 2 ≤ 120 := by have := (nt_inb N.2.2.1).2; omega
  have hn : kn σ e ≤ nt σ 2 := by
    unfold kn
    rcases he with he | he
    · rw [if_pos he]; omega
    · have := (nI_of_inb he).2
      split <;> omega
  unfold f_Book_kindIn_7
  rw [h1, Option.bind_some, e_decided hf hn hE B' L, Option.bind_some]
  unfold km kf k0 no
  rw [show (if (fun (_ : Nat) => false) f = true then (5 : Int32) else if (fun (_ : Nat) => false) f = true then 1 else if wh σ m (kn σ e) f = -1 then 0 else if wh σ m (kn σ e) f = 1 then 2 else if wh σ m (kn σ e) f = 2 then 3 else if wh σ m (kn σ e) f = 4 then 5 else 1) = (if wh σ m (kn σ e) f = -1 then 0 else if wh σ m (kn σ e) f = 1 then 2 else if wh σ m (kn σ e) f = 2 then 3 else if wh σ m (kn σ e) f = 4 then 5 else 1) from rfl]
  generalize hw : wh σ m (kn σ e) f = w
  by_cases c1 : w = -1
  · rw [decide_eq_true c1, if_pos rfl, if_pos c1, if_neg (by decide)]
  · rw [decide_eq_false c1, if_neg (by decide), if_neg c1]
    by_cases c2 : w = 1
    · have h5 := e_members hn hE B' L no no
      rw [msk_no] at h5
      rw [decide_eq_true c2, if_pos rfl, if_pos c2, if_pos rfl, h5, Option.bind_some, hld_msk _ hf]
      unfold no
      cases mb σ m (kn σ e) (fun _ => false) (fun _ => false) f <;> rfl
    · rw [decide_eq_false c2, if_neg (by decide), if_neg c2]
      by_cases c3 : w = 2
      · rw [decide_eq_true c3, if_pos rfl, if_pos c3]; rfl
      · rw [decide_eq_false c3, if_neg (by decide), if_neg c3]
        by_cases c4 : w = 4
        · rw [decide_eq_true c4, if_pos rfl, if_pos c4]; rfl
        · rw [decide_eq_false c4, if_neg (by decide), if_neg c4]; rfl
theorem e_membersIn (sg tk : Nat → Bool) (B : Rbook M.1 σ) (N : wNum σ) (W : wBook σ) : ∃ M', f_Book_membersIn_7 m (msk sg 10) (msk tk 10) M = some (msk (mb σ m (nt σ 2) sg tk) 10, M') ∧ Fr (fun a _ => a == 13) M M' := by
  obtain ⟨M', h1, L, h3, B'⟩ := e_look' m (-1) (.inl rfl) B N W
  refine ⟨M', ?_, h3⟩
  have hE : nt σ 2 ≤ 120 := by have := (nt_inb N.2.2.1).2; omega
  have hk : kn σ (-1) = nt σ 2 := if_pos rfl
  rw [hk] at L
  unfold f_Book_membersIn_7
  rw [h1, Option.bind_some, e_members (Nat.le_refl _) hE B' L, Option.bind_some]
theorem e_decidedBy (w : Int32) (B : Rbook M.1 σ) (N : wNum σ) (W : wBook σ) : ∃ M', f_Book_decidedBy_7 w m M = some (msk (fun f => decide (wh σ m (nt σ 2) f = w)) 10, M') ∧ Fr (fun a _ => a == 13) M M' := by
  obtain ⟨M', h1, L, h3, B'⟩ := e_look' m (-1) (.inl rfl) B N W
  refine ⟨M', ?_, h3⟩
  have hE : nt σ 2 ≤ 120 := by have := (nt_inb N.2.2.1).2; omega
  have hk : kn σ (-1) = nt σ 2 := if_pos rfl
  rw [hk] at L
  unfold f_Book_decidedBy_7
  rw [h1, Option.bind_some, itr_for (s0 := (0, 0)) (fun k => (msk (fun f => decide (wh σ m (nt σ 2) f = w)) k, nI k)) 10 (by omega) rfl (e := msk (fun f => decide (wh σ m (nt σ 2) f = w)) 10)]
  · rfl
  · intro k hk
    unfold b_Book_decidedBy_7_11
    dsimp only
    rw [show (10 : Int32) = nI 10 from rfl, dlt_t hk (by omega), if_pos rfl, e_decided hk (Nat.le_refl _) hE B' L, Option.bind_some, msk_s (k := k), nI_one]
    by_cases c : wh σ m (nt σ 2) k = w
    · rw [decide_eq_true c]; rfl
    · rw [decide_eq_false c]; rfl
  · unfold b_Book_decidedBy_7_11
    dsimp only
    rw [show (10 : Int32) = nI 10 from rfl, dlt_f (Nat.le_refl _) (by omega)]; rfl
end KI
