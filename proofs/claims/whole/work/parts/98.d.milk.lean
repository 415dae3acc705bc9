section
section MK
variable {M : Mem} {σ : Nat → Int32} {g : Nat → Nat} {n : Nat} {way : Nat → Bool} {h : Nat → Nat}
def hrs (σ : Nat → Int32) (b : Nat) : Nat := nt σ (2270 + b)
def tmI (g h : Nat → Nat) : Nat → Nat
  | 0 => 0
  | i + 1 => tmI g h i + h (g i)
def dkI (way : Nat → Bool) (g h : Nat → Nat) : Nat → Nat
  | 0 => 0
  | i + 1 => if way (g i) = true then tmI g h (i + 1) else dkI way g h i
def mlS (σ : Nat → Int32) (n : Nat) (g : Nat → Nat) : Nat → Nat
  | 0 => 0
  | f + 1 => mlS σ n g f + dkI (wyB σ f) g (hrs σ) n * ld σ f
def mlk (σ : Nat → Int32) (n : Nat) (g : Nat → Nat) : Nat := mlS σ n g 10
theorem tmI_mono : ∀ d i, tmI g h i ≤ tmI g h (i + d)
  | 0, i => Nat.le_refl _
  | d + 1, i => Nat.le_trans (tmI_mono d i) (by rw [show i + (d + 1) = (i + d) + 1 by omega]; exact Nat.le_add_right _ _)
theorem tmI_le {B : Nat} : ∀ i, (∀ j, j < i → h (g j) ≤ B) → tmI g h i ≤ i * B
  | 0, _ => by unfold tmI; omega
  | i + 1, H => by
    have h1 := tmI_le i (fun j hj => H j (by omega))
    have h2 := H i (by omega)
    unfold tmI
    rw [Nat.succ_mul]; omega
theorem dkI_le : ∀ i, dkI way g h i ≤ tmI g h i
  | 0 => Nat.le_refl _
  | i + 1 => by
    have h1 : dkI way g h i ≤ tmI g h i := dkI_le i
    have h2 : tmI g h i ≤ tmI g h (i + 1) := tmI_mono 1 i
    unfold dkI
    split <;> omega
theorem dkI_ub : ∀ n i, i < n → way (g i) = true → tmI g h (i + 1) ≤ dkI way g h n
  | 0, i, hi, _ => absurd hi (by omega)
  | n + 1, i, hi, hw => by
    unfold dkI
    by_cases c : i = n
    · rw [← c, if_pos hw]; exact Nat.le_refl _
    · have h1 : tmI g h (i + 1) ≤ dkI way g h n := dkI_ub n i (by omega) hw
      split
      · have h2 : dkI way g h n ≤ tmI g h n := dkI_le n
        have h3 : tmI g h n ≤ tmI g h (n + 1) := tmI_mono 1 n
        omega
      · exact h1
theorem dkI_at : ∀ n, dkI way g h n = 0 ∨ ∃ i, i < n ∧ way (g i) = true ∧ dkI way g h n = tmI g h (i + 1)
  | 0 => .inl rfl
  | n + 1 => by
    rw [show dkI way g h (n + 1) = (if way (g n) = true then tmI g h (n + 1) else dkI way g h n) from rfl]
    by_cases c : way (g n) = true
    · rw [if_pos c]; exact .inr ⟨n, by omega, c, rfl⟩
    · rw [if_neg c]
      rcases dkI_at n with e | ⟨i, i1, i2, i3⟩
      · exact .inl e
      · exact .inr ⟨i, by omega, i2, i3⟩
def mxF (way : Nat → Bool) (dn : Nat → Nat) : Nat → Nat
  | 0 => 0
  | k + 1 => if way k = true then (if dn k ≤ mxF way dn k then mxF way dn k else dn k) else mxF way dn k
theorem mxF_ub {dn : Nat → Nat} : ∀ n k, k < n → way k = true → dn k ≤ mxF way dn n
  | 0, k, hk, _ => absurd hk (by omega)
  | n + 1, k, hk, hw => by
    unfold mxF
    by_cases c : k = n
    · rw [← c, if_pos hw]; split <;> omega
    · have h1 : dn k ≤ mxF way dn n := mxF_ub n k (by omega) hw
      split
      · split <;> omega
      · exact h1
theorem mxF_at {dn : Nat → Nat} : ∀ n, mxF way dn n = 0 ∨ ∃ k, k < n ∧ way k = true ∧ mxF way dn n = dn k
  | 0 => .inl rfl
  | n + 1 => by
    have ih : mxF way dn n = 0 ∨ ∃ k, k < n ∧ way k = true ∧ mxF way dn n = dn k := mxF_at n
    have ih' : mxF way dn n = 0 ∨ ∃ k, k < n + 1 ∧ way k = true ∧ mxF way dn n = dn k := by
      rcases ih with e | ⟨k, k1, k2, k3⟩
      · exact .inl e
      · exact .inr ⟨k, by omega, k2, k3⟩
    rw [show mxF way dn (n + 1) = (if way n = true then (if dn n ≤ mxF way dn n then mxF way dn n else dn n) else mxF way dn n) from rfl]
    by_cases c : way n = true
    · rw [if_pos c]
      by_cases c2 : dn n ≤ mxF way dn n
      · rw [if_pos c2]; exact ih'
      · rw [if_neg c2]; exact .inr ⟨n, by omega, c, rfl⟩
    · rw [if_neg c]; exact ih'
theorem mx_dk {dn : Nat → Nat} (h1 : ∀ k, k < n → ∃ i, i < n ∧ g i = k) (h2 : ∀ i, i < n → g i < n) (hd : ∀ i, i < n → dn (g i) = tmI g h (i + 1)) : mxF way dn n = dkI way g h n := by
  apply Nat.le_antisymm
  · rcases mxF_at (way := way) (dn := dn) n with e | ⟨k, k1, k2, k3⟩
    · omega
    · obtain ⟨i, i1, i2⟩ := h1 k k1
      rw [k3, ← i2, hd i i1]
      exact dkI_ub n i i1 (by rw [i2]; exact k2)
  · rcases dkI_at (way := way) (g := g) (h := h) n with e | ⟨i, i1, i2, i3⟩
    · omega
    · rw [i3, ← hd i i1]
      exact mxF_ub n (g i) (h2 i i1) i2
theorem wyB_out {f k : Nat} (hf : nt σ 1 ≤ f) : wyB σ f k = false := by
  unfold wyB drw
  rw [decide_eq_false (show ¬ f < nt σ 1 by omega), Bool.false_and, Bool.false_and, Bool.and_false]
theorem dk_out {f : Nat} (hf : nt σ 1 ≤ f) : ∀ n, dkI (wyB σ f) g h n = 0
  | 0 => rfl
  | n + 1 => by
    unfold dkI
    rw [wyB_out hf, if_neg (by decide)]
    exact dk_out hf n
theorem mlS_out : ∀ d, mlS σ n g (nt σ 1 + d) = mlS σ n g (nt σ 1)
  | 0 => rfl
  | d + 1 => by
    rw [show nt σ 1 + (d + 1) = (nt σ 1 + d) + 1 by omega]
    rw [show mlS σ n g (nt σ 1 + d + 1) = mlS σ n g (nt σ 1 + d) + dkI (wyB σ (nt σ 1 + d)) g (hrs σ) n * ld σ (nt σ 1 + d) from rfl, dk_out (by omega), Nat.zero_mul, Nat.add_zero]
    exact mlS_out d
theorem mlk_nF (n1 : nt σ 1 ≤ 10) : mlS σ n g (nt σ 1) = mlk σ n g := by
  have := mlS_out (σ := σ) (n := n) (g := g) (10 - nt σ 1)
  rw [show nt σ 1 + (10 - nt σ 1) = 10 by omega] at this
  exact this.symm
theorem hrs_b (wb : wBrk σ) {b : Nat} (hb : b < nt σ 6) : σ (2270 + b) = nI (hrs σ b) ∧ hrs σ b ≤ 20 := by
  obtain ⟨-, h2, -⟩ := wb.1 b hb
  obtain ⟨e, l⟩ := nI_of_inb h2
  exact ⟨e, by unfold hrs nt; omega⟩
theorem tm_b (wb : wBrk σ) (hg : ∀ i, i < nt σ 6 → g i < nt σ 6) (n6 : nt σ 6 ≤ 6) {i : Nat} (hi : i ≤ nt σ 6) : tmI g (hrs σ) i ≤ 120 := by
  have := tmI_le (g := g) (h := hrs σ) (B := 20) i (fun j hj => (hrs_b wb (hg j (by omega))).2)
  omega
theorem ml_b (wb : wBrk σ) (wl : wLand σ) (hg : ∀ i, i < nt σ 6 → g i < nt σ 6) (n6 : nt σ 6 ≤ 6) : ∀ F, mlS σ (nt σ 6) g F ≤ F * 6000
  | 0 => Nat.le_refl _
  | f + 1 => by
    have ih := ml_b wb wl hg n6 f
    have h1 : dkI (wyB σ f) g (hrs σ) (nt σ 6) * ld σ f ≤ 6000 := by
      by_cases c : f < nt σ 1
      · have h2 := dkI_le (way := wyB σ f) (g := g) (h := hrs σ) (nt σ 6)
        have h3 := tm_b wb hg n6 (Nat.le_refl _)
        have h4 : ld σ f ≤ 50 := by have := (nI_of_inb (wl.2.1 f c).2.1).2; unfold ld nt; omega
        exact Nat.mul_le_mul (show _ ≤ 120 by omega) h4
      · rw [dk_out (by omega), Nat.zero_mul]; omega
    unfold mlS
    omega
/-- class's milk -/
theorem e_milk12 (n6 : nt σ 6 ≤ 6) (e29 : M.1 29 2 = nI (nt σ 6)) (eh : ∀ b, b < nt σ 6 → M.1 31 b = nI (hrs σ b)) (hg : ∀ i, i < nt σ 6 → g i < nt σ 6) (hr : rw32 M (nt σ 6) g) (hw : ∀ f, f < 10 → M.1 34 f = wyM σ f) (h0 : ∀ f, f < 10 → M.1 35 f = 0) : ∃ Y, itr b_Breaks_milk_29_2_12 FU (0, 0, M) = some Y ∧ Fr (fun a _ => a == 35) M Y ∧ ∀ f, f < 10 → Y.1 35 f = nI (dkI (wyB σ f) g (hrs σ) (nt σ 6)) := by
  obtain ⟨e, h1, h2⟩ := itr_cnt (body := b_Breaks_milk_29_2_12) (s0 := ((0 : Int32), (0 : Int32), M)) (fun k z => z.1 = nI (tmI g (hrs σ) k) ∧ z.2.1 = nI k ∧ Fr (fun a _ => a == 35) M z.2.2 ∧ ∀ f, f < 10 → z.2.2.1 35 f = nI (dkI (wyB σ f) g (hrs σ) k)) (fun Y => Fr (fun a _ => a == 35) M Y ∧ ∀ f, f < 10 → Y.1 35 f = nI (dkI (wyB σ f) g (hrs σ) (nt σ 6))) (nt σ 6) (by omega) ⟨rfl, rfl, Fr.refl _, h0⟩ (by
    rintro k ⟨x, y, X⟩ hk ⟨hx, hy, hF, hd⟩
    dsimp only at hx hy hF hd
    rw [hx, hy]
    left
    have gk := hg k hk
    have r32 : X.1 32 k = nI (g k) := by rw [hF.at_ rfl]; exact hr k hk
    have r31 : X.1 31 (g k) = nI (hrs σ (g k)) := by rw [hF.at_ rfl]; exact eh _ gk
    obtain ⟨Y, i1, i2, i3⟩ := itr_cnt (body := b_Breaks_milk_29_2_45 (nI (tmI g (hrs σ) k), nI k, X)) (s0 := ((0 : Int32), X)) (fun j z => z.1 = nI j ∧ Fr (fun a _ => a == 35) X z.2 ∧ ∀ f, f < 10 → z.2.1 35 f = if f < j then nI (dkI (wyB σ f) g (hrs σ) (k + 1)) else nI (dkI (wyB σ f) g (hrs σ) k)) (fun Y => Fr (fun a _ => a == 35) X Y ∧ ∀ f, f < 10 → Y.1 35 f = nI (dkI (wyB σ f) g (hrs σ) (k + 1))) 10 (by omega) ⟨rfl, Fr.refl _, fun f hf => by rw [if_neg (by omega)]; exact hd f hf⟩ (by
      rintro j ⟨u, Z⟩ hj ⟨rfl, hG, hq⟩
      dsimp only at hG hq
      left
      have hst : b_Breaks_milk_29_2_45 (nI (tmI g (hrs σ) k), nI k, X) (nI j, Z) = some (.inl (nI (j + 1), if wyB σ j (g k) = true then wI Z 35 j (nI (tmI g (hrs σ) (k + 1))) else Z)) := by
        unfold b_Breaks_milk_29_2_45 jv_
        dsimp only
        rw [show (10 : Int32) = nI 10 from rfl, dlt_t hj (by omega), ite_tt, atv_nI (f := Z.1 34) hj (by omega), atv_nI (i := k) (by omega) (by omega), r32, atv_nI (i := g k) (by omega) (by omega), r31, hG.row (a := 34) (fun _ => rfl), hF.row (a := 34) (fun _ => rfl), hw j hj, putv_nI hj (by omega), nI_addn, nI_one]
        have : hld (wyM σ j) (nI (g k)) = wyB σ j (g k) := hld_msk _ (by omega)
        rw [this]
        cases wyB σ j (g k) <;> rfl
      refine ⟨_, hst, rfl, ?_, fun f hf => ?_⟩
      · dsimp only
        split
        · exact hG.wI rfl
        · exact hG
      · dsimp only
        rw [show dkI (wyB σ f) g (hrs σ) (k + 1) = (if wyB σ f (g k) = true then tmI g (hrs σ) (k + 1) else dkI (wyB σ f) g (hrs σ) k) from rfl]
        by_cases c : f = j
        · rw [c, if_pos (show j < j + 1 by omega)]
          by_cases c2 : wyB σ j (g k) = true
          · rw [if_pos c2, if_pos c2, rde]
          · rw [if_neg c2, if_neg c2, hq j hj, if_neg (by omega)]
        · have hsame : (if wyB σ j (g k) = true then wI Z 35 j (nI (tmI g (hrs σ) (k + 1))) else Z).1 35 f = Z.1 35 f := by
            split
            · exact rdi c
            · rfl
          rw [hsame, hq f hf]
          by_cases c3 : f < j
          · rw [if_pos c3, if_pos (by omega)]; rfl
          · rw [if_neg c3, if_neg (by omega)]) (by
      rintro ⟨u, Z⟩ ⟨rfl, hG, hq⟩
      dsimp only at hG hq
      refine ⟨Z, ?_, hG, fun f hf => by rw [hq f hf, if_pos hf]⟩
      unfold b_Breaks_milk_29_2_45
      dsimp only
      rw [show (10 : Int32) = nI 10 from rfl, dlt_f (Nat.le_refl _) (by omega), ite_ff])
    refine ⟨(nI (tmI g (hrs σ) (k + 1)), nI (k + 1), Y), ?_, rfl, rfl, hF.trans i2, i3⟩
    unfold b_Breaks_milk_29_2_12
    dsimp only
    rw [hF.at_ rfl, e29, dlt_t hk (by omega), ite_tt, i1, Option.bind_some, atv_nI (i := k) (by omega) (by omega), r32, atv_nI (by omega) (by omega), r31, nI_addn, nI_one]
    rfl) (by
    rintro ⟨x, y, X⟩ ⟨hx, hy, hF, hd⟩
    dsimp only at hx hy hF hd
    rw [hx, hy]
    refine ⟨X, ?_, hF, hd⟩
    unfold b_Breaks_milk_29_2_12
    dsimp only
    rw [hF.at_ rfl, e29, dlt_f (Nat.le_refl _) (by omega), ite_ff])
  rw [h1]
  exact ⟨e, rfl, h2⟩
theorem e_milk (L : Rland M.1 σ) (wl : wLand σ) (n6 : nt σ 6 ≤ 6) (n1 : nt σ 1 ≤ 10) (e29 : M.1 29 2 = nI (nt σ 6)) (eh : ∀ b, b < nt σ 6 → M.1 31 b = nI (hrs σ b)) (hg : ∀ i, i < nt σ 6 → g i < nt σ 6) (hr : rw32 M (nt σ 6) g) (hw : ∀ f, f < 10 → M.1 34 f = wyM σ f) : ∃ Y, f_Breaks_milk_29_2 M = some (nI (mlk σ (nt σ 6) g), Y) ∧ Fr (fun a _ => a == 35) M Y := by
  have F0 : Fr (fun a _ => a == 35) M (wR M 35 (filv (M.1 35) 10 0)) := (Fr.refl M).wR (fun _ => rfl)
  obtain ⟨Y, a1, a2, a3⟩ := e_milk12 (M := wR M 35 (filv (M.1 35) 10 0)) (σ := σ) (g := g) n6 (by rw [F0.at_ rfl]; exact e29) (fun b hb => by rw [F0.at_ rfl]; exact eh b hb) hg (fun i hi => by rw [F0.at_ rfl]; exact hr i hi) (fun f hf => by rw [F0.at_ rfl]; exact hw f hf) (fun f hf => by rw [rRe]; unfold filv; rw [if_pos hf])
  refine ⟨Y, ?_, F0.trans a2⟩
  obtain ⟨e, h1, h2⟩ := itr_cnt (body := b_Breaks_milk_29_2_96 Y) (s0 := ((0 : Int32), (0 : Int32))) (fun k z => z = (nI (mlS σ (nt σ 6) g k), nI k)) (fun e => e = nI (mlk σ (nt σ 6) g)) 10 (by omega) rfl (by
    rintro k z hk rfl
    left
    refine ⟨_, ?_, rfl⟩
    have e6 : Y.1 6 k = σ (174 + k) := by rw [a2.at_ rfl, F0.at_ rfl]; exact (L.2.2.2 k hk).2
    have hm : nI (dkI (wyB σ k) g (hrs σ) (nt σ 6)) * σ (174 + k) = nI (dkI (wyB σ k) g (hrs σ) (nt σ 6) * ld σ k) := by
      by_cases c : k < nt σ 1
      · rw [(nI_of_inb (wl.2.1 k c).2.1).1, nI_muln]; rfl
      · rw [dk_out (by omega), Nat.zero_mul]
        exact Int32.zero_mul
    unfold b_Breaks_milk_29_2_96
    dsimp only
    rw [show (10 : Int32) = nI 10 from rfl, dlt_t hk (by omega), ite_tt, atv_nI hk (by omega), atv_nI hk (by omega), a3 k hk, e6, hm, nI_addn, nI_one]
    rfl) (by
    rintro z rfl
    refine ⟨_, ?_, rfl⟩
    unfold b_Breaks_milk_29_2_96
    dsimp only
    rw [show (10 : Int32) = nI 10 from rfl, dlt_f (Nat.le_refl _) (by omega), ite_ff]
    rfl)
  unfold f_Breaks_milk_29_2 jv_
  dsimp only
  rw [a1, Option.bind_some, h1, h2]; rfl
/-- the first of the least -/
def bst (σ : Nat → Int32) (n : Nat) (acc : Option (Nat × List Nat)) (l : List Nat) : Option (Nat × List Nat) :=
  match acc with
  | none => some (mlk σ n (gl l), l)
  | some (m, b) => if mlk σ n (gl l) < m then some (mlk σ n (gl l), l) else some (m, b)
theorem prm_s {l : List Nat} (h : prm n l = true) : l.length = n ∧ (∀ k, k < n → ∃ i, i < n ∧ gl l i = k) ∧ ∀ i, i < n → gl l i < n := by
  unfold prm at h
  simp only [Bool.and_eq_true, decide_eq_true_eq, List.all_eq_true, List.mem_range, List.contains_iff_mem] at h
  obtain ⟨h1, h2, h3⟩ := h
  refine ⟨h1, fun k hk => ?_, fun i hi => ?_⟩
  · obtain ⟨i, i1, i2⟩ := List.getElem_of_mem (h2 k hk)
    exact ⟨i, by omega, by unfold gl; rw [List.getD_eq_getElem?_getD, List.getElem?_eq_getElem i1]; exact i2⟩
  · unfold gl
    rw [List.getD_eq_getElem?_getD, List.getElem?_eq_getElem (show i < l.length by omega)]
    exact h3 _ (List.getElem_mem _)
end MK
end
