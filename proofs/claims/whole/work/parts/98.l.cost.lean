section
section CB
variable {M : Mem} {σ τ : Nat → Int32}
def cnd (σ τ : Nat → Int32) (f : Nat) : Bool := (mbN σ f && !onL τ (cel σ f)) && (decide (Dt σ τ (cel σ f) < 1000000) && decide (lkS (nI (Dt σ τ (cel σ f))) (rlS σ 4 f (nt σ 0) 0) (cnt (fun g => onW σ (Dt σ τ) (cel σ f) (Kt σ (Dt σ τ) (cel σ f)) g && mbN σ g) 10) = 0))
def lyT (σ τ : Nat → Int32) (f : Nat) : Nat → Int32 := ly τ (pth σ (Dt σ τ) (cel σ f)) (Kt σ (Dt σ τ) (cel σ f))
/-- COST of those brought in so far, and the line then -/
def bri (σ : Nat → Int32) : Nat → Nat × (Nat → Int32)
  | 0 => (0, σ)
  | f + 1 => if cnd σ (bri σ f).2 f = true then ((bri σ f).1 + Dt σ (bri σ f).2 (cel σ f), lyT σ (bri σ f).2 f) else bri σ f
theorem wm_al (W : Wm σ) (A : Al σ τ) (hT : ∃ t, Tree τ t) (wl : wLand τ) (h5 : inb (τ 5) 48 = true) : Wm τ := by
  obtain ⟨⟨z0, z1, z2, z3, z4, z5, z6, z7, z8, z9⟩, wb, -, wr, wp, -, ⟨C, R⟩⟩ := W
  have b2 : nt σ 2 ≤ 120 := by have := (nt_inb z2).2; omega
  have b3 : nt σ 3 ≤ 9 := by have := (nt_inb z3).2; omega
  refine ⟨⟨?_, ?_, ?_, ?_, ?_, h5, ?_, ?_, ?_, ?_⟩, wBook_c (A 1 (by omega) (by omega)) (A 2 (by omega) (by omega)) (fun j h1 h2 => A j (by omega) (by omega)) b2 wb, wl, fun k hk => ?_, fun k hk => ?_, hT, ⟨C, Rrule_s rfl (fun _ _ _ => rfl) (A 3 (by omega) (by omega)) (fun j h1 h2 => A j (by omega) (by omega)) b3 R⟩⟩
  · rw [A 0 (by omega) (by omega)]; exact z0
  · rw [A 1 (by omega) (by omega)]; exact z1
  · rw [A 2 (by omega) (by omega)]; exact z2
  · rw [A 3 (by omega) (by omega)]; exact z3
  · rw [A 4 (by omega) (by omega)]; exact z4
  · rw [A 6 (by omega) (by omega)]; exact z6
  · rw [A 7 (by omega) (by omega)]; exact z7
  · rw [A 8 (by omega) (by omega)]; exact z8
  · rw [A 9 (by omega) (by omega)]; exact z9
  · rw [A _ (by omega) (by omega)]; exact wr k hk
  · rw [A _ (by omega) (by omega)]; exact wp k hk
/-- what a way that is laid needs -/
theorem way_ok (W : Wm σ) (A : Al σ τ) {f : Nat} (hf : f < nt σ 1) (h : cnd σ τ f = true) : Way σ (Dt σ τ) (cel σ f) (Kt σ (Dt σ τ) (cel σ f)) ∧ (∀ i j, i ≤ Kt σ (Dt σ τ) (cel σ f) → j ≤ Kt σ (Dt σ τ) (cel σ f) → pth σ (Dt σ τ) (cel σ f) i = pth σ (Dt σ τ) (cel σ f) j → i = j) ∧ onL τ (pth σ (Dt σ τ) (cel σ f) (Kt σ (Dt σ τ) (cel σ f))) = true ∧ ∀ k, k < Kt σ (Dt σ τ) (cel σ f) → onL τ (pth σ (Dt σ τ) (cel σ f) k) = false := by
  have lc : cel σ f < 48 := (nI_of_inb (W.2.2.1.2.1 f hf).1).2
  unfold cnd at h
  simp only [Bool.and_eq_true, decide_eq_true_eq] at h
  obtain ⟨K, hK⟩ := way_ex W.2.2.1 (isD_Dt (τ := τ) W.2.2.1) lc h.2.1
  have hW := Way_Kt hK
  refine ⟨hW, fun i j hi hj e => way_inj W.2.2.1 hW hi hj e, (D_on W.2.2.1 (isD_Dt W.2.2.1) (hW.2.2.2 _ (Nat.le_refl _))).mp hW.2.2.1, fun k hk => ?_⟩
  cases g : onL τ (pth σ (Dt σ τ) (cel σ f) k)
  · rfl
  · have h0 := (D_on W.2.2.1 (isD_Dt (τ := τ) W.2.2.1) (hW.2.2.2 k (by omega))).mpr g
    have := (hW.2.1 k hk).1
    omega
theorem lyT_ok (W : Wm σ) (A : Al σ τ) {t : Nat → Int32} (T : Tree τ t) (wl : wLand τ) (h5 : inb (τ 5) 48 = true) {f : Nat} (hf : f < nt σ 1) (h : cnd σ τ f = true) : Al σ (lyT σ τ f) ∧ Tree (lyT σ τ f) (tdR t (pth σ (Dt σ τ) (cel σ f)) (nt τ 5) (Kt σ (Dt σ τ) (cel σ f)) (Kt σ (Dt σ τ) (cel σ f))) ∧ wLand (lyT σ τ f) ∧ inb (lyT σ τ f 5) 48 = true := by
  obtain ⟨w1, w2, w3, w4⟩ := way_ok W A hf h
  have h9 : inb (τ 9) 48 = true := by rw [A 9 (by omega) (by omega)]; exact W.1.2.2.2.2.2.2.2.2.2
  obtain ⟨q1, q2, q3, q4⟩ := lyR_tree T h9 h5 w1.2.2.2 w2 w3 w4 _ (Nat.le_refl _)
  have he := ly_lyR (τ := τ) w2
  have A2 : Al τ (lyT σ τ f) := ly_Al w1.2.2.2 _ (Nat.le_refl _)
  have A3 : Al σ (lyT σ τ f) := fun j h1 h2 => (A2 j h1 h2).trans (A j h1 h2)
  refine ⟨A3, ?_, ⟨fun c hc => ?_, fun g hg => ?_, fun c hc => ?_⟩, ?_⟩
  · unfold lyT
    rw [he]; exact q1
  · rw [A2 _ (by omega) (by omega), A2 _ (by omega) (by omega)]; exact wl.1 c hc
  · rw [nt_eq (A2 1 (by omega) (by omega))] at hg
    have : g < 10 := by
      have h1 := W.1.2.1
      rw [← A 1 (by omega) (by omega)] at h1
      have := (nt_inb h1).2; omega
    rw [A2 _ (by omega) (by omega), A2 _ (by omega) (by omega)]; exact wl.2.1 g hg
  · by_cases g : ∃ i, i < Kt σ (Dt σ τ) (cel σ f) ∧ c = pth σ (Dt σ τ) (cel σ f) i
    · obtain ⟨i, i1, rfl⟩ := g
      right
      unfold lyT
      rw [ly_at w2 _ i1 (Nat.le_refl _)]
      exact inb_t (w1.2.2.2 (i + 1) (by omega)) (by have := w1.2.2.2 (i + 1) (by omega); omega)
    · unfold lyT
      rw [ly_o (by omega) _ (fun i hi e => g ⟨i, hi, by omega⟩)]
      exact wl.2.2 c hc
  · unfold lyT
    rw [he]; exact q3
theorem bri_ok (W : Wm σ) : ∀ f, f ≤ nt σ 1 → Al σ (bri σ f).2 ∧ (∃ t, Tree (bri σ f).2 t) ∧ wLand (bri σ f).2 ∧ inb ((bri σ f).2 5) 48 = true
  | 0, _ => ⟨Al_refl σ, W.2.2.2.2.2.1, W.2.2.1, W.1.2.2.2.2.2.1⟩
  | f + 1, hf => by
    obtain ⟨a1, ⟨t, a2⟩, a3, a4⟩ := bri_ok W f (by omega)
    unfold bri
    by_cases c : cnd σ (bri σ f).2 f = true
    · rw [if_pos c]
      obtain ⟨b1, b2, b3, b4⟩ := lyT_ok W a1 a2 a3 a4 (show f < nt σ 1 by omega) c
      exact ⟨b1, ⟨_, b2⟩, b3, b4⟩
    · rw [if_neg c]
      exact ⟨a1, ⟨t, a2⟩, a3, a4⟩
/-- the line on trial -/
def RT (C : Nat → Nat → Int32) (τ : Nat → Int32) : Prop := C 89 2 = τ 5 ∧ C 89 3 = τ 7 ∧ C 89 4 = τ 8 ∧ (∀ c, c < 48 → C 90 c = τ (116 + c)) ∧ Tree τ (C 91)
theorem e_cells89 (R : RT M.1 τ) (h9 : inb (τ 9) 48 = true) (h5 : inb (τ 5) 48 = true) : ∃ x, f_Line_cells_89 (τ 9) M = some x ∧ ∀ c, c < 48 → btL x c = onL τ c := by
  obtain ⟨r1, r2, r3, r4, r5⟩ := R
  have q24 : (wR (wR (wR M 24 (M.1 89)) 25 (M.1 90)) 26 (M.1 91)).1 24 = M.1 89 := by rw [rRk (by omega), rRk (by omega), rRe]
  have q25 : (wR (wR (wR M 24 (M.1 89)) 25 (M.1 90)) 26 (M.1 91)).1 25 = M.1 90 := by rw [rRk (by omega), rRe]
  have q26 : (wR (wR (wR M 24 (M.1 89)) 25 (M.1 90)) 26 (M.1 91)).1 26 = M.1 91 := rRe
  obtain ⟨x, h1, h2⟩ := e_cells (M := wR (wR (wR M 24 (M.1 89)) 25 (M.1 90)) 26 (M.1 91)) (σ := τ) (by
    unfold Rline
    rw [q24, q25, q26]
    exact ⟨r1, r2, r3, r4, r5⟩) h9 h5
  refine ⟨x, ?_, h2⟩
  rw [← h1]
  have hb : b_Line_cells_24_7 (wR (wR (wR M 24 (M.1 89)) 25 (M.1 90)) 26 (M.1 91)) = b_Line_cells_89_7 M := by
    funext y
    unfold b_Line_cells_24_7 b_Line_cells_89_7
    rw [q24, q26]
  unfold f_Line_cells_89 f_Line_cells_24
  rw [hb]
def sTl (a i : Nat) : Bool := a == 90 || (a == 91 || (a == 89 && i == 2))
theorem sTl_sCs : ∀ a i, sTl a i = true → sCs a i = true := fun a i h => by
  unfold sTl at h; unfold sCs
  simp only [Bool.or_eq_true, Bool.and_eq_true, beq_iff_eq, decide_eq_true_eq] at h ⊢; omega
theorem e_layOn {p : Nat → Nat} {K N : Nat} (e5 : τ 5 = nI N) (hNK : N + K ≤ 47) (hp : ∀ k, k ≤ K → p k < 48) (hS : M.1 81 5 = nI K) (hP : ∀ k, k ≤ K → M.1 85 k = nI (p k)) (h2 : M.1 89 2 = τ 5) (hc : ∀ c, c < 48 → M.1 90 c = τ (116 + c)) : ∃ Y, f_Ways_layOn_81_89 M = some Y ∧ Fr sTl M Y ∧ Y.1 89 2 = lyR τ p K K 5 ∧ (∀ c, c < 48 → Y.1 90 c = lyR τ p K K (116 + c)) ∧ ∀ i, Y.1 91 i = tdR (M.1 91) p N K K i := by
  obtain ⟨e, k1, k2⟩ := itr_cnt (body := b_Ways_layOn_81_89_5) (s0 := (M.1 81 5, M)) (fun j z => z.1 = nI (K - j) ∧ Fr sTl M z.2 ∧ z.2.1 89 2 = lyR τ p K j 5 ∧ (∀ c, c < 48 → z.2.1 90 c = lyR τ p K j (116 + c)) ∧ ∀ i, z.2.1 91 i = tdR (M.1 91) p N K j i) (fun Y => Fr sTl M Y ∧ Y.1 89 2 = lyR τ p K K 5 ∧ (∀ c, c < 48 → Y.1 90 c = lyR τ p K K (116 + c)) ∧ ∀ i, Y.1 91 i = tdR (M.1 91) p N K K i) K (by omega) ⟨hS, Fr.refl _, h2, hc, fun _ => rfl⟩ (by
    rintro j ⟨x, X⟩ hj ⟨hx, hF, q1, q2, q3⟩
    dsimp only at hx hF q1 q2 q3
    rw [hx]
    left
    have p1 := hp (K - j) (by omega)
    have p2 := hp (K - 1 - j) (by omega)
    have e892 : X.1 89 2 = nI (N + j) := by rw [q1, lyR_5, e5, nI_addn]
    have r1 : X.1 85 (K - j) = nI (p (K - j)) := by rw [hF.at_ rfl]; exact hP _ (by omega)
    have r2 : X.1 85 (K - 1 - j) = nI (p (K - 1 - j)) := by rw [hF.at_ rfl]; exact hP _ (by omega)
    refine ⟨(nI (K - (j + 1)), wI (wI (wI X 90 (p (K - 1 - j)) (nI (p (K - j)))) 91 (N + j) (nI (p (K - 1 - j)))) 89 2 (lyR τ p K (j + 1) 5)), ?_, rfl, ((hF.wI rfl).wI rfl).wI rfl, rde, fun c hc => ?_, fun i => ?_⟩
    · have hm : nI (K - j) - 1 = nI (K - 1 - j) := by rw [show K - j = K - 1 - j + 1 by omega, dm1]
      have hadd : f_Line_add_89 (nI (p (K - j))) (nI (p (K - 1 - j))) X = some (wI (wI (wI X 90 (p (K - 1 - j)) (nI (p (K - j)))) 91 (N + j) (nI (p (K - 1 - j)))) 89 2 (lyR τ p K (j + 1) 5)) := by
        unfold f_Line_add_89 jv_
        dsimp only
        rw [putv_nI p2 (by omega), rdk (by omega), e892, putv_nI (by omega) (by omega), rdk (by omega), rdk (by omega), e892, lyR_5, e5, nI_addn, nI_one]
        rfl
      unfold b_Ways_layOn_81_89_5
      dsimp only
      rw [show decide (nI (K - j) ≤ 0) = false from dle_f (a := K - j) (b := 0) (by omega) (by omega), ite_ff, hm, atv_nI (by omega) (by omega), atv_nI (by omega) (by omega), r1, r2, hadd, Option.bind_some, am1, hm, show K - 1 - j = K - (j + 1) by omega]
    · dsimp only
      rw [rdk (by omega), rdk (by omega), show lyR τ p K (j + 1) (116 + c) = updZ (lyR τ p K j) (116 + p (K - 1 - j)) (nI (p (K - j))) (116 + c) from updZ_n (by omega)]
      by_cases g : c = p (K - 1 - j)
      · rw [g, rde, updZ_e]
      · rw [rdi g, updZ_n (by omega)]; exact q2 c hc
    · dsimp only
      rw [rdk (by omega)]
      show _ = updZ (tdR (M.1 91) p N K j) (N + j) (nI (p (K - 1 - j))) i
      by_cases g : i = N + j
      · rw [g, rde, updZ_e]
      · rw [rdi g, updZ_n g, rdk (by omega)]; exact q3 i) (by
    rintro ⟨x, X⟩ ⟨hx, hF, q1, q2, q3⟩
    dsimp only at hx hF q1 q2 q3
    rw [hx, Nat.sub_self]
    refine ⟨X, ?_, hF, q1, q2, q3⟩
    unfold b_Ways_layOn_81_89_5
    dsimp only
    rw [if_pos (show decide (nI 0 ≤ 0) = true from rfl)])
  unfold f_Ways_layOn_81_89
  rw [k1]
  exact ⟨e, rfl, k2⟩
theorem Rc0_C {M' : Mem} (R : Rc0 M.1 σ) (F : Fr sCs M M') : Rc0 M'.1 σ := by
  have e : ∀ a, (1 ≤ a ∧ a ≤ 12) ∨ a = 15 ∨ (16 ≤ a ∧ a ≤ 22) ∨ (24 ≤ a ∧ a ≤ 26) ∨ (36 ≤ a ∧ a ≤ 38) → M'.1 a = M.1 a := fun a ha => F.row (fun i => by
    unfold sCs
    simp only [Bool.or_eq_false_iff, Bool.and_eq_false_iff, beq_eq_false_iff_ne, decide_eq_false_iff_not]
    omega)
  obtain ⟨r1, r2, r3, r4, r5⟩ := R
  refine ⟨?_, ?_, ?_, Rrule_congr (F.at_ rfl) (fun a h1 h2 => e a (by omega)) r4, fun k hk => by rw [e 37 (by omega), e 38 (by omega)]; exact r5 k hk⟩
  · unfold Rbook
    rw [e 7 (by omega), e 8 (by omega), e 9 (by omega), e 10 (by omega), e 11 (by omega), e 12 (by omega)]; exact r1
  · unfold Rland
    rw [e 2 (by omega), e 3 (by omega), e 4 (by omega), e 5 (by omega), e 6 (by omega)]; exact r2
  · unfold Rline
    rw [e 24 (by omega), e 25 (by omega), e 26 (by omega)]; exact r3
end CB
end
