/-- the groups of class's state against a row -/
def GB (C : Nat → Nat → Int32) (σ : Nat → Int32) : Prop := Rbook C σ ∧ wBook σ
def GL (C : Nat → Nat → Int32) (σ : Nat → Int32) : Prop := Rland C σ ∧ wLand σ
def GP (n : Nat) (C : Nat → Nat → Int32) (σ : Nat → Int32) : Prop := (∀ k, k < 1210 → C 37 k = (if σ (2280 + k) = -1 then -5 else σ (2280 + k)) ∧ C 38 k = σ (3490 + k)) ∧ (∀ k, k < 1210 → (σ (2280 + k) = -1 ∨ inb (σ (2280 + k)) 10000 = true) ∧ inb (σ (3490 + k)) (1 + 10000 * n) = true) ∧ ∀ f m, nt σ 1 ≤ f → f < 10 → m < 121 → σ (3490 + (121 * f + m)) = 0
def GT (C : Nat → Nat → Int32) (σ : Nat → Int32) : Prop := Rtape C σ ∧ wTape σ
def GK (C : Nat → Nat → Int32) (σ : Nat → Int32) : Prop := Rbrk C σ ∧ wBrk σ
def GO (C : Nat → Nat → Int32) (σ : Nat → Int32) : Prop := Rloan C σ ∧ (σ 10 = 0 ∨ (σ 10 = 1 ∧ inb (σ 11) 100000 = true ∧ inb (σ 12) 121 = true ∧ inb (σ 13) 21 = true ∧ (inb (σ 14) 61 = true ∧ σ 14 ≠ 0) ∧ inb (σ 15) 100000 = true))
def GN (C : Nat → Nat → Int32) (σ : Nat → Int32) : Prop := C 1 6 = σ 0 ∧ wNum σ ∧ inb (σ 3) 9 = true
theorem RS1_mk {n : Nat} {C : Nat → Nat → Int32} {σ : Nat → Int32} (b : GB C σ) (l : GL C σ) (i : Rline C σ) (r : Rrule C σ) (p : GP n C σ) (t : GT C σ) (k : GK C σ) (o : GO C σ) (w : GN C σ) : RS1 n C σ :=
  ⟨⟨b.1, l.1, i, r, p.1⟩, t.1, k.1, o.1, w.1, w.2.1, w.2.2, b.2, l.2, t.2, k.2, p.2.1, o.2, p.2.2⟩
theorem RS1_gs {n : Nat} {C : Nat → Nat → Int32} {σ : Nat → Int32} (H : RS1 n C σ) : GB C σ ∧ GL C σ ∧ Rline C σ ∧ Rrule C σ ∧ GP n C σ ∧ GT C σ ∧ GK C σ ∧ GO C σ ∧ GN C σ := by
  obtain ⟨⟨r1, r2, r3, r4, r5⟩, q2, q3, q4, q5, q6, q7, q8, q9, q10, q11, q12, q13, q14⟩ := H
  exact ⟨⟨r1, q8⟩, ⟨r2, q9⟩, r3, r4, ⟨r5, q12, q14⟩, ⟨q2, q10⟩, ⟨q3, q11⟩, ⟨q4, q13⟩, ⟨q5, q6, q7⟩⟩
section GS
variable {n : Nat} {C C' : Nat → Nat → Int32} {σ σ' : Nat → Int32}
theorem GB_s (hC : ∀ a, 7 ≤ a → a ≤ 12 → C' a = C a) (h1 : σ' 1 = σ 1) (h2 : σ' 2 = σ 2) (h : ∀ j, 190 ≤ j → j < 790 → σ' j = σ j) (hE : nt σ 2 ≤ 120) (G : GB C σ) : GB C' σ' :=
  ⟨Rbook_c ⟨by rw [hC 7 (by omega) (by omega)], fun a h1 h2 => hC a (by omega) (by omega)⟩ h2 h hE G.1, wBook_c h1 h2 h hE G.2⟩
theorem GL_s (hC : ∀ a, 2 ≤ a → a ≤ 6 → C' a = C a) (h1 : σ' 1 = σ 1) (h9 : σ' 9 = σ 9) (h : ∀ j, 20 ≤ j → j < 184 → σ' j = σ j) (hF : nt σ 1 ≤ 10) (G : GL C σ) : GL C' σ' := by
  obtain ⟨⟨x1, x2, x3, x4⟩, y1, y2, y3⟩ := G
  refine ⟨⟨by rw [hC 2 (by omega) (by omega), h1]; exact x1, by rw [hC 2 (by omega) (by omega), h9]; exact x2, fun c hc => ?_, fun f hf => ?_⟩, fun c hc => ?_, fun f hf => ?_, fun c hc => ?_⟩
  · rw [hC 3 (by omega) (by omega), hC 4 (by omega) (by omega), h _ (by omega) (by omega), h _ (by omega) (by omega)]; exact x3 c hc
  · rw [hC 5 (by omega) (by omega), hC 6 (by omega) (by omega), h _ (by omega) (by omega), h _ (by omega) (by omega)]; exact x4 f hf
  · rw [h _ (by omega) (by omega), h _ (by omega) (by omega)]; exact y1 c hc
  · rw [nt_eq h1] at hf
    rw [h _ (by omega) (by omega), h _ (by omega) (by omega)]; exact y2 f hf
  · rw [h _ (by omega) (by omega)]; exact y3 c hc
theorem Rline_s (hC : ∀ a, 24 ≤ a → a ≤ 26 → C' a = C a) (h5 : σ' 5 = σ 5) (h7 : σ' 7 = σ 7) (h8 : σ' 8 = σ 8) (h9 : σ' 9 = σ 9) (h : ∀ j, 116 ≤ j → j < 164 → σ' j = σ j) (G : Rline C σ) : Rline C' σ' := by
  obtain ⟨x1, x2, x3, x4, x5⟩ := G
  refine ⟨by rw [hC 24 (by omega) (by omega), h5]; exact x1, by rw [hC 24 (by omega) (by omega), h7]; exact x2, by rw [hC 24 (by omega) (by omega), h8]; exact x3, fun c hc => ?_, ?_⟩
  · rw [hC 25 (by omega) (by omega), h _ (by omega) (by omega)]; exact x4 c hc
  · rw [hC 26 (by omega) (by omega)]; exact Tree_c h5 h9 h x5
theorem Rrule_s (h14 : C' 14 9 = C 14 9) (hC : ∀ a, 16 ≤ a → a ≤ 22 → C' a = C a) (h3 : σ' 3 = σ 3) (h : ∀ j, 790 ≤ j → j < 2140 → σ' j = σ j) (hR : nt σ 3 ≤ 9) (G : Rrule C σ) : Rrule C' σ' := Rrule_c ⟨h14, hC⟩ h3 h hR G
theorem GP_s (h37 : C' 37 = C 37) (h38 : C' 38 = C 38) (h1 : σ' 1 = σ 1) (h : ∀ j, 2280 ≤ j → j < 4700 → σ' j = σ j) (G : GP n C σ) : GP (n + 1) C' σ' := by
  obtain ⟨x1, x2, x3⟩ := G
  refine ⟨fun k hk => ?_, fun k hk => ?_, fun f m a b c => ?_⟩
  · rw [h37, h38, h _ (by omega) (by omega), h _ (by omega) (by omega)]; exact x1 k hk
  · rw [h _ (by omega) (by omega), h _ (by omega) (by omega)]
    exact ⟨(x2 k hk).1, inb_mono (x2 k hk).2 (by omega)⟩
  · rw [nt_eq h1] at a
    rw [h _ (by omega) (by omega)]; exact x3 f m a b c
theorem GT_s (h14 : C' 14 1 = C 14 1) (h15 : C' 15 = C 15) (h4 : σ' 4 = σ 4) (h : ∀ j, 2140 ≤ j → j < 2260 → σ' j = σ j) (G : GT C σ) : GT C' σ' := by
  obtain ⟨⟨x1, x2⟩, x3⟩ := G
  refine ⟨⟨by rw [h14, h4]; exact x1, fun j hj => ?_⟩, fun j hj => ?_⟩
  · rw [h15, h _ (by omega) (by omega)]; exact x2 j hj
  · rw [h _ (by omega) (by omega)]; exact x3 j hj
theorem GK_s (h29 : C' 29 2 = C 29 2) (h30 : C' 30 = C 30) (h31 : C' 31 = C 31) (h6 : σ' 6 = σ 6) (h : ∀ j, 2260 ≤ j → j < 2280 → σ' j = σ j) (hp : ∀ j, 116 ≤ j → j < 164 → σ' j = σ j) (hB : nt σ 6 ≤ 6) (G : GK C σ) : GK C' σ' := by
  obtain ⟨⟨x1, x2⟩, x3, x4⟩ := G
  refine ⟨⟨by rw [h29, h6]; exact x1, fun i hi => ?_⟩, fun i hi => ?_, fun i j hi hj => ?_⟩
  · rw [h30, h31, h _ (by omega) (by omega), h _ (by omega) (by omega)]; exact x2 i hi
  · rw [nt_eq h6] at hi
    have e := h (2260 + i) (by omega) (by omega)
    obtain ⟨z1, z2, z3, z4⟩ := x3 i hi
    have hlt := (nI_of_inb z1).2
    rw [e, h (2270 + i) (by omega) (by omega), nt_eq e, hp _ (by omega) (by unfold nt; omega)]
    exact ⟨z1, z2, z3, z4⟩
  · rw [nt_eq h6] at hi hj
    rw [h _ (by omega) (by omega), h _ (by omega) (by omega)]; exact x4 i j hi hj
theorem GO_s (h36 : C' 36 = C 36) (h : ∀ j, 10 ≤ j → j ≤ 15 → σ' j = σ j) (G : GO C σ) : GO C' σ' := by
  unfold GO Rloan at *
  rw [h36, h 10 (by omega) (by omega), h 11 (by omega) (by omega), h 12 (by omega) (by omega), h 13 (by omega) (by omega), h 14 (by omega) (by omega), h 15 (by omega) (by omega)]; exact G
theorem GN_s (h16 : C' 1 6 = C 1 6) (h : ∀ j, j ≤ 9 → σ' j = σ j) (G : GN C σ) : GN C' σ' := by
  unfold GN wNum at *
  rw [h16, h 0 (by omega), h 1 (by omega), h 2 (by omega), h 3 (by omega), h 4 (by omega), h 5 (by omega), h 6 (by omega), h 7 (by omega), h 8 (by omega), h 9 (by omega)]; exact G
end GS
section RK
variable {n : Nat} {M M' : Mem}
/-- a call that leaves the stamp -/
theorem Rel_same (hn : n < 512) (H : Rel n M) (R : RS1 (n + 1) M'.1 (M'.1 95)) (A : Ag (M.1 95) (M'.1 95)) (h1 : M'.1 95 1 = M.1 95 1) (e : ∀ a, a = 0 ∨ (39 ≤ a ∧ a ≤ 76) ∨ a = 94 ∨ a = 96 ∨ (108 ≤ a ∧ a ≤ 111) → M'.1 a = M.1 a) : Rel (n + 1) M' := by
  have W := Rel_W hn H
  obtain ⟨-, h2, h3, k, k1, k2, k3, k4, k5⟩ := H
  have hCv := Cv_ag A W h1 (e 108 (by omega)) (e 109 (by omega)) (e 110 (by omega)) (e 111 (by omega)) k4 k5
  refine ⟨R, ?_, ?_, k, k1, by omega, ?_, hCv.1, hCv.2⟩
  · rw [e 0 (by omega), e 94 (by omega)]; exact h2
  · rw [e 94 (by omega), e 96 (by omega)]
    rcases h3 with h | ⟨h, h'⟩
    · exact .inl h
    · refine .inr ⟨h, RS1_congr (fun a i ha => ?_) (RS1_mono h' (Nat.le_succ n))⟩
      show M'.1 (a + 38) i = M.1 (a + 38) i
      rw [e (a + 38) (by omega)]
  · rw [e 94 (by omega)]; exact k3
/-- a call that makes a new stamp -/
theorem Rel_new (hn : n < 512) (H : Rel n M) (R : RS1 (n + 1) M'.1 (M'.1 95)) {d : Nat} (hd : 1 ≤ d) (hd2 : d ≤ 40) (h21 : M'.1 94 21 = M.1 94 21 + nI d) (h3' : M'.1 94 3 = M.1 94 3) (e : ∀ a, a = 0 ∨ (39 ≤ a ∧ a ≤ 76) ∨ a = 96 ∨ a = 109 ∨ a = 111 → M'.1 a = M.1 a) : Rel (n + 1) M' := by
  obtain ⟨-, h2, h3, k, k1, k2, k3, k4, k5⟩ := H
  have hF : nt (M'.1 95) 1 ≤ 10 := by
    obtain ⟨-, -, -, -, -, q6, -⟩ := R
    have := (nt_inb q6.2.1).2; omega
  have hCv := Cv_new (M := M) (M' := M') (k := k) (by omega) (e 109 (by omega)) (e 111 (by omega)) hF k4 k5 (k' := k + d) (by omega) (by omega)
  refine ⟨R, ?_, ?_, k + d, by omega, by omega, ?_, hCv.1, hCv.2⟩
  · rw [e 0 (by omega), h3']; exact h2
  · rw [h3', e 96 (by omega)]
    rcases h3 with h | ⟨h, h'⟩
    · exact .inl h
    · refine .inr ⟨h, RS1_congr (fun a i ha => ?_) (RS1_mono h' (Nat.le_succ n))⟩
      show M'.1 (a + 38) i = M.1 (a + 38) i
      rw [e (a + 38) (by omega)]
  · rw [h21, k3, nI_addn]
theorem Rel_b (H : Rel n M) : nt (M.1 95) 1 ≤ 10 ∧ nt (M.1 95) 2 ≤ 120 ∧ nt (M.1 95) 3 ≤ 9 ∧ nt (M.1 95) 6 ≤ 6 := by
  obtain ⟨⟨-, -, -, -, -, q6, -⟩, -⟩ := H
  have a1 := (nt_inb q6.2.1).2
  have a2 := (nt_inb q6.2.2.1).2
  have a3 := (nt_inb q6.2.2.2.1).2
  have a4 := (nt_inb q6.2.2.2.2.2.2.1).2
  omega
theorem w_inb {v : Int32} {a b : Nat} (ha : a < 2147483648) (hb : b < 2147483648) (h : wthn v (nI a) (nI b) = true) : inb v (b + 1) = true ∧ (1 ≤ a → v ≠ 0) := by
  have h1 := wthn_iff.mp h
  rw [nI_toI hb, nI_toI ha] at h1
  refine ⟨inb_iff.mpr ⟨by omega, by omega⟩, fun h e => ?_⟩
  rw [e, i_0] at h1; omega
end RK
