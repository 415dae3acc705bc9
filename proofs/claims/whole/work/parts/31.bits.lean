def bt (x : Int32) (i : Nat) : Bool := x.toBitVec.getLsbD i
theorem b_ext {x y : Int32} (h : ∀ i, i < 32 → bt x i = bt y i) : x = y := Int32.toBitVec_inj.mp (BitVec.eq_of_getLsbD_eq (fun i hi => h i hi))
theorem b_or (x y : Int32) (i : Nat) : bt (x ||| y) i = (bt x i || bt y i) := by unfold bt; rw [Int32.toBitVec_or, BitVec.getLsbD_or]
theorem b_and (x y : Int32) (i : Nat) : bt (x &&& y) i = (bt x i && bt y i) := by unfold bt; rw [Int32.toBitVec_and, BitVec.getLsbD_and]
theorem b_xor (x y : Int32) (i : Nat) : bt (x ^^^ y) i = (bt x i ^^ bt y i) := by unfold bt; rw [Int32.toBitVec_xor, BitVec.getLsbD_xor]
theorem b_big {x : Int32} {i : Nat} (h : 32 ≤ i) : bt x i = false := BitVec.getLsbD_of_ge _ _ h
theorem b_m1 : ∀ i, i < 32 → bt (-1) i = true := by decide +kernel
theorem b_0 (i : Nat) : bt 0 i = false := BitVec.getLsbD_zero
theorem s_l : ∀ n, n < 32 → ((nI n &&& 31).toBitVec.smod 32).toNat = n := by decide +kernel
theorem b_shl (n : Nat) (hn : n < 32) (x : Int32) {i : Nat} (hi : i < 32) : bt (x <<< (nI n &&& 31)) i = (decide (n ≤ i) && bt x (i - n)) := by
  unfold bt
  rw [Int32.toBitVec_shiftLeft]
  show (x.toBitVec <<< ((nI n &&& 31).toBitVec.smod 32).toNat).getLsbD i = _
  rw [s_l n hn, BitVec.getLsbD_shiftLeft]
  rcases Nat.lt_or_ge i n with h | h
  · simp [h, Nat.not_le.mpr h]
  · simp [hi, h, Nat.not_lt.mpr h]
theorem b_sshr (n : Nat) (hn : n < 32) (x : Int32) {i : Nat} (hi : i < 32) : bt (x >>> (nI n &&& 31)) i = if n + i < 32 then bt x (n + i) else bt x 31 := by
  unfold bt
  rw [Int32.toBitVec_shiftRight]
  show (x.toBitVec.sshiftRight ((nI n &&& 31).toBitVec.smod 32).toNat).getLsbD i = _
  rw [s_l n hn, BitVec.getLsbD_sshiftRight, BitVec.msb_eq_getLsbD_last]
  simp [hi]
theorem b_one (k : Nat) (hk : k < 32) {i : Nat} (hi : i < 32) : bt ((1 : Int32) <<< (nI k &&& 31)) i = decide (i = k) := by
  rw [b_shl k hk _ hi]
  have h1 : ∀ j, j < 32 → bt 1 j = decide (j = 0) := by decide +kernel
  rw [h1 (i - k) (by omega), Bool.eq_iff_iff]
  simp only [Bool.and_eq_true, decide_eq_true_eq]; omega
theorem b_1 {i : Nat} (hi : i < 32) : bt 1 i = decide (i = 0) := (by decide +kernel : ∀ j, j < 32 → bt 1 j = decide (j = 0)) i hi
theorem b_not (x : Int32) {i : Nat} (hi : i < 32) : bt (x ^^^ (-1)) i = !bt x i := by
  rw [b_xor, b_m1 i hi]; cases bt x i <;> rfl
theorem and_one_eq (x : Int32) : x &&& 1 = if bt x 0 then 1 else 0 := by
  apply b_ext
  intro i hi
  rw [b_and, b_1 hi]
  by_cases h : i = 0
  · subst h
    cases bt x 0 <;> rfl
  · rw [decide_eq_false h, Bool.and_false]
    cases bt x 0
    · exact (b_0 i).symm
    · rw [if_pos rfl, b_1 hi, decide_eq_false h]
theorem shr_and (x : Int32) {i : Nat} (hi : i < 32) : (x >>> (nI i &&& 31)) &&& 1 = if bt x i then 1 else 0 := by
  have h := b_sshr i hi x (i := 0) (by omega)
  rw [if_pos (by omega)] at h
  rw [and_one_eq, h]; rfl
theorem hld_nI (x : Int32) {i : Nat} (hi : i < 32) : hld x (nI i) = bt x i := by
  unfold hld
  rw [shr_and x hi]
  cases bt x i <;> decide
theorem shr_1 (x : Int32) {i : Nat} (hi : i < 32) : decide ((x >>> (nI i &&& 31)) &&& 1 = 1) = bt x i := hld_nI x hi
theorem shr_0 (x : Int32) {i : Nat} (hi : i < 32) : decide ((x >>> (nI i &&& 31)) &&& 1 = 0) = !bt x i := by
  rw [shr_and x hi]
  cases bt x i <;> decide
/-- a set's mask -/
def msk (p : Nat → Bool) : Nat → Int32
  | 0 => 0
  | n + 1 => if p n then msk p n ||| ((1 : Int32) <<< (nI n &&& 31)) else msk p n
theorem b_msk (p : Nat → Bool) : ∀ (n : Nat), n ≤ 32 → ∀ {i : Nat}, i < 32 → bt (msk p n) i = (decide (i < n) && p i)
  | 0, _, i, _ => by rw [show msk p 0 = 0 from rfl, b_0, decide_eq_false (by omega)]; rfl
  | n + 1, hn, i, hi => by
    have ih := b_msk p n (by omega) hi
    unfold msk
    by_cases h : p n = true
    · rw [if_pos h, b_or, ih, b_one n (by omega) hi]
      by_cases h2 : i = n
      · subst h2; simp [h]
      · have : (i < n + 1) = (i < n) := propext ⟨fun _ => by omega, fun _ => by omega⟩
        simp [h2, this]
    · rw [if_neg h, ih]
      by_cases h2 : i = n
      · subst h2; simp [h]
      · have : (i < n + 1) = (i < n) := propext ⟨fun _ => by omega, fun _ => by omega⟩
        simp [this]
theorem msk_congr {p q : Nat → Bool} : ∀ (n : Nat), (∀ i, i < n → p i = q i) → msk p n = msk q n
  | 0, _ => rfl
  | n + 1, h => by
    unfold msk
    rw [msk_congr n (fun i hi => h i (by omega)), h n (by omega)]
theorem msk_more {p : Nat → Bool} {n : Nat} : ∀ (m : Nat), (∀ i, n ≤ i → i < n + m → p i = false) → msk p (n + m) = msk p n
  | 0, _ => rfl
  | m + 1, h => by
    show (if p (n + m) then msk p (n + m) ||| ((1 : Int32) <<< (nI (n + m) &&& 31)) else msk p (n + m)) = _
    rw [if_neg (by rw [h (n + m) (by omega) (by omega)]; decide), msk_more m (fun i h1 h2 => h i h1 (by omega))]
def cnt (p : Nat → Bool) : Nat → Nat
  | 0 => 0
  | n + 1 => cnt p n + (if p n then 1 else 0)
theorem cnt_le (p : Nat → Bool) : ∀ n, cnt p n ≤ n
  | 0 => Nat.le_refl 0
  | n + 1 => by
    have := cnt_le p n
    unfold cnt
    split <;> omega
theorem cnt_congr {p q : Nat → Bool} : ∀ (n : Nat), (∀ i, i < n → p i = q i) → cnt p n = cnt q n
  | 0, _ => rfl
  | n + 1, h => by
    unfold cnt
    rw [cnt_congr n (fun i hi => h i (by omega)), h n (by omega)]
theorem cnt_mono {p q : Nat → Bool} : ∀ (n : Nat), (∀ i, i < n → p i = true → q i = true) → cnt p n ≤ cnt q n
  | 0, _ => Nat.le_refl 0
  | n + 1, h => by
    have ih := cnt_mono (p := p) (q := q) n (fun i hi => h i (by omega))
    have hn := h n (by omega)
    unfold cnt
    by_cases hp : p n = true
    · rw [if_pos hp, if_pos (hn hp)]; omega
    · rw [if_neg hp]; omega
theorem cnt_lt {p q : Nat → Bool} : ∀ (n : Nat), (∀ i, i < n → p i = true → q i = true) → (∃ i, i < n ∧ p i = false ∧ q i = true) → cnt p n < cnt q n
  | 0, _, ⟨i, h, _⟩ => by omega
  | n + 1, h, ⟨i, h1, h2, h3⟩ => by
    have hn := h n (by omega)
    by_cases hi : i = n
    · subst hi
      have ih := cnt_mono (p := p) (q := q) i (fun j hj => h j (by omega))
      unfold cnt
      rw [if_neg (by rw [h2]; decide), if_pos h3]; omega
    · have ih := cnt_lt (p := p) (q := q) n (fun j hj => h j (by omega)) ⟨i, by omega, h2, h3⟩
      unfold cnt
      by_cases hp : p n = true
      · rw [if_pos hp, if_pos (hn hp)]; omega
      · rw [if_neg hp]; omega
theorem cnt_full {p : Nat → Bool} : ∀ (n : Nat), n ≤ cnt p n → ∀ i, i < n → p i = true
  | 0, _, i, h => by omega
  | n + 1, h, i, hi => by
    have h1 := cnt_le p n
    unfold cnt at h
    by_cases hp : p n = true
    · rw [if_pos hp] at h
      by_cases h2 : i = n
      · subst h2; exact hp
      · exact cnt_full n (by omega) i (by omega)
    · rw [if_neg hp] at h; omega
theorem cnt_more {p : Nat → Bool} {n : Nat} : ∀ (m : Nat), (∀ i, n ≤ i → i < n + m → p i = false) → cnt p (n + m) = cnt p n
  | 0, _ => rfl
  | m + 1, h => by
    show cnt p (n + m) + (if p (n + m) then 1 else 0) = _
    rw [if_neg (by rw [h (n + m) (by omega) (by omega)]; decide), cnt_more m (fun i h1 h2 => h i h1 (by omega))]; omega
theorem bcnt_fin : ∀ k, k < 1024 → bcnt (nI k) = nI (cnt (bt (nI k)) 10) := by decide +kernel
theorem small_of {x : Int32} (h : ∀ i, 10 ≤ i → i < 32 → bt x i = false) : ∃ k, k < 1024 ∧ x = nI k := by
  refine ⟨x.toBitVec.toNat, ?_, ?_⟩
  · apply Nat.lt_of_not_le
    intro hge
    have h2 : x.toBitVec.toNat < 2 ^ 32 := x.toBitVec.isLt
    obtain ⟨i, h3, h4⟩ := Nat.exists_ge_and_testBit_of_ge_two_pow (n := 10) hge
    have h5 : i < 32 := by
      apply Nat.lt_of_not_le
      intro h6
      have h7 : x.toBitVec.toNat.testBit i = false := Nat.testBit_lt_two_pow (Nat.lt_of_lt_of_le h2 (Nat.pow_le_pow_right (by decide) h6))
      rw [h7] at h4; exact absurd h4 (by decide)
    have h8 := h i h3 h5
    unfold bt at h8
    rw [BitVec.getLsbD] at h8
    rw [h8] at h4; exact absurd h4 (by decide)
  · apply Int32.toBitVec_inj.mp
    show _ = BitVec.ofNat 32 _
    simp
theorem bcnt_eq {x : Int32} (h : ∀ i, 10 ≤ i → i < 32 → bt x i = false) : bcnt x = nI (cnt (bt x) 10) := by
  obtain ⟨k, hk, rfl⟩ := small_of h
  exact bcnt_fin k hk
theorem b_msk_hi (p : Nat → Bool) {i : Nat} (h1 : 10 ≤ i) (h2 : i < 32) : bt (msk p 10) i = false := by
  rw [b_msk p 10 (by omega) h2, decide_eq_false (by omega)]; rfl
theorem b_msk_lo (p : Nat → Bool) {i : Nat} (h1 : i < 10) : bt (msk p 10) i = p i := by
  rw [b_msk p 10 (by omega) (by omega), decide_eq_true h1]; rfl
theorem msk_of {x : Int32} (h : ∀ i, 10 ≤ i → i < 32 → bt x i = false) : x = msk (bt x) 10 := by
  apply b_ext
  intro i hi
  by_cases h1 : i < 10
  · rw [b_msk_lo _ h1]
  · rw [b_msk_hi _ (by omega) hi, h i (by omega) hi]
theorem msk_and (p q : Nat → Bool) : msk p 10 &&& msk q 10 = msk (fun i => p i && q i) 10 := by
  apply b_ext
  intro i hi
  rw [b_and]
  by_cases h1 : i < 10
  · rw [b_msk_lo _ h1, b_msk_lo _ h1, b_msk_lo _ h1]
  · rw [b_msk_hi _ (by omega) hi, b_msk_hi _ (by omega) hi, b_msk_hi _ (by omega) hi]; rfl
theorem msk_or (p q : Nat → Bool) : msk p 10 ||| msk q 10 = msk (fun i => p i || q i) 10 := by
  apply b_ext
  intro i hi
  rw [b_or]
  by_cases h1 : i < 10
  · rw [b_msk_lo _ h1, b_msk_lo _ h1, b_msk_lo _ h1]
  · rw [b_msk_hi _ (by omega) hi, b_msk_hi _ (by omega) hi, b_msk_hi _ (by omega) hi]; rfl
theorem msk_andn (p q : Nat → Bool) : msk p 10 &&& (msk q 10 ^^^ (-1)) = msk (fun i => p i && !q i) 10 := by
  apply b_ext
  intro i hi
  rw [b_and, b_not _ hi]
  by_cases h1 : i < 10
  · rw [b_msk_lo _ h1, b_msk_lo _ h1, b_msk_lo _ h1]
  · rw [b_msk_hi _ (by omega) hi, b_msk_hi _ (by omega) hi, b_msk_hi _ (by omega) hi]; rfl
theorem bcnt_msk (p : Nat → Bool) : bcnt (msk p 10) = nI (cnt p 10) := by
  rw [bcnt_eq (fun i h1 h2 => b_msk_hi p h1 h2)]
  congr 1
  exact cnt_congr 10 (fun i hi => b_msk_lo p hi)
theorem hld_msk (p : Nat → Bool) {i : Nat} (h : i < 10) : hld (msk p 10) (nI i) = p i := by rw [hld_nI _ (by omega), b_msk_lo p h]
theorem msk_inj {p q : Nat → Bool} (h : msk p 10 = msk q 10) {i : Nat} (hi : i < 10) : p i = q i := by
  rw [← b_msk_lo p hi, h, b_msk_lo q hi]
theorem msk_0 : msk (fun _ => false) 10 = 0 := by decide
theorem msk_one {k : Nat} (h : k < 10) : msk (fun i => decide (i = k)) 10 = (1 : Int32) <<< (nI k &&& 31) := by
  apply b_ext
  intro i hi
  rw [b_one k (by omega) hi]
  by_cases h1 : i < 10
  · rw [b_msk_lo _ h1]
  · rw [b_msk_hi _ (by omega) hi, decide_eq_false (by omega)]
/-- frames: all but some places stay -/
def Fr (S : Nat → Nat → Bool) (M M' : Mem) : Prop := ∀ a i, S a i = false → M'.1 a i = M.1 a i ∧ M'.2 a i = M.2 a i
theorem Fr.refl {S : Nat → Nat → Bool} (M : Mem) : Fr S M M := fun _ _ _ => ⟨rfl, rfl⟩
theorem Fr.trans {S : Nat → Nat → Bool} {M M' M'' : Mem} (h : Fr S M M') (h2 : Fr S M' M'') : Fr S M M'' := fun a i hs => ⟨(h2 a i hs).1.trans (h a i hs).1, (h2 a i hs).2.trans (h a i hs).2⟩
theorem Fr.mono {S T : Nat → Nat → Bool} {M M' : Mem} (h : Fr S M M') (hST : ∀ a i, S a i = true → T a i = true) : Fr T M M' := fun a i ht => h a i (by
  cases hs : S a i with
  | false => rfl
  | true => rw [hST a i hs] at ht; exact absurd ht (by decide))
theorem Fr.wI {S : Nat → Nat → Bool} {M M' : Mem} {k i : Nat} {v : Int32} (h : Fr S M M') (hk : S k i = true) : Fr S M (wI M' k i v) := fun a j hs => by
  refine ⟨?_, (h a j hs).2⟩
  rw [rd_I]
  by_cases h1 : a = k
  · rw [if_pos h1]
    by_cases h2 : j = i
    · rw [h1, h2, hk] at hs; exact absurd hs (by decide)
    · rw [if_neg h2]; exact (h a j hs).1
  · rw [if_neg h1]; exact (h a j hs).1
theorem Fr.wR {S : Nat → Nat → Bool} {M M' : Mem} {k : Nat} {f : Nat → Int32} (h : Fr S M M') (hk : ∀ i, S k i = true) : Fr S M (wR M' k f) := fun a j hs => by
  refine ⟨?_, (h a j hs).2⟩
  rw [rd_R]
  by_cases h1 : a = k
  · rw [h1, hk] at hs; exact absurd hs (by decide)
  · rw [if_neg h1]; exact (h a j hs).1
theorem rd_L (m : Mem) (k i : Nat) (v : Int64) (a j : Nat) : (wL m k i v).2 a j = if a = k then (if j = i then v else m.2 a j) else m.2 a j := by
  show (if a = k then vp_updL (m.2 k) i v else m.2 a) j = _
  by_cases h : a = k
  · subst h
    rw [if_pos rfl, if_pos rfl]; rfl
  · rw [if_neg h, if_neg h]
theorem Fr.wL {S : Nat → Nat → Bool} {M M' : Mem} {k i : Nat} {v : Int64} (h : Fr S M M') (hk : S k i = true) : Fr S M (wL M' k i v) := fun a j hs => by
  refine ⟨(h a j hs).1, ?_⟩
  rw [rd_L]
  by_cases h1 : a = k
  · rw [if_pos h1]
    by_cases h2 : j = i
    · rw [h1, h2, hk] at hs; exact absurd hs (by decide)
    · rw [if_neg h2]; exact (h a j hs).2
  · rw [if_neg h1]; exact (h a j hs).2
theorem Fr.putv {S : Nat → Nat → Bool} {M M' : Mem} {k n : Nat} {i v : Int32} (h : Fr S M M') (hk : ∀ i, S k i = true) : Fr S M (putv M' k n i v) := by
  show Fr S M (if inb i n = true then _ else M')
  split
  · exact h.wI (hk _)
  · exact h
theorem Fr.row {S : Nat → Nat → Bool} {M M' : Mem} (h : Fr S M M') {a : Nat} (hs : ∀ i, S a i = false) : M'.1 a = M.1 a := funext fun i => (h a i (hs i)).1
theorem Fr.at_ {S : Nat → Nat → Bool} {M M' : Mem} (h : Fr S M M') {a i : Nat} (hs : S a i = false) : M'.1 a i = M.1 a i := (h a i hs).1
theorem Fr.atL {S : Nat → Nat → Bool} {M M' : Mem} (h : Fr S M M') {a i : Nat} (hs : S a i = false) : M'.2 a i = M.2 a i := (h a i hs).2
