section
section BE
theorem lstF_n {p : Nat → Bool} : ∀ n i, (∀ a, i ≤ a → a < i + n → p a = false) → lstF p n i = i + n
  | 0, i, _ => rfl
  | n + 1, i, h => by
    unfold lstF
    rw [if_neg (by rw [h i (by omega) (by omega)]; decide), lstF_n n (i + 1) (fun a h1 h2 => h a (by omega) (by omega))]; omega
theorem cnt_n {p : Nat → Bool} {a : Nat} : ∀ d, cnt p a ≤ cnt p (a + d)
  | 0 => Nat.le_refl _
  | d + 1 => Nat.le_trans (cnt_n d) (by rw [show a + (d + 1) = (a + d) + 1 by omega]; exact Nat.le_add_right _ _)
theorem cnt_s {p : Nat → Bool} {f : Nat} (h : p f = true) : cnt p (f + 1) = cnt p f + 1 := by
  rw [show cnt p (f + 1) = cnt p f + (if p f = true then 1 else 0) from rfl, if_pos h]
theorem cnt_s0 {p : Nat → Bool} {f : Nat} (h : p f = false) : cnt p (f + 1) = cnt p f := by
  rw [show cnt p (f + 1) = cnt p f + (if p f = true then 1 else 0) from rfl, h]; rfl
theorem cnt_lt10 {p : Nat → Bool} {f n : Nat} (h : p f = true) (hf : f < n) : cnt p f < cnt p n := by
  have h1 := cnt_n (p := p) (a := f + 1) (n - (f + 1))
  rw [cnt_s h, show f + 1 + (n - (f + 1)) = n by omega] at h1
  omega
theorem cnt_u {p : Nat → Bool} {f g : Nat} (hf : p f = true) (hg : p g = true) (h : cnt p f = cnt p g) : f = g := by
  rcases Nat.lt_trichotomy f g with h1 | h1 | h1
  · have := cnt_lt10 hf h1; omega
  · exact h1
  · have := cnt_lt10 hg h1; omega
theorem cnt_sur {p : Nat → Bool} {i : Nat} : ∀ n, i < cnt p n → ∃ f, f < n ∧ p f = true ∧ cnt p f = i
  | 0, h => absurd h (by unfold cnt; omega)
  | n + 1, h => by
    by_cases g : i < cnt p n
    · obtain ⟨f, h1, h2⟩ := cnt_sur n g
      exact ⟨f, by omega, h2⟩
    · cases c : p n
      · rw [cnt_s0 c] at h; exact absurd h g
      · rw [cnt_s c] at h; exact ⟨n, by omega, c, by omega⟩
theorem pw_u {a b : Nat} (h : 2 ^ a = 2 ^ b) : a = b := by
  rcases Nat.lt_trichotomy a b with h1 | h1 | h1
  · have := Nat.pow_lt_pow_right (a := 2) (by omega) h1; omega
  · exact h1
  · have := Nat.pow_lt_pow_right (a := 2) (by omega) h1; omega
theorem pw_le {a b : Nat} (h : a ≤ b) : 2 ^ a ≤ 2 ^ b := Nat.pow_le_pow_right (by omega) h
theorem one_fin : ∀ n, n < 11 → (1 : Int32) <<< (nI n &&& 31) = nI (2 ^ n) := by decide +kernel
theorem top_fin : ∀ n, n < 11 → ((1 : Int32) <<< (nI n &&& 31)) - 1 = nI (2 ^ n - 1) := by decide +kernel
theorem hi_fin : ∀ n, n < 11 → ∀ i, i < 32 → bt ((((1 : Int32) <<< (nI n &&& 31)) - 1) ^^^ (-1)) i = decide (n ≤ i) := by decide +kernel
theorem all_fin : ∀ n, n < 11 → ∀ k, k < 1024 → decide (nI k &&& ((((1 : Int32) <<< (nI n &&& 31)) - 1) ^^^ (-1)) = 0) = decide (k ≤ 2 ^ n - 1) := by decide +kernel
theorem all_msk {n : Nat} (hn : n < 11) {a : Int32} (h : a &&& ((((1 : Int32) <<< (nI n &&& 31)) - 1) ^^^ (-1)) = 0) : ∃ p, a = msk p 10 ∧ ∀ i, n ≤ i → i < 10 → p i = false := by
  have hb : ∀ i, n ≤ i → i < 32 → bt a i = false := fun i h1 h2 => by
    have : bt (a &&& ((((1 : Int32) <<< (nI n &&& 31)) - 1) ^^^ (-1))) i = bt 0 i := congrArg (fun x => bt x i) h
    rw [b_and, b_0, hi_fin n hn i h2, decide_eq_true h1, Bool.and_true] at this
    exact this
  exact ⟨bt a, msk_of (fun i h1 h2 => hb i (by omega) h2), fun i h1 h2 => hb i h1 (by omega)⟩
theorem all_in {n : Nat} (hn : n < 11) (a : Int32) : decide (a &&& ((((1 : Int32) <<< (nI n &&& 31)) - 1) ^^^ (-1)) = 0) = wthn a 0 (((1 : Int32) <<< (nI n &&& 31)) - 1) := by
  have hp := pw_le (show n ≤ 10 by omega)
  have key : ∀ k, k < 1024 → decide (nI k &&& ((((1 : Int32) <<< (nI n &&& 31)) - 1) ^^^ (-1)) = 0) = wthn (nI k) 0 (((1 : Int32) <<< (nI n &&& 31)) - 1) := fun k hk => by
    rw [all_fin n hn k hk, top_fin n hn, inb_wthn (by omega), inb_nI (by omega)]
    exact decide_eq_decide.mpr (by omega)
  by_cases h : a &&& ((((1 : Int32) <<< (nI n &&& 31)) - 1) ^^^ (-1)) = 0
  · obtain ⟨p, h1, -⟩ := all_msk hn h
    obtain ⟨k, h2, h3⟩ := small_of (x := a) (fun i h3 h4 => by rw [h1, b_msk_hi p h3 h4])
    rw [h3]; exact key k h2
  · rw [decide_eq_false h]
    symm
    cases hw : wthn a 0 (((1 : Int32) <<< (nI n &&& 31)) - 1)
    · rfl
    · exfalso
      rw [top_fin n hn, inb_wthn (by omega)] at hw
      obtain ⟨e, l⟩ := nI_of_inb hw
      have hk : a.toNatClampNeg < 1024 := by omega
      have := key _ hk
      rw [← e, decide_eq_false h, top_fin n hn, inb_wthn (by omega), hw] at this
      exact Bool.noConfusion this
theorem sub1_fin : ∀ s, s < 64 → ∀ q, q < 64 → (decide (q = 0) || (decide ((nI q - 1) &&& nI s = nI ((q - 1) &&& s)) && (decide ((q - 1) &&& s ≤ q - 1) && decide (((q - 1) &&& s) &&& s = (q - 1) &&& s)))) = true := by decide +kernel
theorem rest_fin : ∀ s, s < 64 → ∀ q, q < 64 → (!decide (q &&& s = q) || (decide (nI s &&& (nI q ^^^ (-1)) = nI (s - q)) && decide (q ≤ s))) = true := by decide +kernel
theorem sub1 {s q : Nat} (hs : s < 64) (hq : q < 64) (h0 : q ≠ 0) : (nI q - 1) &&& nI s = nI ((q - 1) &&& s) ∧ (q - 1) &&& s ≤ q - 1 ∧ ((q - 1) &&& s) &&& s = (q - 1) &&& s := by
  have := sub1_fin s hs q hq
  rw [decide_eq_false h0, Bool.false_or] at this
  simp only [Bool.and_eq_true, decide_eq_true_eq] at this
  exact this
theorem rest {s q : Nat} (hs : s < 64) (hq : q < 64) (h : q &&& s = q) : nI s &&& (nI q ^^^ (-1)) = nI (s - q) ∧ q ≤ s := by
  have := rest_fin s hs q hq
  rw [decide_eq_true h] at this
  simpa only [Bool.and_eq_true, decide_eq_true_eq, Bool.not_true, Bool.false_or] using this
def JF (T : Nat → Nat → Nat) (set c : Nat) : Nat → Nat → Nat → Nat
  | 0, v, _ => v
  | k + 1, v, part => if part = 0 then v else JF T set c k (if T part c + T (set - part) c < v then T part c + T (set - part) c else v) ((part - 1) &&& set)
variable {M : Mem} {σ : Nat → Int32} {p : Nat → Bool} {T T' : Nat → Nat → Nat} {set c : Nat}
theorem JF_z : ∀ k v, JF T set c k v 0 = v
  | 0, _ => rfl
  | k + 1, v => if_pos rfl
theorem JF_s {k v part : Nat} (h : part ≠ 0) : JF T set c (k + 1) v part = JF T set c k (if T part c + T (set - part) c < v then T part c + T (set - part) c else v) ((part - 1) &&& set) := if_neg h
theorem JF_le : ∀ k v part, JF T set c k v part ≤ v
  | 0, _, _ => Nat.le_refl _
  | k + 1, v, part => by
    unfold JF
    split
    · exact Nat.le_refl _
    · refine Nat.le_trans (JF_le k _ _) ?_
      split <;> omega
theorem JF_cg (h : ∀ s, 1 ≤ s → s < set → T s c = T' s c) : ∀ k v part, part < set → JF T set c k v part = JF T' set c k v part
  | 0, _, _, _ => rfl
  | k + 1, v, part, hp => by
    unfold JF
    by_cases g : part = 0
    · rw [if_pos g, if_pos g]
    · rw [if_neg g, if_neg g, h part (by omega) hp, h (set - part) (by omega) (by omega)]
      refine JF_cg h k _ _ ?_
      have := Nat.and_le_left (n := part - 1) (m := set)
      omega
/-- the farm whose place the set is; 10: none -/
def tF (p : Nat → Bool) (set : Nat) : Nat := lstF (fun f => p f && decide (set = 2 ^ cnt p f)) 10 0
theorem tF_s : (tF p set < 10 ∧ p (tF p set) = true ∧ set = 2 ^ cnt p (tF p set) ∧ ∀ f, f < 10 → p f = true → set = 2 ^ cnt p f → f = tF p set) ∨ (tF p set = 10 ∧ ∀ f, f < 10 → p f = true → set ≠ 2 ^ cnt p f) := by
  by_cases g : ∃ a, 0 ≤ a ∧ a < 0 + 10 ∧ (p a && decide (set = 2 ^ cnt p a)) = true
  · obtain ⟨-, h2, h3, -⟩ := lstF_s (p := fun f => p f && decide (set = 2 ^ cnt p f)) 10 0 g
    rw [Bool.and_eq_true, decide_eq_true_eq] at h3
    have h4 : p (tF p set) = true ∧ set = 2 ^ cnt p (tF p set) := h3
    exact .inl ⟨by unfold tF; omega, h4.1, h4.2, fun f _ h5 h6 => cnt_u h5 h4.1 (pw_u (h6.symm.trans h4.2))⟩
  · have hn : ∀ f, f < 10 → p f = true → set ≠ 2 ^ cnt p f := fun f h1 h2 h3 => g ⟨f, by omega, by omega, by rw [h2, decide_eq_true h3]; rfl⟩
    refine .inr ⟨lstF_n 10 0 (fun a _ h => ?_), hn⟩
    cases hp : p a
    · rfl
    · rw [decide_eq_false (hn a (by omega) hp)]; rfl
def uT (σ : Nat → Int32) (p : Nat → Bool) (set c : Nat) : Nat := if tF p set < 10 ∧ cel σ (tF p set) = c then 0 else 1000000
def gT (σ : Nat → Int32) (p : Nat → Bool) (T : Nat → Nat → Nat) (set c : Nat) : Nat := JF T set c 64 (uT σ p set c) ((set - 1) &&& set)
theorem gT_le : gT σ p T set c ≤ 1000000 := Nat.le_trans (JF_le _ _ _) (by unfold uT; split <;> omega)
theorem T_ex (σ : Nat → Int32) (p : Nat → Bool) : ∀ N, ∃ T : Nat → Nat → Nat, ∀ set, 1 ≤ set → set < N → isD (okW σ) (wW σ) (gT σ p T set) (T set)
  | 0 => ⟨fun _ _ => 0, fun set _ h => absurd h (by omega)⟩
  | N + 1 => by
    obtain ⟨T, hT⟩ := T_ex σ p N
    obtain ⟨D, hD⟩ := isD_ex (ok := okW σ) (w := wW σ) okW_lt _ (gT σ p T N) (Nat.le_refl _)
    have hg : ∀ set, 1 ≤ set → set ≤ N → gT σ p (fun s => if s = N then D else T s) set = gT σ p T set := fun set h1 h2 => funext fun c => by
      unfold gT
      refine JF_cg (fun s h3 h4 => ?_) _ _ _ ?_
      · rw [if_neg (by omega)]
      · have := Nat.and_le_left (n := set - 1) (m := set)
        omega
    refine ⟨fun s => if s = N then D else T s, fun set h1 h2 => ?_⟩
    rw [hg set h1 (by omega)]
    dsimp only
    by_cases g : set = N
    · rw [if_pos g, g]; exact hD
    · rw [if_neg g]; exact hT set h1 (by omega)
end BE
end
