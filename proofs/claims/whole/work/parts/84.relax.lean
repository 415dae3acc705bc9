section RX
def clo (ok : Nat → Nat → Bool) (w : Nat → Nat → Nat) (f : Nat → Nat) : Prop := ∀ a b, a < 48 → b < 48 → ok a b = true → f b ≤ f a + w a b
/-- the greatest closed one below -/
def isD (ok : Nat → Nat → Bool) (w : Nat → Nat → Nat) (f D : Nat → Nat) : Prop := (∀ c, c < 48 → D c ≤ f c) ∧ clo ok w D ∧ ∀ G : Nat → Nat, (∀ c, c < 48 → G c ≤ f c) → clo ok w G → ∀ c, c < 48 → G c ≤ D c
def updN (f : Nat → Nat) (i v : Nat) : Nat → Nat := fun c => if c = i then v else f c
theorem updN_e {f : Nat → Nat} {i v : Nat} : updN f i v i = v := if_pos rfl
theorem updN_n {f : Nat → Nat} {i v c : Nat} (h : c ≠ i) : updN f i v c = f c := if_neg h
def rlx (ok : Nat → Nat → Bool) (w : Nat → Nat → Nat) (p : Nat × Nat) (f : Nat → Nat) : Nat → Nat := if ok p.1 p.2 = true ∧ f p.1 + w p.1 p.2 < f p.2 then updN f p.2 (f p.1 + w p.1 p.2) else f
def pas (ok : Nat → Nat → Bool) (w : Nat → Nat → Nat) (pr : Nat → Nat × Nat) (f : Nat → Nat) : Nat → Nat → Nat
  | 0 => f
  | t + 1 => rlx ok w (pr t) (pas ok w pr f t)
def chg (ok : Nat → Nat → Bool) (w : Nat → Nat → Nat) (pr : Nat → Nat × Nat) (f : Nat → Nat) : Nat → Bool
  | 0 => false
  | t + 1 => chg ok w pr f t || decide (ok (pr t).1 (pr t).2 = true ∧ pas ok w pr f t (pr t).1 + w (pr t).1 (pr t).2 < pas ok w pr f t (pr t).2)
def lsum (f : Nat → Nat) : Nat → Nat
  | 0 => 0
  | n + 1 => lsum f n + f n
def rnR (ok : Nat → Nat → Bool) (w : Nat → Nat → Nat) (pr : Nat → Nat × Nat) (T : Nat) (f : Nat → Nat) : Nat → Nat → Nat
  | 0 => f
  | r + 1 => pas ok w pr (rnR ok w pr T f r) T
variable {ok : Nat → Nat → Bool} {w : Nat → Nat → Nat} {pr : Nat → Nat × Nat} {f D : Nat → Nat} {T : Nat}
theorem isD_uniq {D' : Nat → Nat} (h : isD ok w f D) (h' : isD ok w f D') : ∀ c, c < 48 → D c = D' c := fun c hc => Nat.le_antisymm (h'.2.2 D h.1 h.2.1 c hc) (h.2.2 D' h'.1 h'.2.1 c hc)
theorem isD_clo (h : clo ok w f) : isD ok w f f := ⟨fun _ _ => Nat.le_refl _, h, fun _ h _ c hc => h c hc⟩
theorem lsum_le {f g : Nat → Nat} : ∀ n, (∀ c, c < n → g c ≤ f c) → lsum g n ≤ lsum f n
  | 0, _ => Nat.le_refl _
  | n + 1, h => Nat.add_le_add (lsum_le n (fun c hc => h c (by omega))) (h n (by omega))
theorem lsum_lt {f g : Nat → Nat} {i : Nat} (hi : g i < f i) : ∀ n, i < n → (∀ c, c < n → g c ≤ f c) → lsum g n < lsum f n
  | 0, h, _ => absurd h (by omega)
  | n + 1, h, hc => by
    show lsum g n + g n < lsum f n + f n
    by_cases c : i = n
    · have := lsum_le n (fun c' hc' => hc c' (by omega))
      rw [c] at hi; omega
    · have := lsum_lt hi n (by omega) (fun c' hc' => hc c' (by omega))
      have := hc n (by omega)
      omega
theorem rlx_le (p : Nat × Nat) (c : Nat) : rlx ok w p f c ≤ f c := by
  unfold rlx
  split
  · next h =>
    by_cases g : c = p.2
    · rw [g, updN_e]; omega
    · rw [updN_n g]; exact Nat.le_refl _
  · exact Nat.le_refl _
theorem rlx_ge (hok : ∀ a b, ok a b = true → a < 48 ∧ b < 48) {G : Nat → Nat} (hG : clo ok w G) (h : ∀ c, c < 48 → G c ≤ f c) (p : Nat × Nat) : ∀ c, c < 48 → G c ≤ rlx ok w p f c := by
  intro c hc
  unfold rlx
  split
  · next hh =>
    obtain ⟨l1, l2⟩ := hok _ _ hh.1
    by_cases g : c = p.2
    · rw [g, updN_e]
      have h1 := hG _ _ l1 l2 hh.1
      have h2 := h _ l1
      omega
    · rw [updN_n g]; exact h c hc
  · exact h c hc
theorem pas_le : ∀ (t c : Nat), pas ok w pr f t c ≤ f c
  | 0, _ => Nat.le_refl _
  | t + 1, c => Nat.le_trans (rlx_le _ c) (pas_le t c)
theorem pas_ge (hok : ∀ a b, ok a b = true → a < 48 ∧ b < 48) {G : Nat → Nat} (hG : clo ok w G) (h : ∀ c, c < 48 → G c ≤ f c) : ∀ t, ∀ c, c < 48 → G c ≤ pas ok w pr f t c
  | 0 => h
  | t + 1 => rlx_ge hok hG (pas_ge hok hG h t) _
theorem pas_anti : ∀ (d t c : Nat), pas ok w pr f (t + d) c ≤ pas ok w pr f t c
  | 0, _, _ => Nat.le_refl _
  | d + 1, t, c => Nat.le_trans (rlx_le _ c) (pas_anti d t c)
theorem chg_f : ∀ t, chg ok w pr f t = false → pas ok w pr f t = f ∧ ∀ s, s < t → ¬ (ok (pr s).1 (pr s).2 = true ∧ f (pr s).1 + w (pr s).1 (pr s).2 < f (pr s).2)
  | 0, _ => ⟨rfl, fun s hs => absurd hs (by omega)⟩
  | t + 1, h => by
    have h' : (chg ok w pr f t || decide (ok (pr t).1 (pr t).2 = true ∧ pas ok w pr f t (pr t).1 + w (pr t).1 (pr t).2 < pas ok w pr f t (pr t).2)) = false := h
    rw [Bool.or_eq_false_iff] at h'
    obtain ⟨i1, i2⟩ := chg_f t h'.1
    have h2 := of_decide_eq_false h'.2
    refine ⟨?_, fun s hs => ?_⟩
    · show rlx ok w (pr t) (pas ok w pr f t) = f
      unfold rlx
      rw [if_neg h2, i1]
    · by_cases c : s = t
      · rw [c]; rw [i1] at h2; exact h2
      · exact i2 s (by omega)
theorem chg_t (hok : ∀ a b, ok a b = true → a < 48 ∧ b < 48) : ∀ t, chg ok w pr f t = true → lsum (pas ok w pr f t) 48 < lsum f 48
  | 0, h => by cases h
  | t + 1, h => by
    have h' : (chg ok w pr f t || decide (ok (pr t).1 (pr t).2 = true ∧ pas ok w pr f t (pr t).1 + w (pr t).1 (pr t).2 < pas ok w pr f t (pr t).2)) = true := h
    rw [Bool.or_eq_true] at h'
    rcases h' with h' | h'
    · exact Nat.lt_of_le_of_lt (lsum_le 48 (fun c _ => rlx_le _ c)) (chg_t hok t h')
    · have h2 := of_decide_eq_true h'
      refine Nat.lt_of_lt_of_le (lsum_lt (i := (pr t).2) (f := pas ok w pr f t) ?_ 48 (hok _ _ h2.1).2 (fun c _ => rlx_le _ c)) (lsum_le 48 (fun c _ => pas_le t c))
      show rlx ok w (pr t) (pas ok w pr f t) (pr t).2 < _
      unfold rlx
      rw [if_pos h2, updN_e]; exact h2.2
theorem clo_of (cov : ∀ a b, ok a b = true → ∃ t, t < T ∧ pr t = (a, b)) (h : chg ok w pr f T = false) : clo ok w f := by
  intro a b ha hb hab
  obtain ⟨t, t1, t2⟩ := cov a b hab
  have := (chg_f T h).2 t t1
  rw [t2] at this
  refine Nat.le_of_not_lt fun hlt => this ⟨hab, hlt⟩
theorem isD_ex (hok : ∀ a b, ok a b = true → a < 48 ∧ b < 48) : ∀ n (f : Nat → Nat), lsum f 48 ≤ n → ∃ D, isD ok w f D := by
  intro n
  induction n with
  | zero =>
    intro f h
    refine ⟨f, isD_clo ?_⟩
    intro a b ha hb hab
    refine Nat.le_of_not_lt fun hlt => ?_
    have := lsum_lt (f := f) (g := updN f b (f a + w a b)) (i := b) (by rw [updN_e]; exact hlt) 48 hb (fun c _ => by
      by_cases g : c = b
      · rw [g, updN_e]; omega
      · rw [updN_n g]; exact Nat.le_refl _)
    omega
  | succ n ih =>
    intro f h
    by_cases hc : clo ok w f
    · exact ⟨f, isD_clo hc⟩
    · have hex : ∃ a b, a < 48 ∧ b < 48 ∧ ok a b = true ∧ f a + w a b < f b := by
        refine Classical.byContradiction fun hn => hc fun a b ha hb hab => ?_
        refine Nat.le_of_not_lt fun hlt => hn ⟨a, b, ha, hb, hab, hlt⟩
      obtain ⟨a, b, ha, hb, hab, hlt⟩ := hex
      have hle : ∀ c, updN f b (f a + w a b) c ≤ f c := fun c => by
        by_cases g : c = b
        · rw [g, updN_e]; omega
        · rw [updN_n g]; exact Nat.le_refl _
      have := lsum_lt (f := f) (g := updN f b (f a + w a b)) (i := b) (by rw [updN_e]; exact hlt) 48 hb (fun c _ => hle c)
      obtain ⟨D, d1, d2, d3⟩ := ih (updN f b (f a + w a b)) (by omega)
      refine ⟨D, fun c hc => Nat.le_trans (d1 c hc) (hle c), d2, fun G g1 g2 c hc => d3 G (fun c hc => ?_) g2 c hc⟩
      by_cases g : c = b
      · rw [g, updN_e]
        have h1 := g2 a b ha hb hab
        have h2 := g1 a ha
        omega
      · rw [updN_n g]; exact g1 c hc
theorem mini {P : Nat → Prop} {D : Nat → Nat} : ∀ n c, D c ≤ n → c < 48 → P c → ∃ d, d < 48 ∧ P d ∧ ∀ e, e < 48 → P e → D d ≤ D e := by
  intro n
  induction n with
  | zero => intro c h hc hp; exact ⟨c, hc, hp, fun e _ _ => by omega⟩
  | succ n ih =>
    intro c h hc hp
    by_cases hx : ∃ e, e < 48 ∧ P e ∧ D e < D c
    · obtain ⟨e, e1, e2, e3⟩ := hx
      exact ih e (by omega) e1 e2
    · exact ⟨c, hc, hp, fun e he hpe => Nat.le_of_not_lt fun hlt => hx ⟨e, he, hpe, hlt⟩⟩
/-- a cell that lies below its start has one ahead of it -/
theorem isD_tight (h : isD ok w f D) (hw : ∀ a b, ok a b = true → 1 ≤ w a b) {c : Nat} (hc : c < 48) (hlt : D c < f c) : ∃ a, a < 48 ∧ ok a c = true ∧ D a + w a c = D c := by
  refine Classical.byContradiction fun hn => ?_
  have hG := h.2.2 (updN D c (D c + 1)) (fun x hx => by
    by_cases g : x = c
    · rw [g, updN_e]; omega
    · rw [updN_n g]; exact h.1 x hx) (fun a b ha hb hab => by
    have h1 := h.2.1 a b ha hb hab
    by_cases g : b = c
    · subst g
      rw [updN_e]
      have h2 : D a + w a b ≠ D b := fun e => hn ⟨a, ha, hab, e⟩
      by_cases g2 : a = b
      · rw [g2, updN_e]; rw [g2] at h1 h2; omega
      · rw [updN_n g2]; omega
    · rw [updN_n g]
      by_cases g2 : a = c
      · rw [g2, updN_e]; rw [g2] at h1; omega
      · rw [updN_n g2]; exact h1) c hc
  rw [updN_e] at hG
  omega
theorem pas_prog (hok : ∀ a b, ok a b = true → a < 48 ∧ b < 48) (hw : ∀ a b, ok a b = true → 1 ≤ w a b) (cov : ∀ a b, ok a b = true → ∃ t, t < T ∧ pr t = (a, b)) {f0 : Nat → Nat} (h : isD ok w f0 D) (h1 : ∀ c, c < 48 → D c ≤ f c) (h2 : ∀ c, c < 48 → f c ≤ f0 c) (hne : ∃ c, c < 48 ∧ f c ≠ D c) : cnt (fun c => decide (f c = D c)) 48 < cnt (fun c => decide (pas ok w pr f T c = D c)) 48 := by
  obtain ⟨c0, c1, c2⟩ := hne
  obtain ⟨c, hc, hp, hm⟩ := mini (P := fun c => D c < f c) (D := D) (D c0) c0 (Nat.le_refl _) c1 (by have := h1 c0 c1; show D c0 < f c0; omega)
  obtain ⟨a, ha, hac, he⟩ := isD_tight h hw hc (Nat.lt_of_lt_of_le hp (h2 c hc))
  have hwa := hw a c hac
  have hfa : f a = D a := by
    have := h1 a ha
    by_cases g : D a < f a
    · have := hm a ha g; omega
    · omega
  obtain ⟨t, t1, t2⟩ := cov a c hac
  have hge := fun t => pas_ge (pr := pr) hok h.2.1 h1 t
  refine cnt_lt 48 (fun i hi hd => ?_) ⟨c, hc, decide_eq_false (by omega), ?_⟩
  · have hd := of_decide_eq_true hd
    have h3 := pas_le (ok := ok) (w := w) (pr := pr) (f := f) T i
    have h4 := hge T i hi
    exact decide_eq_true (by omega)
  · have h3 : pas ok w pr f (t + 1) c ≤ D c := by
      show rlx ok w (pr t) (pas ok w pr f t) c ≤ _
      have h5 := pas_le (ok := ok) (w := w) (pr := pr) (f := f) t a
      unfold rlx
      rw [t2]
      by_cases g : pas ok w pr f t a + w a c < pas ok w pr f t c
      · rw [if_pos ⟨hac, g⟩]
        show updN _ c _ c ≤ _
        rw [updN_e]
        show pas ok w pr f t a + w a c ≤ D c
        omega
      · rw [if_neg (fun hh => g hh.2)]
        omega
    have h4 := hge T c hc
    have h5 := pas_anti (ok := ok) (w := w) (pr := pr) (f := f) (T - (t + 1)) (t + 1) c
    rw [show t + 1 + (T - (t + 1)) = T by omega] at h5
    exact decide_eq_true (by omega)
theorem rn_le : ∀ (r c : Nat), rnR ok w pr T f r c ≤ f c
  | 0, _ => Nat.le_refl _
  | r + 1, c => Nat.le_trans (pas_le T c) (rn_le r c)
theorem rn_ge (hok : ∀ a b, ok a b = true → a < 48 ∧ b < 48) (h : isD ok w f D) : ∀ r, ∀ c, c < 48 → D c ≤ rnR ok w pr T f r c
  | 0 => h.1
  | r + 1 => pas_ge hok h.2.1 (rn_ge hok h r) T
theorem rn_cnt (hok : ∀ a b, ok a b = true → a < 48 ∧ b < 48) (hw : ∀ a b, ok a b = true → 1 ≤ w a b) (cov : ∀ a b, ok a b = true → ∃ t, t < T ∧ pr t = (a, b)) (h : isD ok w f D) : ∀ r, (∀ c, c < 48 → rnR ok w pr T f r c = D c) ∨ r ≤ cnt (fun c => decide (rnR ok w pr T f r c = D c)) 48
  | 0 => .inr (Nat.zero_le _)
  | r + 1 => by
    by_cases hx : ∀ c, c < 48 → rnR ok w pr T f r c = D c
    · left
      intro c hc
      have h1 := pas_le (ok := ok) (w := w) (pr := pr) (f := rnR ok w pr T f r) T c
      have h2 := rn_ge (pr := pr) (T := T) hok h (r + 1) c hc
      have h3 : rnR ok w pr T f (r + 1) c = pas ok w pr (rnR ok w pr T f r) T c := rfl
      rw [hx c hc] at h1
      omega
    · right
      have hne : ∃ c, c < 48 ∧ rnR ok w pr T f r c ≠ D c := by
        refine Classical.byContradiction fun hn => hx fun c hc => ?_
        exact Classical.byContradiction fun h' => hn ⟨c, hc, h'⟩
      rcases rn_cnt hok hw cov h r with h1 | h1
      · exact absurd h1 hx
      · have := pas_prog (pr := pr) hok hw cov h (rn_ge hok h r) (fun c _ => rn_le r c) hne
        have h3 : cnt (fun c => decide (rnR ok w pr T f (r + 1) c = D c)) 48 = cnt (fun c => decide (pas ok w pr (rnR ok w pr T f r) T c = D c)) 48 := rfl
        omega
/-- so many rounds are enough -/
theorem rn_48 (hok : ∀ a b, ok a b = true → a < 48 ∧ b < 48) (hw : ∀ a b, ok a b = true → 1 ≤ w a b) (cov : ∀ a b, ok a b = true → ∃ t, t < T ∧ pr t = (a, b)) (h : isD ok w f D) : ∀ c, c < 48 → rnR ok w pr T f 48 c = D c := by
  rcases rn_cnt hok hw cov h 48 with h1 | h1
  · exact h1
  · intro c hc
    exact of_decide_eq_true (cnt_full 48 h1 c hc)
theorem rn_still (cov : ∀ a b, ok a b = true → ∃ t, t < T ∧ pr t = (a, b)) (hok : ∀ a b, ok a b = true → a < 48 ∧ b < 48) (h : isD ok w f D) {r : Nat} (hs : chg ok w pr (rnR ok w pr T f r) T = false) : ∀ c, c < 48 → rnR ok w pr T f r c = D c := by
  intro c hc
  exact Nat.le_antisymm (h.2.2 _ (fun c _ => rn_le r c) (clo_of cov hs) c hc) (rn_ge hok h r c hc)
/-- what is reached stays small -/
def Bdd (f : Nat → Nat) : Prop := ∀ c, c < 48 → f c ≤ 1000000 ∧ (f c < 1000000 → f c ≤ 40 * cnt (fun c => decide (f c < 1000000)) 48)
theorem Bd_rlx (hok : ∀ a b, ok a b = true → a < 48 ∧ b < 48) (hw : ∀ a b, ok a b = true → w a b ≤ 40) (hB : Bdd f) (p : Nat × Nat) : Bdd (rlx ok w p f) := by
  unfold rlx
  split
  · next hh =>
    obtain ⟨l1, l2⟩ := hok _ _ hh.1
    have hw' := hw _ _ hh.1
    have b1 := hB p.1 l1
    have b2 := hB p.2 l2
    have hlt : f p.1 + w p.1 p.2 < 1000000 := by omega
    have hmono : ∀ i, i < 48 → decide (f i < 1000000) = true → decide (updN f p.2 (f p.1 + w p.1 p.2) i < 1000000) = true := fun i hi h => by
      have := of_decide_eq_true h
      by_cases g : i = p.2
      · rw [g, updN_e]; exact decide_eq_true hlt
      · rw [updN_n g]; exact decide_eq_true this
    have hc := cnt_mono 48 hmono
    intro c hc48
    by_cases g : c = p.2
    · subst g
      rw [updN_e]
      refine ⟨by omega, fun _ => ?_⟩
      by_cases g2 : f p.2 < 1000000
      · have := b2.2 g2; omega
      · have := cnt_lt 48 hmono ⟨p.2, l2, decide_eq_false g2, by rw [updN_e]; exact decide_eq_true hlt⟩
        have := b1.2 (by omega)
        omega
    · rw [updN_n g]
      refine ⟨(hB c hc48).1, fun h => ?_⟩
      have := (hB c hc48).2 h
      omega
  · exact hB
theorem Bd_pas (hok : ∀ a b, ok a b = true → a < 48 ∧ b < 48) (hw : ∀ a b, ok a b = true → w a b ≤ 40) (hB : Bdd f) : ∀ t, Bdd (pas ok w pr f t)
  | 0 => hB
  | t + 1 => Bd_rlx hok hw (Bd_pas hok hw hB t) _
theorem Bd_lt (hB : Bdd f) {c : Nat} (hc : c < 48) (h : f c < 1000000) : f c ≤ 1920 := by
  have h1 := (hB c hc).2 h
  have h2 := cnt_le (fun c => decide (f c < 1000000)) 48
  omega
end RX
