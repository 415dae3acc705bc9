/-- class's reader in memory -/
def RS (b : Nat) (M : Mem) (s : Nat) (W out : List Int32) : Prop := M.1 77 2 = nI W.length ∧ M.1 77 3 = nI s ∧ M.1 77 4 = nI (b + out.length) ∧ (∀ i, i < W.length → M.1 78 i = W.getD (W.length - 1 - i) 0) ∧ ∀ i, i < out.length → M.1 16 (b + i) = out.getD i 0
def RF (b : Nat) (M : Mem) (s : Nat) (out : List Int32) : Prop := M.1 77 3 = nI s ∧ M.1 77 4 = nI (b + out.length) ∧ ∀ i, i < out.length → M.1 16 (b + i) = out.getD i 0
def TC (M : Mem) (L : Nat) (ch : Nat → Int32) : Prop := M.1 14 1 = nI L ∧ L ≤ 120 ∧ ∀ s, ch s = if s < L then M.1 15 s else -1
def sRd (b a i : Nat) : Bool := a == 77 || (a == 78 || (a == 16 && decide (b ≤ i)))
theorem TC.fr {b L : Nat} {M M' : Mem} {ch : Nat → Int32} (T : TC M L ch) (h : Fr (sRd b) M M') : TC M' L ch := by
  obtain ⟨h1, h2, h3⟩ := T
  refine ⟨(h.at_ rfl).trans h1, h2, fun s => ?_⟩
  rw [h3 s, h.at_ (a := 15) rfl]
theorem RS.rf {b s : Nat} {M : Mem} {W out : List Int32} (h : RS b M s W out) : RF b M s out := ⟨h.2.1, h.2.2.1, h.2.2.2.2⟩
def pl (M : Mem) (s : Nat) : Mem := wI M 77 3 (nI s)
theorem pl_pl (M : Mem) (s s' : Nat) : pl (pl M s) s' = pl M s' := by
  unfold pl
  rw [wI_eq M 77 3, wI_wR, wI_eq M 77 3]
  congr 1
  funext j
  unfold upd
  by_cases h : j = 3
  · rw [if_pos h, if_pos h]
  · rw [if_neg h, if_neg h, if_neg h]
theorem pl_3 (M : Mem) (s : Nat) : (pl M s).1 77 3 = nI s := rde
theorem pl_add (M : Mem) (s : Nat) : wI (pl M s) 77 3 ((pl M s).1 77 3 + 1) = pl M (s + 1) := by
  rw [pl_3, nI_one]; exact pl_pl M s (s + 1)
theorem pl_same {M : Mem} {s : Nat} (h : M.1 77 3 = nI s) : pl M s = M := by
  unfold pl
  rw [← h, wI_eq]
  have : upd (M.1 77) 3 (M.1 77 3) = M.1 77 := by
    funext j
    unfold upd
    by_cases c : j = 3
    · rw [if_pos c, c]
    · rw [if_neg c]
  rw [this, wR_same]
theorem RS.pl {b s : Nat} {M : Mem} {W out : List Int32} (h : RS b M s W out) (s' : Nat) : RS b (pl M s') s' W out := ⟨h.1, rde, h.2.2.1, h.2.2.2.1, h.2.2.2.2⟩
section RD
variable {M : Mem} {L b : Nat} {ch : Nat → Int32}
theorem TC.lt (T : TC M L ch) {s : Nat} {c : Int32} (h : ch s = c) (hc : c ≠ -1) : s < L := by
  obtain ⟨-, -, h5⟩ := T
  apply Nat.lt_of_not_le
  intro h6
  rw [h5 s, if_neg (by omega)] at h
  exact hc h.symm
theorem r_coming (T : TC M L ch) {s : Nat} (hs : s ≤ L) : f_Reader_coming_77 (pl M s) = some (ch s) := by
  obtain ⟨h1, h2, h3⟩ := T
  have e14 : (pl M s).1 14 1 = nI L := h1
  have e15 : (pl M s).1 15 = M.1 15 := rfl
  unfold f_Reader_coming_77
  rw [pl_3, e14, e15, d_lt (by omega) (by omega), h3]
  by_cases c : s < L
  · rw [decide_eq_true c, ite_tt, if_pos c, atv_nI (by omega) (by omega)]
  · rw [decide_eq_false c, ite_ff, if_neg c]
theorem r_coming' (T : TC M L ch) {s : Nat} (hs : s ≤ L) (h : M.1 77 3 = nI s) : f_Reader_coming_77 M = some (ch s) := by
  have := r_coming T hs
  rw [pl_same h] at this
  exact this
theorem r_passes (T : TC M L ch) {i : Nat} (hi : i < 26) : ∀ (l : List Int32) (k s n : Nat), (sr_byt.getD i []).drop k = l → k ≤ (sr_byt.getD i []).length → l.length < n → s ≤ L → itr (b_Reader_passes_77_2 i) n (nI k, pl M s) = some (Sum.elim (fun e => .inr (pl M e)) (fun s' => .inl (pl M s')) (lit ch l s))
  | [], k, s, n + 1, hd, hk, hn, hs => by
    obtain ⟨-, hlen, hl20⟩ := sr_ok i hi
    generalize hB : sr_byt.getD i [] = B at *
    have hkB : k = B.length := by
      have := congrArg List.length hd
      rw [List.length_drop] at this
      simp at this
      omega
    have hsl : slen i = nI B.length := by unfold slen; rw [hlen]; rfl
    refine itr_r ?_
    unfold b_Reader_passes_77_2
    dsimp only
    rw [decide_eq_true hi, ite_tt, hsl, dlt_f (by omega) (by omega), ite_ff]; rfl
  | c :: l, k, s, n + 1, hd, hk, hn, hs => by
    obtain ⟨-, hlen, hl20⟩ := sr_ok i hi
    have hne := sr_nm1 i hi
    have hdd : (sr_byt.getD i []).drop (k + 1) = l := by
      rw [← List.drop_drop, hd]; rfl
    have hk2 : k < (sr_byt.getD i []).length := by
      have := congrArg List.length hd
      rw [List.length_drop, List.length_cons] at this
      omega
    have hsl : slen i = nI (sr_byt.getD i []).length := by unfold slen; rw [hlen]; rfl
    have hsc : schr i (nI k) = c := by
      unfold schr
      rw [nI_cl (by omega), List.getD_eq_getElem?_getD]
      have h2 : (sr_byt.getD i [])[k]? = some c := by
        have := congrArg (fun l => l[0]?) hd
        simpa using this
      rw [h2]; rfl
    have hc : c ≠ -1 := hne c (by
      have : c ∈ (sr_byt.getD i []).drop k := by rw [hd]; exact List.mem_cons_self
      exact List.mem_of_mem_drop this)
    have hb : b_Reader_passes_77_2 i (nI k, pl M s) = (if decide (ch s = c) = true then some (.inl (nI (k + 1), pl M (s + 1))) else some (.inr (.inr (pl M s)))) := by
      unfold b_Reader_passes_77_2 jv_
      dsimp only
      rw [decide_eq_true hi, ite_tt, hsl, dlt_t hk2 (by omega), ite_tt, r_coming T hs, Option.bind_some, ite_tt, inb_t (by omega) (by omega), ite_tt, hsc, pl_add, nI_one]
    unfold lit
    by_cases h : ch s = c
    · rw [if_pos h]
      rw [decide_eq_true h, ite_tt] at hb
      have hsL := T.lt h hc
      rw [itr_l hb]
      exact r_passes T hi l (k + 1) (s + 1) n hdd hk2 (by simp at hn; omega) (by omega)
    · rw [if_neg h]
      rw [decide_eq_false h, ite_ff] at hb
      exact itr_r hb
theorem e_passes (T : TC M L ch) {i s : Nat} (hi : i < 26) (hs : s ≤ L) : f_Reader_passes_77 i (pl M s) = some (Sum.elim (fun e => (false, pl M e)) (fun s' => (true, pl M s')) (lit ch (sr_byt.getD i []) s)) := by
  obtain ⟨-, hlen, hl20⟩ := sr_ok i hi
  unfold f_Reader_passes_77
  have := r_passes T hi (sr_byt.getD i []) 0 s FU rfl (Nat.zero_le _) (by unfold FU; omega) hs
  show (itr _ FU (nI 0, pl M s)).bind _ = _
  rw [this]
  cases lit ch (sr_byt.getD i []) s <;> rfl
theorem r_num (T : TC M L ch) : ∀ (k s : Nat) (v : Int32) (n : Nat), k ≤ 3 → k < n → s ≤ L → itr b_Reader_number_77_30 n (v, nI (4 - k), pl M s) = some ((nmb ch k s v).2, pl M (nmb ch k s v).1)
  | 0, s, v, n + 1, _, _, hs => by
    refine itr_r ?_
    rfl
  | k + 1, s, v, n + 1, hk, hn, hs => by
    have e4 : (4 : Int32) = nI 4 := rfl
    unfold nmb
    have hb : b_Reader_number_77_30 (v, nI (4 - (k + 1)), pl M s) = (if decide (v ≤ 0) = true then some (.inr (v, pl M s)) else if wthn (ch s) 48 57 = true then some (.inl (10 * v + ch s - 48, nI (4 - k), pl M (s + 1))) else some (.inr (v, pl M s))) := by
      unfold b_Reader_number_77_30 jv_
      dsimp only
      rw [e4, dlt_t (by omega) (by omega), ite_tt, r_coming T hs, Option.bind_some, Option.bind_some, nI_one, show 4 - (k + 1) + 1 = 4 - k by omega, pl_add]
    by_cases c2 : v ≤ 0
    · rw [decide_eq_true c2, ite_tt] at hb
      rw [if_neg (fun h => h.2 c2)]
      exact itr_r hb
    · rw [decide_eq_false c2, ite_ff] at hb
      by_cases c : wthn (ch s) 48 57 = true
      · rw [if_pos c] at hb
        rw [if_pos ⟨c, c2⟩]
        have hsL := T.lt rfl (fun h => by rw [h] at c; exact absurd c (by decide))
        rw [itr_l hb]
        exact r_num T k (s + 1) _ n (by omega) (by omega) (by omega)
      · rw [if_neg c] at hb
        rw [if_neg (fun h => c h.1)]
        exact itr_r hb
theorem r_emit {s : Nat} {W out : List Int32} (R : RS b M s W out) (h : b + out.length < 1080) (x : Int32) : ∃ M', f_Reader_emit_77 x M = some M' ∧ RS b M' s W (out ++ [x]) ∧ Fr (sRd b) M M' := by
  obtain ⟨h1, h2, h3, h4, h5⟩ := R
  refine ⟨wI (wI M 16 (b + out.length) x) 77 4 (nI (b + out.length + 1)), ?_, ⟨h1, h2, ?_, h4, ?_⟩, ?_⟩
  · unfold f_Reader_emit_77 jv_
    dsimp only
    rw [h3, putv_nI (by omega) (by omega), show (wI M 16 (b + out.length) x).1 77 4 = M.1 77 4 from rfl, h3, nI_one]
  · rw [List.length_append]; exact rde
  · intro i hi
    rw [List.length_append] at hi
    rw [show (wI (wI M 16 (b + out.length) x) 77 4 (nI (b + out.length + 1))).1 16 (b + i) = (wI M 16 (b + out.length) x).1 16 (b + i) from rfl]
    by_cases c : i = out.length
    · rw [c, rde]; simp
    · have : i < out.length := by simp at hi; omega
      rw [rdi (by omega), h5 i this]
      simp [List.getElem?_append_left this]
  · refine ((Fr.refl M).wI ?_).wI rfl
    unfold sRd
    simp
theorem r_await {s : Nat} {W out : List Int32} (R : RS b M s W out) (h : W.length < 120) (x : Int32) : ∃ M', f_Reader_await_77 x M = some M' ∧ RS b M' (s + 1) (x :: W) out ∧ Fr (sRd b) M M' := by
  obtain ⟨h1, h2, h3, h4, h5⟩ := R
  refine ⟨wI (wI (wI M 78 W.length x) 77 2 (nI (W.length + 1))) 77 3 (nI (s + 1)), ?_, ⟨rfl, rde, h3, ?_, h5⟩, (((Fr.refl M).wI rfl).wI rfl).wI rfl⟩
  · unfold f_Reader_await_77 jv_
    dsimp only
    rw [h1, putv_nI h (by omega), show (wI M 78 W.length x).1 77 2 = M.1 77 2 from rfl, h1, nI_one, show (wI (wI M 78 W.length x) 77 2 (nI (W.length + 1))).1 77 3 = M.1 77 3 from rfl, h2, nI_one]
  · intro i hi
    rw [List.length_cons] at hi ⊢
    rw [show (wI (wI (wI M 78 W.length x) 77 2 (nI (W.length + 1))) 77 3 (nI (s + 1))).1 78 i = (wI M 78 W.length x).1 78 i from rfl]
    by_cases c : i = W.length
    · rw [c, rde, show W.length + 1 - 1 - W.length = 0 by omega]; rfl
    · rw [rdi c, h4 i (by omega), show W.length + 1 - 1 - i = (W.length - 1 - i) + 1 by omega]; rfl
theorem rk_rank (x : Int32) : f_Reader_rank x = some (nI (rk x)) := by
  unfold f_Reader_rank rk
  by_cases h1 : x = 43
  · rw [decide_eq_true h1, if_pos h1]; rfl
  · rw [decide_eq_false h1, if_neg h1, ite_ff]
    by_cases h2 : x = 45
    · rw [decide_eq_true h2, if_pos h2]; rfl
    · rw [decide_eq_false h2, if_neg h2, ite_ff]
      by_cases h3 : x = 42
      · rw [decide_eq_true h3, if_pos h3]; rfl
      · rw [decide_eq_false h3, if_neg h3, ite_ff]
        by_cases h4 : x = 47
        · rw [decide_eq_true h4, if_pos h4]; rfl
        · rw [decide_eq_false h4, if_neg h4, ite_ff]; rfl
theorem cd_code (x : Int32) : f_Reader_codeOf x = some (cdO x) := by
  unfold f_Reader_codeOf cdO
  by_cases h1 : x = 43
  · rw [decide_eq_true h1, if_pos h1]; rfl
  · rw [decide_eq_false h1, if_neg h1, ite_ff]
    by_cases h2 : x = 45
    · rw [decide_eq_true h2, if_pos h2]; rfl
    · rw [decide_eq_false h2, if_neg h2, ite_ff]
      by_cases h3 : x = 42
      · rw [decide_eq_true h3, if_pos h3]; rfl
      · rw [decide_eq_false h3, if_neg h3, ite_ff]
theorem rk_le (x : Int32) : rk x ≤ 2 := by
  unfold rk
  repeat' split
  all_goals omega
theorem r_unload {r : Nat} (hr : r ≤ 2) {s : Nat} : ∀ (W out : List Int32) (M : Mem) (n : Nat), RS b M s W out → b + out.length + W.length ≤ 1080 → W.length ≤ 120 → W.length < n → ∃ M', itr (b_Reader_unload_77_7 (nI r)) n (nI W.length - 1, M) = some M' ∧ RS b M' s (unl r W out).1 (unl r W out).2 ∧ Fr (sRd b) M M'
  | [], out, M, n + 1, R, _, _, _ => ⟨M, itr_r rfl, R, Fr.refl M⟩
  | w :: W, out, M, n + 1, R, hb, hW, hn => by
    have R0 := R
    obtain ⟨h1, h2, h3, h4, h5⟩ := R
    rw [List.length_cons] at hb hn h1 h4 hW
    have hi : nI (w :: W).length - 1 = nI W.length := nI_subn (a := W.length + 1) (b := 1) (by omega) (by omega)
    have hw : atv (M.1 78) 120 (nI W.length) = w := by
      rw [atv_nI (by omega) (by omega), h4 _ (by omega), show W.length + 1 - 1 - W.length = 0 by omega]; rfl
    rw [hi]
    have hrk := rk_le w
    unfold unl
    by_cases c : rk w < r
    · rw [if_pos c]
      refine ⟨M, itr_r ?_, R0, Fr.refl M⟩
      unfold b_Reader_unload_77_7
      dsimp only
      rw [nI_nneg (by omega), ite_ff, hw, rk_rank, Option.bind_some, dlt_t c (by omega), ite_tt]
    · rw [if_neg c]
      obtain ⟨M1, e1, e2, e3⟩ := r_emit R0 (by omega) (cdO w)
      have hstep : b_Reader_unload_77_7 (nI r) (nI W.length, M) = some (.inl (nI W.length - 1, wI M1 77 2 (nI W.length))) := by
        unfold b_Reader_unload_77_7 jv_
        dsimp only
        rw [nI_nneg (by omega), ite_ff, hw, rk_rank, Option.bind_some, dlt_f (by omega) (by omega), ite_ff, cd_code, Option.bind_some, e1, Option.bind_some, e2.1, List.length_cons]
        rw [show nI (W.length + 1) - 1 = nI W.length from hi, Int32.sub_eq_add_neg]
      have R2 : RS b (wI M1 77 2 (nI W.length)) s W (out ++ [cdO w]) := by
        obtain ⟨g1, g2, g3, g4, g5⟩ := e2
        refine ⟨rde, g2, g3, fun i hi => ?_, g5⟩
        rw [show (wI M1 77 2 (nI W.length)).1 78 i = M1.1 78 i from rfl, g4 i (by rw [List.length_cons]; omega), List.length_cons, show W.length + 1 - 1 - i = (W.length - 1 - i) + 1 by omega]; rfl
      obtain ⟨M2, k1, k2, k3⟩ := r_unload hr W (out ++ [cdO w]) (wI M1 77 2 (nI W.length)) n R2 (by rw [List.length_append]; show b + (out.length + 1) + W.length ≤ _; omega) (by omega) (by omega)
      exact ⟨M2, by rw [itr_l hstep]; exact k1, k2, (e3.wI rfl).trans k3⟩
theorem e_unload {r s : Nat} (hr : r ≤ 2) {W out : List Int32} (R : RS b M s W out) (h1 : b + out.length + W.length ≤ 1080) (h2 : W.length ≤ 120) : ∃ M', f_Reader_unload_77 (nI r) M = some M' ∧ RS b M' s (unl r W out).1 (unl r W out).2 ∧ Fr (sRd b) M M' := by
  obtain ⟨M', k1, k2, k3⟩ := r_unload hr W out M FU R h1 h2 (by unfold FU; omega)
  refine ⟨M', ?_, k2, k3⟩
  unfold f_Reader_unload_77
  rw [R.1, k1]; rfl
theorem unl_len (r : Nat) : ∀ W out : List Int32, (unl r W out).1.length + (unl r W out).2.length = W.length + out.length
  | [], out => rfl
  | w :: W, out => by
    unfold unl
    by_cases c : rk w < r
    · rw [if_pos c]
    · rw [if_neg c, unl_len r W]; simp; omega
theorem e_number (T : TC M L ch) {s : Nat} {W out : List Int32} (R : RS b M s W out) (hs : s ≤ L) (h : b + out.length < 1080) (hd : wthn (ch s) 48 57 = true) : ∃ M', f_Reader_number_77 (ch s) M = some (true, M') ∧ RS b M' (nmb ch 3 (s + 1) (ch s - 48)).1 W (out ++ [(nmb ch 3 (s + 1) (ch s - 48)).2]) ∧ Fr (sRd b) M M' := by
  have hsL := T.lt rfl (fun h => by rw [h] at hd; exact absurd hd (by decide))
  have hM : M = pl M s := (pl_same R.2.1).symm
  obtain ⟨M', e1, e2, e3⟩ := r_emit (R.pl (nmb ch 3 (s + 1) (ch s - 48)).1) h (nmb ch 3 (s + 1) (ch s - 48)).2
  refine ⟨M', ?_, e2, ((Fr.refl M).wI rfl).trans e3⟩
  have := r_num T 3 (s + 1) (ch s - 48) FU (by omega) (by unfold FU; omega) (by omega)
  unfold f_Reader_number_77 jv_
  rw [hd, ite_tt, hM]
  dsimp only
  rw [pl_add]
  show (itr _ FU (ch s - 48, nI (4 - 3), pl M (s + 1))).bind _ = _
  rw [this, Option.bind_some]
  dsimp only
  rw [e1]; rfl
theorem e_number_no {s : Nat} (hd : ¬ wthn (ch s) 48 57 = true) : f_Reader_number_77 (ch s) M = some (false, M) := by
  unfold f_Reader_number_77
  rw [if_neg hd]
end RD
