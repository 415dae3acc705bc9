theorem nI_toI {n : Nat} (h : n < 2147483648) : (nI n).toInt = (n : Int) := i_of h
theorem nI_cl {n : Nat} (h : n < 2147483648) : (nI n).toNatClampNeg = n := by rw [i_cl, nI_toI h]; rfl
theorem nI_lt_iff {a b : Nat} (ha : a < 2147483648) (hb : b < 2147483648) : nI a < nI b ↔ a < b := by rw [i_lt, nI_toI ha, nI_toI hb]; omega
theorem nI_le_iff {a b : Nat} (ha : a < 2147483648) (hb : b < 2147483648) : nI a ≤ nI b ↔ a ≤ b := by rw [i_le, nI_toI ha, nI_toI hb]; omega
theorem inb_nI {a n : Nat} (ha : a < 2147483648) : inb (nI a) n = decide (a < n) := by
  rw [Bool.eq_iff_iff, inb_iff, nI_toI ha, decide_eq_true_eq]; omega
theorem itr_from {S E : Type} {body : S → Option (S ⊕ E)} {e : E} (st : Nat → S) (N : Nat) (step : ∀ k, k < N → body (st k) = some (.inl (st (k + 1)))) (last : body (st N) = some (.inr e)) : ∀ (d j n : Nat), j + d = N → d < n → itr body n (st j) = some e
  | 0, j, n, h1, h2 => by
    obtain ⟨n, rfl⟩ : ∃ q, n = q + 1 := ⟨n - 1, by omega⟩
    rw [Nat.add_zero] at h1
    subst h1
    show (body (st j)).bind _ = _
    rw [last]; rfl
  | d + 1, j, n, h1, h2 => by
    obtain ⟨n, rfl⟩ : ∃ q, n = q + 1 := ⟨n - 1, by omega⟩
    show (body (st j)).bind _ = _
    rw [step j (by omega)]
    exact itr_from st N step last d (j + 1) n (by omega) (by omega)
/-- a loop whose states are known: st 0, st 1, .. st N, and out -/
theorem itr_for {S E : Type} {body : S → Option (S ⊕ E)} {e : E} (st : Nat → S) (N : Nat) (hN : N < 1000000000) {s0 : S} (h0 : st 0 = s0) (step : ∀ k, k < N → body (st k) = some (.inl (st (k + 1)))) (last : body (st N) = some (.inr e)) : itr body FU s0 = some e := by
  subst h0
  exact itr_from st N step last N 0 FU (by omega) (by unfold FU; omega)
/-- a loop by an invariant and a measure -/
theorem itr_inv {S E : Type} {body : S → Option (S ⊕ E)} (I : S → Prop) (μ : S → Nat) (P : E → Prop) (step : ∀ s, I s → (∃ s', body s = some (.inl s') ∧ I s' ∧ μ s' < μ s) ∨ (∃ e, body s = some (.inr e) ∧ P e)) : ∀ (n : Nat) (s : S), I s → μ s < n → ∃ e, itr body n s = some e ∧ P e
  | 0, s, _, h => by omega
  | n + 1, s, hI, h => by
    rcases step s hI with ⟨s', h1, h2, h3⟩ | ⟨e, h1, h2⟩
    · obtain ⟨e, h4, h5⟩ := itr_inv I μ P step n s' h2 (by omega)
      exact ⟨e, by show (body s).bind _ = _; rw [h1]; exact h4, h5⟩
    · exact ⟨e, by show (body s).bind _ = _; rw [h1]; rfl, h2⟩
theorem wR_at (m : Mem) (k : Nat) (f : Nat → Int32) : (wR m k f).1 k = f := if_pos rfl
theorem wR_ne (m : Mem) {k a : Nat} (f : Nat → Int32) (h : a ≠ k) : (wR m k f).1 a = m.1 a := if_neg h
theorem wR_2 (m : Mem) (k : Nat) (f : Nat → Int32) : (wR m k f).2 = m.2 := rfl
theorem wI_at (m : Mem) (k i : Nat) (v : Int32) : (wI m k i v).1 k = upd (m.1 k) i v := if_pos rfl
theorem wI_ne (m : Mem) {k a : Nat} (i : Nat) (v : Int32) (h : a ≠ k) : (wI m k i v).1 a = m.1 a := if_neg h
theorem wI_2 (m : Mem) (k i : Nat) (v : Int32) : (wI m k i v).2 = m.2 := rfl
theorem wR_wR (m : Mem) (k : Nat) (f g : Nat → Int32) : wR (wR m k f) k g = wR m k g := by
  refine Prod.ext (funext fun a => ?_) rfl
  show (if a = k then g else (if a = k then f else m.1 a)) = if a = k then g else m.1 a
  by_cases h : a = k
  · rw [if_pos h, if_pos h]
  · rw [if_neg h, if_neg h, if_neg h]
theorem wR_same (m : Mem) (k : Nat) : wR m k (m.1 k) = m := by
  refine Prod.ext (funext fun a => ?_) rfl
  show (if a = k then m.1 k else m.1 a) = m.1 a
  by_cases h : a = k
  · rw [if_pos h, h]
  · rw [if_neg h]
theorem wI_wR (m : Mem) (k i : Nat) (f : Nat → Int32) (v : Int32) : wI (wR m k f) k i v = wR m k (upd f i v) := by
  show wR (wR m k f) k (upd ((wR m k f).1 k) i v) = _
  rw [wR_wR, wR_at]
theorem wI_eq (m : Mem) (k i : Nat) (v : Int32) : wI m k i v = wR m k (upd (m.1 k) i v) := rfl
def filv (f : Nat → Int32) (n : Nat) (v : Int32) : Nat → Int32 := fun j => if j < n then v else f j
def cpyv (f g : Nat → Int32) (n0 n1 : Nat) : Nat → Int32 := fun j => if j < n0 ∧ j < n1 then f j else g j
-- CurrentFarms.copy([I[I)V []
abbrev y_CF_copy : MethodName := ⟨"CurrentFarms", "copy", "([I[I)V"⟩
abbrev cX11_copy : ByteArray := prog_1_method_57_code
theorem dX11_copy_0 : decode cX11_copy 0 = .ok (.aload_n 0, 1) := by decide +kernel
theorem dX11_copy_1 : decode cX11_copy 1 = .ok (.iconst 0, 1) := by decide +kernel
theorem dX11_copy_2 : decode cX11_copy 2 = .ok (.aload_n 1, 1) := by decide +kernel
theorem dX11_copy_3 : decode cX11_copy 3 = .ok (.iconst 0, 1) := by decide +kernel
theorem dX11_copy_4 : decode cX11_copy 4 = .ok (.aload_n 0, 1) := by decide +kernel
theorem dX11_copy_5 : decode cX11_copy 5 = .ok (.arraylength, 1) := by decide +kernel
theorem dX11_copy_6 : decode cX11_copy 6 = .ok (.aload_n 1, 1) := by decide +kernel
theorem dX11_copy_7 : decode cX11_copy 7 = .ok (.arraylength, 1) := by decide +kernel
theorem dX11_copy_8 : decode cX11_copy 8 = .ok (.invokestatic 372, 3) := by decide +kernel
theorem dX11_copy_11 : decode cX11_copy 11 = .ok (.invokestatic 377, 3) := by decide +kernel
theorem dX11_copy_14 : decode cX11_copy 14 = .ok (.return_, 1) := by decide +kernel
theorem hd_CF_copy : y_CF_copy.cls ≠ "java/lang/invoke/MethodHandle" ∧ y_CF_copy.cls ≠ "java/lang/invoke/VarHandle" ∧ (parseMethodDescriptor y_CF_copy.desc).map (fun d => d.parameters.length) = some 2 := by decide +kernel
def f_CF_copy (k0 : Nat) (n0 : Nat) (k1 : Nat) (n1 : Nat) (M0 : Mem) : Option (Mem) :=
  if cpok (jmin (Int32.ofNat n0) (Int32.ofNat n1)) n0 n1 then jv_ (wR M0 k1 (cpy0 (M0.1 k0) (M0.1 k1) (jmin (Int32.ofNat n0) (Int32.ofNat n1)))) fun M2 => some M2 else none
set_option maxHeartbeats 4000000 in
set_option maxRecDepth 20000 in
theorem C_CF_copy {D : va_G} {ad adK adV : Nat → Nat} {cI cJ : ClassId} {l : Launch} (k0 : Nat) (n0 : Nat) (k1 : Nat) (n1 : Nat) (ha0 : ArrI k0 n0) (ha1 : ArrI k1 n1) (M0 : Mem) (o : Mem) (h : f_CF_copy k0 n0 k1 n1 M0 = some o) : Ct D ad adK adV cI cJ l y_CF_copy cX11_copy 2 none 1 30 [.ref (ad k0), .ref (ad k1)] M0 none o := by
  refine x_start (lv := [(0, .ref (ad k0)), (1, .ref (ad k1))]) (own := "CurrentFarms") rfl (by decide) (Nat.le_of_ble_eq_true rfl) rfl ?_
  intro p e s m args below meth c Q hQ B
  unfold f_CF_copy at h
  refine x_aload_n (pc := 0) B 0 dX11_copy_0 rfl rfl ?_
  refine x_iconst (v := 0) (pc := 1) B dX11_copy_1 rfl ?_
  refine x_aload_n (pc := 2) B 1 dX11_copy_2 rfl rfl ?_
  refine x_iconst (v := 0) (pc := 3) B dX11_copy_3 rfl ?_
  refine x_aload_n (pc := 4) B 0 dX11_copy_4 rfl rfl ?_
  refine x_alen (v := Int32.ofNat n0) (pc := 5) B ha0 rfl dX11_copy_5 ?_
  refine x_aload_n (pc := 6) B 1 dX11_copy_6 rfl rfl ?_
  refine x_alen (v := Int32.ofNat n1) (pc := 7) B ha1 rfl dX11_copy_7 ?_
  refine x_mmin (pc := 8) B tw_1205 tw_753 tw_112 tw_754 (by decide) (Nat.le_of_ble_eq_true rfl) dX11_copy_8 ?_
  obtain ⟨hk1, h⟩ := ifn h
  refine x_copy0 (pc := 11) B ha0 ha1 tw_1206 tw_1208 tw_1207 tw_118 hk1 (Nat.le_of_ble_eq_true rfl) (by decide) dX11_copy_11 ?_
  refine jv_m (P := fun M2 => XX D ad cI cJ p l e (Rm 1 30) s m args below meth c Q 2 M2 14 [(0, .ref (ad k0)), (1, .ref (ad k1))] []) h (fun M2 h => ?_)
  obtain rfl := Option.some.inj h
  exact x_vret (pc := 14) B hQ dX11_copy_14
theorem e_CF_copy {k0 n0 k1 n1 : Nat} (h0 : n0 < 2147483648) (h1 : n1 < 2147483648) (m : Mem) : f_CF_copy k0 n0 k1 n1 m = some (wR m k1 (cpyv (m.1 k0) (m.1 k1) n0 n1)) := by
  have e1 : jmin (Int32.ofNat n0) (Int32.ofNat n1) = nI (min n0 n1) := by
    unfold jmin
    show (if nI n1 < nI n0 then nI n1 else nI n0) = _
    by_cases h : n1 < n0
    · rw [if_pos ((nI_lt_iff h1 h0).mpr h), Nat.min_eq_right (by omega)]
    · rw [if_neg (fun q => h ((nI_lt_iff h1 h0).mp q)), Nat.min_eq_left (by omega)]
  have e2 : cpok (nI (min n0 n1)) n0 n1 = true := by
    unfold cpok
    rw [nI_cl (by omega)]
    simp only [Bool.and_eq_true, decide_eq_true_eq]
    exact ⟨by rw [i_le, i_0, nI_toI (by omega)]; omega, by omega, by omega⟩
  unfold f_CF_copy jv_
  rw [e1, if_pos e2]
  refine congrArg (fun f => some (wR m k1 f)) (funext fun j => ?_)
  unfold cpy0 cpyv
  rw [nI_cl (by omega)]
  by_cases h : j < n0 ∧ j < n1
  · rw [if_pos h, if_pos (by omega)]
  · rw [if_neg h, if_neg (by omega)]
theorem T_CF_copy {D : va_G} {ad adK adV : Nat → Nat} {cI cJ : ClassId} {l : Launch} (k0 n0 k1 n1 : Nat) (ha0 : ArrI k0 n0) (ha1 : ArrI k1 n1) (h0 : n0 < 2147483648) (h1 : n1 < 2147483648) (M : Mem) : Ct D ad adK adV cI cJ l y_CF_copy cX11_copy 2 none 1 30 [.ref (ad k0), .ref (ad k1)] M none (wR M k1 (cpyv (M.1 k0) (M.1 k1) n0 n1)) := C_CF_copy k0 n0 k1 n1 ha0 ha1 M _ (e_CF_copy h0 h1 M)
-- java/util/Arrays.fill([II)V []
abbrev y_Arrays_fill_53178 : MethodName := ⟨"java/util/Arrays", "fill", "([II)V"⟩
abbrev cJ7_fill_53178 : ByteArray := prog_21_method_103_code
theorem dJ7_fill_53178_0 : decode cJ7_fill_53178 0 = .ok (.iconst 0, 1) := by decide +kernel
theorem dJ7_fill_53178_1 : decode cJ7_fill_53178 1 = .ok (.istore_n 2, 1) := by decide +kernel
theorem dJ7_fill_53178_2 : decode cJ7_fill_53178 2 = .ok (.aload_n 0, 1) := by decide +kernel
theorem dJ7_fill_53178_3 : decode cJ7_fill_53178 3 = .ok (.arraylength, 1) := by decide +kernel
theorem dJ7_fill_53178_4 : decode cJ7_fill_53178 4 = .ok (.istore_n 3, 1) := by decide +kernel
theorem dJ7_fill_53178_5 : decode cJ7_fill_53178 5 = .ok (.iload_n 2, 1) := by decide +kernel
theorem dJ7_fill_53178_6 : decode cJ7_fill_53178 6 = .ok (.iload_n 3, 1) := by decide +kernel
theorem dJ7_fill_53178_7 : decode cJ7_fill_53178 7 = .ok (.if_icmp .ge 13, 3) := by decide +kernel
theorem dJ7_fill_53178_10 : decode cJ7_fill_53178 10 = .ok (.aload_n 0, 1) := by decide +kernel
theorem dJ7_fill_53178_11 : decode cJ7_fill_53178 11 = .ok (.iload_n 2, 1) := by decide +kernel
theorem dJ7_fill_53178_12 : decode cJ7_fill_53178 12 = .ok (.iload_n 1, 1) := by decide +kernel
theorem dJ7_fill_53178_13 : decode cJ7_fill_53178 13 = .ok (.iastore, 1) := by decide +kernel
theorem dJ7_fill_53178_14 : decode cJ7_fill_53178 14 = .ok (.iinc 2 1, 3) := by decide +kernel
theorem dJ7_fill_53178_17 : decode cJ7_fill_53178 17 = .ok (.goto (-12), 3) := by decide +kernel
theorem dJ7_fill_53178_20 : decode cJ7_fill_53178 20 = .ok (.return_, 1) := by decide +kernel
theorem hd_Arrays_fill_53178 : y_Arrays_fill_53178.cls ≠ "java/lang/invoke/MethodHandle" ∧ y_Arrays_fill_53178.cls ≠ "java/lang/invoke/VarHandle" ∧ (parseMethodDescriptor y_Arrays_fill_53178.desc).map (fun d => d.parameters.length) = some 2 := by decide +kernel
def b_Arrays_fill_53178_5 (k0 : Nat) (n0 : Nat) (a1 : Int32) (y1 : Int32 × Mem) : Option ((Int32 × Mem) ⊕ (Mem)) :=
  if decide (y1.1 < (Int32.ofNat n0)) then (if inb y1.1 n0 then jv_ (wI y1.2 k0 y1.1.toNatClampNeg a1) fun M4 => some (.inl (y1.1 + 1, M4)) else none) else (some (.inr y1.2))
def f_Arrays_fill_53178 (k0 : Nat) (n0 : Nat) (a1 : Int32) (M0 : Mem) : Option (Mem) :=
  (itr (b_Arrays_fill_53178_5 k0 n0 a1) FU (0, M0)).bind fun q5 => some q5
set_option maxHeartbeats 4000000 in
set_option maxRecDepth 20000 in
theorem C_Arrays_fill_53178 {D : va_G} {ad adK adV : Nat → Nat} {cI cJ : ClassId} {l : Launch} (k0 : Nat) (n0 : Nat) (a1 : Int32) (ha0 : ArrI k0 n0) (M0 : Mem) (o : Mem) (h : f_Arrays_fill_53178 k0 n0 a1 M0 = some o) : Ct D ad adK adV cI cJ l y_Arrays_fill_53178 cJ7_fill_53178 4 none 0 0 [.ref (ad k0), .int a1] M0 none o := by
  refine x_start (lv := [(0, .ref (ad k0)), (1, .int a1)]) (own := "java/util/Arrays") rfl (by decide) (Nat.le_of_ble_eq_true rfl) rfl ?_
  intro p e s m args below meth c Q hQ B
  unfold f_Arrays_fill_53178 at h
  refine x_iconst (v := 0) (pc := 0) B dJ7_fill_53178_0 rfl ?_
  refine x_istore_n (lv' := [(2, .int 0), (0, .ref (ad k0)), (1, .int a1)]) (pc := 1) B dJ7_fill_53178_1 rfl (by decide) rfl ?_
  refine x_aload_n (pc := 2) B 1 dJ7_fill_53178_2 rfl rfl ?_
  refine x_alen (v := Int32.ofNat n0) (pc := 3) B ha0 rfl dJ7_fill_53178_3 ?_
  refine x_istore_n (lv' := [(3, .int (Int32.ofNat n0)), (2, .int 0), (0, .ref (ad k0)), (1, .int a1)]) (pc := 4) B dJ7_fill_53178_4 rfl (by decide) rfl ?_
  refine x_pick (lv' := [(0, .ref (ad k0)), (1, .int a1), (2, .int 0), (3, .int (Int32.ofNat n0))]) [2, 3, 1, 0] rfl ?_
  obtain ⟨q5, hq5, h⟩ := bnd h
  refine x_loop (Head := fun (y1 : Int32 × Mem) => XX D ad cI cJ p l e (Rm 0 0) s m args below meth c Q 4 y1.2 5 [(0, .ref (ad k0)), (1, .int a1), (2, .int y1.1), (3, .int (Int32.ofNat n0))] []) (Ex := fun (q5 : Mem) => XX D ad cI cJ p l e (Rm 0 0) s m args below meth c Q 4 q5 20 [] []) (fun y1 r h hback hexit => ?_) FU _ q5 hq5 ?_
  · unfold b_Arrays_fill_53178_5 at h
    refine x_iload_n (pc := 5) B 2 dJ7_fill_53178_5 rfl rfl ?_
    refine x_iload_n (pc := 6) B 3 dJ7_fill_53178_6 rfl rfl ?_
    refine x_icmp_ge (tgt := 20) (pc := 7) B dJ7_fill_53178_7 rfl (fun hc2 => ?_) (fun hc2 => ?_)
    · have h := iff_ hc2 h
      refine x_pick (lv' := []) [] rfl ?_
      have z := hexit y1.2 (Option.some.inj h).symm
      exact z
    · have h := ift hc2 h
      refine x_aload_n (pc := 10) B 0 dJ7_fill_53178_10 rfl rfl ?_
      refine x_iload_n (pc := 11) B 2 dJ7_fill_53178_11 rfl rfl ?_
      refine x_iload_n (pc := 12) B 1 dJ7_fill_53178_12 rfl rfl ?_
      obtain ⟨hk3, h⟩ := ifn h
      refine x_iast (pc := 13) B ha0 hk3 dJ7_fill_53178_13 ?_
      refine jv_m (P := fun M4 => XX D ad cI cJ p l e (Rm 0 0) s m args below meth c Q 4 M4 14 [(0, .ref (ad k0)), (1, .int a1), (2, .int y1.1), (3, .int (Int32.ofNat n0))] []) h (fun M4 h => ?_)
      refine x_iinc (k := 2) (v := y1.1 + 1) (lv' := [(2, .int (y1.1 + 1)), (0, .ref (ad k0)), (1, .int a1), (3, .int (Int32.ofNat n0))]) (pc := 14) B dJ7_fill_53178_14 rfl rfl (by decide) rfl ?_
      refine x_goto (tgt := 5) (pc := 17) B dJ7_fill_53178_17 rfl ?_
      refine x_pick (lv' := [(0, .ref (ad k0)), (1, .int a1), (2, .int (y1.1 + 1)), (3, .int (Int32.ofNat n0))]) [1, 2, 0, 3] rfl ?_
      have z := hback (y1.1 + 1, M4) (Option.some.inj h).symm
      exact z
  · obtain rfl := Option.some.inj h
    exact x_vret (pc := 20) B hQ dJ7_fill_53178_20
theorem e_fill {k n : Nat} (hn : n < 1000000000) (v : Int32) (m : Mem) : f_Arrays_fill_53178 k n v m = some (wR m k (filv (m.1 k) n v)) := by
  have e0 : filv (m.1 k) 0 v = m.1 k := by funext j; exact if_neg (by omega)
  unfold f_Arrays_fill_53178
  rw [itr_for (fun i => (nI i, wR m k (filv (m.1 k) i v))) n hn (e := wR m k (filv (m.1 k) n v)) (by rw [e0, wR_same]; rfl)]
  · rfl
  · intro i hi
    unfold b_Arrays_fill_53178_5
    dsimp only
    rw [if_pos (show decide (nI i < Int32.ofNat n) = true from decide_eq_true ((nI_lt_iff (by omega) (by omega)).mpr hi)), if_pos (by rw [inb_nI (by omega)]; exact decide_eq_true hi)]
    unfold jv_
    rw [wI_wR, nI_cl (by omega), ← nI_succ]
    refine congrArg (fun f => some (Sum.inl (nI (i + 1), wR m k f))) (funext fun j => ?_)
    unfold upd filv
    by_cases h1 : j = i
    · rw [if_pos h1, if_pos (by omega)]
    · rw [if_neg h1]
      by_cases h2 : j < i
      · rw [if_pos h2, if_pos (by omega)]
      · rw [if_neg h2, if_neg (by omega)]
  · unfold b_Arrays_fill_53178_5
    dsimp only
    rw [if_neg (by rw [decide_eq_true_eq]; exact fun q => absurd ((nI_lt_iff (by omega) (by omega)).mp q) (by omega))]
theorem T_fill {D : va_G} {ad adK adV : Nat → Nat} {cI cJ : ClassId} {l : Launch} (k n : Nat) (v : Int32) (ha : ArrI k n) (hn : n < 1000000000) (M : Mem) : Ct D ad adK adV cI cJ l y_Arrays_fill_53178 cJ7_fill_53178 4 none 0 0 [.ref (ad k), .int v] M none (wR M k (filv (M.1 k) n v)) := C_Arrays_fill_53178 k n v ha M _ (e_fill hn v M)
-- java/lang/Integer.bitCount(I)I []
abbrev y_Integer_bitCount_0f7a4 : MethodName := ⟨"java/lang/Integer", "bitCount", "(I)I"⟩
abbrev cJ6_bitCount_0f7a4 : ByteArray := prog_15_method_49_code
theorem dJ6_bitCount_0f7a4_0 : decode cJ6_bitCount_0f7a4 0 = .ok (.iload_n 0, 1) := by decide +kernel
theorem dJ6_bitCount_0f7a4_1 : decode cJ6_bitCount_0f7a4 1 = .ok (.iload_n 0, 1) := by decide +kernel
theorem dJ6_bitCount_0f7a4_2 : decode cJ6_bitCount_0f7a4 2 = .ok (.iconst 1, 1) := by decide +kernel
theorem dJ6_bitCount_0f7a4_3 : decode cJ6_bitCount_0f7a4 3 = .ok (.iushr, 1) := by decide +kernel
theorem dJ6_bitCount_0f7a4_4 : decode cJ6_bitCount_0f7a4 4 = .ok (.ldc_w 265, 3) := by decide +kernel
theorem dJ6_bitCount_0f7a4_7 : decode cJ6_bitCount_0f7a4 7 = .ok (.iand, 1) := by decide +kernel
theorem dJ6_bitCount_0f7a4_8 : decode cJ6_bitCount_0f7a4 8 = .ok (.isub, 1) := by decide +kernel
theorem dJ6_bitCount_0f7a4_9 : decode cJ6_bitCount_0f7a4 9 = .ok (.istore_n 0, 1) := by decide +kernel
theorem dJ6_bitCount_0f7a4_10 : decode cJ6_bitCount_0f7a4 10 = .ok (.iload_n 0, 1) := by decide +kernel
theorem dJ6_bitCount_0f7a4_11 : decode cJ6_bitCount_0f7a4 11 = .ok (.ldc_w 266, 3) := by decide +kernel
theorem dJ6_bitCount_0f7a4_14 : decode cJ6_bitCount_0f7a4 14 = .ok (.iand, 1) := by decide +kernel
theorem dJ6_bitCount_0f7a4_15 : decode cJ6_bitCount_0f7a4 15 = .ok (.iload_n 0, 1) := by decide +kernel
theorem dJ6_bitCount_0f7a4_16 : decode cJ6_bitCount_0f7a4 16 = .ok (.iconst 2, 1) := by decide +kernel
theorem dJ6_bitCount_0f7a4_17 : decode cJ6_bitCount_0f7a4 17 = .ok (.iushr, 1) := by decide +kernel
theorem dJ6_bitCount_0f7a4_18 : decode cJ6_bitCount_0f7a4 18 = .ok (.ldc_w 266, 3) := by decide +kernel
theorem dJ6_bitCount_0f7a4_21 : decode cJ6_bitCount_0f7a4 21 = .ok (.iand, 1) := by decide +kernel
theorem dJ6_bitCount_0f7a4_22 : decode cJ6_bitCount_0f7a4 22 = .ok (.iadd, 1) := by decide +kernel
theorem dJ6_bitCount_0f7a4_23 : decode cJ6_bitCount_0f7a4 23 = .ok (.istore_n 0, 1) := by decide +kernel
theorem dJ6_bitCount_0f7a4_24 : decode cJ6_bitCount_0f7a4 24 = .ok (.iload_n 0, 1) := by decide +kernel
theorem dJ6_bitCount_0f7a4_25 : decode cJ6_bitCount_0f7a4 25 = .ok (.iload_n 0, 1) := by decide +kernel
theorem dJ6_bitCount_0f7a4_26 : decode cJ6_bitCount_0f7a4 26 = .ok (.iconst 4, 1) := by decide +kernel
theorem dJ6_bitCount_0f7a4_27 : decode cJ6_bitCount_0f7a4 27 = .ok (.iushr, 1) := by decide +kernel
theorem dJ6_bitCount_0f7a4_28 : decode cJ6_bitCount_0f7a4 28 = .ok (.iadd, 1) := by decide +kernel
theorem dJ6_bitCount_0f7a4_29 : decode cJ6_bitCount_0f7a4 29 = .ok (.ldc_w 267, 3) := by decide +kernel
theorem dJ6_bitCount_0f7a4_32 : decode cJ6_bitCount_0f7a4 32 = .ok (.iand, 1) := by decide +kernel
theorem dJ6_bitCount_0f7a4_33 : decode cJ6_bitCount_0f7a4 33 = .ok (.istore_n 0, 1) := by decide +kernel
theorem dJ6_bitCount_0f7a4_34 : decode cJ6_bitCount_0f7a4 34 = .ok (.iload_n 0, 1) := by decide +kernel
theorem dJ6_bitCount_0f7a4_35 : decode cJ6_bitCount_0f7a4 35 = .ok (.iload_n 0, 1) := by decide +kernel
theorem dJ6_bitCount_0f7a4_36 : decode cJ6_bitCount_0f7a4 36 = .ok (.bipush 8, 2) := by decide +kernel
theorem dJ6_bitCount_0f7a4_38 : decode cJ6_bitCount_0f7a4 38 = .ok (.iushr, 1) := by decide +kernel
theorem dJ6_bitCount_0f7a4_39 : decode cJ6_bitCount_0f7a4 39 = .ok (.iadd, 1) := by decide +kernel
theorem dJ6_bitCount_0f7a4_40 : decode cJ6_bitCount_0f7a4 40 = .ok (.istore_n 0, 1) := by decide +kernel
theorem dJ6_bitCount_0f7a4_41 : decode cJ6_bitCount_0f7a4 41 = .ok (.iload_n 0, 1) := by decide +kernel
theorem dJ6_bitCount_0f7a4_42 : decode cJ6_bitCount_0f7a4 42 = .ok (.iload_n 0, 1) := by decide +kernel
theorem dJ6_bitCount_0f7a4_43 : decode cJ6_bitCount_0f7a4 43 = .ok (.bipush 16, 2) := by decide +kernel
theorem dJ6_bitCount_0f7a4_45 : decode cJ6_bitCount_0f7a4 45 = .ok (.iushr, 1) := by decide +kernel
theorem dJ6_bitCount_0f7a4_46 : decode cJ6_bitCount_0f7a4 46 = .ok (.iadd, 1) := by decide +kernel
theorem dJ6_bitCount_0f7a4_47 : decode cJ6_bitCount_0f7a4 47 = .ok (.istore_n 0, 1) := by decide +kernel
theorem dJ6_bitCount_0f7a4_48 : decode cJ6_bitCount_0f7a4 48 = .ok (.iload_n 0, 1) := by decide +kernel
theorem dJ6_bitCount_0f7a4_49 : decode cJ6_bitCount_0f7a4 49 = .ok (.bipush 63, 2) := by decide +kernel
theorem dJ6_bitCount_0f7a4_51 : decode cJ6_bitCount_0f7a4 51 = .ok (.iand, 1) := by decide +kernel
theorem dJ6_bitCount_0f7a4_52 : decode cJ6_bitCount_0f7a4 52 = .ok (.ireturn, 1) := by decide +kernel
theorem hd_Integer_bitCount_0f7a4 : y_Integer_bitCount_0f7a4.cls ≠ "java/lang/invoke/MethodHandle" ∧ y_Integer_bitCount_0f7a4.cls ≠ "java/lang/invoke/VarHandle" ∧ (parseMethodDescriptor y_Integer_bitCount_0f7a4.desc).map (fun d => d.parameters.length) = some 1 := by decide +kernel
def f_Integer_bitCount_0f7a4 (a0 : Int32) : Option (Int32) :=
  jv_ (a0 - (((a0.toUInt32 >>> (Int32.toUInt32 1 &&& Int32.toUInt32 31)).toInt32) &&& 1431655765) : Int32) fun x1 => jv_ ((x1 &&& 858993459) + (((x1.toUInt32 >>> (Int32.toUInt32 2 &&& Int32.toUInt32 31)).toInt32) &&& 858993459) : Int32) fun x2 => jv_ ((x2 + ((x2.toUInt32 >>> (Int32.toUInt32 4 &&& Int32.toUInt32 31)).toInt32)) &&& 252645135 : Int32) fun x3 => jv_ (x3 + ((x3.toUInt32 >>> (Int32.toUInt32 8 &&& Int32.toUInt32 31)).toInt32) : Int32) fun x4 => jv_ (x4 + ((x4.toUInt32 >>> (Int32.toUInt32 16 &&& Int32.toUInt32 31)).toInt32) : Int32) fun x5 => some (x5 &&& 63)
set_option maxHeartbeats 4000000 in
set_option maxRecDepth 20000 in
theorem C_Integer_bitCount_0f7a4 {D : va_G} {ad adK adV : Nat → Nat} {cI cJ : ClassId} {l : Launch} (a0 : Int32) (M0 : Mem) (o : Int32) (h : f_Integer_bitCount_0f7a4 a0 = some o) : Ct D ad adK adV cI cJ l y_Integer_bitCount_0f7a4 cJ6_bitCount_0f7a4 1 (some .int) 0 0 [.int a0] M0 (some (.int o)) M0 := by
  refine x_start (lv := [(0, .int a0)]) (own := "java/lang/Integer") rfl (by decide) (Nat.le_of_ble_eq_true rfl) rfl ?_
  intro p e s m args below meth c Q hQ B
  unfold f_Integer_bitCount_0f7a4 at h
  refine x_iload_n (pc := 0) B 0 dJ6_bitCount_0f7a4_0 rfl rfl ?_
  refine x_iload_n (pc := 1) B 0 dJ6_bitCount_0f7a4_1 rfl rfl ?_
  refine x_iconst (v := 1) (pc := 2) B dJ6_bitCount_0f7a4_2 rfl ?_
  refine x_iushr (pc := 3) B dJ6_bitCount_0f7a4_3 rfl ?_
  refine x_ldcw (v := 1431655765) (pc := 4) B tw_690 dJ6_bitCount_0f7a4_4 ?_
  refine x_iand (pc := 7) B dJ6_bitCount_0f7a4_7 ?_
  refine x_isub (pc := 8) B dJ6_bitCount_0f7a4_8 ?_
  refine jv_m (P := fun (x1 : Int32) => XX D ad cI cJ p l e (Rm 0 0) s m args below meth c Q 1 M0 9 [(0, .int a0)] [.int x1]) h (fun x1 h => ?_)
  refine x_istore_n (lv' := [(0, .int x1)]) (pc := 9) B dJ6_bitCount_0f7a4_9 rfl (by decide) rfl ?_
  refine x_iload_n (pc := 10) B 0 dJ6_bitCount_0f7a4_10 rfl rfl ?_
  refine x_ldcw (v := 858993459) (pc := 11) B tw_691 dJ6_bitCount_0f7a4_11 ?_
  refine x_iand (pc := 14) B dJ6_bitCount_0f7a4_14 ?_
  refine x_iload_n (pc := 15) B 0 dJ6_bitCount_0f7a4_15 rfl rfl ?_
  refine x_iconst (v := 2) (pc := 16) B dJ6_bitCount_0f7a4_16 rfl ?_
  refine x_iushr (pc := 17) B dJ6_bitCount_0f7a4_17 rfl ?_
  refine x_ldcw (v := 858993459) (pc := 18) B tw_691 dJ6_bitCount_0f7a4_18 ?_
  refine x_iand (pc := 21) B dJ6_bitCount_0f7a4_21 ?_
  refine x_iadd (pc := 22) B dJ6_bitCount_0f7a4_22 ?_
  refine jv_m (P := fun (x2 : Int32) => XX D ad cI cJ p l e (Rm 0 0) s m args below meth c Q 1 M0 23 [(0, .int x1)] [.int x2]) h (fun x2 h => ?_)
  refine x_istore_n (lv' := [(0, .int x2)]) (pc := 23) B dJ6_bitCount_0f7a4_23 rfl (by decide) rfl ?_
  refine x_iload_n (pc := 24) B 0 dJ6_bitCount_0f7a4_24 rfl rfl ?_
  refine x_iload_n (pc := 25) B 0 dJ6_bitCount_0f7a4_25 rfl rfl ?_
  refine x_iconst (v := 4) (pc := 26) B dJ6_bitCount_0f7a4_26 rfl ?_
  refine x_iushr (pc := 27) B dJ6_bitCount_0f7a4_27 rfl ?_
  refine x_iadd (pc := 28) B dJ6_bitCount_0f7a4_28 ?_
  refine x_ldcw (v := 252645135) (pc := 29) B tw_692 dJ6_bitCount_0f7a4_29 ?_
  refine x_iand (pc := 32) B dJ6_bitCount_0f7a4_32 ?_
  refine jv_m (P := fun (x3 : Int32) => XX D ad cI cJ p l e (Rm 0 0) s m args below meth c Q 1 M0 33 [(0, .int x2)] [.int x3]) h (fun x3 h => ?_)
  refine x_istore_n (lv' := [(0, .int x3)]) (pc := 33) B dJ6_bitCount_0f7a4_33 rfl (by decide) rfl ?_
  refine x_iload_n (pc := 34) B 0 dJ6_bitCount_0f7a4_34 rfl rfl ?_
  refine x_iload_n (pc := 35) B 0 dJ6_bitCount_0f7a4_35 rfl rfl ?_
  refine x_bipush (v := 8) (pc := 36) B dJ6_bitCount_0f7a4_36 rfl ?_
  refine x_iushr (pc := 38) B dJ6_bitCount_0f7a4_38 rfl ?_
  refine x_iadd (pc := 39) B dJ6_bitCount_0f7a4_39 ?_
  refine jv_m (P := fun (x4 : Int32) => XX D ad cI cJ p l e (Rm 0 0) s m args below meth c Q 1 M0 40 [(0, .int x3)] [.int x4]) h (fun x4 h => ?_)
  refine x_istore_n (lv' := [(0, .int x4)]) (pc := 40) B dJ6_bitCount_0f7a4_40 rfl (by decide) rfl ?_
  refine x_iload_n (pc := 41) B 0 dJ6_bitCount_0f7a4_41 rfl rfl ?_
  refine x_iload_n (pc := 42) B 0 dJ6_bitCount_0f7a4_42 rfl rfl ?_
  refine x_bipush (v := 16) (pc := 43) B dJ6_bitCount_0f7a4_43 rfl ?_
  refine x_iushr (pc := 45) B dJ6_bitCount_0f7a4_45 rfl ?_
  refine x_iadd (pc := 46) B dJ6_bitCount_0f7a4_46 ?_
  refine jv_m (P := fun (x5 : Int32) => XX D ad cI cJ p l e (Rm 0 0) s m args below meth c Q 1 M0 47 [(0, .int x4)] [.int x5]) h (fun x5 h => ?_)
  refine x_istore_n (lv' := [(0, .int x5)]) (pc := 47) B dJ6_bitCount_0f7a4_47 rfl (by decide) rfl ?_
  refine x_iload_n (pc := 48) B 0 dJ6_bitCount_0f7a4_48 rfl rfl ?_
  refine x_bipush (v := 63) (pc := 49) B dJ6_bitCount_0f7a4_49 rfl ?_
  refine x_iand (pc := 51) B dJ6_bitCount_0f7a4_51 ?_
  obtain rfl := Option.some.inj h
  exact x_iret (pc := 52) B hQ dJ6_bitCount_0f7a4_52
def bcnt (a : Int32) : Int32 := (f_Integer_bitCount_0f7a4 a).getD 0
theorem T_bitCount {D : va_G} {ad adK adV : Nat → Nat} {cI cJ : ClassId} {l : Launch} (a : Int32) (M : Mem) : Ct D ad adK adV cI cJ l y_Integer_bitCount_0f7a4 cJ6_bitCount_0f7a4 1 (some .int) 0 0 [.int a] M (some (.int (bcnt a))) M := C_Integer_bitCount_0f7a4 a M _ (by rfl)
