theorem i_lt {x y : Int32} : x < y ↔ x.toInt < y.toInt := Int32.lt_iff_toInt_lt
theorem i_le {x y : Int32} : x ≤ y ↔ x.toInt ≤ y.toInt := Int32.le_iff_toInt_le
theorem i_cl (x : Int32) : x.toNatClampNeg = x.toInt.toNat := rfl
theorem i_of {n : Nat} (h : n < 2147483648) : (Int32.ofNat n).toInt = (n : Int) := Int32.toInt_ofNat_of_lt (by omega)
def atv (f : Nat → Int32) (n : Nat) (i : Int32) : Int32 := if inb i n then f i.toNatClampNeg else 0
def putv (m : Mem) (k n : Nat) (i v : Int32) : Mem := if inb i n then wI m k i.toNatClampNeg v else m
def prt (a b : Int32) : Int32 := if b = 0 then 0 else a / b
def wthn (n a b : Int32) : Bool := decide (a ≤ n) && decide (n ≤ b)
def hld (b i : Int32) : Bool := decide ((b >>> (i &&& 31)) &&& 1 = 1)
def slt (f m : Int32) : Int32 := if (wthn f 0 9 && wthn m 0 120) then f * 121 + m else -1
def bsd (a b : Int32) : Bool := decide (jabs ((a - a / 8 * 8) - (b - b / 8 * 8)) + jabs ((a / 8) - (b / 8)) = 1)
theorem i_0 : (0 : Int32).toInt = 0 := by decide
theorem inb_iff {i : Int32} {n : Nat} : inb i n = true ↔ 0 ≤ i.toInt ∧ i.toInt < n := by
  simp only [inb, Bool.and_eq_true, decide_eq_true_eq, i_le, i_0, i_cl]
  omega
theorem inb_nf {i : Int32} {n : Nat} : inb i n = false ↔ i.toInt < 0 ∨ n ≤ i.toInt := by
  rw [← Bool.not_eq_true, inb_iff]
  omega
theorem e_CF_at {k n : Nat} (hn : n < 2147483648) (i : Int32) (m : Mem) : f_CF_at k n i m = some (atv (m.1 k) n i) := by
  unfold f_CF_at atv
  by_cases h : inb i n = true
  · have h1 := inb_iff.mp h
    rw [if_neg (by simp only [decide_eq_true_eq, i_lt, i_0]; omega), if_pos (by simp only [decide_eq_true_eq, i_lt, i_of hn]; omega), if_pos h, if_pos h]
  · rw [if_neg h]
    have h1 := inb_nf.mp (Bool.not_eq_true _ ▸ h)
    by_cases h2 : i < 0
    · rw [if_pos (decide_eq_true h2), if_neg h]
    · rw [if_neg (by simp [h2]), if_neg (by
        simp only [decide_eq_true_eq, i_lt, i_of hn]
        simp only [i_lt, i_0] at h2
        omega), if_neg h]
theorem e_CF_put {k n : Nat} (hn : n < 2147483648) (i v : Int32) (m : Mem) : f_CF_put k n i v m = some (putv m k n i v) := by
  unfold f_CF_put putv jv_
  by_cases h : inb i n = true
  · have h1 := inb_iff.mp h
    rw [if_neg (by simp only [decide_eq_true_eq, i_lt, i_0]; omega), if_pos (by simp only [decide_eq_true_eq, i_lt, i_of hn]; omega), if_pos h, if_pos h]
  · rw [if_neg h]
    have h1 := inb_nf.mp (Bool.not_eq_true _ ▸ h)
    by_cases h2 : i < 0
    · rw [if_pos (decide_eq_true h2), if_neg h]
    · rw [if_neg (by simp [h2]), if_neg (by
        simp only [decide_eq_true_eq, i_lt, i_of hn]
        simp only [i_lt, i_0] at h2
        omega), if_neg h]
theorem e_CF_parted (a b : Int32) : f_CF_parted a b = some (prt a b) := by
  unfold f_CF_parted prt
  by_cases h : b = 0 <;> simp [h]
theorem e_CF_within (n a b : Int32) : f_CF_within n a b = some (wthn n a b) := by
  unfold f_CF_within wthn
  by_cases h1 : n < a
  · have h3 : ¬ a ≤ n := Int32.not_le.mpr h1
    simp [h1, h3]
  · have h3 : a ≤ n := Int32.not_lt.mp h1
    by_cases h2 : n ≤ b <;> simp [h1, h2, h3]
theorem e_CF_holds (a b : Int32) : f_CF_holds a b = some (hld a b) := by
  unfold f_CF_holds hld
  by_cases h : (a >>> (b &&& 31)) &&& 1 = 1 <;> simp [h]
theorem e_CF_flag (b : Bool) : f_CF_flag b = some (bI b) := by cases b <;> rfl
theorem e_CF_slot (a b : Int32) : f_CF_slot a b = some (slt a b) := by
  have e : ∀ x n : Int32, (n = 10 ∨ n = 121) → (wthn x 0 (n - 1) = (!decide (x < 0) && decide (x < n))) := by
    intro x n hn
    unfold wthn
    rw [Bool.eq_iff_iff]
    simp only [Bool.and_eq_true, decide_eq_true_eq, Bool.not_eq_true', decide_eq_false_iff_not, i_lt, i_le, i_0]
    rcases hn with rfl | rfl
    · rw [show (10 - 1 : Int32).toInt = 9 by decide, show (10 : Int32).toInt = 10 by decide]; omega
    · rw [show (121 - 1 : Int32).toInt = 120 by decide, show (121 : Int32).toInt = 121 by decide]; omega
  have e1 := e a 10 (Or.inl rfl)
  have e2 := e b 121 (Or.inr rfl)
  rw [show (10 - 1 : Int32) = 9 by decide] at e1
  rw [show (121 - 1 : Int32) = 120 by decide] at e2
  unfold f_CF_slot slt jv_
  rw [e1, e2]
  cases decide (a < 0) <;> cases decide (a < 10) <;> cases decide (b < 0) <;> cases decide (b < 121) <;> rfl
section TL
variable {D : va_G} {ad adK adV : Nat → Nat} {cI cJ : ClassId} {l : Launch}
theorem T_CF_at (k n : Nat) (i : Int32) (ha : ArrI k n) (hn : n < 2147483648) (M : Mem) : Ct D ad adK adV cI cJ l y_CF_at cX11_at 2 (some .int) 0 0 [.ref (ad k), .int i] M (some (.int (atv (M.1 k) n i))) M := C_CF_at k n i ha M _ (e_CF_at hn i M)
theorem T_CF_put (k n : Nat) (i v : Int32) (ha : ArrI k n) (hn : n < 2147483648) (M : Mem) : Ct D ad adK adV cI cJ l y_CF_put cX11_put 3 none 0 0 [.ref (ad k), .int i, .int v] M none (putv M k n i v) := C_CF_put k n i v ha M _ (e_CF_put hn i v M)
theorem T_CF_parted (a b : Int32) (M : Mem) : Ct D ad adK adV cI cJ l y_CF_parted cX11_parted 2 (some .int) 0 0 [.int a, .int b] M (some (.int (prt a b))) M := C_CF_parted a b M _ (e_CF_parted a b)
theorem T_CF_within (n a b : Int32) (M : Mem) : Ct D ad adK adV cI cJ l y_CF_within cX11_within 3 (some .boolean) 0 0 [.int n, .int a, .int b] M (some (.int (bI (wthn n a b)))) M := C_CF_within n a b M _ (e_CF_within n a b)
theorem T_CF_holds (a b : Int32) (M : Mem) : Ct D ad adK adV cI cJ l y_CF_holds cX11_holds 2 (some .boolean) 0 0 [.int a, .int b] M (some (.int (bI (hld a b)))) M := C_CF_holds a b M _ (e_CF_holds a b)
theorem T_CF_flag (b : Bool) (M : Mem) : Ct D ad adK adV cI cJ l y_CF_flag cX11_flag 1 (some .int) 0 0 [.int (bI b)] M (some (.int (bI b))) M := C_CF_flag b M _ (e_CF_flag b)
theorem T_CF_slot (a b : Int32) (M : Mem) : Ct D ad adK adV cI cJ l y_CF_slot cX11_slot 3 (some .int) 0 0 [.int a, .int b] M (some (.int (slt a b))) M := C_CF_slot a b M _ (e_CF_slot a b)
end TL
-- CurrentFarms.isCell(I)Z []
abbrev y_CF_isCell : MethodName := ⟨"CurrentFarms", "isCell", "(I)Z"⟩
abbrev cX11_isCell : ByteArray := prog_1_method_62_code
theorem dX11_isCell_0 : decode cX11_isCell 0 = .ok (.iload_n 0, 1) := by decide +kernel
theorem dX11_isCell_1 : decode cX11_isCell 1 = .ok (.iconst 0, 1) := by decide +kernel
theorem dX11_isCell_2 : decode cX11_isCell 2 = .ok (.bipush 47, 2) := by decide +kernel
theorem dX11_isCell_4 : decode cX11_isCell 4 = .ok (.invokestatic 72, 3) := by decide +kernel
theorem dX11_isCell_7 : decode cX11_isCell 7 = .ok (.ireturn, 1) := by decide +kernel
theorem hd_CF_isCell : y_CF_isCell.cls ≠ "java/lang/invoke/MethodHandle" ∧ y_CF_isCell.cls ≠ "java/lang/invoke/VarHandle" ∧ (parseMethodDescriptor y_CF_isCell.desc).map (fun d => d.parameters.length) = some 1 := by decide +kernel
def f_CF_isCell (a0 : Int32) : Option (Bool) :=
  some (wthn a0 0 47)
set_option maxHeartbeats 4000000 in
set_option maxRecDepth 20000 in
theorem C_CF_isCell {D : va_G} {ad adK adV : Nat → Nat} {cI cJ : ClassId} {l : Launch} (a0 : Int32) (M0 : Mem) (o : Bool) (h : f_CF_isCell a0 = some o) : Ct D ad adK adV cI cJ l y_CF_isCell cX11_isCell 1 (some .boolean) 1 22 [.int a0] M0 (some (.int (bI o))) M0 := by
  refine x_start (lv := [(0, .int a0)]) (own := "CurrentFarms") rfl (by decide) (Nat.le_of_ble_eq_true rfl) rfl ?_
  intro p e s m args below meth c Q hQ B
  unfold f_CF_isCell at h
  refine x_iload_n (pc := 0) B 0 dX11_isCell_0 rfl rfl ?_
  refine x_iconst (v := 0) (pc := 1) B dX11_isCell_1 rfl ?_
  refine x_bipush (v := 47) (pc := 2) B dX11_isCell_2 rfl ?_
  refine x_callS (rest := []) (st' := [.int (bI (wthn a0 0 47))]) (pc := 4) B (T_CF_within a0 0 47 M0) tw_559 tw_557 tw_558 tw_98 hd_CF_within ⟨Nat.le_of_ble_eq_true rfl, Nat.le_of_ble_eq_true rfl⟩ rfl rfl (Nat.le_of_ble_eq_true rfl) rfl dX11_isCell_4 ?_
  obtain rfl := Option.some.inj h
  exact x_zret (v := wthn a0 0 47) (pc := 7) B hQ dX11_isCell_7
-- CurrentFarms.beside(II)Z []
abbrev y_CF_beside : MethodName := ⟨"CurrentFarms", "beside", "(II)Z"⟩
abbrev cX11_beside : ByteArray := prog_1_method_63_code
theorem dX11_beside_0 : decode cX11_beside 0 = .ok (.iload_n 0, 1) := by decide +kernel
theorem dX11_beside_1 : decode cX11_beside 1 = .ok (.bipush 8, 2) := by decide +kernel
theorem dX11_beside_3 : decode cX11_beside 3 = .ok (.irem, 1) := by decide +kernel
theorem dX11_beside_4 : decode cX11_beside 4 = .ok (.iload_n 1, 1) := by decide +kernel
theorem dX11_beside_5 : decode cX11_beside 5 = .ok (.bipush 8, 2) := by decide +kernel
theorem dX11_beside_7 : decode cX11_beside 7 = .ok (.irem, 1) := by decide +kernel
theorem dX11_beside_8 : decode cX11_beside 8 = .ok (.isub, 1) := by decide +kernel
theorem dX11_beside_9 : decode cX11_beside 9 = .ok (.invokestatic 383, 3) := by decide +kernel
theorem dX11_beside_12 : decode cX11_beside 12 = .ok (.istore_n 2, 1) := by decide +kernel
theorem dX11_beside_13 : decode cX11_beside 13 = .ok (.iload_n 0, 1) := by decide +kernel
theorem dX11_beside_14 : decode cX11_beside 14 = .ok (.bipush 8, 2) := by decide +kernel
theorem dX11_beside_16 : decode cX11_beside 16 = .ok (.idiv, 1) := by decide +kernel
theorem dX11_beside_17 : decode cX11_beside 17 = .ok (.iload_n 1, 1) := by decide +kernel
theorem dX11_beside_18 : decode cX11_beside 18 = .ok (.bipush 8, 2) := by decide +kernel
theorem dX11_beside_20 : decode cX11_beside 20 = .ok (.idiv, 1) := by decide +kernel
theorem dX11_beside_21 : decode cX11_beside 21 = .ok (.isub, 1) := by decide +kernel
theorem dX11_beside_22 : decode cX11_beside 22 = .ok (.invokestatic 383, 3) := by decide +kernel
theorem dX11_beside_25 : decode cX11_beside 25 = .ok (.istore_n 3, 1) := by decide +kernel
theorem dX11_beside_26 : decode cX11_beside 26 = .ok (.iload_n 2, 1) := by decide +kernel
theorem dX11_beside_27 : decode cX11_beside 27 = .ok (.iload_n 3, 1) := by decide +kernel
theorem dX11_beside_28 : decode cX11_beside 28 = .ok (.iadd, 1) := by decide +kernel
theorem dX11_beside_29 : decode cX11_beside 29 = .ok (.iconst 1, 1) := by decide +kernel
theorem dX11_beside_30 : decode cX11_beside 30 = .ok (.if_icmp .ne 7, 3) := by decide +kernel
theorem dX11_beside_33 : decode cX11_beside 33 = .ok (.iconst 1, 1) := by decide +kernel
theorem dX11_beside_34 : decode cX11_beside 34 = .ok (.goto 4, 3) := by decide +kernel
theorem dX11_beside_37 : decode cX11_beside 37 = .ok (.iconst 0, 1) := by decide +kernel
theorem dX11_beside_38 : decode cX11_beside 38 = .ok (.ireturn, 1) := by decide +kernel
theorem hd_CF_beside : y_CF_beside.cls ≠ "java/lang/invoke/MethodHandle" ∧ y_CF_beside.cls ≠ "java/lang/invoke/VarHandle" ∧ (parseMethodDescriptor y_CF_beside.desc).map (fun d => d.parameters.length) = some 2 := by decide +kernel
def f_CF_beside (a0 : Int32) (a1 : Int32) : Option (Bool) :=
  if decide (((jabs ((a0 - a0 / 8 * 8) - (a1 - a1 / 8 * 8))) + (jabs ((a0 / 8) - (a1 / 8)))) = 1) then (some true) else (some false)
set_option maxHeartbeats 4000000 in
set_option maxRecDepth 20000 in
theorem C_CF_beside {D : va_G} {ad adK adV : Nat → Nat} {cI cJ : ClassId} {l : Launch} (a0 : Int32) (a1 : Int32) (M0 : Mem) (o : Bool) (h : f_CF_beside a0 a1 = some o) : Ct D ad adK adV cI cJ l y_CF_beside cX11_beside 4 (some .boolean) 1 14 [.int a0, .int a1] M0 (some (.int (bI o))) M0 := by
  refine x_start (lv := [(0, .int a0), (1, .int a1)]) (own := "CurrentFarms") rfl (by decide) (Nat.le_of_ble_eq_true rfl) rfl ?_
  intro p e s m args below meth c Q hQ B
  unfold f_CF_beside at h
  refine x_iload_n (pc := 0) B 0 dX11_beside_0 rfl rfl ?_
  refine x_bipush (v := 8) (pc := 1) B dX11_beside_1 rfl ?_
  refine x_irem (pc := 3) B dX11_beside_3 (by decide) ?_
  refine x_iload_n (pc := 4) B 1 dX11_beside_4 rfl rfl ?_
  refine x_bipush (v := 8) (pc := 5) B dX11_beside_5 rfl ?_
  refine x_irem (pc := 7) B dX11_beside_7 (by decide) ?_
  refine x_isub (pc := 8) B dX11_beside_8 ?_
  refine x_mabs (pc := 9) B tw_596 tw_597 tw_112 tw_598 (by decide) (Nat.le_of_ble_eq_true rfl) dX11_beside_9 ?_
  refine x_istore_n (lv' := [(2, .int (jabs ((a0 - a0 / 8 * 8) - (a1 - a1 / 8 * 8)))), (0, .int a0), (1, .int a1)]) (pc := 12) B dX11_beside_12 rfl (by decide) rfl ?_
  refine x_iload_n (pc := 13) B 1 dX11_beside_13 rfl rfl ?_
  refine x_bipush (v := 8) (pc := 14) B dX11_beside_14 rfl ?_
  refine x_idiv (pc := 16) B dX11_beside_16 (by decide) ?_
  refine x_iload_n (pc := 17) B 2 dX11_beside_17 rfl rfl ?_
  refine x_bipush (v := 8) (pc := 18) B dX11_beside_18 rfl ?_
  refine x_idiv (pc := 20) B dX11_beside_20 (by decide) ?_
  refine x_isub (pc := 21) B dX11_beside_21 ?_
  refine x_mabs (pc := 22) B tw_596 tw_597 tw_112 tw_598 (by decide) (Nat.le_of_ble_eq_true rfl) dX11_beside_22 ?_
  refine x_istore_n (lv' := [(3, .int (jabs ((a0 / 8) - (a1 / 8)))), (2, .int (jabs ((a0 - a0 / 8 * 8) - (a1 - a1 / 8 * 8)))), (0, .int a0), (1, .int a1)]) (pc := 25) B dX11_beside_25 rfl (by decide) rfl ?_
  refine x_iload_n (pc := 26) B 1 dX11_beside_26 rfl rfl ?_
  refine x_iload_n (pc := 27) B 0 dX11_beside_27 rfl rfl ?_
  refine x_iadd (pc := 28) B dX11_beside_28 ?_
  refine x_iconst (v := 1) (pc := 29) B dX11_beside_29 rfl ?_
  refine x_icmp_ne (tgt := 37) (pc := 30) B dX11_beside_30 rfl (fun hc1 => ?_) (fun hc1 => ?_)
  · have h := iff_ hc1 h
    refine x_iconst (v := 0) (pc := 37) B dX11_beside_37 rfl ?_
    obtain rfl := Option.some.inj h
    exact x_zret (v := false) (pc := 38) B hQ dX11_beside_38
  · have h := ift hc1 h
    refine x_iconst (v := 1) (pc := 33) B dX11_beside_33 rfl ?_
    refine x_goto (tgt := 38) (pc := 34) B dX11_beside_34 rfl ?_
    obtain rfl := Option.some.inj h
    exact x_zret (v := true) (pc := 38) B hQ dX11_beside_38
theorem e_CF_isCell (a : Int32) : f_CF_isCell a = some (wthn a 0 47) := rfl
theorem e_CF_beside (a b : Int32) : f_CF_beside a b = some (bsd a b) := by
  unfold f_CF_beside bsd
  split <;> rename_i h
  · rw [h]
  · rw [Bool.not_eq_true] at h; rw [h]
section TL
variable {D : va_G} {ad adK adV : Nat → Nat} {cI cJ : ClassId} {l : Launch}
theorem T_CF_isCell (a : Int32) (M : Mem) : Ct D ad adK adV cI cJ l y_CF_isCell cX11_isCell 1 (some .boolean) 1 22 [.int a] M (some (.int (bI (wthn a 0 47)))) M := C_CF_isCell a M _ (e_CF_isCell a)
theorem T_CF_beside (a b : Int32) (M : Mem) : Ct D ad adK adV cI cJ l y_CF_beside cX11_beside 4 (some .boolean) 1 14 [.int a, .int b] M (some (.int (bI (bsd a b)))) M := C_CF_beside a b M _ (e_CF_beside a b)
end TL
