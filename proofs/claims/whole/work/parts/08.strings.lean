abbrev cJ0_length_8abf5 : ByteArray := prog_17_method_54_code
theorem dJ0_length_8abf5_0 : decode cJ0_length_8abf5 0 = .ok (.aload_n 0, 1) := by decide +kernel
theorem dJ0_length_8abf5_1 : decode cJ0_length_8abf5 1 = .ok (.getfield 9, 3) := by decide +kernel
theorem dJ0_length_8abf5_4 : decode cJ0_length_8abf5 4 = .ok (.arraylength, 1) := by decide +kernel
theorem dJ0_length_8abf5_5 : decode cJ0_length_8abf5 5 = .ok (.aload_n 0, 1) := by decide +kernel
theorem dJ0_length_8abf5_6 : decode cJ0_length_8abf5 6 = .ok (.invokevirtual 335, 3) := by decide +kernel
theorem dJ0_length_8abf5_9 : decode cJ0_length_8abf5 9 = .ok (.ishr, 1) := by decide +kernel
theorem dJ0_length_8abf5_10 : decode cJ0_length_8abf5 10 = .ok (.ireturn, 1) := by decide +kernel
abbrev yJ0_length_8abf5 : MethodName := ⟨"java/lang/String", "length", "()I"⟩
theorem hd_J0_length_8abf5 : yJ0_length_8abf5.cls ≠ "java/lang/invoke/MethodHandle" ∧ yJ0_length_8abf5.cls ≠ "java/lang/invoke/VarHandle" ∧ (parseMethodDescriptor yJ0_length_8abf5.desc).map (fun d => d.parameters.length) = some 0 := by decide +kernel
abbrev cJ0_isEmpty_aae02 : ByteArray := prog_17_method_55_code
theorem dJ0_isEmpty_aae02_0 : decode cJ0_isEmpty_aae02 0 = .ok (.aload_n 0, 1) := by decide +kernel
theorem dJ0_isEmpty_aae02_1 : decode cJ0_isEmpty_aae02 1 = .ok (.getfield 9, 3) := by decide +kernel
theorem dJ0_isEmpty_aae02_4 : decode cJ0_isEmpty_aae02 4 = .ok (.arraylength, 1) := by decide +kernel
theorem dJ0_isEmpty_aae02_5 : decode cJ0_isEmpty_aae02 5 = .ok (.ifCond .ne 7, 3) := by decide +kernel
theorem dJ0_isEmpty_aae02_8 : decode cJ0_isEmpty_aae02 8 = .ok (.iconst 1, 1) := by decide +kernel
theorem dJ0_isEmpty_aae02_9 : decode cJ0_isEmpty_aae02 9 = .ok (.goto 4, 3) := by decide +kernel
theorem dJ0_isEmpty_aae02_12 : decode cJ0_isEmpty_aae02 12 = .ok (.iconst 0, 1) := by decide +kernel
theorem dJ0_isEmpty_aae02_13 : decode cJ0_isEmpty_aae02 13 = .ok (.ireturn, 1) := by decide +kernel
abbrev yJ0_isEmpty_aae02 : MethodName := ⟨"java/lang/String", "isEmpty", "()Z"⟩
theorem hd_J0_isEmpty_aae02 : yJ0_isEmpty_aae02.cls ≠ "java/lang/invoke/MethodHandle" ∧ yJ0_isEmpty_aae02.cls ≠ "java/lang/invoke/VarHandle" ∧ (parseMethodDescriptor yJ0_isEmpty_aae02.desc).map (fun d => d.parameters.length) = some 0 := by decide +kernel
abbrev cJ0_charAt_5068e : ByteArray := prog_17_method_56_code
theorem dJ0_charAt_5068e_0 : decode cJ0_charAt_5068e 0 = .ok (.aload_n 0, 1) := by decide +kernel
theorem dJ0_charAt_5068e_1 : decode cJ0_charAt_5068e 1 = .ok (.invokevirtual 492, 3) := by decide +kernel
theorem dJ0_charAt_5068e_4 : decode cJ0_charAt_5068e 4 = .ok (.ifCond .eq 12, 3) := by decide +kernel
theorem dJ0_charAt_5068e_7 : decode cJ0_charAt_5068e 7 = .ok (.aload_n 0, 1) := by decide +kernel
theorem dJ0_charAt_5068e_8 : decode cJ0_charAt_5068e 8 = .ok (.getfield 9, 3) := by decide +kernel
theorem dJ0_charAt_5068e_11 : decode cJ0_charAt_5068e 11 = .ok (.iload_n 1, 1) := by decide +kernel
theorem dJ0_charAt_5068e_12 : decode cJ0_charAt_5068e 12 = .ok (.invokestatic 495, 3) := by decide +kernel
theorem dJ0_charAt_5068e_15 : decode cJ0_charAt_5068e 15 = .ok (.ireturn, 1) := by decide +kernel
theorem dJ0_charAt_5068e_16 : decode cJ0_charAt_5068e 16 = .ok (.aload_n 0, 1) := by decide +kernel
theorem dJ0_charAt_5068e_17 : decode cJ0_charAt_5068e 17 = .ok (.getfield 9, 3) := by decide +kernel
theorem dJ0_charAt_5068e_20 : decode cJ0_charAt_5068e 20 = .ok (.iload_n 1, 1) := by decide +kernel
theorem dJ0_charAt_5068e_21 : decode cJ0_charAt_5068e 21 = .ok (.invokestatic 498, 3) := by decide +kernel
theorem dJ0_charAt_5068e_24 : decode cJ0_charAt_5068e 24 = .ok (.ireturn, 1) := by decide +kernel
abbrev yJ0_charAt_5068e : MethodName := ⟨"java/lang/String", "charAt", "(I)C"⟩
theorem hd_J0_charAt_5068e : yJ0_charAt_5068e.cls ≠ "java/lang/invoke/MethodHandle" ∧ yJ0_charAt_5068e.cls ≠ "java/lang/invoke/VarHandle" ∧ (parseMethodDescriptor yJ0_charAt_5068e.desc).map (fun d => d.parameters.length) = some 1 := by decide +kernel
abbrev cJ0_coder_7d493 : ByteArray := prog_17_method_152_code
theorem dJ0_coder_7d493_0 : decode cJ0_coder_7d493 0 = .ok (.getstatic 38, 3) := by decide +kernel
theorem dJ0_coder_7d493_3 : decode cJ0_coder_7d493 3 = .ok (.ifCond .eq 10, 3) := by decide +kernel
theorem dJ0_coder_7d493_6 : decode cJ0_coder_7d493 6 = .ok (.aload_n 0, 1) := by decide +kernel
theorem dJ0_coder_7d493_7 : decode cJ0_coder_7d493 7 = .ok (.getfield 15, 3) := by decide +kernel
theorem dJ0_coder_7d493_10 : decode cJ0_coder_7d493 10 = .ok (.goto 4, 3) := by decide +kernel
theorem dJ0_coder_7d493_13 : decode cJ0_coder_7d493 13 = .ok (.iconst 1, 1) := by decide +kernel
theorem dJ0_coder_7d493_14 : decode cJ0_coder_7d493 14 = .ok (.ireturn, 1) := by decide +kernel
abbrev yJ0_coder_7d493 : MethodName := ⟨"java/lang/String", "coder", "()B"⟩
theorem hd_J0_coder_7d493 : yJ0_coder_7d493.cls ≠ "java/lang/invoke/MethodHandle" ∧ yJ0_coder_7d493.cls ≠ "java/lang/invoke/VarHandle" ∧ (parseMethodDescriptor yJ0_coder_7d493.desc).map (fun d => d.parameters.length) = some 0 := by decide +kernel
abbrev cJ0_isLatin1_aae02 : ByteArray := prog_17_method_154_code
theorem dJ0_isLatin1_aae02_0 : decode cJ0_isLatin1_aae02 0 = .ok (.getstatic 38, 3) := by decide +kernel
theorem dJ0_isLatin1_aae02_3 : decode cJ0_isLatin1_aae02 3 = .ok (.ifCond .eq 14, 3) := by decide +kernel
theorem dJ0_isLatin1_aae02_6 : decode cJ0_isLatin1_aae02 6 = .ok (.aload_n 0, 1) := by decide +kernel
theorem dJ0_isLatin1_aae02_7 : decode cJ0_isLatin1_aae02 7 = .ok (.getfield 15, 3) := by decide +kernel
theorem dJ0_isLatin1_aae02_10 : decode cJ0_isLatin1_aae02 10 = .ok (.ifCond .ne 7, 3) := by decide +kernel
theorem dJ0_isLatin1_aae02_13 : decode cJ0_isLatin1_aae02 13 = .ok (.iconst 1, 1) := by decide +kernel
theorem dJ0_isLatin1_aae02_14 : decode cJ0_isLatin1_aae02 14 = .ok (.goto 4, 3) := by decide +kernel
theorem dJ0_isLatin1_aae02_17 : decode cJ0_isLatin1_aae02 17 = .ok (.iconst 0, 1) := by decide +kernel
theorem dJ0_isLatin1_aae02_18 : decode cJ0_isLatin1_aae02 18 = .ok (.ireturn, 1) := by decide +kernel
abbrev yJ0_isLatin1_aae02 : MethodName := ⟨"java/lang/String", "isLatin1", "()Z"⟩
theorem hd_J0_isLatin1_aae02 : yJ0_isLatin1_aae02.cls ≠ "java/lang/invoke/MethodHandle" ∧ yJ0_isLatin1_aae02.cls ≠ "java/lang/invoke/VarHandle" ∧ (parseMethodDescriptor yJ0_isLatin1_aae02.desc).map (fun d => d.parameters.length) = some 0 := by decide +kernel
abbrev cJ0_checkIndex_df160 : ByteArray := prog_17_method_155_code
theorem dJ0_checkIndex_df160_0 : decode cJ0_checkIndex_df160 0 = .ok (.iload_n 0, 1) := by decide +kernel
theorem dJ0_checkIndex_df160_1 : decode cJ0_checkIndex_df160 1 = .ok (.iload_n 1, 1) := by decide +kernel
theorem dJ0_checkIndex_df160_2 : decode cJ0_checkIndex_df160 2 = .ok (.getstatic 1053, 3) := by decide +kernel
theorem dJ0_checkIndex_df160_5 : decode cJ0_checkIndex_df160 5 = .ok (.invokestatic 1059, 3) := by decide +kernel
theorem dJ0_checkIndex_df160_8 : decode cJ0_checkIndex_df160 8 = .ok (.pop, 1) := by decide +kernel
theorem dJ0_checkIndex_df160_9 : decode cJ0_checkIndex_df160 9 = .ok (.return_, 1) := by decide +kernel
abbrev yJ0_checkIndex_df160 : MethodName := ⟨"java/lang/String", "checkIndex", "(II)V"⟩
theorem hd_J0_checkIndex_df160 : yJ0_checkIndex_df160.cls ≠ "java/lang/invoke/MethodHandle" ∧ yJ0_checkIndex_df160.cls ≠ "java/lang/invoke/VarHandle" ∧ (parseMethodDescriptor yJ0_checkIndex_df160.desc).map (fun d => d.parameters.length) = some 2 := by decide +kernel
abbrev cJ1_charAt_3b067 : ByteArray := prog_18_method_2_code
theorem dJ1_charAt_3b067_0 : decode cJ1_charAt_3b067 0 = .ok (.iload_n 1, 1) := by decide +kernel
theorem dJ1_charAt_3b067_1 : decode cJ1_charAt_3b067 1 = .ok (.aload_n 0, 1) := by decide +kernel
theorem dJ1_charAt_3b067_2 : decode cJ1_charAt_3b067 2 = .ok (.arraylength, 1) := by decide +kernel
theorem dJ1_charAt_3b067_3 : decode cJ1_charAt_3b067 3 = .ok (.invokestatic 9, 3) := by decide +kernel
theorem dJ1_charAt_3b067_6 : decode cJ1_charAt_3b067 6 = .ok (.aload_n 0, 1) := by decide +kernel
theorem dJ1_charAt_3b067_7 : decode cJ1_charAt_3b067 7 = .ok (.iload_n 1, 1) := by decide +kernel
theorem dJ1_charAt_3b067_8 : decode cJ1_charAt_3b067 8 = .ok (.baload, 1) := by decide +kernel
theorem dJ1_charAt_3b067_9 : decode cJ1_charAt_3b067 9 = .ok (.sipush 255, 3) := by decide +kernel
theorem dJ1_charAt_3b067_12 : decode cJ1_charAt_3b067 12 = .ok (.iand, 1) := by decide +kernel
theorem dJ1_charAt_3b067_13 : decode cJ1_charAt_3b067 13 = .ok (.i2c, 1) := by decide +kernel
theorem dJ1_charAt_3b067_14 : decode cJ1_charAt_3b067 14 = .ok (.ireturn, 1) := by decide +kernel
abbrev yJ1_charAt_3b067 : MethodName := ⟨"java/lang/StringLatin1", "charAt", "([BI)C"⟩
theorem hd_J1_charAt_3b067 : yJ1_charAt_3b067.cls ≠ "java/lang/invoke/MethodHandle" ∧ yJ1_charAt_3b067.cls ≠ "java/lang/invoke/VarHandle" ∧ (parseMethodDescriptor yJ1_charAt_3b067.desc).map (fun d => d.parameters.length) = some 2 := by decide +kernel
abbrev cJ3_checkIndex_8e157 : ByteArray := prog_22_method_11_code
theorem dJ3_checkIndex_8e157_0 : decode cJ3_checkIndex_8e157 0 = .ok (.iload_n 0, 1) := by decide +kernel
theorem dJ3_checkIndex_8e157_1 : decode cJ3_checkIndex_8e157 1 = .ok (.ifCond .lt 8, 3) := by decide +kernel
theorem dJ3_checkIndex_8e157_4 : decode cJ3_checkIndex_8e157 4 = .ok (.iload_n 0, 1) := by decide +kernel
theorem dJ3_checkIndex_8e157_5 : decode cJ3_checkIndex_8e157 5 = .ok (.iload_n 1, 1) := by decide +kernel
theorem dJ3_checkIndex_8e157_6 : decode cJ3_checkIndex_8e157 6 = .ok (.if_icmp .lt 10, 3) := by decide +kernel
theorem dJ3_checkIndex_8e157_9 : decode cJ3_checkIndex_8e157 9 = .ok (.aload_n 2, 1) := by decide +kernel
theorem dJ3_checkIndex_8e157_10 : decode cJ3_checkIndex_8e157 10 = .ok (.iload_n 0, 1) := by decide +kernel
theorem dJ3_checkIndex_8e157_11 : decode cJ3_checkIndex_8e157 11 = .ok (.iload_n 1, 1) := by decide +kernel
theorem dJ3_checkIndex_8e157_12 : decode cJ3_checkIndex_8e157 12 = .ok (.invokestatic 95, 3) := by decide +kernel
theorem dJ3_checkIndex_8e157_15 : decode cJ3_checkIndex_8e157 15 = .ok (.athrow, 1) := by decide +kernel
theorem dJ3_checkIndex_8e157_16 : decode cJ3_checkIndex_8e157 16 = .ok (.iload_n 0, 1) := by decide +kernel
theorem dJ3_checkIndex_8e157_17 : decode cJ3_checkIndex_8e157 17 = .ok (.ireturn, 1) := by decide +kernel
abbrev yJ3_checkIndex_8e157 : MethodName := ⟨"jdk/internal/util/Preconditions", "checkIndex", "(IILjava/util/function/BiFunction;)I"⟩
theorem hd_J3_checkIndex_8e157 : yJ3_checkIndex_8e157.cls ≠ "java/lang/invoke/MethodHandle" ∧ yJ3_checkIndex_8e157.cls ≠ "java/lang/invoke/VarHandle" ∧ (parseMethodDescriptor yJ3_checkIndex_8e157.desc).map (fun d => d.parameters.length) = some 3 := by decide +kernel
theorem sr_ok : ∀ i, i < 26 → (Int32.ofNat (sr_len.getD i 0) >>> ((0 : Int32) &&& 31) = Int32.ofNat (sr_len.getD i 0) ∧ sr_len.getD i 0 = (sr_byt.getD i []).length ∧ sr_len.getD i 0 < 20) := by decide +kernel
theorem sr_by : ∀ i, i < 26 → ∀ b ∈ sr_byt.getD i [], ((b &&& 255).toUInt32 % 65536).toInt32 = b ∧ narrow .char (.int b) = .int b := by decide +kernel
theorem getD_mem (L : List Int32) (j : Nat) (h : j < L.length) : L.getD j 0 ∈ L := by
  rw [List.getD_eq_getElem?_getD, List.getElem?_eq_getElem h]
  exact List.getElem_mem h
def slen (i : Nat) : Int32 := Int32.ofNat (sr_len.getD i 0)
def semp (i : Nat) : Bool := decide (slen i = 0)
def schr (i : Nat) (k : Int32) : Int32 := (sr_byt.getD i []).getD k.toNatClampNeg 0
theorem schr_ok {i : Nat} {k : Int32} (hi : i < 26) (hk : inb k (sr_len.getD i 0) = true) : ((schr i k &&& 255).toUInt32 % 65536).toInt32 = schr i k ∧ narrow .char (.int (schr i k)) = .int (schr i k) := by
  have h := inb_iff.mp hk
  have h2 := (sr_ok i hi).2.1
  refine sr_by i hi _ ?_
  unfold schr
  have h3 : k.toNatClampNeg < (sr_byt.getD i []).length := by rw [i_cl]; omega
  exact getD_mem _ _ h3
set_option maxRecDepth 20000 in
theorem T_coder {D : va_G} {ad adK adV : Nat → Nat} {cI cJ : ClassId} {l : Launch} (i : Nat) (hi : i < 26) (M : Mem) : Ct D ad adK adV cI cJ l yJ0_coder_7d493 cJ0_coder_7d493 1 (some .byte) 0 0 [.ref (adK i)] M (some (.int 0)) M := by
  refine x_start (lv := [(0, .ref (adK i))]) (own := "java/lang/String") rfl (by decide) (Nat.le_of_ble_eq_true rfl) rfl ?_
  intro p e s m args below meth c Q hQ B
  refine x_gcs (pc := 0) B tw_851 dJ0_coder_7d493_0 ?_
  refine x_if_eq (tgt := 13) (pc := 3) B dJ0_coder_7d493_3 rfl (fun hc => absurd hc (by decide)) (fun _ => ?_)
  refine x_aload_n (pc := 6) B 0 dJ0_coder_7d493_6 rfl rfl ?_
  refine x_scod (pc := 7) B hi tw_1825 dJ0_coder_7d493_7 ?_
  refine x_goto (tgt := 14) (pc := 10) B dJ0_coder_7d493_10 rfl ?_
  exact x_nret (pc := 14) B rfl rfl hQ dJ0_coder_7d493_14
set_option maxRecDepth 20000 in
theorem T_isLatin1 {D : va_G} {ad adK adV : Nat → Nat} {cI cJ : ClassId} {l : Launch} (i : Nat) (hi : i < 26) (M : Mem) : Ct D ad adK adV cI cJ l yJ0_isLatin1_aae02 cJ0_isLatin1_aae02 1 (some .boolean) 0 0 [.ref (adK i)] M (some (.int 1)) M := by
  refine x_start (lv := [(0, .ref (adK i))]) (own := "java/lang/String") rfl (by decide) (Nat.le_of_ble_eq_true rfl) rfl ?_
  intro p e s m args below meth c Q hQ B
  refine x_gcs (pc := 0) B tw_851 dJ0_isLatin1_aae02_0 ?_
  refine x_if_eq (tgt := 17) (pc := 3) B dJ0_isLatin1_aae02_3 rfl (fun hc => absurd hc (by decide)) (fun _ => ?_)
  refine x_aload_n (pc := 6) B 0 dJ0_isLatin1_aae02_6 rfl rfl ?_
  refine x_scod (pc := 7) B hi tw_1825 dJ0_isLatin1_aae02_7 ?_
  refine x_if_ne (tgt := 17) (pc := 10) B dJ0_isLatin1_aae02_10 rfl (fun hc => absurd hc (by decide)) (fun _ => ?_)
  refine x_iconst (v := 1) (pc := 13) B dJ0_isLatin1_aae02_13 rfl ?_
  refine x_goto (tgt := 18) (pc := 14) B dJ0_isLatin1_aae02_14 rfl ?_
  exact x_nret (pc := 18) B rfl rfl hQ dJ0_isLatin1_aae02_18
set_option maxRecDepth 20000 in
theorem T_length {D : va_G} {ad adK adV : Nat → Nat} {cI cJ : ClassId} {l : Launch} (i : Nat) (hi : i < 26) (M : Mem) : Ct D ad adK adV cI cJ l yJ0_length_8abf5 cJ0_length_8abf5 1 (some .int) 1 20 [.ref (adK i)] M (some (.int (slen i))) M := by
  refine x_start (lv := [(0, .ref (adK i))]) (own := "java/lang/String") rfl (by decide) (Nat.le_of_ble_eq_true rfl) rfl ?_
  intro p e s m args below meth c Q hQ B
  refine x_aload_n (pc := 0) B 0 dJ0_length_8abf5_0 rfl rfl ?_
  refine x_sval (pc := 1) B hi tw_1824 dJ0_length_8abf5_1 ?_
  refine x_slen (pc := 4) B hi dJ0_length_8abf5_4 ?_
  refine x_aload_n (pc := 5) B 0 dJ0_length_8abf5_5 rfl rfl ?_
  refine x_callVS (rest := [.int (Int32.ofNat (sr_len.getD i 0))]) (st' := [.int 0, .int (Int32.ofNat (sr_len.getD i 0))]) (pc := 6) B hi (T_coder i hi M) tw_894 tw_891 tw_892 tw_893 tw_114 hd_J0_coder_7d493 ⟨Nat.le_of_ble_eq_true rfl, Nat.le_of_ble_eq_true rfl⟩ rfl rfl (Nat.le_of_ble_eq_true rfl) rfl dJ0_length_8abf5_6 ?_
  refine x_ishr (pc := 9) B dJ0_length_8abf5_9 ?_
  rw [(sr_ok i hi).1]
  exact x_iret (pc := 10) B hQ dJ0_length_8abf5_10
set_option maxRecDepth 20000 in
theorem T_isEmpty {D : va_G} {ad adK adV : Nat → Nat} {cI cJ : ClassId} {l : Launch} (i : Nat) (hi : i < 26) (M : Mem) : Ct D ad adK adV cI cJ l yJ0_isEmpty_aae02 cJ0_isEmpty_aae02 1 (some .boolean) 0 0 [.ref (adK i)] M (some (.int (bI (semp i)))) M := by
  refine x_start (lv := [(0, .ref (adK i))]) (own := "java/lang/String") rfl (by decide) (Nat.le_of_ble_eq_true rfl) rfl ?_
  intro p e s m args below meth c Q hQ B
  refine x_aload_n (pc := 0) B 0 dJ0_isEmpty_aae02_0 rfl rfl ?_
  refine x_sval (pc := 1) B hi tw_1824 dJ0_isEmpty_aae02_1 ?_
  refine x_slen (pc := 4) B hi dJ0_isEmpty_aae02_4 ?_
  refine x_if_ne (tgt := 12) (pc := 5) B dJ0_isEmpty_aae02_5 rfl (fun hc => ?_) (fun hc => ?_)
  · refine x_iconst (v := 0) (pc := 12) B dJ0_isEmpty_aae02_12 rfl ?_
    have e1 : semp i = false := hc
    rw [e1] at hQ
    exact x_zret (v := false) (pc := 13) B hQ dJ0_isEmpty_aae02_13
  · refine x_iconst (v := 1) (pc := 8) B dJ0_isEmpty_aae02_8 rfl ?_
    refine x_goto (tgt := 13) (pc := 9) B dJ0_isEmpty_aae02_9 rfl ?_
    have e1 : semp i = true := hc
    rw [e1] at hQ
    exact x_zret (v := true) (pc := 13) B hQ dJ0_isEmpty_aae02_13
set_option maxRecDepth 20000 in
theorem T_pcheck {D : va_G} {ad adK adV : Nat → Nat} {cI cJ : ClassId} {l : Launch} (k n : Int32) (h0 : decide (k < 0) = false) (h1 : decide (k < n) = true) (M : Mem) : Ct D ad adK adV cI cJ l yJ3_checkIndex_8e157 cJ3_checkIndex_8e157 3 (some .int) 0 0 [.int k, .int n, va_rf (fmo adV)] M (some (.int k)) M := by
  refine x_start (lv := [(0, .int k), (1, .int n), (2, va_rf (fmo adV))]) (own := "jdk/internal/util/Preconditions") rfl (by decide) (by cases fmo adV <;> exact Nat.le_of_ble_eq_true rfl) (by cases fmo adV <;> rfl) ?_
  intro p e s m args below meth c Q hQ B
  refine x_iload_n (pc := 0) B 0 dJ3_checkIndex_8e157_0 rfl rfl ?_
  refine x_if_lt (tgt := 9) (pc := 1) B dJ3_checkIndex_8e157_1 rfl (fun hc => by rw [hc] at h0; cases h0) (fun _ => ?_)
  refine x_iload_n (pc := 4) B 0 dJ3_checkIndex_8e157_4 rfl rfl ?_
  refine x_iload_n (pc := 5) B 1 dJ3_checkIndex_8e157_5 rfl rfl ?_
  refine x_icmp_lt (tgt := 16) (pc := 6) B dJ3_checkIndex_8e157_6 rfl (fun _ => ?_) (fun hc => by rw [hc] at h1; cases h1)
  refine x_iload_n (pc := 16) B 0 dJ3_checkIndex_8e157_16 rfl rfl ?_
  exact x_iret (pc := 17) B hQ dJ3_checkIndex_8e157_17
set_option maxRecDepth 20000 in
theorem T_scheck {D : va_G} {ad adK adV : Nat → Nat} {cI cJ : ClassId} {l : Launch} (k n : Int32) (h0 : decide (k < 0) = false) (h1 : decide (k < n) = true) (M : Mem) : Ct D ad adK adV cI cJ l yJ0_checkIndex_df160 cJ0_checkIndex_df160 2 none 1 22 [.int k, .int n] M none M := by
  refine x_start (lv := [(0, .int k), (1, .int n)]) (own := "java/lang/String") rfl (by decide) (Nat.le_of_ble_eq_true rfl) rfl ?_
  intro p e s m args below meth c Q hQ B
  refine x_iload_n (pc := 0) B 0 dJ0_checkIndex_df160_0 rfl rfl ?_
  refine x_iload_n (pc := 1) B 1 dJ0_checkIndex_df160_1 rfl rfl ?_
  refine x_gfm (pc := 2) B tw_859 dJ0_checkIndex_df160_2 ?_
  refine x_callS (rest := []) (st' := [.int k]) (pc := 5) B (T_pcheck k n h0 h1 M) tw_863 tw_861 tw_862 tw_116 hd_J3_checkIndex_8e157 ⟨Nat.le_of_ble_eq_true rfl, Nat.le_of_ble_eq_true rfl⟩ rfl rfl (Nat.le_of_ble_eq_true rfl) rfl dJ0_checkIndex_df160_5 ?_
  refine x_pop (pc := 8) B dJ0_checkIndex_df160_8 rfl ?_
  exact x_vret (pc := 9) B hQ dJ0_checkIndex_df160_9
set_option maxRecDepth 20000 in
theorem T_lchar {D : va_G} {ad adK adV : Nat → Nat} {cI cJ : ClassId} {l : Launch} (i : Nat) (k : Int32) (hi : i < 26) (hk : inb k (sr_len.getD i 0) = true) (M : Mem) : Ct D ad adK adV cI cJ l yJ1_charAt_3b067 cJ1_charAt_3b067 2 (some .char) 2 43 [.ref (adV i), .int k] M (some (.int (schr i k))) M := by
  refine x_start (lv := [(0, .ref (adV i)), (1, .int k)]) (own := "java/lang/StringLatin1") rfl (by decide) (Nat.le_of_ble_eq_true rfl) rfl ?_
  intro p e s m args below meth c Q hQ B
  have h9 := inb_iff.mp hk
  have h8 := (sr_ok i hi).2.2
  refine x_iload_n (pc := 0) B 1 dJ1_charAt_3b067_0 rfl rfl ?_
  refine x_aload_n (pc := 1) B 0 dJ1_charAt_3b067_1 rfl rfl ?_
  refine x_slen (pc := 2) B hi dJ1_charAt_3b067_2 ?_
  refine x_callS (rest := []) (st' := []) (pc := 3) B (T_scheck k (Int32.ofNat (sr_len.getD i 0)) (decide_eq_false (by rw [i_lt, i_0]; omega)) (decide_eq_true (by rw [i_lt, i_of (by omega)]; omega)) M) tw_858 tw_856 tw_857 tw_114 hd_J0_checkIndex_df160 ⟨Nat.le_of_ble_eq_true rfl, Nat.le_of_ble_eq_true rfl⟩ rfl rfl (Nat.le_of_ble_eq_true rfl) rfl dJ1_charAt_3b067_3 ?_
  refine x_aload_n (pc := 6) B 0 dJ1_charAt_3b067_6 rfl rfl ?_
  refine x_iload_n (pc := 7) B 1 dJ1_charAt_3b067_7 rfl rfl ?_
  refine x_sbal (pc := 8) B hi hk dJ1_charAt_3b067_8 ?_
  refine x_sipush (v := 255) (pc := 9) B dJ1_charAt_3b067_9 rfl ?_
  refine x_iand (pc := 12) B dJ1_charAt_3b067_12 ?_
  refine x_i2c (pc := 13) (v := schr i k) B dJ1_charAt_3b067_13 (schr_ok hi hk).1 ?_
  exact x_nret (pc := 14) B rfl (schr_ok hi hk).2 hQ dJ1_charAt_3b067_14
set_option maxRecDepth 20000 in
theorem T_charAt {D : va_G} {ad adK adV : Nat → Nat} {cI cJ : ClassId} {l : Launch} (i : Nat) (k : Int32) (hi : i < 26) (hk : inb k (sr_len.getD i 0) = true) (M : Mem) : Ct D ad adK adV cI cJ l yJ0_charAt_5068e cJ0_charAt_5068e 2 (some .char) 3 64 [.ref (adK i), .int k] M (some (.int (schr i k))) M := by
  refine x_start (lv := [(0, .ref (adK i)), (1, .int k)]) (own := "java/lang/String") rfl (by decide) (Nat.le_of_ble_eq_true rfl) rfl ?_
  intro p e s m args below meth c Q hQ B
  refine x_aload_n (pc := 0) B 0 dJ0_charAt_5068e_0 rfl rfl ?_
  refine x_callVS (rest := []) (st' := [.int 1]) (pc := 1) B hi (T_isLatin1 i hi M) tw_850 tw_847 tw_848 tw_849 tw_114 hd_J0_isLatin1_aae02 ⟨Nat.le_of_ble_eq_true rfl, Nat.le_of_ble_eq_true rfl⟩ rfl rfl (Nat.le_of_ble_eq_true rfl) rfl dJ0_charAt_5068e_1 ?_
  refine x_if_eq (tgt := 16) (pc := 4) B dJ0_charAt_5068e_4 rfl (fun hc => absurd hc (by decide)) (fun _ => ?_)
  refine x_aload_n (pc := 7) B 0 dJ0_charAt_5068e_7 rfl rfl ?_
  refine x_sval (pc := 8) B hi tw_1824 dJ0_charAt_5068e_8 ?_
  refine x_iload_n (pc := 11) B 1 dJ0_charAt_5068e_11 rfl rfl ?_
  refine x_callS (rest := []) (st' := [.int (schr i k)]) (pc := 12) B (T_lchar i k hi hk M) tw_855 tw_853 tw_854 tw_115 hd_J1_charAt_3b067 ⟨Nat.le_of_ble_eq_true rfl, Nat.le_of_ble_eq_true rfl⟩ rfl rfl (Nat.le_of_ble_eq_true rfl) rfl dJ0_charAt_5068e_12 ?_
  exact x_nret (pc := 15) B rfl (schr_ok hi hk).2 hQ dJ0_charAt_5068e_15
