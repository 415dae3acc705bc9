theorem selL {α β γ : Type} {f : α → γ} {g : β → γ} {x : α} {z : γ} (h : Sum.elim f g (.inl x) = z) : f x = z := h
theorem selR {α β γ : Type} {f : α → γ} {g : β → γ} {x : β} {z : γ} (h : Sum.elim f g (.inr x) = z) : g x = z := h
-- CurrentFarms.at([II)I []
abbrev y_CF_at : MethodName := ⟨"CurrentFarms", "at", "([II)I"⟩
abbrev cX11_at : ByteArray := prog_1_method_55_code
theorem dX11_at_0 : decode cX11_at 0 = .ok (.iload_n 1, 1) := by decide +kernel
theorem dX11_at_1 : decode cX11_at 1 = .ok (.ifCond .lt 15, 3) := by decide +kernel
theorem dX11_at_4 : decode cX11_at 4 = .ok (.iload_n 1, 1) := by decide +kernel
theorem dX11_at_5 : decode cX11_at 5 = .ok (.aload_n 0, 1) := by decide +kernel
theorem dX11_at_6 : decode cX11_at 6 = .ok (.arraylength, 1) := by decide +kernel
theorem dX11_at_7 : decode cX11_at 7 = .ok (.if_icmp .ge 9, 3) := by decide +kernel
theorem dX11_at_10 : decode cX11_at 10 = .ok (.aload_n 0, 1) := by decide +kernel
theorem dX11_at_11 : decode cX11_at 11 = .ok (.iload_n 1, 1) := by decide +kernel
theorem dX11_at_12 : decode cX11_at 12 = .ok (.iaload, 1) := by decide +kernel
theorem dX11_at_13 : decode cX11_at 13 = .ok (.goto 4, 3) := by decide +kernel
theorem dX11_at_16 : decode cX11_at 16 = .ok (.iconst 0, 1) := by decide +kernel
theorem dX11_at_17 : decode cX11_at 17 = .ok (.ireturn, 1) := by decide +kernel
theorem hd_CF_at : y_CF_at.cls ≠ "java/lang/invoke/MethodHandle" ∧ y_CF_at.cls ≠ "java/lang/invoke/VarHandle" ∧ (parseMethodDescriptor y_CF_at.desc).map (fun d => d.parameters.length) = some 2 := by decide +kernel
def f_CF_at (k0 : Nat) (n0 : Nat) (a1 : Int32) (M0 : Mem) : Option (Int32) :=
  if decide (a1 < 0) then (some 0) else (if decide (a1 < (Int32.ofNat n0)) then (if inb a1 n0 then some (M0.1 k0 a1.toNatClampNeg) else none) else (some 0))
set_option maxHeartbeats 4000000 in
set_option maxRecDepth 20000 in
theorem C_CF_at {D : va_G} {ad adK adV : Nat → Nat} {cI cJ : ClassId} {l : Launch} (k0 : Nat) (n0 : Nat) (a1 : Int32) (ha0 : ArrI k0 n0) (M0 : Mem) (o : Int32) (h : f_CF_at k0 n0 a1 M0 = some o) : Ct D ad adK adV cI cJ l y_CF_at cX11_at 2 (some .int) 0 0 [.ref (ad k0), .int a1] M0 (some (.int o)) M0 := by
  refine x_start (lv := [(0, .ref (ad k0)), (1, .int a1)]) (own := "CurrentFarms") rfl (by decide) (Nat.le_of_ble_eq_true rfl) rfl ?_
  intro p e s m args below meth c Q hQ B
  unfold f_CF_at at h
  refine x_iload_n (pc := 0) B 1 dX11_at_0 rfl rfl ?_
  refine x_if_lt (tgt := 16) (pc := 1) B dX11_at_1 rfl (fun hc1 => ?_) (fun hc1 => ?_)
  · have h := ift hc1 h
    refine x_iconst (v := 0) (pc := 16) B dX11_at_16 rfl ?_
    obtain rfl := Option.some.inj h
    exact x_iret (pc := 17) B hQ dX11_at_17
  · have h := iff_ hc1 h
    refine x_iload_n (pc := 4) B 1 dX11_at_4 rfl rfl ?_
    refine x_aload_n (pc := 5) B 0 dX11_at_5 rfl rfl ?_
    refine x_alen (v := Int32.ofNat n0) (pc := 6) B ha0 rfl dX11_at_6 ?_
    refine x_icmp_ge (tgt := 16) (pc := 7) B dX11_at_7 rfl (fun hc2 => ?_) (fun hc2 => ?_)
    · have h := iff_ hc2 h
      refine x_iconst (v := 0) (pc := 16) B dX11_at_16 rfl ?_
      obtain rfl := Option.some.inj h
      exact x_iret (pc := 17) B hQ dX11_at_17
    · have h := ift hc2 h
      refine x_aload_n (pc := 10) B 0 dX11_at_10 rfl rfl ?_
      refine x_iload_n (pc := 11) B 1 dX11_at_11 rfl rfl ?_
      obtain ⟨hk3, h⟩ := ifn h
      refine x_iald (pc := 12) B ha0 hk3 dX11_at_12 ?_
      refine x_goto (tgt := 17) (pc := 13) B dX11_at_13 rfl ?_
      obtain rfl := Option.some.inj h
      exact x_iret (pc := 17) B hQ dX11_at_17
-- CurrentFarms.put([III)V []
abbrev y_CF_put : MethodName := ⟨"CurrentFarms", "put", "([III)V"⟩
abbrev cX11_put : ByteArray := prog_1_method_56_code
theorem dX11_put_0 : decode cX11_put 0 = .ok (.iload_n 1, 1) := by decide +kernel
theorem dX11_put_1 : decode cX11_put 1 = .ok (.ifCond .lt 13, 3) := by decide +kernel
theorem dX11_put_4 : decode cX11_put 4 = .ok (.iload_n 1, 1) := by decide +kernel
theorem dX11_put_5 : decode cX11_put 5 = .ok (.aload_n 0, 1) := by decide +kernel
theorem dX11_put_6 : decode cX11_put 6 = .ok (.arraylength, 1) := by decide +kernel
theorem dX11_put_7 : decode cX11_put 7 = .ok (.if_icmp .ge 7, 3) := by decide +kernel
theorem dX11_put_10 : decode cX11_put 10 = .ok (.aload_n 0, 1) := by decide +kernel
theorem dX11_put_11 : decode cX11_put 11 = .ok (.iload_n 1, 1) := by decide +kernel
theorem dX11_put_12 : decode cX11_put 12 = .ok (.iload_n 2, 1) := by decide +kernel
theorem dX11_put_13 : decode cX11_put 13 = .ok (.iastore, 1) := by decide +kernel
theorem dX11_put_14 : decode cX11_put 14 = .ok (.return_, 1) := by decide +kernel
theorem hd_CF_put : y_CF_put.cls ≠ "java/lang/invoke/MethodHandle" ∧ y_CF_put.cls ≠ "java/lang/invoke/VarHandle" ∧ (parseMethodDescriptor y_CF_put.desc).map (fun d => d.parameters.length) = some 3 := by decide +kernel
def f_CF_put (k0 : Nat) (n0 : Nat) (a1 : Int32) (a2 : Int32) (M0 : Mem) : Option (Mem) :=
  if decide (a1 < 0) then (some M0) else (if decide (a1 < (Int32.ofNat n0)) then (if inb a1 n0 then jv_ (wI M0 k0 a1.toNatClampNeg a2) fun M4 => some M4 else none) else (some M0))
set_option maxHeartbeats 4000000 in
set_option maxRecDepth 20000 in
theorem C_CF_put {D : va_G} {ad adK adV : Nat → Nat} {cI cJ : ClassId} {l : Launch} (k0 : Nat) (n0 : Nat) (a1 : Int32) (a2 : Int32) (ha0 : ArrI k0 n0) (M0 : Mem) (o : Mem) (h : f_CF_put k0 n0 a1 a2 M0 = some o) : Ct D ad adK adV cI cJ l y_CF_put cX11_put 3 none 0 0 [.ref (ad k0), .int a1, .int a2] M0 none o := by
  refine x_start (lv := [(0, .ref (ad k0)), (1, .int a1), (2, .int a2)]) (own := "CurrentFarms") rfl (by decide) (Nat.le_of_ble_eq_true rfl) rfl ?_
  intro p e s m args below meth c Q hQ B
  unfold f_CF_put at h
  refine x_iload_n (pc := 0) B 1 dX11_put_0 rfl rfl ?_
  refine x_if_lt (tgt := 14) (pc := 1) B dX11_put_1 rfl (fun hc1 => ?_) (fun hc1 => ?_)
  · have h := ift hc1 h
    obtain rfl := Option.some.inj h
    exact x_vret (pc := 14) B hQ dX11_put_14
  · have h := iff_ hc1 h
    refine x_iload_n (pc := 4) B 1 dX11_put_4 rfl rfl ?_
    refine x_aload_n (pc := 5) B 0 dX11_put_5 rfl rfl ?_
    refine x_alen (v := Int32.ofNat n0) (pc := 6) B ha0 rfl dX11_put_6 ?_
    refine x_icmp_ge (tgt := 14) (pc := 7) B dX11_put_7 rfl (fun hc2 => ?_) (fun hc2 => ?_)
    · have h := iff_ hc2 h
      obtain rfl := Option.some.inj h
      exact x_vret (pc := 14) B hQ dX11_put_14
    · have h := ift hc2 h
      refine x_aload_n (pc := 10) B 0 dX11_put_10 rfl rfl ?_
      refine x_iload_n (pc := 11) B 1 dX11_put_11 rfl rfl ?_
      refine x_iload_n (pc := 12) B 2 dX11_put_12 rfl rfl ?_
      obtain ⟨hk3, h⟩ := ifn h
      refine x_iast (pc := 13) B ha0 hk3 dX11_put_13 ?_
      refine jv_m (P := fun M4 => XX D ad cI cJ p l e (Rm 0 0) s m args below meth c Q 3 M4 14 [(0, .ref (ad k0)), (1, .int a1), (2, .int a2)] []) h (fun M4 h => ?_)
      obtain rfl := Option.some.inj h
      exact x_vret (pc := 14) B hQ dX11_put_14
-- CurrentFarms.parted(II)I []
abbrev y_CF_parted : MethodName := ⟨"CurrentFarms", "parted", "(II)I"⟩
abbrev cX11_parted : ByteArray := prog_1_method_58_code
theorem dX11_parted_0 : decode cX11_parted 0 = .ok (.iload_n 1, 1) := by decide +kernel
theorem dX11_parted_1 : decode cX11_parted 1 = .ok (.ifCond .ne 7, 3) := by decide +kernel
theorem dX11_parted_4 : decode cX11_parted 4 = .ok (.iconst 0, 1) := by decide +kernel
theorem dX11_parted_5 : decode cX11_parted 5 = .ok (.goto 6, 3) := by decide +kernel
theorem dX11_parted_8 : decode cX11_parted 8 = .ok (.iload_n 0, 1) := by decide +kernel
theorem dX11_parted_9 : decode cX11_parted 9 = .ok (.iload_n 1, 1) := by decide +kernel
theorem dX11_parted_10 : decode cX11_parted 10 = .ok (.idiv, 1) := by decide +kernel
theorem dX11_parted_11 : decode cX11_parted 11 = .ok (.ireturn, 1) := by decide +kernel
theorem hd_CF_parted : y_CF_parted.cls ≠ "java/lang/invoke/MethodHandle" ∧ y_CF_parted.cls ≠ "java/lang/invoke/VarHandle" ∧ (parseMethodDescriptor y_CF_parted.desc).map (fun d => d.parameters.length) = some 2 := by decide +kernel
def f_CF_parted (a0 : Int32) (a1 : Int32) : Option (Int32) :=
  if decide (a1 = 0) then (some 0) else (if !decide (a1 = 0) then some (a0 / a1) else none)
set_option maxHeartbeats 4000000 in
set_option maxRecDepth 20000 in
theorem C_CF_parted {D : va_G} {ad adK adV : Nat → Nat} {cI cJ : ClassId} {l : Launch} (a0 : Int32) (a1 : Int32) (M0 : Mem) (o : Int32) (h : f_CF_parted a0 a1 = some o) : Ct D ad adK adV cI cJ l y_CF_parted cX11_parted 2 (some .int) 0 0 [.int a0, .int a1] M0 (some (.int o)) M0 := by
  refine x_start (lv := [(0, .int a0), (1, .int a1)]) (own := "CurrentFarms") rfl (by decide) (Nat.le_of_ble_eq_true rfl) rfl ?_
  intro p e s m args below meth c Q hQ B
  unfold f_CF_parted at h
  refine x_iload_n (pc := 0) B 1 dX11_parted_0 rfl rfl ?_
  refine x_if_ne (tgt := 8) (pc := 1) B dX11_parted_1 rfl (fun hc1 => ?_) (fun hc1 => ?_)
  · have h := iff_ hc1 h
    refine x_iload_n (pc := 8) B 0 dX11_parted_8 rfl rfl ?_
    refine x_iload_n (pc := 9) B 1 dX11_parted_9 rfl rfl ?_
    obtain ⟨hk2, h⟩ := ifn h
    refine x_idiv (pc := 10) B dX11_parted_10 (nz hk2) ?_
    obtain rfl := Option.some.inj h
    exact x_iret (pc := 11) B hQ dX11_parted_11
  · have h := ift hc1 h
    refine x_iconst (v := 0) (pc := 4) B dX11_parted_4 rfl ?_
    refine x_goto (tgt := 11) (pc := 5) B dX11_parted_5 rfl ?_
    obtain rfl := Option.some.inj h
    exact x_iret (pc := 11) B hQ dX11_parted_11
-- CurrentFarms.within(III)Z []
abbrev y_CF_within : MethodName := ⟨"CurrentFarms", "within", "(III)Z"⟩
abbrev cX11_within : ByteArray := prog_1_method_59_code
theorem dX11_within_0 : decode cX11_within 0 = .ok (.iload_n 0, 1) := by decide +kernel
theorem dX11_within_1 : decode cX11_within 1 = .ok (.iload_n 1, 1) := by decide +kernel
theorem dX11_within_2 : decode cX11_within 2 = .ok (.if_icmp .lt 12, 3) := by decide +kernel
theorem dX11_within_5 : decode cX11_within 5 = .ok (.iload_n 0, 1) := by decide +kernel
theorem dX11_within_6 : decode cX11_within 6 = .ok (.iload_n 2, 1) := by decide +kernel
theorem dX11_within_7 : decode cX11_within 7 = .ok (.if_icmp .gt 7, 3) := by decide +kernel
theorem dX11_within_10 : decode cX11_within 10 = .ok (.iconst 1, 1) := by decide +kernel
theorem dX11_within_11 : decode cX11_within 11 = .ok (.goto 4, 3) := by decide +kernel
theorem dX11_within_14 : decode cX11_within 14 = .ok (.iconst 0, 1) := by decide +kernel
theorem dX11_within_15 : decode cX11_within 15 = .ok (.ireturn, 1) := by decide +kernel
theorem hd_CF_within : y_CF_within.cls ≠ "java/lang/invoke/MethodHandle" ∧ y_CF_within.cls ≠ "java/lang/invoke/VarHandle" ∧ (parseMethodDescriptor y_CF_within.desc).map (fun d => d.parameters.length) = some 3 := by decide +kernel
def f_CF_within (a0 : Int32) (a1 : Int32) (a2 : Int32) : Option (Bool) :=
  if decide (a0 < a1) then (some false) else (if decide (a0 ≤ a2) then (some true) else (some false))
set_option maxHeartbeats 4000000 in
set_option maxRecDepth 20000 in
theorem C_CF_within {D : va_G} {ad adK adV : Nat → Nat} {cI cJ : ClassId} {l : Launch} (a0 : Int32) (a1 : Int32) (a2 : Int32) (M0 : Mem) (o : Bool) (h : f_CF_within a0 a1 a2 = some o) : Ct D ad adK adV cI cJ l y_CF_within cX11_within 3 (some .boolean) 0 0 [.int a0, .int a1, .int a2] M0 (some (.int (bI o))) M0 := by
  refine x_start (lv := [(0, .int a0), (1, .int a1), (2, .int a2)]) (own := "CurrentFarms") rfl (by decide) (Nat.le_of_ble_eq_true rfl) rfl ?_
  intro p e s m args below meth c Q hQ B
  unfold f_CF_within at h
  refine x_iload_n (pc := 0) B 0 dX11_within_0 rfl rfl ?_
  refine x_iload_n (pc := 1) B 1 dX11_within_1 rfl rfl ?_
  refine x_icmp_lt (tgt := 14) (pc := 2) B dX11_within_2 rfl (fun hc1 => ?_) (fun hc1 => ?_)
  · have h := ift hc1 h
    refine x_iconst (v := 0) (pc := 14) B dX11_within_14 rfl ?_
    obtain rfl := Option.some.inj h
    exact x_zret (v := false) (pc := 15) B hQ dX11_within_15
  · have h := iff_ hc1 h
    refine x_iload_n (pc := 5) B 0 dX11_within_5 rfl rfl ?_
    refine x_iload_n (pc := 6) B 2 dX11_within_6 rfl rfl ?_
    refine x_icmp_gt (tgt := 14) (pc := 7) B dX11_within_7 rfl (fun hc2 => ?_) (fun hc2 => ?_)
    · have h := iff_ hc2 h
      refine x_iconst (v := 0) (pc := 14) B dX11_within_14 rfl ?_
      obtain rfl := Option.some.inj h
      exact x_zret (v := false) (pc := 15) B hQ dX11_within_15
    · have h := ift hc2 h
      refine x_iconst (v := 1) (pc := 10) B dX11_within_10 rfl ?_
      refine x_goto (tgt := 15) (pc := 11) B dX11_within_11 rfl ?_
      obtain rfl := Option.some.inj h
      exact x_zret (v := true) (pc := 15) B hQ dX11_within_15
-- CurrentFarms.holds(II)Z []
abbrev y_CF_holds : MethodName := ⟨"CurrentFarms", "holds", "(II)Z"⟩
abbrev cX11_holds : ByteArray := prog_1_method_60_code
theorem dX11_holds_0 : decode cX11_holds 0 = .ok (.iload_n 0, 1) := by decide +kernel
theorem dX11_holds_1 : decode cX11_holds 1 = .ok (.iload_n 1, 1) := by decide +kernel
theorem dX11_holds_2 : decode cX11_holds 2 = .ok (.ishr, 1) := by decide +kernel
theorem dX11_holds_3 : decode cX11_holds 3 = .ok (.iconst 1, 1) := by decide +kernel
theorem dX11_holds_4 : decode cX11_holds 4 = .ok (.iand, 1) := by decide +kernel
theorem dX11_holds_5 : decode cX11_holds 5 = .ok (.iconst 1, 1) := by decide +kernel
theorem dX11_holds_6 : decode cX11_holds 6 = .ok (.if_icmp .ne 7, 3) := by decide +kernel
theorem dX11_holds_9 : decode cX11_holds 9 = .ok (.iconst 1, 1) := by decide +kernel
theorem dX11_holds_10 : decode cX11_holds 10 = .ok (.goto 4, 3) := by decide +kernel
theorem dX11_holds_13 : decode cX11_holds 13 = .ok (.iconst 0, 1) := by decide +kernel
theorem dX11_holds_14 : decode cX11_holds 14 = .ok (.ireturn, 1) := by decide +kernel
theorem hd_CF_holds : y_CF_holds.cls ≠ "java/lang/invoke/MethodHandle" ∧ y_CF_holds.cls ≠ "java/lang/invoke/VarHandle" ∧ (parseMethodDescriptor y_CF_holds.desc).map (fun d => d.parameters.length) = some 2 := by decide +kernel
def f_CF_holds (a0 : Int32) (a1 : Int32) : Option (Bool) :=
  if decide (((a0 >>> (a1 &&& 31)) &&& 1) = 1) then (some true) else (some false)
set_option maxHeartbeats 4000000 in
set_option maxRecDepth 20000 in
theorem C_CF_holds {D : va_G} {ad adK adV : Nat → Nat} {cI cJ : ClassId} {l : Launch} (a0 : Int32) (a1 : Int32) (M0 : Mem) (o : Bool) (h : f_CF_holds a0 a1 = some o) : Ct D ad adK adV cI cJ l y_CF_holds cX11_holds 2 (some .boolean) 0 0 [.int a0, .int a1] M0 (some (.int (bI o))) M0 := by
  refine x_start (lv := [(0, .int a0), (1, .int a1)]) (own := "CurrentFarms") rfl (by decide) (Nat.le_of_ble_eq_true rfl) rfl ?_
  intro p e s m args below meth c Q hQ B
  unfold f_CF_holds at h
  refine x_iload_n (pc := 0) B 0 dX11_holds_0 rfl rfl ?_
  refine x_iload_n (pc := 1) B 1 dX11_holds_1 rfl rfl ?_
  refine x_ishr (pc := 2) B dX11_holds_2 ?_
  refine x_iconst (v := 1) (pc := 3) B dX11_holds_3 rfl ?_
  refine x_iand (pc := 4) B dX11_holds_4 ?_
  refine x_iconst (v := 1) (pc := 5) B dX11_holds_5 rfl ?_
  refine x_icmp_ne (tgt := 13) (pc := 6) B dX11_holds_6 rfl (fun hc1 => ?_) (fun hc1 => ?_)
  · have h := iff_ hc1 h
    refine x_iconst (v := 0) (pc := 13) B dX11_holds_13 rfl ?_
    obtain rfl := Option.some.inj h
    exact x_zret (v := false) (pc := 14) B hQ dX11_holds_14
  · have h := ift hc1 h
    refine x_iconst (v := 1) (pc := 9) B dX11_holds_9 rfl ?_
    refine x_goto (tgt := 14) (pc := 10) B dX11_holds_10 rfl ?_
    obtain rfl := Option.some.inj h
    exact x_zret (v := true) (pc := 14) B hQ dX11_holds_14
-- CurrentFarms.flag(Z)I []
abbrev y_CF_flag : MethodName := ⟨"CurrentFarms", "flag", "(Z)I"⟩
abbrev cX11_flag : ByteArray := prog_1_method_61_code
theorem dX11_flag_0 : decode cX11_flag 0 = .ok (.iload_n 0, 1) := by decide +kernel
theorem dX11_flag_1 : decode cX11_flag 1 = .ok (.ifCond .eq 7, 3) := by decide +kernel
theorem dX11_flag_4 : decode cX11_flag 4 = .ok (.iconst 1, 1) := by decide +kernel
theorem dX11_flag_5 : decode cX11_flag 5 = .ok (.goto 4, 3) := by decide +kernel
theorem dX11_flag_8 : decode cX11_flag 8 = .ok (.iconst 0, 1) := by decide +kernel
theorem dX11_flag_9 : decode cX11_flag 9 = .ok (.ireturn, 1) := by decide +kernel
theorem hd_CF_flag : y_CF_flag.cls ≠ "java/lang/invoke/MethodHandle" ∧ y_CF_flag.cls ≠ "java/lang/invoke/VarHandle" ∧ (parseMethodDescriptor y_CF_flag.desc).map (fun d => d.parameters.length) = some 1 := by decide +kernel
def f_CF_flag (a0 : Bool) : Option (Int32) :=
  if a0 then (some 1) else (some 0)
set_option maxHeartbeats 4000000 in
set_option maxRecDepth 20000 in
theorem C_CF_flag {D : va_G} {ad adK adV : Nat → Nat} {cI cJ : ClassId} {l : Launch} (a0 : Bool) (M0 : Mem) (o : Int32) (h : f_CF_flag a0 = some o) : Ct D ad adK adV cI cJ l y_CF_flag cX11_flag 1 (some .int) 0 0 [.int (bI a0)] M0 (some (.int o)) M0 := by
  refine x_start (lv := [(0, .int (bI a0))]) (own := "CurrentFarms") rfl (by decide) (Nat.le_of_ble_eq_true rfl) rfl ?_
  intro p e s m args below meth c Q hQ B
  unfold f_CF_flag at h
  refine x_iload_n (pc := 0) B 0 dX11_flag_0 rfl rfl ?_
  refine x_if_eq_b (tgt := 8) (pc := 1) B dX11_flag_1 rfl (fun hc1 => ?_) (fun hc1 => ?_)
  · have h := iff_ hc1 h
    refine x_iconst (v := 0) (pc := 8) B dX11_flag_8 rfl ?_
    obtain rfl := Option.some.inj h
    exact x_iret (pc := 9) B hQ dX11_flag_9
  · have h := ift hc1 h
    refine x_iconst (v := 1) (pc := 4) B dX11_flag_4 rfl ?_
    refine x_goto (tgt := 9) (pc := 5) B dX11_flag_5 rfl ?_
    obtain rfl := Option.some.inj h
    exact x_iret (pc := 9) B hQ dX11_flag_9
-- CurrentFarms.slot(II)I []
abbrev y_CF_slot : MethodName := ⟨"CurrentFarms", "slot", "(II)I"⟩
abbrev cX11_slot : ByteArray := prog_1_method_64_code
theorem dX11_slot_0 : decode cX11_slot 0 = .ok (.iload_n 0, 1) := by decide +kernel
theorem dX11_slot_1 : decode cX11_slot 1 = .ok (.ifCond .lt 23, 3) := by decide +kernel
theorem dX11_slot_4 : decode cX11_slot 4 = .ok (.iload_n 0, 1) := by decide +kernel
theorem dX11_slot_5 : decode cX11_slot 5 = .ok (.bipush 10, 2) := by decide +kernel
theorem dX11_slot_7 : decode cX11_slot 7 = .ok (.if_icmp .ge 17, 3) := by decide +kernel
theorem dX11_slot_10 : decode cX11_slot 10 = .ok (.iload_n 1, 1) := by decide +kernel
theorem dX11_slot_11 : decode cX11_slot 11 = .ok (.ifCond .lt 13, 3) := by decide +kernel
theorem dX11_slot_14 : decode cX11_slot 14 = .ok (.iload_n 1, 1) := by decide +kernel
theorem dX11_slot_15 : decode cX11_slot 15 = .ok (.bipush 121, 2) := by decide +kernel
theorem dX11_slot_17 : decode cX11_slot 17 = .ok (.if_icmp .ge 7, 3) := by decide +kernel
theorem dX11_slot_20 : decode cX11_slot 20 = .ok (.iconst 1, 1) := by decide +kernel
theorem dX11_slot_21 : decode cX11_slot 21 = .ok (.goto 4, 3) := by decide +kernel
theorem dX11_slot_24 : decode cX11_slot 24 = .ok (.iconst 0, 1) := by decide +kernel
theorem dX11_slot_25 : decode cX11_slot 25 = .ok (.istore_n 2, 1) := by decide +kernel
theorem dX11_slot_26 : decode cX11_slot 26 = .ok (.iload_n 2, 1) := by decide +kernel
theorem dX11_slot_27 : decode cX11_slot 27 = .ok (.ifCond .eq 12, 3) := by decide +kernel
theorem dX11_slot_30 : decode cX11_slot 30 = .ok (.iload_n 0, 1) := by decide +kernel
theorem dX11_slot_31 : decode cX11_slot 31 = .ok (.bipush 121, 2) := by decide +kernel
theorem dX11_slot_33 : decode cX11_slot 33 = .ok (.imul, 1) := by decide +kernel
theorem dX11_slot_34 : decode cX11_slot 34 = .ok (.iload_n 1, 1) := by decide +kernel
theorem dX11_slot_35 : decode cX11_slot 35 = .ok (.iadd, 1) := by decide +kernel
theorem dX11_slot_36 : decode cX11_slot 36 = .ok (.goto 4, 3) := by decide +kernel
theorem dX11_slot_39 : decode cX11_slot 39 = .ok (.iconst (-1), 1) := by decide +kernel
theorem dX11_slot_40 : decode cX11_slot 40 = .ok (.ireturn, 1) := by decide +kernel
theorem hd_CF_slot : y_CF_slot.cls ≠ "java/lang/invoke/MethodHandle" ∧ y_CF_slot.cls ≠ "java/lang/invoke/VarHandle" ∧ (parseMethodDescriptor y_CF_slot.desc).map (fun d => d.parameters.length) = some 2 := by decide +kernel
def f_CF_slot (a0 : Int32) (a1 : Int32) : Option (Int32) :=
  jv_ ((!(decide (a0 < 0)) && ((decide (a0 < 10)) && (!(decide (a1 < 0)) && (decide (a1 < 121))))) : Bool) fun u3 => if u3 then (some ((a0 * 121) + a1)) else (some (-1))
set_option maxHeartbeats 4000000 in
set_option maxRecDepth 20000 in
theorem C_CF_slot {D : va_G} {ad adK adV : Nat → Nat} {cI cJ : ClassId} {l : Launch} (a0 : Int32) (a1 : Int32) (M0 : Mem) (o : Int32) (h : f_CF_slot a0 a1 = some o) : Ct D ad adK adV cI cJ l y_CF_slot cX11_slot 3 (some .int) 0 0 [.int a0, .int a1] M0 (some (.int o)) M0 := by
  refine x_start (lv := [(0, .int a0), (1, .int a1)]) (own := "CurrentFarms") rfl (by decide) (Nat.le_of_ble_eq_true rfl) rfl ?_
  intro p e s m args below meth c Q hQ B
  unfold f_CF_slot at h
  refine x_iload_n (pc := 0) B 0 dX11_slot_0 rfl rfl ?_
  refine jv_k h (fun (u3 : Bool) => XX D ad cI cJ p l e (Rm 0 0) s m args below meth c Q 3 M0 25 [(0, .int a0), (1, .int a1)] [.int (bI u3)]) (fun u3 h => ?_) (fun JJ => ?_)
  · refine x_istore_n (lv' := [(2, .int (bI u3)), (0, .int a0), (1, .int a1)]) (pc := 25) B dX11_slot_25 rfl (by decide) rfl ?_
    refine x_iload_n (pc := 26) B 0 dX11_slot_26 rfl rfl ?_
    refine x_if_eq_b (tgt := 39) (pc := 27) B dX11_slot_27 rfl (fun hc4 => ?_) (fun hc4 => ?_)
    · have h := iff_ hc4 h
      refine x_iconst (v := (-1)) (pc := 39) B dX11_slot_39 rfl ?_
      obtain rfl := Option.some.inj h
      exact x_iret (pc := 40) B hQ dX11_slot_40
    · have h := ift hc4 h
      refine x_iload_n (pc := 30) B 1 dX11_slot_30 rfl rfl ?_
      refine x_bipush (v := 121) (pc := 31) B dX11_slot_31 rfl ?_
      refine x_imul (pc := 33) B dX11_slot_33 ?_
      refine x_iload_n (pc := 34) B 2 dX11_slot_34 rfl rfl ?_
      refine x_iadd (pc := 35) B dX11_slot_35 ?_
      refine x_goto (tgt := 40) (pc := 36) B dX11_slot_36 rfl ?_
      obtain rfl := Option.some.inj h
      exact x_iret (pc := 40) B hQ dX11_slot_40
  · refine x_if_lt (tgt := 24) (pc := 1) B dX11_slot_1 rfl (fun hc1 => ?_) (fun hc1 => ?_)
    · refine x_iconst (v := 0) (pc := 24) B dX11_slot_24 rfl ?_
      have z := JJ false (znand_t hc1)
      exact z
    · refine x_iload_n (pc := 4) B 0 dX11_slot_4 rfl rfl ?_
      refine x_bipush (v := 10) (pc := 5) B dX11_slot_5 rfl ?_
      refine x_icmp_ge (tgt := 24) (pc := 7) B dX11_slot_7 rfl (fun hc5 => ?_) (fun hc5 => ?_)
      · refine x_iconst (v := 0) (pc := 24) B dX11_slot_24 rfl ?_
        have z := JJ false ((znand_f hc1).trans (zand_f hc5))
        exact z
      · refine x_iload_n (pc := 10) B 1 dX11_slot_10 rfl rfl ?_
        refine x_if_lt (tgt := 24) (pc := 11) B dX11_slot_11 rfl (fun hc6 => ?_) (fun hc6 => ?_)
        · refine x_iconst (v := 0) (pc := 24) B dX11_slot_24 rfl ?_
          have z := JJ false ((znand_f hc1).trans ((zand_t hc5).trans (znand_t hc6)))
          exact z
        · refine x_iload_n (pc := 14) B 1 dX11_slot_14 rfl rfl ?_
          refine x_bipush (v := 121) (pc := 15) B dX11_slot_15 rfl ?_
          refine x_icmp_ge (tgt := 24) (pc := 17) B dX11_slot_17 rfl (fun hc7 => ?_) (fun hc7 => ?_)
          · refine x_iconst (v := 0) (pc := 24) B dX11_slot_24 rfl ?_
            have z := JJ false ((znand_f hc1).trans ((zand_t hc5).trans ((znand_f hc6).trans hc7)))
            exact z
          · refine x_iconst (v := 1) (pc := 20) B dX11_slot_20 rfl ?_
            refine x_goto (tgt := 25) (pc := 21) B dX11_slot_21 rfl ?_
            have z := JJ true ((znand_f hc1).trans ((zand_t hc5).trans ((znand_f hc6).trans hc7)))
            exact z
