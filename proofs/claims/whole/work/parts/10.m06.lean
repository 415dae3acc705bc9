-- CurrentFarmsModel.in(III)Z []
abbrev y_Mo_in : MethodName := ⟨"CurrentFarmsModel", "in", "(III)Z"⟩
abbrev cX12_in : ByteArray := prog_14_method_3_code
theorem dX12_in_0 : decode cX12_in 0 = .ok (.iload_n 0, 1) := by decide +kernel
theorem dX12_in_1 : decode cX12_in 1 = .ok (.iload_n 1, 1) := by decide +kernel
theorem dX12_in_2 : decode cX12_in 2 = .ok (.if_icmp .lt 12, 3) := by decide +kernel
theorem dX12_in_5 : decode cX12_in 5 = .ok (.iload_n 0, 1) := by decide +kernel
theorem dX12_in_6 : decode cX12_in 6 = .ok (.iload_n 2, 1) := by decide +kernel
theorem dX12_in_7 : decode cX12_in 7 = .ok (.if_icmp .gt 7, 3) := by decide +kernel
theorem dX12_in_10 : decode cX12_in 10 = .ok (.iconst 1, 1) := by decide +kernel
theorem dX12_in_11 : decode cX12_in 11 = .ok (.goto 4, 3) := by decide +kernel
theorem dX12_in_14 : decode cX12_in 14 = .ok (.iconst 0, 1) := by decide +kernel
theorem dX12_in_15 : decode cX12_in 15 = .ok (.ireturn, 1) := by decide +kernel
theorem hd_Mo_in : y_Mo_in.cls ≠ "java/lang/invoke/MethodHandle" ∧ y_Mo_in.cls ≠ "java/lang/invoke/VarHandle" ∧ (parseMethodDescriptor y_Mo_in.desc).map (fun d => d.parameters.length) = some 3 := by decide +kernel
def f_Mo_in (a0 : Int32) (a1 : Int32) (a2 : Int32) : Option (Bool) :=
  if decide (a0 < a1) then (some false) else (if decide (a0 ≤ a2) then (some true) else (some false))
set_option maxHeartbeats 4000000 in
set_option maxRecDepth 20000 in
theorem C_Mo_in {D : va_G} {ad adK adV : Nat → Nat} {cI cJ : ClassId} {l : Launch} (a0 : Int32) (a1 : Int32) (a2 : Int32) (M0 : Mem) (o : Bool) (h : f_Mo_in a0 a1 a2 = some o) : Ct D ad adK adV cI cJ l y_Mo_in cX12_in 3 (some .boolean) 0 0 [.int a0, .int a1, .int a2] M0 (some (.int (bI o))) M0 := by
  refine x_start (lv := [(0, .int a0), (1, .int a1), (2, .int a2)]) (own := "CurrentFarmsModel") rfl (by decide) (Nat.le_of_ble_eq_true rfl) rfl ?_
  intro p e s m args below meth c Q hQ B
  unfold f_Mo_in at h
  refine x_iload_n (pc := 0) B 0 dX12_in_0 rfl rfl ?_
  refine x_iload_n (pc := 1) B 1 dX12_in_1 rfl rfl ?_
  refine x_icmp_lt (tgt := 14) (pc := 2) B dX12_in_2 rfl (fun hc1 => ?_) (fun hc1 => ?_)
  · have h := ift hc1 h
    refine x_iconst (v := 0) (pc := 14) B dX12_in_14 rfl ?_
    obtain rfl := Option.some.inj h
    exact x_zret (v := false) (pc := 15) B hQ dX12_in_15
  · have h := iff_ hc1 h
    refine x_iload_n (pc := 5) B 0 dX12_in_5 rfl rfl ?_
    refine x_iload_n (pc := 6) B 2 dX12_in_6 rfl rfl ?_
    refine x_icmp_gt (tgt := 14) (pc := 7) B dX12_in_7 rfl (fun hc2 => ?_) (fun hc2 => ?_)
    · have h := iff_ hc2 h
      refine x_iconst (v := 0) (pc := 14) B dX12_in_14 rfl ?_
      obtain rfl := Option.some.inj h
      exact x_zret (v := false) (pc := 15) B hQ dX12_in_15
    · have h := ift hc2 h
      refine x_iconst (v := 1) (pc := 10) B dX12_in_10 rfl ?_
      refine x_goto (tgt := 15) (pc := 11) B dX12_in_11 rfl ?_
      obtain rfl := Option.some.inj h
      exact x_zret (v := true) (pc := 15) B hQ dX12_in_15
-- CurrentFarmsModel.isCell(I)Z []
abbrev y_Mo_isCell : MethodName := ⟨"CurrentFarmsModel", "isCell", "(I)Z"⟩
abbrev cX12_isCell : ByteArray := prog_14_method_4_code
theorem dX12_isCell_0 : decode cX12_isCell 0 = .ok (.iload_n 0, 1) := by decide +kernel
theorem dX12_isCell_1 : decode cX12_isCell 1 = .ok (.iconst 0, 1) := by decide +kernel
theorem dX12_isCell_2 : decode cX12_isCell 2 = .ok (.bipush 47, 2) := by decide +kernel
theorem dX12_isCell_4 : decode cX12_isCell 4 = .ok (.invokestatic 84, 3) := by decide +kernel
theorem dX12_isCell_7 : decode cX12_isCell 7 = .ok (.ireturn, 1) := by decide +kernel
theorem hd_Mo_isCell : y_Mo_isCell.cls ≠ "java/lang/invoke/MethodHandle" ∧ y_Mo_isCell.cls ≠ "java/lang/invoke/VarHandle" ∧ (parseMethodDescriptor y_Mo_isCell.desc).map (fun d => d.parameters.length) = some 1 := by decide +kernel
def f_Mo_isCell (a0 : Int32) : Option (Bool) :=
  (f_Mo_in a0 0 47).bind fun q1 => some q1
set_option maxHeartbeats 4000000 in
set_option maxRecDepth 20000 in
theorem C_Mo_isCell {D : va_G} {ad adK adV : Nat → Nat} {cI cJ : ClassId} {l : Launch} (a0 : Int32) (M0 : Mem) (o : Bool) (h : f_Mo_isCell a0 = some o) : Ct D ad adK adV cI cJ l y_Mo_isCell cX12_isCell 1 (some .boolean) 1 22 [.int a0] M0 (some (.int (bI o))) M0 := by
  refine x_start (lv := [(0, .int a0)]) (own := "CurrentFarmsModel") rfl (by decide) (Nat.le_of_ble_eq_true rfl) rfl ?_
  intro p e s m args below meth c Q hQ B
  unfold f_Mo_isCell at h
  refine x_iload_n (pc := 0) B 0 dX12_isCell_0 rfl rfl ?_
  refine x_iconst (v := 0) (pc := 1) B dX12_isCell_1 rfl ?_
  refine x_bipush (v := 47) (pc := 2) B dX12_isCell_2 rfl ?_
  obtain ⟨q1, hq1, h⟩ := bnd h
  refine x_callS (rest := []) (st' := [.int (bI q1)]) (pc := 4) B (C_Mo_in a0 0 47 M0 _ hq1) tw_1406 tw_1404 tw_1405 tw_111 hd_Mo_in ⟨Nat.le_of_ble_eq_true rfl, Nat.le_of_ble_eq_true rfl⟩ rfl rfl (Nat.le_of_ble_eq_true rfl) rfl dX12_isCell_4 ?_
  obtain rfl := Option.some.inj h
  exact x_zret (v := q1) (pc := 7) B hQ dX12_isCell_7
-- CurrentFarmsModel.isFarm(I)Z [94]
abbrev y_Mo_isFarm_94 : MethodName := ⟨"CurrentFarmsModel", "isFarm", "(I)Z"⟩
abbrev cX12_isFarm : ByteArray := prog_14_method_5_code
theorem dX12_isFarm_0 : decode cX12_isFarm 0 = .ok (.iload_n 1, 1) := by decide +kernel
theorem dX12_isFarm_1 : decode cX12_isFarm 1 = .ok (.iconst 0, 1) := by decide +kernel
theorem dX12_isFarm_2 : decode cX12_isFarm 2 = .ok (.aload_n 0, 1) := by decide +kernel
theorem dX12_isFarm_3 : decode cX12_isFarm 3 = .ok (.getfield 7, 3) := by decide +kernel
theorem dX12_isFarm_6 : decode cX12_isFarm 6 = .ok (.iconst 1, 1) := by decide +kernel
theorem dX12_isFarm_7 : decode cX12_isFarm 7 = .ok (.iaload, 1) := by decide +kernel
theorem dX12_isFarm_8 : decode cX12_isFarm 8 = .ok (.iconst 1, 1) := by decide +kernel
theorem dX12_isFarm_9 : decode cX12_isFarm 9 = .ok (.isub, 1) := by decide +kernel
theorem dX12_isFarm_10 : decode cX12_isFarm 10 = .ok (.invokestatic 84, 3) := by decide +kernel
theorem dX12_isFarm_13 : decode cX12_isFarm 13 = .ok (.ireturn, 1) := by decide +kernel
theorem hd_Mo_isFarm_94 : y_Mo_isFarm_94.cls ≠ "java/lang/invoke/MethodHandle" ∧ y_Mo_isFarm_94.cls ≠ "java/lang/invoke/VarHandle" ∧ (parseMethodDescriptor y_Mo_isFarm_94.desc).map (fun d => d.parameters.length) = some 1 := by decide +kernel
def f_Mo_isFarm_94 (a1 : Int32) (M0 : Mem) : Option (Bool) :=
  (f_Mo_in a1 0 ((M0.1 95 1) - 1)).bind fun q1 => some q1
set_option maxHeartbeats 4000000 in
set_option maxRecDepth 20000 in
theorem C_Mo_isFarm_94 {D : va_G} {ad adK adV : Nat → Nat} {cI cJ : ClassId} {l : Launch} (a1 : Int32) (M0 : Mem) (o : Bool) (h : f_Mo_isFarm_94 a1 M0 = some o) : Ct D ad adK adV cI cJ l y_Mo_isFarm_94 cX12_isFarm 2 (some .boolean) 1 22 [.ref (ad 94), .int a1] M0 (some (.int (bI o))) M0 := by
  refine x_start (lv := [(0, .ref (ad 94)), (1, .int a1)]) (own := "CurrentFarmsModel") rfl (by decide) (Nat.le_of_ble_eq_true rfl) rfl ?_
  intro p e s m args below meth c Q hQ B
  unfold f_Mo_isFarm_94 at h
  refine x_iload_n (pc := 0) B 1 dX12_isFarm_0 rfl rfl ?_
  refine x_iconst (v := 0) (pc := 1) B dX12_isFarm_1 rfl ?_
  refine x_aload_n (pc := 2) B 0 dX12_isFarm_2 rfl rfl ?_
  refine x_get (T := TX12) (pc := 3) B 1 oi_94 rfl uw_12 (by decide) rfl tw_1300 rfl dX12_isFarm_3 ?_
  refine x_iconst (v := 1) (pc := 6) B dX12_isFarm_6 rfl ?_
  refine x_iald_c (j := 1) (pc := 7) B ai_95 (by decide) rfl dX12_isFarm_7 ?_
  refine x_iconst (v := 1) (pc := 8) B dX12_isFarm_8 rfl ?_
  refine x_isub (pc := 9) B dX12_isFarm_9 ?_
  obtain ⟨q1, hq1, h⟩ := bnd h
  refine x_callS (rest := []) (st' := [.int (bI q1)]) (pc := 10) B (C_Mo_in a1 0 ((M0.1 95 1) - 1) M0 _ hq1) tw_1406 tw_1404 tw_1405 tw_111 hd_Mo_in ⟨Nat.le_of_ble_eq_true rfl, Nat.le_of_ble_eq_true rfl⟩ rfl rfl (Nat.le_of_ble_eq_true rfl) rfl dX12_isFarm_10 ?_
  obtain rfl := Option.some.inj h
  exact x_zret (v := q1) (pc := 13) B hQ dX12_isFarm_13
-- CurrentFarmsModel.isMonth(I)Z []
abbrev y_Mo_isMonth : MethodName := ⟨"CurrentFarmsModel", "isMonth", "(I)Z"⟩
abbrev cX12_isMonth : ByteArray := prog_14_method_6_code
theorem dX12_isMonth_0 : decode cX12_isMonth 0 = .ok (.iload_n 0, 1) := by decide +kernel
theorem dX12_isMonth_1 : decode cX12_isMonth 1 = .ok (.iconst 0, 1) := by decide +kernel
theorem dX12_isMonth_2 : decode cX12_isMonth 2 = .ok (.bipush 120, 2) := by decide +kernel
theorem dX12_isMonth_4 : decode cX12_isMonth 4 = .ok (.invokestatic 84, 3) := by decide +kernel
theorem dX12_isMonth_7 : decode cX12_isMonth 7 = .ok (.ireturn, 1) := by decide +kernel
theorem hd_Mo_isMonth : y_Mo_isMonth.cls ≠ "java/lang/invoke/MethodHandle" ∧ y_Mo_isMonth.cls ≠ "java/lang/invoke/VarHandle" ∧ (parseMethodDescriptor y_Mo_isMonth.desc).map (fun d => d.parameters.length) = some 1 := by decide +kernel
def f_Mo_isMonth (a0 : Int32) : Option (Bool) :=
  (f_Mo_in a0 0 120).bind fun q1 => some q1
set_option maxHeartbeats 4000000 in
set_option maxRecDepth 20000 in
theorem C_Mo_isMonth {D : va_G} {ad adK adV : Nat → Nat} {cI cJ : ClassId} {l : Launch} (a0 : Int32) (M0 : Mem) (o : Bool) (h : f_Mo_isMonth a0 = some o) : Ct D ad adK adV cI cJ l y_Mo_isMonth cX12_isMonth 1 (some .boolean) 1 22 [.int a0] M0 (some (.int (bI o))) M0 := by
  refine x_start (lv := [(0, .int a0)]) (own := "CurrentFarmsModel") rfl (by decide) (Nat.le_of_ble_eq_true rfl) rfl ?_
  intro p e s m args below meth c Q hQ B
  unfold f_Mo_isMonth at h
  refine x_iload_n (pc := 0) B 0 dX12_isMonth_0 rfl rfl ?_
  refine x_iconst (v := 0) (pc := 1) B dX12_isMonth_1 rfl ?_
  refine x_bipush (v := 120) (pc := 2) B dX12_isMonth_2 rfl ?_
  obtain ⟨q1, hq1, h⟩ := bnd h
  refine x_callS (rest := []) (st' := [.int (bI q1)]) (pc := 4) B (C_Mo_in a0 0 120 M0 _ hq1) tw_1406 tw_1404 tw_1405 tw_111 hd_Mo_in ⟨Nat.le_of_ble_eq_true rfl, Nat.le_of_ble_eq_true rfl⟩ rfl rfl (Nat.le_of_ble_eq_true rfl) rfl dX12_isMonth_4 ?_
  obtain rfl := Option.some.inj h
  exact x_zret (v := q1) (pc := 7) B hQ dX12_isMonth_7
-- CurrentFarmsModel.isBy(I)Z [94]
abbrev y_Mo_isBy_94 : MethodName := ⟨"CurrentFarmsModel", "isBy", "(I)Z"⟩
abbrev cX12_isBy : ByteArray := prog_14_method_7_code
theorem dX12_isBy_0 : decode cX12_isBy 0 = .ok (.iload_n 1, 1) := by decide +kernel
theorem dX12_isBy_1 : decode cX12_isBy 1 = .ok (.iconst (-1), 1) := by decide +kernel
theorem dX12_isBy_2 : decode cX12_isBy 2 = .ok (.aload_n 0, 1) := by decide +kernel
theorem dX12_isBy_3 : decode cX12_isBy 3 = .ok (.getfield 7, 3) := by decide +kernel
theorem dX12_isBy_6 : decode cX12_isBy 6 = .ok (.iconst 2, 1) := by decide +kernel
theorem dX12_isBy_7 : decode cX12_isBy 7 = .ok (.iaload, 1) := by decide +kernel
theorem dX12_isBy_8 : decode cX12_isBy 8 = .ok (.invokestatic 84, 3) := by decide +kernel
theorem dX12_isBy_11 : decode cX12_isBy 11 = .ok (.ireturn, 1) := by decide +kernel
theorem hd_Mo_isBy_94 : y_Mo_isBy_94.cls ≠ "java/lang/invoke/MethodHandle" ∧ y_Mo_isBy_94.cls ≠ "java/lang/invoke/VarHandle" ∧ (parseMethodDescriptor y_Mo_isBy_94.desc).map (fun d => d.parameters.length) = some 1 := by decide +kernel
def f_Mo_isBy_94 (a1 : Int32) (M0 : Mem) : Option (Bool) :=
  (f_Mo_in a1 (-1) (M0.1 95 2)).bind fun q1 => some q1
set_option maxHeartbeats 4000000 in
set_option maxRecDepth 20000 in
theorem C_Mo_isBy_94 {D : va_G} {ad adK adV : Nat → Nat} {cI cJ : ClassId} {l : Launch} (a1 : Int32) (M0 : Mem) (o : Bool) (h : f_Mo_isBy_94 a1 M0 = some o) : Ct D ad adK adV cI cJ l y_Mo_isBy_94 cX12_isBy 2 (some .boolean) 1 22 [.ref (ad 94), .int a1] M0 (some (.int (bI o))) M0 := by
  refine x_start (lv := [(0, .ref (ad 94)), (1, .int a1)]) (own := "CurrentFarmsModel") rfl (by decide) (Nat.le_of_ble_eq_true rfl) rfl ?_
  intro p e s m args below meth c Q hQ B
  unfold f_Mo_isBy_94 at h
  refine x_iload_n (pc := 0) B 1 dX12_isBy_0 rfl rfl ?_
  refine x_iconst (v := (-1)) (pc := 1) B dX12_isBy_1 rfl ?_
  refine x_aload_n (pc := 2) B 0 dX12_isBy_2 rfl rfl ?_
  refine x_get (T := TX12) (pc := 3) B 1 oi_94 rfl uw_12 (by decide) rfl tw_1300 rfl dX12_isBy_3 ?_
  refine x_iconst (v := 2) (pc := 6) B dX12_isBy_6 rfl ?_
  refine x_iald_c (j := 2) (pc := 7) B ai_95 (by decide) rfl dX12_isBy_7 ?_
  obtain ⟨q1, hq1, h⟩ := bnd h
  refine x_callS (rest := []) (st' := [.int (bI q1)]) (pc := 8) B (C_Mo_in a1 (-1) (M0.1 95 2) M0 _ hq1) tw_1406 tw_1404 tw_1405 tw_111 hd_Mo_in ⟨Nat.le_of_ble_eq_true rfl, Nat.le_of_ble_eq_true rfl⟩ rfl rfl (Nat.le_of_ble_eq_true rfl) rfl dX12_isBy_8 ?_
  obtain rfl := Option.some.inj h
  exact x_zret (v := q1) (pc := 11) B hQ dX12_isBy_11
-- CurrentFarmsModel.size(I)I []
abbrev y_Mo_size : MethodName := ⟨"CurrentFarmsModel", "size", "(I)I"⟩
abbrev cX12_size : ByteArray := prog_14_method_8_code
theorem dX12_size_0 : decode cX12_size 0 = .ok (.iload_n 0, 1) := by decide +kernel
theorem dX12_size_1 : decode cX12_size 1 = .ok (.ifCond .ge 8, 3) := by decide +kernel
theorem dX12_size_4 : decode cX12_size 4 = .ok (.iload_n 0, 1) := by decide +kernel
theorem dX12_size_5 : decode cX12_size 5 = .ok (.ineg, 1) := by decide +kernel
theorem dX12_size_6 : decode cX12_size 6 = .ok (.goto 4, 3) := by decide +kernel
theorem dX12_size_9 : decode cX12_size 9 = .ok (.iload_n 0, 1) := by decide +kernel
theorem dX12_size_10 : decode cX12_size 10 = .ok (.ireturn, 1) := by decide +kernel
theorem hd_Mo_size : y_Mo_size.cls ≠ "java/lang/invoke/MethodHandle" ∧ y_Mo_size.cls ≠ "java/lang/invoke/VarHandle" ∧ (parseMethodDescriptor y_Mo_size.desc).map (fun d => d.parameters.length) = some 1 := by decide +kernel
def f_Mo_size (a0 : Int32) : Option (Int32) :=
  if decide (a0 < 0) then (some (-a0)) else (some a0)
set_option maxHeartbeats 4000000 in
set_option maxRecDepth 20000 in
theorem C_Mo_size {D : va_G} {ad adK adV : Nat → Nat} {cI cJ : ClassId} {l : Launch} (a0 : Int32) (M0 : Mem) (o : Int32) (h : f_Mo_size a0 = some o) : Ct D ad adK adV cI cJ l y_Mo_size cX12_size 1 (some .int) 0 0 [.int a0] M0 (some (.int o)) M0 := by
  refine x_start (lv := [(0, .int a0)]) (own := "CurrentFarmsModel") rfl (by decide) (Nat.le_of_ble_eq_true rfl) rfl ?_
  intro p e s m args below meth c Q hQ B
  unfold f_Mo_size at h
  refine x_iload_n (pc := 0) B 0 dX12_size_0 rfl rfl ?_
  refine x_if_ge (tgt := 9) (pc := 1) B dX12_size_1 rfl (fun hc1 => ?_) (fun hc1 => ?_)
  · have h := iff_ hc1 h
    refine x_iload_n (pc := 9) B 0 dX12_size_9 rfl rfl ?_
    obtain rfl := Option.some.inj h
    exact x_iret (pc := 10) B hQ dX12_size_10
  · have h := ift hc1 h
    refine x_iload_n (pc := 4) B 0 dX12_size_4 rfl rfl ?_
    refine x_ineg (pc := 5) B dX12_size_5 ?_
    refine x_goto (tgt := 10) (pc := 6) B dX12_size_6 rfl ?_
    obtain rfl := Option.some.inj h
    exact x_iret (pc := 10) B hQ dX12_size_10
-- CurrentFarmsModel.isOnLine(I)Z [94]
abbrev y_Mo_isOnLine_94 : MethodName := ⟨"CurrentFarmsModel", "isOnLine", "(I)Z"⟩
abbrev cX12_isOnLine : ByteArray := prog_14_method_9_code
theorem dX12_isOnLine_0 : decode cX12_isOnLine 0 = .ok (.iload_n 1, 1) := by decide +kernel
theorem dX12_isOnLine_1 : decode cX12_isOnLine 1 = .ok (.aload_n 0, 1) := by decide +kernel
theorem dX12_isOnLine_2 : decode cX12_isOnLine 2 = .ok (.getfield 7, 3) := by decide +kernel
theorem dX12_isOnLine_5 : decode cX12_isOnLine 5 = .ok (.bipush 9, 2) := by decide +kernel
theorem dX12_isOnLine_7 : decode cX12_isOnLine 7 = .ok (.iaload, 1) := by decide +kernel
theorem dX12_isOnLine_8 : decode cX12_isOnLine 8 = .ok (.if_icmp .eq 16, 3) := by decide +kernel
theorem dX12_isOnLine_11 : decode cX12_isOnLine 11 = .ok (.aload_n 0, 1) := by decide +kernel
theorem dX12_isOnLine_12 : decode cX12_isOnLine 12 = .ok (.getfield 7, 3) := by decide +kernel
theorem dX12_isOnLine_15 : decode cX12_isOnLine 15 = .ok (.bipush 116, 2) := by decide +kernel
theorem dX12_isOnLine_17 : decode cX12_isOnLine 17 = .ok (.iload_n 1, 1) := by decide +kernel
theorem dX12_isOnLine_18 : decode cX12_isOnLine 18 = .ok (.iadd, 1) := by decide +kernel
theorem dX12_isOnLine_19 : decode cX12_isOnLine 19 = .ok (.iaload, 1) := by decide +kernel
theorem dX12_isOnLine_20 : decode cX12_isOnLine 20 = .ok (.iconst (-1), 1) := by decide +kernel
theorem dX12_isOnLine_21 : decode cX12_isOnLine 21 = .ok (.if_icmp .eq 7, 3) := by decide +kernel
theorem dX12_isOnLine_24 : decode cX12_isOnLine 24 = .ok (.iconst 1, 1) := by decide +kernel
theorem dX12_isOnLine_25 : decode cX12_isOnLine 25 = .ok (.goto 4, 3) := by decide +kernel
theorem dX12_isOnLine_28 : decode cX12_isOnLine 28 = .ok (.iconst 0, 1) := by decide +kernel
theorem dX12_isOnLine_29 : decode cX12_isOnLine 29 = .ok (.ireturn, 1) := by decide +kernel
theorem hd_Mo_isOnLine_94 : y_Mo_isOnLine_94.cls ≠ "java/lang/invoke/MethodHandle" ∧ y_Mo_isOnLine_94.cls ≠ "java/lang/invoke/VarHandle" ∧ (parseMethodDescriptor y_Mo_isOnLine_94.desc).map (fun d => d.parameters.length) = some 1 := by decide +kernel
def f_Mo_isOnLine_94 (a1 : Int32) (M0 : Mem) : Option (Bool) :=
  if decide (a1 = (M0.1 95 9)) then (some true) else (if inb (116 + a1) 4700 then if decide ((M0.1 95 (116 + a1).toNatClampNeg) = (-1)) then (some false) else (some true) else none)
set_option maxHeartbeats 4000000 in
set_option maxRecDepth 20000 in
theorem C_Mo_isOnLine_94 {D : va_G} {ad adK adV : Nat → Nat} {cI cJ : ClassId} {l : Launch} (a1 : Int32) (M0 : Mem) (o : Bool) (h : f_Mo_isOnLine_94 a1 M0 = some o) : Ct D ad adK adV cI cJ l y_Mo_isOnLine_94 cX12_isOnLine 2 (some .boolean) 0 0 [.ref (ad 94), .int a1] M0 (some (.int (bI o))) M0 := by
  refine x_start (lv := [(0, .ref (ad 94)), (1, .int a1)]) (own := "CurrentFarmsModel") rfl (by decide) (Nat.le_of_ble_eq_true rfl) rfl ?_
  intro p e s m args below meth c Q hQ B
  unfold f_Mo_isOnLine_94 at h
  refine x_iload_n (pc := 0) B 1 dX12_isOnLine_0 rfl rfl ?_
  refine x_aload_n (pc := 1) B 0 dX12_isOnLine_1 rfl rfl ?_
  refine x_get (T := TX12) (pc := 2) B 1 oi_94 rfl uw_12 (by decide) rfl tw_1300 rfl dX12_isOnLine_2 ?_
  refine x_bipush (v := 9) (pc := 5) B dX12_isOnLine_5 rfl ?_
  refine x_iald_c (j := 9) (pc := 7) B ai_95 (by decide) rfl dX12_isOnLine_7 ?_
  refine x_icmp_eq (tgt := 24) (pc := 8) B dX12_isOnLine_8 rfl (fun hc1 => ?_) (fun hc1 => ?_)
  · have h := ift hc1 h
    refine x_iconst (v := 1) (pc := 24) B dX12_isOnLine_24 rfl ?_
    refine x_goto (tgt := 29) (pc := 25) B dX12_isOnLine_25 rfl ?_
    obtain rfl := Option.some.inj h
    exact x_zret (v := true) (pc := 29) B hQ dX12_isOnLine_29
  · have h := iff_ hc1 h
    refine x_aload_n (pc := 11) B 0 dX12_isOnLine_11 rfl rfl ?_
    refine x_get (T := TX12) (pc := 12) B 1 oi_94 rfl uw_12 (by decide) rfl tw_1300 rfl dX12_isOnLine_12 ?_
    refine x_bipush (v := 116) (pc := 15) B dX12_isOnLine_15 rfl ?_
    refine x_iload_n (pc := 17) B 1 dX12_isOnLine_17 rfl rfl ?_
    refine x_iadd (pc := 18) B dX12_isOnLine_18 ?_
    obtain ⟨hk2, h⟩ := ifn h
    refine x_iald (pc := 19) B ai_95 hk2 dX12_isOnLine_19 ?_
    refine x_iconst (v := (-1)) (pc := 20) B dX12_isOnLine_20 rfl ?_
    refine x_icmp_eq (tgt := 28) (pc := 21) B dX12_isOnLine_21 rfl (fun hc3 => ?_) (fun hc3 => ?_)
    · have h := ift hc3 h
      refine x_iconst (v := 0) (pc := 28) B dX12_isOnLine_28 rfl ?_
      obtain rfl := Option.some.inj h
      exact x_zret (v := false) (pc := 29) B hQ dX12_isOnLine_29
    · have h := iff_ hc3 h
      refine x_iconst (v := 1) (pc := 24) B dX12_isOnLine_24 rfl ?_
      refine x_goto (tgt := 29) (pc := 25) B dX12_isOnLine_25 rfl ?_
      obtain rfl := Option.some.inj h
      exact x_zret (v := true) (pc := 29) B hQ dX12_isOnLine_29
-- CurrentFarmsModel.land(III)I [94]
abbrev y_Mo_land_94 : MethodName := ⟨"CurrentFarmsModel", "land", "(III)I"⟩
abbrev cX12_land : ByteArray := prog_14_method_10_code
theorem dX12_land_0 : decode cX12_land 0 = .ok (.iload_n 1, 1) := by decide +kernel
theorem dX12_land_1 : decode cX12_land 1 = .ok (.invokestatic 88, 3) := by decide +kernel
theorem dX12_land_4 : decode cX12_land 4 = .ok (.ifCond .eq 12, 3) := by decide +kernel
theorem dX12_land_7 : decode cX12_land 7 = .ok (.iload_n 2, 1) := by decide +kernel
theorem dX12_land_8 : decode cX12_land 8 = .ok (.iconst 0, 1) := by decide +kernel
theorem dX12_land_9 : decode cX12_land 9 = .ok (.iconst 1, 1) := by decide +kernel
theorem dX12_land_10 : decode cX12_land 10 = .ok (.invokestatic 84, 3) := by decide +kernel
theorem dX12_land_13 : decode cX12_land 13 = .ok (.ifCond .ne 5, 3) := by decide +kernel
theorem dX12_land_16 : decode cX12_land 16 = .ok (.iconst (-1), 1) := by decide +kernel
theorem dX12_land_17 : decode cX12_land 17 = .ok (.ireturn, 1) := by decide +kernel
theorem dX12_land_18 : decode cX12_land 18 = .ok (.iload_n 3, 1) := by decide +kernel
theorem dX12_land_19 : decode cX12_land 19 = .ok (.iconst 0, 1) := by decide +kernel
theorem dX12_land_20 : decode cX12_land 20 = .ok (.iload_n 2, 1) := by decide +kernel
theorem dX12_land_21 : decode cX12_land 21 = .ok (.ifCond .ne 8, 3) := by decide +kernel
theorem dX12_land_24 : decode cX12_land 24 = .ok (.bipush 9, 2) := by decide +kernel
theorem dX12_land_26 : decode cX12_land 26 = .ok (.goto 4, 3) := by decide +kernel
theorem dX12_land_29 : decode cX12_land 29 = .ok (.iconst 3, 1) := by decide +kernel
theorem dX12_land_30 : decode cX12_land 30 = .ok (.invokestatic 84, 3) := by decide +kernel
theorem dX12_land_33 : decode cX12_land 33 = .ok (.ifCond .ne 6, 3) := by decide +kernel
theorem dX12_land_36 : decode cX12_land 36 = .ok (.bipush (-2), 2) := by decide +kernel
theorem dX12_land_38 : decode cX12_land 38 = .ok (.ireturn, 1) := by decide +kernel
theorem dX12_land_39 : decode cX12_land 39 = .ok (.iload_n 2, 1) := by decide +kernel
theorem dX12_land_40 : decode cX12_land 40 = .ok (.iconst 1, 1) := by decide +kernel
theorem dX12_land_41 : decode cX12_land 41 = .ok (.if_icmp .ne 78, 3) := by decide +kernel
theorem dX12_land_44 : decode cX12_land 44 = .ok (.iload_n 3, 1) := by decide +kernel
theorem dX12_land_45 : decode cX12_land 45 = .ok (.iconst 3, 1) := by decide +kernel
theorem dX12_land_46 : decode cX12_land 46 = .ok (.if_icmp .ne 73, 3) := by decide +kernel
theorem dX12_land_49 : decode cX12_land 49 = .ok (.aload_n 0, 1) := by decide +kernel
theorem dX12_land_50 : decode cX12_land 50 = .ok (.iload_n 1, 1) := by decide +kernel
theorem dX12_land_51 : decode cX12_land 51 = .ok (.invokevirtual 92, 3) := by decide +kernel
theorem dX12_land_54 : decode cX12_land 54 = .ok (.ifCond .ne 7, 3) := by decide +kernel
theorem dX12_land_57 : decode cX12_land 57 = .ok (.iconst 1, 1) := by decide +kernel
theorem dX12_land_58 : decode cX12_land 58 = .ok (.goto 4, 3) := by decide +kernel
theorem dX12_land_61 : decode cX12_land 61 = .ok (.iconst 0, 1) := by decide +kernel
theorem dX12_land_62 : decode cX12_land 62 = .ok (.istore 4, 2) := by decide +kernel
theorem dX12_land_64 : decode cX12_land 64 = .ok (.iconst 0, 1) := by decide +kernel
theorem dX12_land_65 : decode cX12_land 65 = .ok (.istore 5, 2) := by decide +kernel
theorem dX12_land_67 : decode cX12_land 67 = .ok (.iload 5, 2) := by decide +kernel
theorem dX12_land_69 : decode cX12_land 69 = .ok (.aload_n 0, 1) := by decide +kernel
theorem dX12_land_70 : decode cX12_land 70 = .ok (.getfield 7, 3) := by decide +kernel
theorem dX12_land_73 : decode cX12_land 73 = .ok (.iconst 1, 1) := by decide +kernel
theorem dX12_land_74 : decode cX12_land 74 = .ok (.iaload, 1) := by decide +kernel
theorem dX12_land_75 : decode cX12_land 75 = .ok (.if_icmp .ge 36, 3) := by decide +kernel
theorem dX12_land_78 : decode cX12_land 78 = .ok (.iload 4, 2) := by decide +kernel
theorem dX12_land_80 : decode cX12_land 80 = .ok (.ifCond .eq 22, 3) := by decide +kernel
theorem dX12_land_83 : decode cX12_land 83 = .ok (.aload_n 0, 1) := by decide +kernel
theorem dX12_land_84 : decode cX12_land 84 = .ok (.getfield 7, 3) := by decide +kernel
theorem dX12_land_87 : decode cX12_land 87 = .ok (.sipush 164, 3) := by decide +kernel
theorem dX12_land_90 : decode cX12_land 90 = .ok (.iload 5, 2) := by decide +kernel
theorem dX12_land_92 : decode cX12_land 92 = .ok (.iadd, 1) := by decide +kernel
theorem dX12_land_93 : decode cX12_land 93 = .ok (.iaload, 1) := by decide +kernel
theorem dX12_land_94 : decode cX12_land 94 = .ok (.iload_n 1, 1) := by decide +kernel
theorem dX12_land_95 : decode cX12_land 95 = .ok (.if_icmp .eq 7, 3) := by decide +kernel
theorem dX12_land_98 : decode cX12_land 98 = .ok (.iconst 1, 1) := by decide +kernel
theorem dX12_land_99 : decode cX12_land 99 = .ok (.goto 4, 3) := by decide +kernel
theorem dX12_land_102 : decode cX12_land 102 = .ok (.iconst 0, 1) := by decide +kernel
theorem dX12_land_103 : decode cX12_land 103 = .ok (.istore 4, 2) := by decide +kernel
theorem dX12_land_105 : decode cX12_land 105 = .ok (.iinc 5 1, 3) := by decide +kernel
theorem dX12_land_108 : decode cX12_land 108 = .ok (.goto (-41), 3) := by decide +kernel
theorem dX12_land_111 : decode cX12_land 111 = .ok (.iload 4, 2) := by decide +kernel
theorem dX12_land_113 : decode cX12_land 113 = .ok (.ifCond .ne 6, 3) := by decide +kernel
theorem dX12_land_116 : decode cX12_land 116 = .ok (.bipush (-3), 2) := by decide +kernel
theorem dX12_land_118 : decode cX12_land 118 = .ok (.ireturn, 1) := by decide +kernel
theorem dX12_land_119 : decode cX12_land 119 = .ok (.iload_n 2, 1) := by decide +kernel
theorem dX12_land_120 : decode cX12_land 120 = .ok (.ifCond .ne 10, 3) := by decide +kernel
theorem dX12_land_123 : decode cX12_land 123 = .ok (.bipush 20, 2) := by decide +kernel
theorem dX12_land_125 : decode cX12_land 125 = .ok (.iload_n 1, 1) := by decide +kernel
theorem dX12_land_126 : decode cX12_land 126 = .ok (.iadd, 1) := by decide +kernel
theorem dX12_land_127 : decode cX12_land 127 = .ok (.goto 7, 3) := by decide +kernel
theorem dX12_land_130 : decode cX12_land 130 = .ok (.bipush 68, 2) := by decide +kernel
theorem dX12_land_132 : decode cX12_land 132 = .ok (.iload_n 1, 1) := by decide +kernel
theorem dX12_land_133 : decode cX12_land 133 = .ok (.iadd, 1) := by decide +kernel
theorem dX12_land_134 : decode cX12_land 134 = .ok (.istore 4, 2) := by decide +kernel
theorem dX12_land_136 : decode cX12_land 136 = .ok (.aload_n 0, 1) := by decide +kernel
theorem dX12_land_137 : decode cX12_land 137 = .ok (.getfield 7, 3) := by decide +kernel
theorem dX12_land_140 : decode cX12_land 140 = .ok (.iload 4, 2) := by decide +kernel
theorem dX12_land_142 : decode cX12_land 142 = .ok (.iaload, 1) := by decide +kernel
theorem dX12_land_143 : decode cX12_land 143 = .ok (.istore 5, 2) := by decide +kernel
theorem dX12_land_145 : decode cX12_land 145 = .ok (.aload_n 0, 1) := by decide +kernel
theorem dX12_land_146 : decode cX12_land 146 = .ok (.getfield 7, 3) := by decide +kernel
theorem dX12_land_149 : decode cX12_land 149 = .ok (.iload 4, 2) := by decide +kernel
theorem dX12_land_151 : decode cX12_land 151 = .ok (.iload_n 3, 1) := by decide +kernel
theorem dX12_land_152 : decode cX12_land 152 = .ok (.iastore, 1) := by decide +kernel
theorem dX12_land_153 : decode cX12_land 153 = .ok (.iload 5, 2) := by decide +kernel
theorem dX12_land_155 : decode cX12_land 155 = .ok (.ireturn, 1) := by decide +kernel
theorem hd_Mo_land_94 : y_Mo_land_94.cls ≠ "java/lang/invoke/MethodHandle" ∧ y_Mo_land_94.cls ≠ "java/lang/invoke/VarHandle" ∧ (parseMethodDescriptor y_Mo_land_94.desc).map (fun d => d.parameters.length) = some 3 := by decide +kernel
def b_Mo_land_94_67 (a1 : Int32) (M0 : Mem) (y24 : Bool × Int32) : Option ((Bool × Int32) ⊕ (Bool)) :=
  if decide (y24.2 < (M0.1 95 1)) then (if y24.1 then (if inb (164 + y24.2) 4700 then if decide ((M0.1 95 (164 + y24.2).toNatClampNeg) = a1) then (some (.inl (false, y24.2 + 1))) else (some (.inl (true, y24.2 + 1))) else none) else (some (.inl (false, y24.2 + 1)))) else (some (.inr y24.1))
def f_Mo_land_94 (a1 : Int32) (a2 : Int32) (a3 : Int32) (M0 : Mem) : Option (Int32 × Mem) :=
  (f_Mo_isCell a1).bind fun q1 => if q1 then ((f_Mo_in a2 0 1).bind fun q3 => if q3 then (jv_ ((if decide (a2 = 0) then 9 else 3) : Int32) fun u7 => (f_Mo_in a3 0 u7).bind fun q8 => if q8 then (jn_ (fun (u11 : Unit) => jv_ ((if decide (a2 = 0) then 20 + a1 else 68 + a1) : Int32) fun u14 => if inb u14 4700 then if inb u14 4700 then jv_ (wI M0 95 u14.toNatClampNeg a3) fun M17 => some (M0.1 95 u14.toNatClampNeg, M17) else none else none) fun k18 => if decide (a2 = 1) then (if decide (a3 = 3) then ((f_Mo_isOnLine_94 a1 M0).bind fun q20 => jv_ ((!q20) : Bool) fun u23 => (itr (b_Mo_land_94_67 a1 M0) FU (u23, 0)).bind fun q29 => if q29 then (k18 ()) else (some ((-3), M0))) else (k18 ())) else (k18 ())) else (some ((-2), M0))) else (some ((-1), M0))) else (some ((-1), M0))
set_option maxHeartbeats 4000000 in
set_option maxRecDepth 20000 in
theorem C_Mo_land_94 {D : va_G} {ad adK adV : Nat → Nat} {cI cJ : ClassId} {l : Launch} (a1 : Int32) (a2 : Int32) (a3 : Int32) (M0 : Mem) (o : Int32 × Mem) (h : f_Mo_land_94 a1 a2 a3 M0 = some o) : Ct D ad adK adV cI cJ l y_Mo_land_94 cX12_land 6 (some .int) 2 42 [.ref (ad 94), .int a1, .int a2, .int a3] M0 (some (.int o.1)) o.2 := by
  refine x_start (lv := [(0, .ref (ad 94)), (1, .int a1), (2, .int a2), (3, .int a3)]) (own := "CurrentFarmsModel") rfl (by decide) (Nat.le_of_ble_eq_true rfl) rfl ?_
  intro p e s m args below meth c Q hQ B
  unfold f_Mo_land_94 at h
  refine x_iload_n (pc := 0) B 1 dX12_land_0 rfl rfl ?_
  obtain ⟨q1, hq1, h⟩ := bnd h
  refine x_callS (rest := []) (st' := [.int (bI q1)]) (pc := 1) B (C_Mo_isCell a1 M0 _ hq1) tw_1403 tw_1401 tw_1402 tw_111 hd_Mo_isCell ⟨Nat.le_of_ble_eq_true rfl, Nat.le_of_ble_eq_true rfl⟩ rfl rfl (Nat.le_of_ble_eq_true rfl) rfl dX12_land_1 ?_
  refine x_if_eq_b (tgt := 16) (pc := 4) B dX12_land_4 rfl (fun hc2 => ?_) (fun hc2 => ?_)
  · have h := iff_ hc2 h
    refine x_iconst (v := (-1)) (pc := 16) B dX12_land_16 rfl ?_
    obtain rfl := Option.some.inj h
    exact x_iret (pc := 17) B hQ dX12_land_17
  · have h := ift hc2 h
    refine x_iload_n (pc := 7) B 2 dX12_land_7 rfl rfl ?_
    refine x_iconst (v := 0) (pc := 8) B dX12_land_8 rfl ?_
    refine x_iconst (v := 1) (pc := 9) B dX12_land_9 rfl ?_
    obtain ⟨q3, hq3, h⟩ := bnd h
    refine x_callS (rest := []) (st' := [.int (bI q3)]) (pc := 10) B (C_Mo_in a2 0 1 M0 _ hq3) tw_1406 tw_1404 tw_1405 tw_111 hd_Mo_in ⟨Nat.le_of_ble_eq_true rfl, Nat.le_of_ble_eq_true rfl⟩ rfl rfl (Nat.le_of_ble_eq_true rfl) rfl dX12_land_10 ?_
    refine x_if_ne_b (tgt := 18) (pc := 13) B dX12_land_13 rfl (fun hc4 => ?_) (fun hc4 => ?_)
    · have h := ift hc4 h
      refine x_iload_n (pc := 18) B 3 dX12_land_18 rfl rfl ?_
      refine x_iconst (v := 0) (pc := 19) B dX12_land_19 rfl ?_
      refine x_iload_n (pc := 20) B 2 dX12_land_20 rfl rfl ?_
      refine jv_k h (fun (u7 : Int32) => XX D ad cI cJ p l e (Rm 2 42) s m args below meth c Q 6 M0 30 [(0, .ref (ad 94)), (1, .int a1), (2, .int a2), (3, .int a3)] [.int u7, .int 0, .int a3]) (fun u7 h => ?_) (fun JJ => ?_)
      · obtain ⟨q8, hq8, h⟩ := bnd h
        refine x_callS (rest := []) (st' := [.int (bI q8)]) (pc := 30) B (C_Mo_in a3 0 u7 M0 _ hq8) tw_1406 tw_1404 tw_1405 tw_111 hd_Mo_in ⟨Nat.le_of_ble_eq_true rfl, Nat.le_of_ble_eq_true rfl⟩ rfl rfl (Nat.le_of_ble_eq_true rfl) rfl dX12_land_30 ?_
        refine x_if_ne_b (tgt := 39) (pc := 33) B dX12_land_33 rfl (fun hc9 => ?_) (fun hc9 => ?_)
        · have h := ift hc9 h
          refine x_iload_n (pc := 39) B 2 dX12_land_39 rfl rfl ?_
          refine x_iconst (v := 1) (pc := 40) B dX12_land_40 rfl ?_
          refine jn_k h (fun (u11 : Unit) => XX D ad cI cJ p l e (Rm 2 42) s m args below meth c Q 6 M0 119 [(0, .ref (ad 94)), (1, .int a1), (2, .int a2), (3, .int a3)] []) (fun u11 h => ?_) (fun k18 h JJ => ?_)
          · refine x_iload_n (pc := 119) B 2 dX12_land_119 rfl rfl ?_
            refine jv_k h (fun (u14 : Int32) => XX D ad cI cJ p l e (Rm 2 42) s m args below meth c Q 6 M0 134 [(0, .ref (ad 94)), (3, .int a3)] [.int u14]) (fun u14 h => ?_) (fun JJ => ?_)
            · refine x_istore (lv' := [(4, .int u14), (0, .ref (ad 94)), (3, .int a3)]) (pc := 134) B dX12_land_134 (by decide) rfl ?_
              refine x_aload_n (pc := 136) B 1 dX12_land_136 rfl rfl ?_
              refine x_get (T := TX12) (pc := 137) B 1 oi_94 rfl uw_12 (by decide) rfl tw_1300 rfl dX12_land_137 ?_
              refine x_iload (pc := 140) B 0 dX12_land_140 rfl ?_
              obtain ⟨hk15, h⟩ := ifn h
              refine x_iald (pc := 142) B ai_95 hk15 dX12_land_142 ?_
              refine x_istore (lv' := [(5, .int (M0.1 95 u14.toNatClampNeg)), (4, .int u14), (0, .ref (ad 94)), (3, .int a3)]) (pc := 143) B dX12_land_143 (by decide) rfl ?_
              refine x_aload_n (pc := 145) B 2 dX12_land_145 rfl rfl ?_
              refine x_get (T := TX12) (pc := 146) B 1 oi_94 rfl uw_12 (by decide) rfl tw_1300 rfl dX12_land_146 ?_
              refine x_iload (pc := 149) B 1 dX12_land_149 rfl ?_
              refine x_iload_n (pc := 151) B 3 dX12_land_151 rfl rfl ?_
              obtain ⟨hk16, h⟩ := ifn h
              refine x_iast (pc := 152) B ai_95 hk16 dX12_land_152 ?_
              refine jv_m (P := fun M17 => XX D ad cI cJ p l e (Rm 2 42) s m args below meth c Q 6 M17 153 [(5, .int (M0.1 95 u14.toNatClampNeg)), (4, .int u14), (0, .ref (ad 94)), (3, .int a3)] []) h (fun M17 h => ?_)
              refine x_iload (pc := 153) B 0 dX12_land_153 rfl ?_
              obtain rfl := Option.some.inj h
              exact x_iret (pc := 155) B hQ dX12_land_155
            · refine x_if_ne (tgt := 130) (pc := 120) B dX12_land_120 rfl (fun hc12 => ?_) (fun hc12 => ?_)
              · refine x_bipush (v := 68) (pc := 130) B dX12_land_130 rfl ?_
                refine x_iload_n (pc := 132) B 1 dX12_land_132 rfl rfl ?_
                refine x_iadd (pc := 133) B dX12_land_133 ?_
                refine x_pick (lv' := [(0, .ref (ad 94)), (3, .int a3)]) [0, 3] rfl ?_
                have z := JJ (68 + a1) ((zif_f hc12).trans rfl)
                exact z
              · refine x_bipush (v := 20) (pc := 123) B dX12_land_123 rfl ?_
                refine x_iload_n (pc := 125) B 1 dX12_land_125 rfl rfl ?_
                refine x_iadd (pc := 126) B dX12_land_126 ?_
                refine x_goto (tgt := 134) (pc := 127) B dX12_land_127 rfl ?_
                refine x_pick (lv' := [(0, .ref (ad 94)), (3, .int a3)]) [0, 3] rfl ?_
                have z := JJ (20 + a1) ((zif_t hc12).trans rfl)
                exact z
          · refine x_icmp_ne (tgt := 119) (pc := 41) B dX12_land_41 rfl (fun hc10 => ?_) (fun hc10 => ?_)
            · have h := iff_ hc10 h
              have z := JJ () h
              exact z
            · have h := ift hc10 h
              refine x_iload_n (pc := 44) B 3 dX12_land_44 rfl rfl ?_
              refine x_iconst (v := 3) (pc := 45) B dX12_land_45 rfl ?_
              refine x_icmp_ne (tgt := 119) (pc := 46) B dX12_land_46 rfl (fun hc19 => ?_) (fun hc19 => ?_)
              · have h := iff_ hc19 h
                have z := JJ () h
                exact z
              · have h := ift hc19 h
                refine x_aload_n (pc := 49) B 0 dX12_land_49 rfl rfl ?_
                refine x_iload_n (pc := 50) B 1 dX12_land_50 rfl rfl ?_
                obtain ⟨q20, hq20, h⟩ := bnd h
                refine x_callV (rest := []) (st' := [.int (bI q20)]) (pc := 51) B oi_94 rfl (C_Mo_isOnLine_94 a1 M0 _ hq20) tw_1410 tw_1407 tw_1409 tw_43 tw_111 hd_Mo_isOnLine_94 ⟨Nat.le_of_ble_eq_true rfl, Nat.le_of_ble_eq_true rfl⟩ rfl rfl (Nat.le_of_ble_eq_true rfl) rfl dX12_land_51 ?_
                refine jv_k h (fun (u23 : Bool) => XX D ad cI cJ p l e (Rm 2 42) s m args below meth c Q 6 M0 62 [(0, .ref (ad 94)), (1, .int a1), (2, .int a2), (3, .int a3)] [.int (bI u23)]) (fun u23 h => ?_) (fun JJ => ?_)
                · refine x_istore (lv' := [(4, .int (bI u23)), (0, .ref (ad 94)), (1, .int a1), (2, .int a2), (3, .int a3)]) (pc := 62) B dX12_land_62 (by decide) rfl ?_
                  refine x_iconst (v := 0) (pc := 64) B dX12_land_64 rfl ?_
                  refine x_istore (lv' := [(5, .int 0), (4, .int (bI u23)), (0, .ref (ad 94)), (1, .int a1), (2, .int a2), (3, .int a3)]) (pc := 65) B dX12_land_65 (by decide) rfl ?_
                  refine x_pick (lv' := [(0, .ref (ad 94)), (1, .int a1), (2, .int a2), (3, .int a3), (4, .int (bI u23)), (5, .int 0)]) [2, 3, 4, 5, 1, 0] rfl ?_
                  obtain ⟨q29, hq29, h⟩ := bnd h
                  refine x_loop (Head := fun (y24 : Bool × Int32) => XX D ad cI cJ p l e (Rm 2 42) s m args below meth c Q 6 M0 67 [(0, .ref (ad 94)), (1, .int a1), (2, .int a2), (3, .int a3), (4, .int (bI y24.1)), (5, .int y24.2)] []) (Ex := fun (q29 : Bool) => XX D ad cI cJ p l e (Rm 2 42) s m args below meth c Q 6 M0 111 [(0, .ref (ad 94)), (1, .int a1), (2, .int a2), (3, .int a3), (4, .int (bI q29))] []) (fun y24 r h hback hexit => ?_) FU _ q29 hq29 ?_
                  · unfold b_Mo_land_94_67 at h
                    refine x_iload (pc := 67) B 5 dX12_land_67 rfl ?_
                    refine x_aload_n (pc := 69) B 0 dX12_land_69 rfl rfl ?_
                    refine x_get (T := TX12) (pc := 70) B 1 oi_94 rfl uw_12 (by decide) rfl tw_1300 rfl dX12_land_70 ?_
                    refine x_iconst (v := 1) (pc := 73) B dX12_land_73 rfl ?_
                    refine x_iald_c (j := 1) (pc := 74) B ai_95 (by decide) rfl dX12_land_74 ?_
                    refine x_icmp_ge (tgt := 111) (pc := 75) B dX12_land_75 rfl (fun hc25 => ?_) (fun hc25 => ?_)
                    · have h := iff_ hc25 h
                      refine x_pick (lv' := [(0, .ref (ad 94)), (1, .int a1), (2, .int a2), (3, .int a3), (4, .int (bI y24.1))]) [0, 1, 2, 3, 4] rfl ?_
                      have z := hexit y24.1 (Option.some.inj h).symm
                      exact z
                    · have h := ift hc25 h
                      refine x_iload (pc := 78) B 4 dX12_land_78 rfl ?_
                      refine x_if_eq_b (tgt := 102) (pc := 80) B dX12_land_80 rfl (fun hc26 => ?_) (fun hc26 => ?_)
                      · have h := iff_ hc26 h
                        refine x_iconst (v := 0) (pc := 102) B dX12_land_102 rfl ?_
                        refine x_istore (lv' := [(4, .int 0), (0, .ref (ad 94)), (1, .int a1), (2, .int a2), (3, .int a3), (5, .int y24.2)]) (pc := 103) B dX12_land_103 (by decide) rfl ?_
                        refine x_iinc (k := 5) (v := y24.2 + 1) (lv' := [(5, .int (y24.2 + 1)), (4, .int 0), (0, .ref (ad 94)), (1, .int a1), (2, .int a2), (3, .int a3)]) (pc := 105) B dX12_land_105 rfl rfl (by decide) rfl ?_
                        refine x_goto (tgt := 67) (pc := 108) B dX12_land_108 rfl ?_
                        refine x_pick (lv' := [(0, .ref (ad 94)), (1, .int a1), (2, .int a2), (3, .int a3), (4, .int 0), (5, .int (y24.2 + 1))]) [2, 3, 4, 5, 1, 0] rfl ?_
                        have z := hback (false, y24.2 + 1) (Option.some.inj h).symm
                        exact z
                      · have h := ift hc26 h
                        refine x_aload_n (pc := 83) B 0 dX12_land_83 rfl rfl ?_
                        refine x_get (T := TX12) (pc := 84) B 1 oi_94 rfl uw_12 (by decide) rfl tw_1300 rfl dX12_land_84 ?_
                        refine x_sipush (v := 164) (pc := 87) B dX12_land_87 rfl ?_
                        refine x_iload (pc := 90) B 5 dX12_land_90 rfl ?_
                        refine x_iadd (pc := 92) B dX12_land_92 ?_
                        obtain ⟨hk27, h⟩ := ifn h
                        refine x_iald (pc := 93) B ai_95 hk27 dX12_land_93 ?_
                        refine x_iload_n (pc := 94) B 1 dX12_land_94 rfl rfl ?_
                        refine x_icmp_eq (tgt := 102) (pc := 95) B dX12_land_95 rfl (fun hc28 => ?_) (fun hc28 => ?_)
                        · have h := ift hc28 h
                          refine x_iconst (v := 0) (pc := 102) B dX12_land_102 rfl ?_
                          refine x_istore (lv' := [(4, .int 0), (0, .ref (ad 94)), (1, .int a1), (2, .int a2), (3, .int a3), (5, .int y24.2)]) (pc := 103) B dX12_land_103 (by decide) rfl ?_
                          refine x_iinc (k := 5) (v := y24.2 + 1) (lv' := [(5, .int (y24.2 + 1)), (4, .int 0), (0, .ref (ad 94)), (1, .int a1), (2, .int a2), (3, .int a3)]) (pc := 105) B dX12_land_105 rfl rfl (by decide) rfl ?_
                          refine x_goto (tgt := 67) (pc := 108) B dX12_land_108 rfl ?_
                          refine x_pick (lv' := [(0, .ref (ad 94)), (1, .int a1), (2, .int a2), (3, .int a3), (4, .int 0), (5, .int (y24.2 + 1))]) [2, 3, 4, 5, 1, 0] rfl ?_
                          have z := hback (false, y24.2 + 1) (Option.some.inj h).symm
                          exact z
                        · have h := iff_ hc28 h
                          refine x_iconst (v := 1) (pc := 98) B dX12_land_98 rfl ?_
                          refine x_goto (tgt := 103) (pc := 99) B dX12_land_99 rfl ?_
                          refine x_istore (lv' := [(4, .int 1), (0, .ref (ad 94)), (1, .int a1), (2, .int a2), (3, .int a3), (5, .int y24.2)]) (pc := 103) B dX12_land_103 (by decide) rfl ?_
                          refine x_iinc (k := 5) (v := y24.2 + 1) (lv' := [(5, .int (y24.2 + 1)), (4, .int 1), (0, .ref (ad 94)), (1, .int a1), (2, .int a2), (3, .int a3)]) (pc := 105) B dX12_land_105 rfl rfl (by decide) rfl ?_
                          refine x_goto (tgt := 67) (pc := 108) B dX12_land_108 rfl ?_
                          refine x_pick (lv' := [(0, .ref (ad 94)), (1, .int a1), (2, .int a2), (3, .int a3), (4, .int 1), (5, .int (y24.2 + 1))]) [2, 3, 4, 5, 1, 0] rfl ?_
                          have z := hback (true, y24.2 + 1) (Option.some.inj h).symm
                          exact z
                  · refine x_iload (pc := 111) B 4 dX12_land_111 rfl ?_
                    refine x_if_ne_b (tgt := 119) (pc := 113) B dX12_land_113 rfl (fun hc30 => ?_) (fun hc30 => ?_)
                    · have h := ift hc30 h
                      refine x_pick (lv' := [(0, .ref (ad 94)), (1, .int a1), (2, .int a2), (3, .int a3)]) [0, 1, 2, 3] rfl ?_
                      have z := JJ () h
                      exact z
                    · have h := iff_ hc30 h
                      refine x_bipush (v := (-3)) (pc := 116) B dX12_land_116 rfl ?_
                      obtain rfl := Option.some.inj h
                      exact x_iret (pc := 118) B hQ dX12_land_118
                · refine x_if_ne_b (tgt := 61) (pc := 54) B dX12_land_54 rfl (fun hc21 => ?_) (fun hc21 => ?_)
                  · refine x_iconst (v := 0) (pc := 61) B dX12_land_61 rfl ?_
                    have z := JJ false (znid_t hc21)
                    exact z
                  · refine x_iconst (v := 1) (pc := 57) B dX12_land_57 rfl ?_
                    refine x_goto (tgt := 62) (pc := 58) B dX12_land_58 rfl ?_
                    have z := JJ true (znid_f hc21)
                    exact z
        · have h := iff_ hc9 h
          refine x_bipush (v := (-2)) (pc := 36) B dX12_land_36 rfl ?_
          obtain rfl := Option.some.inj h
          exact x_iret (pc := 38) B hQ dX12_land_38
      · refine x_if_ne (tgt := 29) (pc := 21) B dX12_land_21 rfl (fun hc5 => ?_) (fun hc5 => ?_)
        · refine x_iconst (v := 3) (pc := 29) B dX12_land_29 rfl ?_
          have z := JJ 3 ((zif_f hc5).trans rfl)
          exact z
        · refine x_bipush (v := 9) (pc := 24) B dX12_land_24 rfl ?_
          refine x_goto (tgt := 30) (pc := 26) B dX12_land_26 rfl ?_
          have z := JJ 9 ((zif_t hc5).trans rfl)
          exact z
    · have h := iff_ hc4 h
      refine x_iconst (v := (-1)) (pc := 16) B dX12_land_16 rfl ?_
      obtain rfl := Option.some.inj h
      exact x_iret (pc := 17) B hQ dX12_land_17
-- CurrentFarmsModel.areBeside(II)Z []
abbrev y_Mo_areBeside : MethodName := ⟨"CurrentFarmsModel", "areBeside", "(II)Z"⟩
abbrev cX12_areBeside : ByteArray := prog_14_method_11_code
theorem dX12_areBeside_0 : decode cX12_areBeside 0 = .ok (.iload_n 0, 1) := by decide +kernel
theorem dX12_areBeside_1 : decode cX12_areBeside 1 = .ok (.bipush 8, 2) := by decide +kernel
theorem dX12_areBeside_3 : decode cX12_areBeside 3 = .ok (.irem, 1) := by decide +kernel
theorem dX12_areBeside_4 : decode cX12_areBeside 4 = .ok (.iload_n 1, 1) := by decide +kernel
theorem dX12_areBeside_5 : decode cX12_areBeside 5 = .ok (.bipush 8, 2) := by decide +kernel
theorem dX12_areBeside_7 : decode cX12_areBeside 7 = .ok (.irem, 1) := by decide +kernel
theorem dX12_areBeside_8 : decode cX12_areBeside 8 = .ok (.isub, 1) := by decide +kernel
theorem dX12_areBeside_9 : decode cX12_areBeside 9 = .ok (.istore_n 2, 1) := by decide +kernel
theorem dX12_areBeside_10 : decode cX12_areBeside 10 = .ok (.iload_n 0, 1) := by decide +kernel
theorem dX12_areBeside_11 : decode cX12_areBeside 11 = .ok (.bipush 8, 2) := by decide +kernel
theorem dX12_areBeside_13 : decode cX12_areBeside 13 = .ok (.idiv, 1) := by decide +kernel
theorem dX12_areBeside_14 : decode cX12_areBeside 14 = .ok (.iload_n 1, 1) := by decide +kernel
theorem dX12_areBeside_15 : decode cX12_areBeside 15 = .ok (.bipush 8, 2) := by decide +kernel
theorem dX12_areBeside_17 : decode cX12_areBeside 17 = .ok (.idiv, 1) := by decide +kernel
theorem dX12_areBeside_18 : decode cX12_areBeside 18 = .ok (.isub, 1) := by decide +kernel
theorem dX12_areBeside_19 : decode cX12_areBeside 19 = .ok (.istore_n 3, 1) := by decide +kernel
theorem dX12_areBeside_20 : decode cX12_areBeside 20 = .ok (.iload_n 2, 1) := by decide +kernel
theorem dX12_areBeside_21 : decode cX12_areBeside 21 = .ok (.iload_n 2, 1) := by decide +kernel
theorem dX12_areBeside_22 : decode cX12_areBeside 22 = .ok (.imul, 1) := by decide +kernel
theorem dX12_areBeside_23 : decode cX12_areBeside 23 = .ok (.iload_n 3, 1) := by decide +kernel
theorem dX12_areBeside_24 : decode cX12_areBeside 24 = .ok (.iload_n 3, 1) := by decide +kernel
theorem dX12_areBeside_25 : decode cX12_areBeside 25 = .ok (.imul, 1) := by decide +kernel
theorem dX12_areBeside_26 : decode cX12_areBeside 26 = .ok (.iadd, 1) := by decide +kernel
theorem dX12_areBeside_27 : decode cX12_areBeside 27 = .ok (.iconst 1, 1) := by decide +kernel
theorem dX12_areBeside_28 : decode cX12_areBeside 28 = .ok (.if_icmp .ne 7, 3) := by decide +kernel
theorem dX12_areBeside_31 : decode cX12_areBeside 31 = .ok (.iconst 1, 1) := by decide +kernel
theorem dX12_areBeside_32 : decode cX12_areBeside 32 = .ok (.goto 4, 3) := by decide +kernel
theorem dX12_areBeside_35 : decode cX12_areBeside 35 = .ok (.iconst 0, 1) := by decide +kernel
theorem dX12_areBeside_36 : decode cX12_areBeside 36 = .ok (.ireturn, 1) := by decide +kernel
theorem hd_Mo_areBeside : y_Mo_areBeside.cls ≠ "java/lang/invoke/MethodHandle" ∧ y_Mo_areBeside.cls ≠ "java/lang/invoke/VarHandle" ∧ (parseMethodDescriptor y_Mo_areBeside.desc).map (fun d => d.parameters.length) = some 2 := by decide +kernel
def f_Mo_areBeside (a0 : Int32) (a1 : Int32) : Option (Bool) :=
  if decide (((((a0 - a0 / 8 * 8) - (a1 - a1 / 8 * 8)) * ((a0 - a0 / 8 * 8) - (a1 - a1 / 8 * 8))) + (((a0 / 8) - (a1 / 8)) * ((a0 / 8) - (a1 / 8)))) = 1) then (some true) else (some false)
set_option maxHeartbeats 4000000 in
set_option maxRecDepth 20000 in
theorem C_Mo_areBeside {D : va_G} {ad adK adV : Nat → Nat} {cI cJ : ClassId} {l : Launch} (a0 : Int32) (a1 : Int32) (M0 : Mem) (o : Bool) (h : f_Mo_areBeside a0 a1 = some o) : Ct D ad adK adV cI cJ l y_Mo_areBeside cX12_areBeside 4 (some .boolean) 0 0 [.int a0, .int a1] M0 (some (.int (bI o))) M0 := by
  refine x_start (lv := [(0, .int a0), (1, .int a1)]) (own := "CurrentFarmsModel") rfl (by decide) (Nat.le_of_ble_eq_true rfl) rfl ?_
  intro p e s m args below meth c Q hQ B
  unfold f_Mo_areBeside at h
  refine x_iload_n (pc := 0) B 0 dX12_areBeside_0 rfl rfl ?_
  refine x_bipush (v := 8) (pc := 1) B dX12_areBeside_1 rfl ?_
  refine x_irem (pc := 3) B dX12_areBeside_3 (by decide) ?_
  refine x_iload_n (pc := 4) B 1 dX12_areBeside_4 rfl rfl ?_
  refine x_bipush (v := 8) (pc := 5) B dX12_areBeside_5 rfl ?_
  refine x_irem (pc := 7) B dX12_areBeside_7 (by decide) ?_
  refine x_isub (pc := 8) B dX12_areBeside_8 ?_
  refine x_istore_n (lv' := [(2, .int ((a0 - a0 / 8 * 8) - (a1 - a1 / 8 * 8))), (0, .int a0), (1, .int a1)]) (pc := 9) B dX12_areBeside_9 rfl (by decide) rfl ?_
  refine x_iload_n (pc := 10) B 1 dX12_areBeside_10 rfl rfl ?_
  refine x_bipush (v := 8) (pc := 11) B dX12_areBeside_11 rfl ?_
  refine x_idiv (pc := 13) B dX12_areBeside_13 (by decide) ?_
  refine x_iload_n (pc := 14) B 2 dX12_areBeside_14 rfl rfl ?_
  refine x_bipush (v := 8) (pc := 15) B dX12_areBeside_15 rfl ?_
  refine x_idiv (pc := 17) B dX12_areBeside_17 (by decide) ?_
  refine x_isub (pc := 18) B dX12_areBeside_18 ?_
  refine x_istore_n (lv' := [(3, .int ((a0 / 8) - (a1 / 8))), (2, .int ((a0 - a0 / 8 * 8) - (a1 - a1 / 8 * 8))), (0, .int a0), (1, .int a1)]) (pc := 19) B dX12_areBeside_19 rfl (by decide) rfl ?_
  refine x_iload_n (pc := 20) B 1 dX12_areBeside_20 rfl rfl ?_
  refine x_iload_n (pc := 21) B 1 dX12_areBeside_21 rfl rfl ?_
  refine x_imul (pc := 22) B dX12_areBeside_22 ?_
  refine x_iload_n (pc := 23) B 0 dX12_areBeside_23 rfl rfl ?_
  refine x_iload_n (pc := 24) B 0 dX12_areBeside_24 rfl rfl ?_
  refine x_imul (pc := 25) B dX12_areBeside_25 ?_
  refine x_iadd (pc := 26) B dX12_areBeside_26 ?_
  refine x_iconst (v := 1) (pc := 27) B dX12_areBeside_27 rfl ?_
  refine x_icmp_ne (tgt := 35) (pc := 28) B dX12_areBeside_28 rfl (fun hc1 => ?_) (fun hc1 => ?_)
  · have h := iff_ hc1 h
    refine x_iconst (v := 0) (pc := 35) B dX12_areBeside_35 rfl ?_
    obtain rfl := Option.some.inj h
    exact x_zret (v := false) (pc := 36) B hQ dX12_areBeside_36
  · have h := ift hc1 h
    refine x_iconst (v := 1) (pc := 31) B dX12_areBeside_31 rfl ?_
    refine x_goto (tgt := 36) (pc := 32) B dX12_areBeside_32 rfl ?_
    obtain rfl := Option.some.inj h
    exact x_zret (v := true) (pc := 36) B hQ dX12_areBeside_36
-- CurrentFarmsModel.extra(I)I [94]
abbrev y_Mo_extra_94 : MethodName := ⟨"CurrentFarmsModel", "extra", "(I)I"⟩
abbrev cX12_extra : ByteArray := prog_14_method_12_code
theorem dX12_extra_0 : decode cX12_extra 0 = .ok (.aload_n 0, 1) := by decide +kernel
theorem dX12_extra_1 : decode cX12_extra 1 = .ok (.getfield 7, 3) := by decide +kernel
theorem dX12_extra_4 : decode cX12_extra 4 = .ok (.bipush 68, 2) := by decide +kernel
theorem dX12_extra_6 : decode cX12_extra 6 = .ok (.iload_n 1, 1) := by decide +kernel
theorem dX12_extra_7 : decode cX12_extra 7 = .ok (.iadd, 1) := by decide +kernel
theorem dX12_extra_8 : decode cX12_extra 8 = .ok (.iaload, 1) := by decide +kernel
theorem dX12_extra_9 : decode cX12_extra 9 = .ok (.iconst 1, 1) := by decide +kernel
theorem dX12_extra_10 : decode cX12_extra 10 = .ok (.if_icmp .ne 8, 3) := by decide +kernel
theorem dX12_extra_13 : decode cX12_extra 13 = .ok (.bipush 6, 2) := by decide +kernel
theorem dX12_extra_15 : decode cX12_extra 15 = .ok (.goto 22, 3) := by decide +kernel
theorem dX12_extra_18 : decode cX12_extra 18 = .ok (.aload_n 0, 1) := by decide +kernel
theorem dX12_extra_19 : decode cX12_extra 19 = .ok (.getfield 7, 3) := by decide +kernel
theorem dX12_extra_22 : decode cX12_extra 22 = .ok (.bipush 68, 2) := by decide +kernel
theorem dX12_extra_24 : decode cX12_extra 24 = .ok (.iload_n 1, 1) := by decide +kernel
theorem dX12_extra_25 : decode cX12_extra 25 = .ok (.iadd, 1) := by decide +kernel
theorem dX12_extra_26 : decode cX12_extra 26 = .ok (.iaload, 1) := by decide +kernel
theorem dX12_extra_27 : decode cX12_extra 27 = .ok (.iconst 2, 1) := by decide +kernel
theorem dX12_extra_28 : decode cX12_extra 28 = .ok (.if_icmp .ne 8, 3) := by decide +kernel
theorem dX12_extra_31 : decode cX12_extra 31 = .ok (.bipush (-4), 2) := by decide +kernel
theorem dX12_extra_33 : decode cX12_extra 33 = .ok (.goto 4, 3) := by decide +kernel
theorem dX12_extra_36 : decode cX12_extra 36 = .ok (.iconst 0, 1) := by decide +kernel
theorem dX12_extra_37 : decode cX12_extra 37 = .ok (.ireturn, 1) := by decide +kernel
theorem hd_Mo_extra_94 : y_Mo_extra_94.cls ≠ "java/lang/invoke/MethodHandle" ∧ y_Mo_extra_94.cls ≠ "java/lang/invoke/VarHandle" ∧ (parseMethodDescriptor y_Mo_extra_94.desc).map (fun d => d.parameters.length) = some 1 := by decide +kernel
def f_Mo_extra_94 (a1 : Int32) (M0 : Mem) : Option (Int32) :=
  if inb (68 + a1) 4700 then if decide ((M0.1 95 (68 + a1).toNatClampNeg) = 1) then (some 6) else (if inb (68 + a1) 4700 then if decide ((M0.1 95 (68 + a1).toNatClampNeg) = 2) then (some (-4)) else (some 0) else none) else none
set_option maxHeartbeats 4000000 in
set_option maxRecDepth 20000 in
theorem C_Mo_extra_94 {D : va_G} {ad adK adV : Nat → Nat} {cI cJ : ClassId} {l : Launch} (a1 : Int32) (M0 : Mem) (o : Int32) (h : f_Mo_extra_94 a1 M0 = some o) : Ct D ad adK adV cI cJ l y_Mo_extra_94 cX12_extra 2 (some .int) 0 0 [.ref (ad 94), .int a1] M0 (some (.int o)) M0 := by
  refine x_start (lv := [(0, .ref (ad 94)), (1, .int a1)]) (own := "CurrentFarmsModel") rfl (by decide) (Nat.le_of_ble_eq_true rfl) rfl ?_
  intro p e s m args below meth c Q hQ B
  unfold f_Mo_extra_94 at h
  refine x_aload_n (pc := 0) B 0 dX12_extra_0 rfl rfl ?_
  refine x_get (T := TX12) (pc := 1) B 1 oi_94 rfl uw_12 (by decide) rfl tw_1300 rfl dX12_extra_1 ?_
  refine x_bipush (v := 68) (pc := 4) B dX12_extra_4 rfl ?_
  refine x_iload_n (pc := 6) B 1 dX12_extra_6 rfl rfl ?_
  refine x_iadd (pc := 7) B dX12_extra_7 ?_
  obtain ⟨hk1, h⟩ := ifn h
  refine x_iald (pc := 8) B ai_95 hk1 dX12_extra_8 ?_
  refine x_iconst (v := 1) (pc := 9) B dX12_extra_9 rfl ?_
  refine x_icmp_ne (tgt := 18) (pc := 10) B dX12_extra_10 rfl (fun hc2 => ?_) (fun hc2 => ?_)
  · have h := iff_ hc2 h
    refine x_aload_n (pc := 18) B 0 dX12_extra_18 rfl rfl ?_
    refine x_get (T := TX12) (pc := 19) B 1 oi_94 rfl uw_12 (by decide) rfl tw_1300 rfl dX12_extra_19 ?_
    refine x_bipush (v := 68) (pc := 22) B dX12_extra_22 rfl ?_
    refine x_iload_n (pc := 24) B 1 dX12_extra_24 rfl rfl ?_
    refine x_iadd (pc := 25) B dX12_extra_25 ?_
    obtain ⟨hk3, h⟩ := ifn h
    refine x_iald (pc := 26) B ai_95 hk3 dX12_extra_26 ?_
    refine x_iconst (v := 2) (pc := 27) B dX12_extra_27 rfl ?_
    refine x_icmp_ne (tgt := 36) (pc := 28) B dX12_extra_28 rfl (fun hc4 => ?_) (fun hc4 => ?_)
    · have h := iff_ hc4 h
      refine x_iconst (v := 0) (pc := 36) B dX12_extra_36 rfl ?_
      obtain rfl := Option.some.inj h
      exact x_iret (pc := 37) B hQ dX12_extra_37
    · have h := ift hc4 h
      refine x_bipush (v := (-4)) (pc := 31) B dX12_extra_31 rfl ?_
      refine x_goto (tgt := 37) (pc := 33) B dX12_extra_33 rfl ?_
      obtain rfl := Option.some.inj h
      exact x_iret (pc := 37) B hQ dX12_extra_37
  · have h := ift hc2 h
    refine x_bipush (v := 6) (pc := 13) B dX12_extra_13 rfl ?_
    refine x_goto (tgt := 37) (pc := 15) B dX12_extra_15 rfl ?_
    obtain rfl := Option.some.inj h
    exact x_iret (pc := 37) B hQ dX12_extra_37
-- CurrentFarmsModel.costOf(II)I [94]
abbrev y_Mo_costOf_94 : MethodName := ⟨"CurrentFarmsModel", "costOf", "(II)I"⟩
abbrev cX12_costOf : ByteArray := prog_14_method_13_code
theorem dX12_costOf_0 : decode cX12_costOf 0 = .ok (.aload_n 0, 1) := by decide +kernel
theorem dX12_costOf_1 : decode cX12_costOf 1 = .ok (.getfield 7, 3) := by decide +kernel
theorem dX12_costOf_4 : decode cX12_costOf 4 = .ok (.bipush 68, 2) := by decide +kernel
theorem dX12_costOf_6 : decode cX12_costOf 6 = .ok (.iload_n 1, 1) := by decide +kernel
theorem dX12_costOf_7 : decode cX12_costOf 7 = .ok (.iadd, 1) := by decide +kernel
theorem dX12_costOf_8 : decode cX12_costOf 8 = .ok (.iaload, 1) := by decide +kernel
theorem dX12_costOf_9 : decode cX12_costOf 9 = .ok (.iconst 3, 1) := by decide +kernel
theorem dX12_costOf_10 : decode cX12_costOf 10 = .ok (.if_icmp .eq 16, 3) := by decide +kernel
theorem dX12_costOf_13 : decode cX12_costOf 13 = .ok (.aload_n 0, 1) := by decide +kernel
theorem dX12_costOf_14 : decode cX12_costOf 14 = .ok (.getfield 7, 3) := by decide +kernel
theorem dX12_costOf_17 : decode cX12_costOf 17 = .ok (.bipush 68, 2) := by decide +kernel
theorem dX12_costOf_19 : decode cX12_costOf 19 = .ok (.iload_n 2, 1) := by decide +kernel
theorem dX12_costOf_20 : decode cX12_costOf 20 = .ok (.iadd, 1) := by decide +kernel
theorem dX12_costOf_21 : decode cX12_costOf 21 = .ok (.iaload, 1) := by decide +kernel
theorem dX12_costOf_22 : decode cX12_costOf 22 = .ok (.iconst 3, 1) := by decide +kernel
theorem dX12_costOf_23 : decode cX12_costOf 23 = .ok (.if_icmp .ne 6, 3) := by decide +kernel
theorem dX12_costOf_26 : decode cX12_costOf 26 = .ok (.bipush (-5), 2) := by decide +kernel
theorem dX12_costOf_28 : decode cX12_costOf 28 = .ok (.ireturn, 1) := by decide +kernel
theorem dX12_costOf_29 : decode cX12_costOf 29 = .ok (.bipush 10, 2) := by decide +kernel
theorem dX12_costOf_31 : decode cX12_costOf 31 = .ok (.iconst 2, 1) := by decide +kernel
theorem dX12_costOf_32 : decode cX12_costOf 32 = .ok (.aload_n 0, 1) := by decide +kernel
theorem dX12_costOf_33 : decode cX12_costOf 33 = .ok (.getfield 7, 3) := by decide +kernel
theorem dX12_costOf_36 : decode cX12_costOf 36 = .ok (.bipush 20, 2) := by decide +kernel
theorem dX12_costOf_38 : decode cX12_costOf 38 = .ok (.iload_n 1, 1) := by decide +kernel
theorem dX12_costOf_39 : decode cX12_costOf 39 = .ok (.iadd, 1) := by decide +kernel
theorem dX12_costOf_40 : decode cX12_costOf 40 = .ok (.iaload, 1) := by decide +kernel
theorem dX12_costOf_41 : decode cX12_costOf 41 = .ok (.aload_n 0, 1) := by decide +kernel
theorem dX12_costOf_42 : decode cX12_costOf 42 = .ok (.getfield 7, 3) := by decide +kernel
theorem dX12_costOf_45 : decode cX12_costOf 45 = .ok (.bipush 20, 2) := by decide +kernel
theorem dX12_costOf_47 : decode cX12_costOf 47 = .ok (.iload_n 2, 1) := by decide +kernel
theorem dX12_costOf_48 : decode cX12_costOf 48 = .ok (.iadd, 1) := by decide +kernel
theorem dX12_costOf_49 : decode cX12_costOf 49 = .ok (.iaload, 1) := by decide +kernel
theorem dX12_costOf_50 : decode cX12_costOf 50 = .ok (.isub, 1) := by decide +kernel
theorem dX12_costOf_51 : decode cX12_costOf 51 = .ok (.invokestatic 95, 3) := by decide +kernel
theorem dX12_costOf_54 : decode cX12_costOf 54 = .ok (.imul, 1) := by decide +kernel
theorem dX12_costOf_55 : decode cX12_costOf 55 = .ok (.iadd, 1) := by decide +kernel
theorem dX12_costOf_56 : decode cX12_costOf 56 = .ok (.aload_n 0, 1) := by decide +kernel
theorem dX12_costOf_57 : decode cX12_costOf 57 = .ok (.iload_n 1, 1) := by decide +kernel
theorem dX12_costOf_58 : decode cX12_costOf 58 = .ok (.invokevirtual 99, 3) := by decide +kernel
theorem dX12_costOf_61 : decode cX12_costOf 61 = .ok (.iadd, 1) := by decide +kernel
theorem dX12_costOf_62 : decode cX12_costOf 62 = .ok (.aload_n 0, 1) := by decide +kernel
theorem dX12_costOf_63 : decode cX12_costOf 63 = .ok (.iload_n 2, 1) := by decide +kernel
theorem dX12_costOf_64 : decode cX12_costOf 64 = .ok (.invokevirtual 99, 3) := by decide +kernel
theorem dX12_costOf_67 : decode cX12_costOf 67 = .ok (.iadd, 1) := by decide +kernel
theorem dX12_costOf_68 : decode cX12_costOf 68 = .ok (.istore_n 3, 1) := by decide +kernel
theorem dX12_costOf_69 : decode cX12_costOf 69 = .ok (.iload_n 3, 1) := by decide +kernel
theorem dX12_costOf_70 : decode cX12_costOf 70 = .ok (.iconst 1, 1) := by decide +kernel
theorem dX12_costOf_71 : decode cX12_costOf 71 = .ok (.if_icmp .ge 7, 3) := by decide +kernel
theorem dX12_costOf_74 : decode cX12_costOf 74 = .ok (.iconst 1, 1) := by decide +kernel
theorem dX12_costOf_75 : decode cX12_costOf 75 = .ok (.goto 4, 3) := by decide +kernel
theorem dX12_costOf_78 : decode cX12_costOf 78 = .ok (.iload_n 3, 1) := by decide +kernel
theorem dX12_costOf_79 : decode cX12_costOf 79 = .ok (.ireturn, 1) := by decide +kernel
theorem hd_Mo_costOf_94 : y_Mo_costOf_94.cls ≠ "java/lang/invoke/MethodHandle" ∧ y_Mo_costOf_94.cls ≠ "java/lang/invoke/VarHandle" ∧ (parseMethodDescriptor y_Mo_costOf_94.desc).map (fun d => d.parameters.length) = some 2 := by decide +kernel
def f_Mo_costOf_94 (a1 : Int32) (a2 : Int32) (M0 : Mem) : Option (Int32) :=
  if inb (68 + a1) 4700 then if decide ((M0.1 95 (68 + a1).toNatClampNeg) = 3) then (some (-5)) else (if inb (68 + a2) 4700 then if decide ((M0.1 95 (68 + a2).toNatClampNeg) = 3) then (some (-5)) else (if inb (20 + a1) 4700 then if inb (20 + a2) 4700 then (f_Mo_size ((M0.1 95 (20 + a1).toNatClampNeg) - (M0.1 95 (20 + a2).toNatClampNeg))).bind fun q7 => (f_Mo_extra_94 a1 M0).bind fun q8 => (f_Mo_extra_94 a2 M0).bind fun q9 => if decide ((((10 + (2 * q7)) + q8) + q9) < 1) then (some 1) else (some (((10 + (2 * q7)) + q8) + q9)) else none else none) else none) else none
set_option maxHeartbeats 4000000 in
set_option maxRecDepth 20000 in
theorem C_Mo_costOf_94 {D : va_G} {ad adK adV : Nat → Nat} {cI cJ : ClassId} {l : Launch} (a1 : Int32) (a2 : Int32) (M0 : Mem) (o : Int32) (h : f_Mo_costOf_94 a1 a2 M0 = some o) : Ct D ad adK adV cI cJ l y_Mo_costOf_94 cX12_costOf 4 (some .int) 1 21 [.ref (ad 94), .int a1, .int a2] M0 (some (.int o)) M0 := by
  refine x_start (lv := [(0, .ref (ad 94)), (1, .int a1), (2, .int a2)]) (own := "CurrentFarmsModel") rfl (by decide) (Nat.le_of_ble_eq_true rfl) rfl ?_
  intro p e s m args below meth c Q hQ B
  unfold f_Mo_costOf_94 at h
  refine x_aload_n (pc := 0) B 0 dX12_costOf_0 rfl rfl ?_
  refine x_get (T := TX12) (pc := 1) B 1 oi_94 rfl uw_12 (by decide) rfl tw_1300 rfl dX12_costOf_1 ?_
  refine x_bipush (v := 68) (pc := 4) B dX12_costOf_4 rfl ?_
  refine x_iload_n (pc := 6) B 1 dX12_costOf_6 rfl rfl ?_
  refine x_iadd (pc := 7) B dX12_costOf_7 ?_
  obtain ⟨hk1, h⟩ := ifn h
  refine x_iald (pc := 8) B ai_95 hk1 dX12_costOf_8 ?_
  refine x_iconst (v := 3) (pc := 9) B dX12_costOf_9 rfl ?_
  refine x_icmp_eq (tgt := 26) (pc := 10) B dX12_costOf_10 rfl (fun hc2 => ?_) (fun hc2 => ?_)
  · have h := ift hc2 h
    refine x_bipush (v := (-5)) (pc := 26) B dX12_costOf_26 rfl ?_
    obtain rfl := Option.some.inj h
    exact x_iret (pc := 28) B hQ dX12_costOf_28
  · have h := iff_ hc2 h
    refine x_aload_n (pc := 13) B 0 dX12_costOf_13 rfl rfl ?_
    refine x_get (T := TX12) (pc := 14) B 1 oi_94 rfl uw_12 (by decide) rfl tw_1300 rfl dX12_costOf_14 ?_
    refine x_bipush (v := 68) (pc := 17) B dX12_costOf_17 rfl ?_
    refine x_iload_n (pc := 19) B 2 dX12_costOf_19 rfl rfl ?_
    refine x_iadd (pc := 20) B dX12_costOf_20 ?_
    obtain ⟨hk3, h⟩ := ifn h
    refine x_iald (pc := 21) B ai_95 hk3 dX12_costOf_21 ?_
    refine x_iconst (v := 3) (pc := 22) B dX12_costOf_22 rfl ?_
    refine x_icmp_ne (tgt := 29) (pc := 23) B dX12_costOf_23 rfl (fun hc4 => ?_) (fun hc4 => ?_)
    · have h := iff_ hc4 h
      refine x_bipush (v := 10) (pc := 29) B dX12_costOf_29 rfl ?_
      refine x_iconst (v := 2) (pc := 31) B dX12_costOf_31 rfl ?_
      refine x_aload_n (pc := 32) B 0 dX12_costOf_32 rfl rfl ?_
      refine x_get (T := TX12) (pc := 33) B 1 oi_94 rfl uw_12 (by decide) rfl tw_1300 rfl dX12_costOf_33 ?_
      refine x_bipush (v := 20) (pc := 36) B dX12_costOf_36 rfl ?_
      refine x_iload_n (pc := 38) B 1 dX12_costOf_38 rfl rfl ?_
      refine x_iadd (pc := 39) B dX12_costOf_39 ?_
      obtain ⟨hk5, h⟩ := ifn h
      refine x_iald (pc := 40) B ai_95 hk5 dX12_costOf_40 ?_
      refine x_aload_n (pc := 41) B 0 dX12_costOf_41 rfl rfl ?_
      refine x_get (T := TX12) (pc := 42) B 1 oi_94 rfl uw_12 (by decide) rfl tw_1300 rfl dX12_costOf_42 ?_
      refine x_bipush (v := 20) (pc := 45) B dX12_costOf_45 rfl ?_
      refine x_iload_n (pc := 47) B 2 dX12_costOf_47 rfl rfl ?_
      refine x_iadd (pc := 48) B dX12_costOf_48 ?_
      obtain ⟨hk6, h⟩ := ifn h
      refine x_iald (pc := 49) B ai_95 hk6 dX12_costOf_49 ?_
      refine x_isub (pc := 50) B dX12_costOf_50 ?_
      obtain ⟨q7, hq7, h⟩ := bnd h
      refine x_callS (rest := [.int 2, .int 10]) (st' := [.int q7, .int 2, .int 10]) (pc := 51) B (C_Mo_size ((M0.1 95 (20 + a1).toNatClampNeg) - (M0.1 95 (20 + a2).toNatClampNeg)) M0 _ hq7) tw_1424 tw_1422 tw_1423 tw_111 hd_Mo_size ⟨Nat.le_of_ble_eq_true rfl, Nat.le_of_ble_eq_true rfl⟩ rfl rfl (Nat.le_of_ble_eq_true rfl) rfl dX12_costOf_51 ?_
      refine x_imul (pc := 54) B dX12_costOf_54 ?_
      refine x_iadd (pc := 55) B dX12_costOf_55 ?_
      refine x_aload_n (pc := 56) B 0 dX12_costOf_56 rfl rfl ?_
      refine x_iload_n (pc := 57) B 1 dX12_costOf_57 rfl rfl ?_
      obtain ⟨q8, hq8, h⟩ := bnd h
      refine x_callV (rest := [.int (10 + (2 * q7))]) (st' := [.int q8, .int (10 + (2 * q7))]) (pc := 58) B oi_94 rfl (C_Mo_extra_94 a1 M0 _ hq8) tw_1428 tw_1425 tw_1427 tw_45 tw_111 hd_Mo_extra_94 ⟨Nat.le_of_ble_eq_true rfl, Nat.le_of_ble_eq_true rfl⟩ rfl rfl (Nat.le_of_ble_eq_true rfl) rfl dX12_costOf_58 ?_
      refine x_iadd (pc := 61) B dX12_costOf_61 ?_
      refine x_aload_n (pc := 62) B 0 dX12_costOf_62 rfl rfl ?_
      refine x_iload_n (pc := 63) B 2 dX12_costOf_63 rfl rfl ?_
      obtain ⟨q9, hq9, h⟩ := bnd h
      refine x_callV (rest := [.int ((10 + (2 * q7)) + q8)]) (st' := [.int q9, .int ((10 + (2 * q7)) + q8)]) (pc := 64) B oi_94 rfl (C_Mo_extra_94 a2 M0 _ hq9) tw_1428 tw_1425 tw_1427 tw_45 tw_111 hd_Mo_extra_94 ⟨Nat.le_of_ble_eq_true rfl, Nat.le_of_ble_eq_true rfl⟩ rfl rfl (Nat.le_of_ble_eq_true rfl) rfl dX12_costOf_64 ?_
      refine x_iadd (pc := 67) B dX12_costOf_67 ?_
      refine x_istore_n (lv' := [(3, .int (((10 + (2 * q7)) + q8) + q9)), (0, .ref (ad 94)), (1, .int a1), (2, .int a2)]) (pc := 68) B dX12_costOf_68 rfl (by decide) rfl ?_
      refine x_iload_n (pc := 69) B 0 dX12_costOf_69 rfl rfl ?_
      refine x_iconst (v := 1) (pc := 70) B dX12_costOf_70 rfl ?_
      refine x_icmp_ge (tgt := 78) (pc := 71) B dX12_costOf_71 rfl (fun hc10 => ?_) (fun hc10 => ?_)
      · have h := iff_ hc10 h
        refine x_iload_n (pc := 78) B 0 dX12_costOf_78 rfl rfl ?_
        obtain rfl := Option.some.inj h
        exact x_iret (pc := 79) B hQ dX12_costOf_79
      · have h := ift hc10 h
        refine x_iconst (v := 1) (pc := 74) B dX12_costOf_74 rfl ?_
        refine x_goto (tgt := 79) (pc := 75) B dX12_costOf_75 rfl ?_
        obtain rfl := Option.some.inj h
        exact x_iret (pc := 79) B hQ dX12_costOf_79
    · have h := ift hc4 h
      refine x_bipush (v := (-5)) (pc := 26) B dX12_costOf_26 rfl ?_
      obtain rfl := Option.some.inj h
      exact x_iret (pc := 28) B hQ dX12_costOf_28
-- CurrentFarmsModel.cost(II)I [94]
abbrev y_Mo_cost_94 : MethodName := ⟨"CurrentFarmsModel", "cost", "(II)I"⟩
abbrev cX12_cost : ByteArray := prog_14_method_14_code
theorem dX12_cost_0 : decode cX12_cost 0 = .ok (.iload_n 1, 1) := by decide +kernel
theorem dX12_cost_1 : decode cX12_cost 1 = .ok (.invokestatic 88, 3) := by decide +kernel
theorem dX12_cost_4 : decode cX12_cost 4 = .ok (.ifCond .eq 10, 3) := by decide +kernel
theorem dX12_cost_7 : decode cX12_cost 7 = .ok (.iload_n 2, 1) := by decide +kernel
theorem dX12_cost_8 : decode cX12_cost 8 = .ok (.invokestatic 88, 3) := by decide +kernel
theorem dX12_cost_11 : decode cX12_cost 11 = .ok (.ifCond .ne 7, 3) := by decide +kernel
theorem dX12_cost_14 : decode cX12_cost 14 = .ok (.iconst (-1), 1) := by decide +kernel
theorem dX12_cost_15 : decode cX12_cost 15 = .ok (.goto 22, 3) := by decide +kernel
theorem dX12_cost_18 : decode cX12_cost 18 = .ok (.iload_n 1, 1) := by decide +kernel
theorem dX12_cost_19 : decode cX12_cost 19 = .ok (.iload_n 2, 1) := by decide +kernel
theorem dX12_cost_20 : decode cX12_cost 20 = .ok (.invokestatic 102, 3) := by decide +kernel
theorem dX12_cost_23 : decode cX12_cost 23 = .ok (.ifCond .ne 8, 3) := by decide +kernel
theorem dX12_cost_26 : decode cX12_cost 26 = .ok (.bipush (-2), 2) := by decide +kernel
theorem dX12_cost_28 : decode cX12_cost 28 = .ok (.goto 9, 3) := by decide +kernel
theorem dX12_cost_31 : decode cX12_cost 31 = .ok (.aload_n 0, 1) := by decide +kernel
theorem dX12_cost_32 : decode cX12_cost 32 = .ok (.iload_n 1, 1) := by decide +kernel
theorem dX12_cost_33 : decode cX12_cost 33 = .ok (.iload_n 2, 1) := by decide +kernel
theorem dX12_cost_34 : decode cX12_cost 34 = .ok (.invokevirtual 106, 3) := by decide +kernel
theorem dX12_cost_37 : decode cX12_cost 37 = .ok (.ireturn, 1) := by decide +kernel
theorem hd_Mo_cost_94 : y_Mo_cost_94.cls ≠ "java/lang/invoke/MethodHandle" ∧ y_Mo_cost_94.cls ≠ "java/lang/invoke/VarHandle" ∧ (parseMethodDescriptor y_Mo_cost_94.desc).map (fun d => d.parameters.length) = some 2 := by decide +kernel
def f_Mo_cost_94 (a1 : Int32) (a2 : Int32) (M0 : Mem) : Option (Int32) :=
  (f_Mo_isCell a1).bind fun q1 => if q1 then ((f_Mo_isCell a2).bind fun q3 => if q3 then ((f_Mo_areBeside a1 a2).bind fun q5 => if q5 then ((f_Mo_costOf_94 a1 a2 M0).bind fun q7 => some q7) else (some (-2))) else (some (-1))) else (some (-1))
set_option maxHeartbeats 4000000 in
set_option maxRecDepth 20000 in
theorem C_Mo_cost_94 {D : va_G} {ad adK adV : Nat → Nat} {cI cJ : ClassId} {l : Launch} (a1 : Int32) (a2 : Int32) (M0 : Mem) (o : Int32) (h : f_Mo_cost_94 a1 a2 M0 = some o) : Ct D ad adK adV cI cJ l y_Mo_cost_94 cX12_cost 3 (some .int) 2 44 [.ref (ad 94), .int a1, .int a2] M0 (some (.int o)) M0 := by
  refine x_start (lv := [(0, .ref (ad 94)), (1, .int a1), (2, .int a2)]) (own := "CurrentFarmsModel") rfl (by decide) (Nat.le_of_ble_eq_true rfl) rfl ?_
  intro p e s m args below meth c Q hQ B
  unfold f_Mo_cost_94 at h
  refine x_iload_n (pc := 0) B 1 dX12_cost_0 rfl rfl ?_
  obtain ⟨q1, hq1, h⟩ := bnd h
  refine x_callS (rest := []) (st' := [.int (bI q1)]) (pc := 1) B (C_Mo_isCell a1 M0 _ hq1) tw_1403 tw_1401 tw_1402 tw_111 hd_Mo_isCell ⟨Nat.le_of_ble_eq_true rfl, Nat.le_of_ble_eq_true rfl⟩ rfl rfl (Nat.le_of_ble_eq_true rfl) rfl dX12_cost_1 ?_
  refine x_if_eq_b (tgt := 14) (pc := 4) B dX12_cost_4 rfl (fun hc2 => ?_) (fun hc2 => ?_)
  · have h := iff_ hc2 h
    refine x_iconst (v := (-1)) (pc := 14) B dX12_cost_14 rfl ?_
    refine x_goto (tgt := 37) (pc := 15) B dX12_cost_15 rfl ?_
    obtain rfl := Option.some.inj h
    exact x_iret (pc := 37) B hQ dX12_cost_37
  · have h := ift hc2 h
    refine x_iload_n (pc := 7) B 2 dX12_cost_7 rfl rfl ?_
    obtain ⟨q3, hq3, h⟩ := bnd h
    refine x_callS (rest := []) (st' := [.int (bI q3)]) (pc := 8) B (C_Mo_isCell a2 M0 _ hq3) tw_1403 tw_1401 tw_1402 tw_111 hd_Mo_isCell ⟨Nat.le_of_ble_eq_true rfl, Nat.le_of_ble_eq_true rfl⟩ rfl rfl (Nat.le_of_ble_eq_true rfl) rfl dX12_cost_8 ?_
    refine x_if_ne_b (tgt := 18) (pc := 11) B dX12_cost_11 rfl (fun hc4 => ?_) (fun hc4 => ?_)
    · have h := ift hc4 h
      refine x_iload_n (pc := 18) B 1 dX12_cost_18 rfl rfl ?_
      refine x_iload_n (pc := 19) B 2 dX12_cost_19 rfl rfl ?_
      obtain ⟨q5, hq5, h⟩ := bnd h
      refine x_callS (rest := []) (st' := [.int (bI q5)]) (pc := 20) B (C_Mo_areBeside a1 a2 M0 _ hq5) tw_1417 tw_1415 tw_1416 tw_111 hd_Mo_areBeside ⟨Nat.le_of_ble_eq_true rfl, Nat.le_of_ble_eq_true rfl⟩ rfl rfl (Nat.le_of_ble_eq_true rfl) rfl dX12_cost_20 ?_
      refine x_if_ne_b (tgt := 31) (pc := 23) B dX12_cost_23 rfl (fun hc6 => ?_) (fun hc6 => ?_)
      · have h := ift hc6 h
        refine x_aload_n (pc := 31) B 0 dX12_cost_31 rfl rfl ?_
        refine x_iload_n (pc := 32) B 1 dX12_cost_32 rfl rfl ?_
        refine x_iload_n (pc := 33) B 2 dX12_cost_33 rfl rfl ?_
        obtain ⟨q7, hq7, h⟩ := bnd h
        refine x_callV (rest := []) (st' := [.int q7]) (pc := 34) B oi_94 rfl (C_Mo_costOf_94 a1 a2 M0 _ hq7) tw_1421 tw_1418 tw_1420 tw_44 tw_111 hd_Mo_costOf_94 ⟨Nat.le_of_ble_eq_true rfl, Nat.le_of_ble_eq_true rfl⟩ rfl rfl (Nat.le_of_ble_eq_true rfl) rfl dX12_cost_34 ?_
        obtain rfl := Option.some.inj h
        exact x_iret (pc := 37) B hQ dX12_cost_37
      · have h := iff_ hc6 h
        refine x_bipush (v := (-2)) (pc := 26) B dX12_cost_26 rfl ?_
        refine x_goto (tgt := 37) (pc := 28) B dX12_cost_28 rfl ?_
        obtain rfl := Option.some.inj h
        exact x_iret (pc := 37) B hQ dX12_cost_37
    · have h := iff_ hc4 h
      refine x_iconst (v := (-1)) (pc := 14) B dX12_cost_14 rfl ?_
      refine x_goto (tgt := 37) (pc := 15) B dX12_cost_15 rfl ?_
      obtain rfl := Option.some.inj h
      exact x_iret (pc := 37) B hQ dX12_cost_37
-- CurrentFarmsModel.house(I)I [94]
abbrev y_Mo_house_94 : MethodName := ⟨"CurrentFarmsModel", "house", "(I)I"⟩
abbrev cX12_house : ByteArray := prog_14_method_15_code
theorem dX12_house_0 : decode cX12_house 0 = .ok (.iload_n 1, 1) := by decide +kernel
theorem dX12_house_1 : decode cX12_house 1 = .ok (.invokestatic 88, 3) := by decide +kernel
theorem dX12_house_4 : decode cX12_house 4 = .ok (.ifCond .ne 5, 3) := by decide +kernel
theorem dX12_house_7 : decode cX12_house 7 = .ok (.iconst (-1), 1) := by decide +kernel
theorem dX12_house_8 : decode cX12_house 8 = .ok (.ireturn, 1) := by decide +kernel
theorem dX12_house_9 : decode cX12_house 9 = .ok (.aload_n 0, 1) := by decide +kernel
theorem dX12_house_10 : decode cX12_house 10 = .ok (.getfield 7, 3) := by decide +kernel
theorem dX12_house_13 : decode cX12_house 13 = .ok (.bipush 68, 2) := by decide +kernel
theorem dX12_house_15 : decode cX12_house 15 = .ok (.iload_n 1, 1) := by decide +kernel
theorem dX12_house_16 : decode cX12_house 16 = .ok (.iadd, 1) := by decide +kernel
theorem dX12_house_17 : decode cX12_house 17 = .ok (.iaload, 1) := by decide +kernel
theorem dX12_house_18 : decode cX12_house 18 = .ok (.iconst 3, 1) := by decide +kernel
theorem dX12_house_19 : decode cX12_house 19 = .ok (.if_icmp .eq 12, 3) := by decide +kernel
theorem dX12_house_22 : decode cX12_house 22 = .ok (.aload_n 0, 1) := by decide +kernel
theorem dX12_house_23 : decode cX12_house 23 = .ok (.getfield 7, 3) := by decide +kernel
theorem dX12_house_26 : decode cX12_house 26 = .ok (.iconst 5, 1) := by decide +kernel
theorem dX12_house_27 : decode cX12_house 27 = .ok (.iaload, 1) := by decide +kernel
theorem dX12_house_28 : decode cX12_house 28 = .ok (.ifCond .le 6, 3) := by decide +kernel
theorem dX12_house_31 : decode cX12_house 31 = .ok (.bipush (-3), 2) := by decide +kernel
theorem dX12_house_33 : decode cX12_house 33 = .ok (.ireturn, 1) := by decide +kernel
theorem dX12_house_34 : decode cX12_house 34 = .ok (.aload_n 0, 1) := by decide +kernel
theorem dX12_house_35 : decode cX12_house 35 = .ok (.getfield 7, 3) := by decide +kernel
theorem dX12_house_38 : decode cX12_house 38 = .ok (.bipush 9, 2) := by decide +kernel
theorem dX12_house_40 : decode cX12_house 40 = .ok (.iaload, 1) := by decide +kernel
theorem dX12_house_41 : decode cX12_house 41 = .ok (.istore_n 2, 1) := by decide +kernel
theorem dX12_house_42 : decode cX12_house 42 = .ok (.aload_n 0, 1) := by decide +kernel
theorem dX12_house_43 : decode cX12_house 43 = .ok (.getfield 7, 3) := by decide +kernel
theorem dX12_house_46 : decode cX12_house 46 = .ok (.bipush 9, 2) := by decide +kernel
theorem dX12_house_48 : decode cX12_house 48 = .ok (.iload_n 1, 1) := by decide +kernel
theorem dX12_house_49 : decode cX12_house 49 = .ok (.iastore, 1) := by decide +kernel
theorem dX12_house_50 : decode cX12_house 50 = .ok (.aload_n 0, 1) := by decide +kernel
theorem dX12_house_51 : decode cX12_house 51 = .ok (.dup, 1) := by decide +kernel
theorem dX12_house_52 : decode cX12_house 52 = .ok (.getfield 50, 3) := by decide +kernel
theorem dX12_house_55 : decode cX12_house 55 = .ok (.iconst 1, 1) := by decide +kernel
theorem dX12_house_56 : decode cX12_house 56 = .ok (.iadd, 1) := by decide +kernel
theorem dX12_house_57 : decode cX12_house 57 = .ok (.putfield 50, 3) := by decide +kernel
theorem dX12_house_60 : decode cX12_house 60 = .ok (.iload_n 2, 1) := by decide +kernel
theorem dX12_house_61 : decode cX12_house 61 = .ok (.ireturn, 1) := by decide +kernel
theorem hd_Mo_house_94 : y_Mo_house_94.cls ≠ "java/lang/invoke/MethodHandle" ∧ y_Mo_house_94.cls ≠ "java/lang/invoke/VarHandle" ∧ (parseMethodDescriptor y_Mo_house_94.desc).map (fun d => d.parameters.length) = some 1 := by decide +kernel
def f_Mo_house_94 (a1 : Int32) (M0 : Mem) : Option (Int32 × Mem) :=
  (f_Mo_isCell a1).bind fun q1 => if q1 then (if inb (68 + a1) 4700 then if decide ((M0.1 95 (68 + a1).toNatClampNeg) = 3) then (some ((-3), M0)) else (if decide ((M0.1 95 5) ≤ 0) then (jv_ (wI M0 95 9 a1) fun M6 => jv_ (wI M6 94 21 ((M6.1 94 21) + 1)) fun M7 => some (M0.1 95 9, M7)) else (some ((-3), M0))) else none) else (some ((-1), M0))
set_option maxHeartbeats 4000000 in
set_option maxRecDepth 20000 in
theorem C_Mo_house_94 {D : va_G} {ad adK adV : Nat → Nat} {cI cJ : ClassId} {l : Launch} (a1 : Int32) (M0 : Mem) (o : Int32 × Mem) (h : f_Mo_house_94 a1 M0 = some o) : Ct D ad adK adV cI cJ l y_Mo_house_94 cX12_house 3 (some .int) 2 42 [.ref (ad 94), .int a1] M0 (some (.int o.1)) o.2 := by
  refine x_start (lv := [(0, .ref (ad 94)), (1, .int a1)]) (own := "CurrentFarmsModel") rfl (by decide) (Nat.le_of_ble_eq_true rfl) rfl ?_
  intro p e s m args below meth c Q hQ B
  unfold f_Mo_house_94 at h
  refine x_iload_n (pc := 0) B 1 dX12_house_0 rfl rfl ?_
  obtain ⟨q1, hq1, h⟩ := bnd h
  refine x_callS (rest := []) (st' := [.int (bI q1)]) (pc := 1) B (C_Mo_isCell a1 M0 _ hq1) tw_1403 tw_1401 tw_1402 tw_111 hd_Mo_isCell ⟨Nat.le_of_ble_eq_true rfl, Nat.le_of_ble_eq_true rfl⟩ rfl rfl (Nat.le_of_ble_eq_true rfl) rfl dX12_house_1 ?_
  refine x_if_ne_b (tgt := 9) (pc := 4) B dX12_house_4 rfl (fun hc2 => ?_) (fun hc2 => ?_)
  · have h := ift hc2 h
    refine x_aload_n (pc := 9) B 0 dX12_house_9 rfl rfl ?_
    refine x_get (T := TX12) (pc := 10) B 1 oi_94 rfl uw_12 (by decide) rfl tw_1300 rfl dX12_house_10 ?_
    refine x_bipush (v := 68) (pc := 13) B dX12_house_13 rfl ?_
    refine x_iload_n (pc := 15) B 1 dX12_house_15 rfl rfl ?_
    refine x_iadd (pc := 16) B dX12_house_16 ?_
    obtain ⟨hk3, h⟩ := ifn h
    refine x_iald (pc := 17) B ai_95 hk3 dX12_house_17 ?_
    refine x_iconst (v := 3) (pc := 18) B dX12_house_18 rfl ?_
    refine x_icmp_eq (tgt := 31) (pc := 19) B dX12_house_19 rfl (fun hc4 => ?_) (fun hc4 => ?_)
    · have h := ift hc4 h
      refine x_bipush (v := (-3)) (pc := 31) B dX12_house_31 rfl ?_
      obtain rfl := Option.some.inj h
      exact x_iret (pc := 33) B hQ dX12_house_33
    · have h := iff_ hc4 h
      refine x_aload_n (pc := 22) B 0 dX12_house_22 rfl rfl ?_
      refine x_get (T := TX12) (pc := 23) B 1 oi_94 rfl uw_12 (by decide) rfl tw_1300 rfl dX12_house_23 ?_
      refine x_iconst (v := 5) (pc := 26) B dX12_house_26 rfl ?_
      refine x_iald_c (j := 5) (pc := 27) B ai_95 (by decide) rfl dX12_house_27 ?_
      refine x_if_le (tgt := 34) (pc := 28) B dX12_house_28 rfl (fun hc5 => ?_) (fun hc5 => ?_)
      · have h := ift hc5 h
        refine x_aload_n (pc := 34) B 0 dX12_house_34 rfl rfl ?_
        refine x_get (T := TX12) (pc := 35) B 1 oi_94 rfl uw_12 (by decide) rfl tw_1300 rfl dX12_house_35 ?_
        refine x_bipush (v := 9) (pc := 38) B dX12_house_38 rfl ?_
        refine x_iald_c (j := 9) (pc := 40) B ai_95 (by decide) rfl dX12_house_40 ?_
        refine x_istore_n (lv' := [(2, .int (M0.1 95 9)), (0, .ref (ad 94)), (1, .int a1)]) (pc := 41) B dX12_house_41 rfl (by decide) rfl ?_
        refine x_aload_n (pc := 42) B 1 dX12_house_42 rfl rfl ?_
        refine x_get (T := TX12) (pc := 43) B 1 oi_94 rfl uw_12 (by decide) rfl tw_1300 rfl dX12_house_43 ?_
        refine x_bipush (v := 9) (pc := 46) B dX12_house_46 rfl ?_
        refine x_iload_n (pc := 48) B 2 dX12_house_48 rfl rfl ?_
        refine x_iast_c (j := 9) (pc := 49) B ai_95 (by decide) rfl dX12_house_49 ?_
        refine jv_m (P := fun M6 => XX D ad cI cJ p l e (Rm 2 42) s m args below meth c Q 3 M6 50 [(2, .int (M0.1 95 9)), (0, .ref (ad 94)), (1, .int a1)] []) h (fun M6 h => ?_)
        refine x_aload_n (pc := 50) B 1 dX12_house_50 rfl rfl ?_
        refine x_dup (pc := 51) B dX12_house_51 rfl ?_
        refine x_get (T := TX12) (pc := 52) B 21 oi_94 rfl uw_12 (by decide) rfl tw_1320 rfl dX12_house_52 ?_
        refine x_iconst (v := 1) (pc := 55) B dX12_house_55 rfl ?_
        refine x_iadd (pc := 56) B dX12_house_56 ?_
        refine x_put (T := TX12) (pc := 57) B 21 oi_94 of_94_21 rfl uw_12 tyX12_ok nmX12 (by decide) rfl tw_1320 rfl rfl rfl (Nat.le_of_ble_eq_true rfl) dX12_house_57 ?_
        refine jv_m (P := fun M7 => XX D ad cI cJ p l e (Rm 2 42) s m args below meth c Q 3 M7 60 [(2, .int (M0.1 95 9)), (0, .ref (ad 94)), (1, .int a1)] []) h (fun M7 h => ?_)
        refine x_iload_n (pc := 60) B 0 dX12_house_60 rfl rfl ?_
        obtain rfl := Option.some.inj h
        exact x_iret (pc := 61) B hQ dX12_house_61
      · have h := iff_ hc5 h
        refine x_bipush (v := (-3)) (pc := 31) B dX12_house_31 rfl ?_
        obtain rfl := Option.some.inj h
        exact x_iret (pc := 33) B hQ dX12_house_33
  · have h := iff_ hc2 h
    refine x_iconst (v := (-1)) (pc := 7) B dX12_house_7 rfl ?_
    obtain rfl := Option.some.inj h
    exact x_iret (pc := 8) B hQ dX12_house_8
-- CurrentFarmsModel.farm(II)I [94]
abbrev y_Mo_farm_94 : MethodName := ⟨"CurrentFarmsModel", "farm", "(II)I"⟩
abbrev cX12_farm : ByteArray := prog_14_method_16_code
theorem dX12_farm_0 : decode cX12_farm 0 = .ok (.iload_n 1, 1) := by decide +kernel
theorem dX12_farm_1 : decode cX12_farm 1 = .ok (.invokestatic 88, 3) := by decide +kernel
theorem dX12_farm_4 : decode cX12_farm 4 = .ok (.ifCond .ne 5, 3) := by decide +kernel
theorem dX12_farm_7 : decode cX12_farm 7 = .ok (.iconst (-1), 1) := by decide +kernel
theorem dX12_farm_8 : decode cX12_farm 8 = .ok (.ireturn, 1) := by decide +kernel
theorem dX12_farm_9 : decode cX12_farm 9 = .ok (.iload_n 2, 1) := by decide +kernel
theorem dX12_farm_10 : decode cX12_farm 10 = .ok (.iconst 1, 1) := by decide +kernel
theorem dX12_farm_11 : decode cX12_farm 11 = .ok (.bipush 50, 2) := by decide +kernel
theorem dX12_farm_13 : decode cX12_farm 13 = .ok (.invokestatic 84, 3) := by decide +kernel
theorem dX12_farm_16 : decode cX12_farm 16 = .ok (.ifCond .ne 6, 3) := by decide +kernel
theorem dX12_farm_19 : decode cX12_farm 19 = .ok (.bipush (-2), 2) := by decide +kernel
theorem dX12_farm_21 : decode cX12_farm 21 = .ok (.ireturn, 1) := by decide +kernel
theorem dX12_farm_22 : decode cX12_farm 22 = .ok (.aload_n 0, 1) := by decide +kernel
theorem dX12_farm_23 : decode cX12_farm 23 = .ok (.getfield 7, 3) := by decide +kernel
theorem dX12_farm_26 : decode cX12_farm 26 = .ok (.bipush 68, 2) := by decide +kernel
theorem dX12_farm_28 : decode cX12_farm 28 = .ok (.iload_n 1, 1) := by decide +kernel
theorem dX12_farm_29 : decode cX12_farm 29 = .ok (.iadd, 1) := by decide +kernel
theorem dX12_farm_30 : decode cX12_farm 30 = .ok (.iaload, 1) := by decide +kernel
theorem dX12_farm_31 : decode cX12_farm 31 = .ok (.iconst 3, 1) := by decide +kernel
theorem dX12_farm_32 : decode cX12_farm 32 = .ok (.if_icmp .ne 6, 3) := by decide +kernel
theorem dX12_farm_35 : decode cX12_farm 35 = .ok (.bipush (-3), 2) := by decide +kernel
theorem dX12_farm_37 : decode cX12_farm 37 = .ok (.ireturn, 1) := by decide +kernel
theorem dX12_farm_38 : decode cX12_farm 38 = .ok (.aload_n 0, 1) := by decide +kernel
theorem dX12_farm_39 : decode cX12_farm 39 = .ok (.getfield 7, 3) := by decide +kernel
theorem dX12_farm_42 : decode cX12_farm 42 = .ok (.iconst 1, 1) := by decide +kernel
theorem dX12_farm_43 : decode cX12_farm 43 = .ok (.iaload, 1) := by decide +kernel
theorem dX12_farm_44 : decode cX12_farm 44 = .ok (.bipush 10, 2) := by decide +kernel
theorem dX12_farm_46 : decode cX12_farm 46 = .ok (.if_icmp .ne 6, 3) := by decide +kernel
theorem dX12_farm_49 : decode cX12_farm 49 = .ok (.bipush (-4), 2) := by decide +kernel
theorem dX12_farm_51 : decode cX12_farm 51 = .ok (.ireturn, 1) := by decide +kernel
theorem dX12_farm_52 : decode cX12_farm 52 = .ok (.aload_n 0, 1) := by decide +kernel
theorem dX12_farm_53 : decode cX12_farm 53 = .ok (.getfield 7, 3) := by decide +kernel
theorem dX12_farm_56 : decode cX12_farm 56 = .ok (.sipush 164, 3) := by decide +kernel
theorem dX12_farm_59 : decode cX12_farm 59 = .ok (.aload_n 0, 1) := by decide +kernel
theorem dX12_farm_60 : decode cX12_farm 60 = .ok (.getfield 7, 3) := by decide +kernel
theorem dX12_farm_63 : decode cX12_farm 63 = .ok (.iconst 1, 1) := by decide +kernel
theorem dX12_farm_64 : decode cX12_farm 64 = .ok (.iaload, 1) := by decide +kernel
theorem dX12_farm_65 : decode cX12_farm 65 = .ok (.iadd, 1) := by decide +kernel
theorem dX12_farm_66 : decode cX12_farm 66 = .ok (.iload_n 1, 1) := by decide +kernel
theorem dX12_farm_67 : decode cX12_farm 67 = .ok (.iastore, 1) := by decide +kernel
theorem dX12_farm_68 : decode cX12_farm 68 = .ok (.aload_n 0, 1) := by decide +kernel
theorem dX12_farm_69 : decode cX12_farm 69 = .ok (.getfield 7, 3) := by decide +kernel
theorem dX12_farm_72 : decode cX12_farm 72 = .ok (.sipush 174, 3) := by decide +kernel
theorem dX12_farm_75 : decode cX12_farm 75 = .ok (.aload_n 0, 1) := by decide +kernel
theorem dX12_farm_76 : decode cX12_farm 76 = .ok (.getfield 7, 3) := by decide +kernel
theorem dX12_farm_79 : decode cX12_farm 79 = .ok (.iconst 1, 1) := by decide +kernel
theorem dX12_farm_80 : decode cX12_farm 80 = .ok (.iaload, 1) := by decide +kernel
theorem dX12_farm_81 : decode cX12_farm 81 = .ok (.iadd, 1) := by decide +kernel
theorem dX12_farm_82 : decode cX12_farm 82 = .ok (.iload_n 2, 1) := by decide +kernel
theorem dX12_farm_83 : decode cX12_farm 83 = .ok (.iastore, 1) := by decide +kernel
theorem dX12_farm_84 : decode cX12_farm 84 = .ok (.aload_n 0, 1) := by decide +kernel
theorem dX12_farm_85 : decode cX12_farm 85 = .ok (.getfield 7, 3) := by decide +kernel
theorem dX12_farm_88 : decode cX12_farm 88 = .ok (.iconst 1, 1) := by decide +kernel
theorem dX12_farm_89 : decode cX12_farm 89 = .ok (.dup2, 1) := by decide +kernel
theorem dX12_farm_90 : decode cX12_farm 90 = .ok (.iaload, 1) := by decide +kernel
theorem dX12_farm_91 : decode cX12_farm 91 = .ok (.iconst 1, 1) := by decide +kernel
theorem dX12_farm_92 : decode cX12_farm 92 = .ok (.iadd, 1) := by decide +kernel
theorem dX12_farm_93 : decode cX12_farm 93 = .ok (.iastore, 1) := by decide +kernel
theorem dX12_farm_94 : decode cX12_farm 94 = .ok (.aload_n 0, 1) := by decide +kernel
theorem dX12_farm_95 : decode cX12_farm 95 = .ok (.dup, 1) := by decide +kernel
theorem dX12_farm_96 : decode cX12_farm 96 = .ok (.getfield 50, 3) := by decide +kernel
theorem dX12_farm_99 : decode cX12_farm 99 = .ok (.iconst 1, 1) := by decide +kernel
theorem dX12_farm_100 : decode cX12_farm 100 = .ok (.iadd, 1) := by decide +kernel
theorem dX12_farm_101 : decode cX12_farm 101 = .ok (.putfield 50, 3) := by decide +kernel
theorem dX12_farm_104 : decode cX12_farm 104 = .ok (.aload_n 0, 1) := by decide +kernel
theorem dX12_farm_105 : decode cX12_farm 105 = .ok (.getfield 7, 3) := by decide +kernel
theorem dX12_farm_108 : decode cX12_farm 108 = .ok (.iconst 1, 1) := by decide +kernel
theorem dX12_farm_109 : decode cX12_farm 109 = .ok (.iaload, 1) := by decide +kernel
theorem dX12_farm_110 : decode cX12_farm 110 = .ok (.iconst 1, 1) := by decide +kernel
theorem dX12_farm_111 : decode cX12_farm 111 = .ok (.isub, 1) := by decide +kernel
theorem dX12_farm_112 : decode cX12_farm 112 = .ok (.ireturn, 1) := by decide +kernel
theorem hd_Mo_farm_94 : y_Mo_farm_94.cls ≠ "java/lang/invoke/MethodHandle" ∧ y_Mo_farm_94.cls ≠ "java/lang/invoke/VarHandle" ∧ (parseMethodDescriptor y_Mo_farm_94.desc).map (fun d => d.parameters.length) = some 2 := by decide +kernel
def f_Mo_farm_94 (a1 : Int32) (a2 : Int32) (M0 : Mem) : Option (Int32 × Mem) :=
  (f_Mo_isCell a1).bind fun q1 => if q1 then ((f_Mo_in a2 1 50).bind fun q3 => if q3 then (if inb (68 + a1) 4700 then if decide ((M0.1 95 (68 + a1).toNatClampNeg) = 3) then (some ((-3), M0)) else (if decide ((M0.1 95 1) = 10) then (some ((-4), M0)) else (if inb (164 + (M0.1 95 1)) 4700 then jv_ (wI M0 95 (164 + (M0.1 95 1)).toNatClampNeg a1) fun M9 => if inb (174 + (M9.1 95 1)) 4700 then jv_ (wI M9 95 (174 + (M9.1 95 1)).toNatClampNeg a2) fun M11 => jv_ (wI M11 95 1 ((M11.1 95 1) + 1)) fun M12 => jv_ (wI M12 94 21 ((M12.1 94 21) + 1)) fun M13 => some ((M13.1 95 1) - 1, M13) else none else none)) else none) else (some ((-2), M0))) else (some ((-1), M0))
set_option maxHeartbeats 4000000 in
set_option maxRecDepth 20000 in
theorem C_Mo_farm_94 {D : va_G} {ad adK adV : Nat → Nat} {cI cJ : ClassId} {l : Launch} (a1 : Int32) (a2 : Int32) (M0 : Mem) (o : Int32 × Mem) (h : f_Mo_farm_94 a1 a2 M0 = some o) : Ct D ad adK adV cI cJ l y_Mo_farm_94 cX12_farm 3 (some .int) 2 42 [.ref (ad 94), .int a1, .int a2] M0 (some (.int o.1)) o.2 := by
  refine x_start (lv := [(0, .ref (ad 94)), (1, .int a1), (2, .int a2)]) (own := "CurrentFarmsModel") rfl (by decide) (Nat.le_of_ble_eq_true rfl) rfl ?_
  intro p e s m args below meth c Q hQ B
  unfold f_Mo_farm_94 at h
  refine x_iload_n (pc := 0) B 1 dX12_farm_0 rfl rfl ?_
  obtain ⟨q1, hq1, h⟩ := bnd h
  refine x_callS (rest := []) (st' := [.int (bI q1)]) (pc := 1) B (C_Mo_isCell a1 M0 _ hq1) tw_1403 tw_1401 tw_1402 tw_111 hd_Mo_isCell ⟨Nat.le_of_ble_eq_true rfl, Nat.le_of_ble_eq_true rfl⟩ rfl rfl (Nat.le_of_ble_eq_true rfl) rfl dX12_farm_1 ?_
  refine x_if_ne_b (tgt := 9) (pc := 4) B dX12_farm_4 rfl (fun hc2 => ?_) (fun hc2 => ?_)
  · have h := ift hc2 h
    refine x_iload_n (pc := 9) B 2 dX12_farm_9 rfl rfl ?_
    refine x_iconst (v := 1) (pc := 10) B dX12_farm_10 rfl ?_
    refine x_bipush (v := 50) (pc := 11) B dX12_farm_11 rfl ?_
    obtain ⟨q3, hq3, h⟩ := bnd h
    refine x_callS (rest := []) (st' := [.int (bI q3)]) (pc := 13) B (C_Mo_in a2 1 50 M0 _ hq3) tw_1406 tw_1404 tw_1405 tw_111 hd_Mo_in ⟨Nat.le_of_ble_eq_true rfl, Nat.le_of_ble_eq_true rfl⟩ rfl rfl (Nat.le_of_ble_eq_true rfl) rfl dX12_farm_13 ?_
    refine x_if_ne_b (tgt := 22) (pc := 16) B dX12_farm_16 rfl (fun hc4 => ?_) (fun hc4 => ?_)
    · have h := ift hc4 h
      refine x_aload_n (pc := 22) B 0 dX12_farm_22 rfl rfl ?_
      refine x_get (T := TX12) (pc := 23) B 1 oi_94 rfl uw_12 (by decide) rfl tw_1300 rfl dX12_farm_23 ?_
      refine x_bipush (v := 68) (pc := 26) B dX12_farm_26 rfl ?_
      refine x_iload_n (pc := 28) B 1 dX12_farm_28 rfl rfl ?_
      refine x_iadd (pc := 29) B dX12_farm_29 ?_
      obtain ⟨hk5, h⟩ := ifn h
      refine x_iald (pc := 30) B ai_95 hk5 dX12_farm_30 ?_
      refine x_iconst (v := 3) (pc := 31) B dX12_farm_31 rfl ?_
      refine x_icmp_ne (tgt := 38) (pc := 32) B dX12_farm_32 rfl (fun hc6 => ?_) (fun hc6 => ?_)
      · have h := iff_ hc6 h
        refine x_aload_n (pc := 38) B 0 dX12_farm_38 rfl rfl ?_
        refine x_get (T := TX12) (pc := 39) B 1 oi_94 rfl uw_12 (by decide) rfl tw_1300 rfl dX12_farm_39 ?_
        refine x_iconst (v := 1) (pc := 42) B dX12_farm_42 rfl ?_
        refine x_iald_c (j := 1) (pc := 43) B ai_95 (by decide) rfl dX12_farm_43 ?_
        refine x_bipush (v := 10) (pc := 44) B dX12_farm_44 rfl ?_
        refine x_icmp_ne (tgt := 52) (pc := 46) B dX12_farm_46 rfl (fun hc7 => ?_) (fun hc7 => ?_)
        · have h := iff_ hc7 h
          refine x_aload_n (pc := 52) B 0 dX12_farm_52 rfl rfl ?_
          refine x_get (T := TX12) (pc := 53) B 1 oi_94 rfl uw_12 (by decide) rfl tw_1300 rfl dX12_farm_53 ?_
          refine x_sipush (v := 164) (pc := 56) B dX12_farm_56 rfl ?_
          refine x_aload_n (pc := 59) B 0 dX12_farm_59 rfl rfl ?_
          refine x_get (T := TX12) (pc := 60) B 1 oi_94 rfl uw_12 (by decide) rfl tw_1300 rfl dX12_farm_60 ?_
          refine x_iconst (v := 1) (pc := 63) B dX12_farm_63 rfl ?_
          refine x_iald_c (j := 1) (pc := 64) B ai_95 (by decide) rfl dX12_farm_64 ?_
          refine x_iadd (pc := 65) B dX12_farm_65 ?_
          refine x_iload_n (pc := 66) B 1 dX12_farm_66 rfl rfl ?_
          obtain ⟨hk8, h⟩ := ifn h
          refine x_iast (pc := 67) B ai_95 hk8 dX12_farm_67 ?_
          refine jv_m (P := fun M9 => XX D ad cI cJ p l e (Rm 2 42) s m args below meth c Q 3 M9 68 [(0, .ref (ad 94)), (1, .int a1), (2, .int a2)] []) h (fun M9 h => ?_)
          refine x_aload_n (pc := 68) B 0 dX12_farm_68 rfl rfl ?_
          refine x_get (T := TX12) (pc := 69) B 1 oi_94 rfl uw_12 (by decide) rfl tw_1300 rfl dX12_farm_69 ?_
          refine x_sipush (v := 174) (pc := 72) B dX12_farm_72 rfl ?_
          refine x_aload_n (pc := 75) B 0 dX12_farm_75 rfl rfl ?_
          refine x_get (T := TX12) (pc := 76) B 1 oi_94 rfl uw_12 (by decide) rfl tw_1300 rfl dX12_farm_76 ?_
          refine x_iconst (v := 1) (pc := 79) B dX12_farm_79 rfl ?_
          refine x_iald_c (j := 1) (pc := 80) B ai_95 (by decide) rfl dX12_farm_80 ?_
          refine x_iadd (pc := 81) B dX12_farm_81 ?_
          refine x_iload_n (pc := 82) B 2 dX12_farm_82 rfl rfl ?_
          obtain ⟨hk10, h⟩ := ifn h
          refine x_iast (pc := 83) B ai_95 hk10 dX12_farm_83 ?_
          refine jv_m (P := fun M11 => XX D ad cI cJ p l e (Rm 2 42) s m args below meth c Q 3 M11 84 [(0, .ref (ad 94)), (1, .int a1), (2, .int a2)] []) h (fun M11 h => ?_)
          refine x_aload_n (pc := 84) B 0 dX12_farm_84 rfl rfl ?_
          refine x_get (T := TX12) (pc := 85) B 1 oi_94 rfl uw_12 (by decide) rfl tw_1300 rfl dX12_farm_85 ?_
          refine x_iconst (v := 1) (pc := 88) B dX12_farm_88 rfl ?_
          refine x_dup2 (pc := 89) B dX12_farm_89 rfl rfl ?_
          refine x_iald_c (j := 1) (pc := 90) B ai_95 (by decide) rfl dX12_farm_90 ?_
          refine x_iconst (v := 1) (pc := 91) B dX12_farm_91 rfl ?_
          refine x_iadd (pc := 92) B dX12_farm_92 ?_
          refine x_iast_c (j := 1) (pc := 93) B ai_95 (by decide) rfl dX12_farm_93 ?_
          refine jv_m (P := fun M12 => XX D ad cI cJ p l e (Rm 2 42) s m args below meth c Q 3 M12 94 [(0, .ref (ad 94)), (1, .int a1), (2, .int a2)] []) h (fun M12 h => ?_)
          refine x_aload_n (pc := 94) B 0 dX12_farm_94 rfl rfl ?_
          refine x_dup (pc := 95) B dX12_farm_95 rfl ?_
          refine x_get (T := TX12) (pc := 96) B 21 oi_94 rfl uw_12 (by decide) rfl tw_1320 rfl dX12_farm_96 ?_
          refine x_iconst (v := 1) (pc := 99) B dX12_farm_99 rfl ?_
          refine x_iadd (pc := 100) B dX12_farm_100 ?_
          refine x_put (T := TX12) (pc := 101) B 21 oi_94 of_94_21 rfl uw_12 tyX12_ok nmX12 (by decide) rfl tw_1320 rfl rfl rfl (Nat.le_of_ble_eq_true rfl) dX12_farm_101 ?_
          refine jv_m (P := fun M13 => XX D ad cI cJ p l e (Rm 2 42) s m args below meth c Q 3 M13 104 [(0, .ref (ad 94)), (1, .int a1), (2, .int a2)] []) h (fun M13 h => ?_)
          refine x_aload_n (pc := 104) B 0 dX12_farm_104 rfl rfl ?_
          refine x_get (T := TX12) (pc := 105) B 1 oi_94 rfl uw_12 (by decide) rfl tw_1300 rfl dX12_farm_105 ?_
          refine x_iconst (v := 1) (pc := 108) B dX12_farm_108 rfl ?_
          refine x_iald_c (j := 1) (pc := 109) B ai_95 (by decide) rfl dX12_farm_109 ?_
          refine x_iconst (v := 1) (pc := 110) B dX12_farm_110 rfl ?_
          refine x_isub (pc := 111) B dX12_farm_111 ?_
          obtain rfl := Option.some.inj h
          exact x_iret (pc := 112) B hQ dX12_farm_112
        · have h := ift hc7 h
          refine x_bipush (v := (-4)) (pc := 49) B dX12_farm_49 rfl ?_
          obtain rfl := Option.some.inj h
          exact x_iret (pc := 51) B hQ dX12_farm_51
      · have h := ift hc6 h
        refine x_bipush (v := (-3)) (pc := 35) B dX12_farm_35 rfl ?_
        obtain rfl := Option.some.inj h
        exact x_iret (pc := 37) B hQ dX12_farm_37
    · have h := iff_ hc4 h
      refine x_bipush (v := (-2)) (pc := 19) B dX12_farm_19 rfl ?_
      obtain rfl := Option.some.inj h
      exact x_iret (pc := 21) B hQ dX12_farm_21
  · have h := iff_ hc2 h
    refine x_iconst (v := (-1)) (pc := 7) B dX12_farm_7 rfl ?_
    obtain rfl := Option.some.inj h
    exact x_iret (pc := 8) B hQ dX12_farm_8
-- CurrentFarmsModel.month(I)I [94]
abbrev y_Mo_month_94 : MethodName := ⟨"CurrentFarmsModel", "month", "(I)I"⟩
abbrev cX12_month : ByteArray := prog_14_method_17_code
theorem dX12_month_0 : decode cX12_month 0 = .ok (.iload_n 1, 1) := by decide +kernel
theorem dX12_month_1 : decode cX12_month 1 = .ok (.aload_n 0, 1) := by decide +kernel
theorem dX12_month_2 : decode cX12_month 2 = .ok (.getfield 7, 3) := by decide +kernel
theorem dX12_month_5 : decode cX12_month 5 = .ok (.iconst 0, 1) := by decide +kernel
theorem dX12_month_6 : decode cX12_month 6 = .ok (.iaload, 1) := by decide +kernel
theorem dX12_month_7 : decode cX12_month 7 = .ok (.bipush 120, 2) := by decide +kernel
theorem dX12_month_9 : decode cX12_month 9 = .ok (.invokestatic 84, 3) := by decide +kernel
theorem dX12_month_12 : decode cX12_month 12 = .ok (.ifCond .ne 6, 3) := by decide +kernel
theorem dX12_month_15 : decode cX12_month 15 = .ok (.bipush (-2), 2) := by decide +kernel
theorem dX12_month_17 : decode cX12_month 17 = .ok (.ireturn, 1) := by decide +kernel
theorem dX12_month_18 : decode cX12_month 18 = .ok (.aload_n 0, 1) := by decide +kernel
theorem dX12_month_19 : decode cX12_month 19 = .ok (.getfield 7, 3) := by decide +kernel
theorem dX12_month_22 : decode cX12_month 22 = .ok (.iconst 0, 1) := by decide +kernel
theorem dX12_month_23 : decode cX12_month 23 = .ok (.iaload, 1) := by decide +kernel
theorem dX12_month_24 : decode cX12_month 24 = .ok (.istore_n 2, 1) := by decide +kernel
theorem dX12_month_25 : decode cX12_month 25 = .ok (.aload_n 0, 1) := by decide +kernel
theorem dX12_month_26 : decode cX12_month 26 = .ok (.getfield 7, 3) := by decide +kernel
theorem dX12_month_29 : decode cX12_month 29 = .ok (.iconst 0, 1) := by decide +kernel
theorem dX12_month_30 : decode cX12_month 30 = .ok (.iload_n 1, 1) := by decide +kernel
theorem dX12_month_31 : decode cX12_month 31 = .ok (.iastore, 1) := by decide +kernel
theorem dX12_month_32 : decode cX12_month 32 = .ok (.iload_n 2, 1) := by decide +kernel
theorem dX12_month_33 : decode cX12_month 33 = .ok (.ireturn, 1) := by decide +kernel
theorem hd_Mo_month_94 : y_Mo_month_94.cls ≠ "java/lang/invoke/MethodHandle" ∧ y_Mo_month_94.cls ≠ "java/lang/invoke/VarHandle" ∧ (parseMethodDescriptor y_Mo_month_94.desc).map (fun d => d.parameters.length) = some 1 := by decide +kernel
def f_Mo_month_94 (a1 : Int32) (M0 : Mem) : Option (Int32 × Mem) :=
  (f_Mo_in a1 (M0.1 95 0) 120).bind fun q1 => if q1 then (jv_ (wI M0 95 0 a1) fun M3 => some (M0.1 95 0, M3)) else (some ((-2), M0))
set_option maxHeartbeats 4000000 in
set_option maxRecDepth 20000 in
theorem C_Mo_month_94 {D : va_G} {ad adK adV : Nat → Nat} {cI cJ : ClassId} {l : Launch} (a1 : Int32) (M0 : Mem) (o : Int32 × Mem) (h : f_Mo_month_94 a1 M0 = some o) : Ct D ad adK adV cI cJ l y_Mo_month_94 cX12_month 3 (some .int) 1 22 [.ref (ad 94), .int a1] M0 (some (.int o.1)) o.2 := by
  refine x_start (lv := [(0, .ref (ad 94)), (1, .int a1)]) (own := "CurrentFarmsModel") rfl (by decide) (Nat.le_of_ble_eq_true rfl) rfl ?_
  intro p e s m args below meth c Q hQ B
  unfold f_Mo_month_94 at h
  refine x_iload_n (pc := 0) B 1 dX12_month_0 rfl rfl ?_
  refine x_aload_n (pc := 1) B 0 dX12_month_1 rfl rfl ?_
  refine x_get (T := TX12) (pc := 2) B 1 oi_94 rfl uw_12 (by decide) rfl tw_1300 rfl dX12_month_2 ?_
  refine x_iconst (v := 0) (pc := 5) B dX12_month_5 rfl ?_
  refine x_iald_c (j := 0) (pc := 6) B ai_95 (by decide) rfl dX12_month_6 ?_
  refine x_bipush (v := 120) (pc := 7) B dX12_month_7 rfl ?_
  obtain ⟨q1, hq1, h⟩ := bnd h
  refine x_callS (rest := []) (st' := [.int (bI q1)]) (pc := 9) B (C_Mo_in a1 (M0.1 95 0) 120 M0 _ hq1) tw_1406 tw_1404 tw_1405 tw_111 hd_Mo_in ⟨Nat.le_of_ble_eq_true rfl, Nat.le_of_ble_eq_true rfl⟩ rfl rfl (Nat.le_of_ble_eq_true rfl) rfl dX12_month_9 ?_
  refine x_if_ne_b (tgt := 18) (pc := 12) B dX12_month_12 rfl (fun hc2 => ?_) (fun hc2 => ?_)
  · have h := ift hc2 h
    refine x_aload_n (pc := 18) B 0 dX12_month_18 rfl rfl ?_
    refine x_get (T := TX12) (pc := 19) B 1 oi_94 rfl uw_12 (by decide) rfl tw_1300 rfl dX12_month_19 ?_
    refine x_iconst (v := 0) (pc := 22) B dX12_month_22 rfl ?_
    refine x_iald_c (j := 0) (pc := 23) B ai_95 (by decide) rfl dX12_month_23 ?_
    refine x_istore_n (lv' := [(2, .int (M0.1 95 0)), (0, .ref (ad 94)), (1, .int a1)]) (pc := 24) B dX12_month_24 rfl (by decide) rfl ?_
    refine x_aload_n (pc := 25) B 1 dX12_month_25 rfl rfl ?_
    refine x_get (T := TX12) (pc := 26) B 1 oi_94 rfl uw_12 (by decide) rfl tw_1300 rfl dX12_month_26 ?_
    refine x_iconst (v := 0) (pc := 29) B dX12_month_29 rfl ?_
    refine x_iload_n (pc := 30) B 2 dX12_month_30 rfl rfl ?_
    refine x_iast_c (j := 0) (pc := 31) B ai_95 (by decide) rfl dX12_month_31 ?_
    refine jv_m (P := fun M3 => XX D ad cI cJ p l e (Rm 1 22) s m args below meth c Q 3 M3 32 [(2, .int (M0.1 95 0)), (0, .ref (ad 94)), (1, .int a1)] []) h (fun M3 h => ?_)
    refine x_iload_n (pc := 32) B 0 dX12_month_32 rfl rfl ?_
    obtain rfl := Option.some.inj h
    exact x_iret (pc := 33) B hQ dX12_month_33
  · have h := iff_ hc2 h
    refine x_bipush (v := (-2)) (pc := 15) B dX12_month_15 rfl ?_
    obtain rfl := Option.some.inj h
    exact x_iret (pc := 17) B hQ dX12_month_17
-- CurrentFarmsModel.enters(IIII)I [94]
abbrev y_Mo_enters_94 : MethodName := ⟨"CurrentFarmsModel", "enters", "(IIII)I"⟩
abbrev cX12_enters : ByteArray := prog_14_method_18_code
theorem dX12_enters_0 : decode cX12_enters 0 = .ok (.aload_n 0, 1) := by decide +kernel
theorem dX12_enters_1 : decode cX12_enters 1 = .ok (.getfield 7, 3) := by decide +kernel
theorem dX12_enters_4 : decode cX12_enters 4 = .ok (.iconst 2, 1) := by decide +kernel
theorem dX12_enters_5 : decode cX12_enters 5 = .ok (.iaload, 1) := by decide +kernel
theorem dX12_enters_6 : decode cX12_enters 6 = .ok (.istore 5, 2) := by decide +kernel
theorem dX12_enters_8 : decode cX12_enters 8 = .ok (.aload_n 0, 1) := by decide +kernel
theorem dX12_enters_9 : decode cX12_enters 9 = .ok (.getfield 7, 3) := by decide +kernel
theorem dX12_enters_12 : decode cX12_enters 12 = .ok (.sipush 190, 3) := by decide +kernel
theorem dX12_enters_15 : decode cX12_enters 15 = .ok (.iload 5, 2) := by decide +kernel
theorem dX12_enters_17 : decode cX12_enters 17 = .ok (.iadd, 1) := by decide +kernel
theorem dX12_enters_18 : decode cX12_enters 18 = .ok (.iload_n 2, 1) := by decide +kernel
theorem dX12_enters_19 : decode cX12_enters 19 = .ok (.iastore, 1) := by decide +kernel
theorem dX12_enters_20 : decode cX12_enters 20 = .ok (.aload_n 0, 1) := by decide +kernel
theorem dX12_enters_21 : decode cX12_enters 21 = .ok (.getfield 7, 3) := by decide +kernel
theorem dX12_enters_24 : decode cX12_enters 24 = .ok (.sipush 310, 3) := by decide +kernel
theorem dX12_enters_27 : decode cX12_enters 27 = .ok (.iload 5, 2) := by decide +kernel
theorem dX12_enters_29 : decode cX12_enters 29 = .ok (.iadd, 1) := by decide +kernel
theorem dX12_enters_30 : decode cX12_enters 30 = .ok (.iload_n 1, 1) := by decide +kernel
theorem dX12_enters_31 : decode cX12_enters 31 = .ok (.iastore, 1) := by decide +kernel
theorem dX12_enters_32 : decode cX12_enters 32 = .ok (.aload_n 0, 1) := by decide +kernel
theorem dX12_enters_33 : decode cX12_enters 33 = .ok (.getfield 7, 3) := by decide +kernel
theorem dX12_enters_36 : decode cX12_enters 36 = .ok (.sipush 430, 3) := by decide +kernel
theorem dX12_enters_39 : decode cX12_enters 39 = .ok (.iload 5, 2) := by decide +kernel
theorem dX12_enters_41 : decode cX12_enters 41 = .ok (.iadd, 1) := by decide +kernel
theorem dX12_enters_42 : decode cX12_enters 42 = .ok (.iload_n 3, 1) := by decide +kernel
theorem dX12_enters_43 : decode cX12_enters 43 = .ok (.iastore, 1) := by decide +kernel
theorem dX12_enters_44 : decode cX12_enters 44 = .ok (.aload_n 0, 1) := by decide +kernel
theorem dX12_enters_45 : decode cX12_enters 45 = .ok (.getfield 7, 3) := by decide +kernel
theorem dX12_enters_48 : decode cX12_enters 48 = .ok (.sipush 550, 3) := by decide +kernel
theorem dX12_enters_51 : decode cX12_enters 51 = .ok (.iload 5, 2) := by decide +kernel
theorem dX12_enters_53 : decode cX12_enters 53 = .ok (.iadd, 1) := by decide +kernel
theorem dX12_enters_54 : decode cX12_enters 54 = .ok (.iload 4, 2) := by decide +kernel
theorem dX12_enters_56 : decode cX12_enters 56 = .ok (.iastore, 1) := by decide +kernel
theorem dX12_enters_57 : decode cX12_enters 57 = .ok (.aload_n 0, 1) := by decide +kernel
theorem dX12_enters_58 : decode cX12_enters 58 = .ok (.getfield 7, 3) := by decide +kernel
theorem dX12_enters_61 : decode cX12_enters 61 = .ok (.sipush 670, 3) := by decide +kernel
theorem dX12_enters_64 : decode cX12_enters 64 = .ok (.iload 5, 2) := by decide +kernel
theorem dX12_enters_66 : decode cX12_enters 66 = .ok (.iadd, 1) := by decide +kernel
theorem dX12_enters_67 : decode cX12_enters 67 = .ok (.sipush 999, 3) := by decide +kernel
theorem dX12_enters_70 : decode cX12_enters 70 = .ok (.iastore, 1) := by decide +kernel
theorem dX12_enters_71 : decode cX12_enters 71 = .ok (.aload_n 0, 1) := by decide +kernel
theorem dX12_enters_72 : decode cX12_enters 72 = .ok (.getfield 7, 3) := by decide +kernel
theorem dX12_enters_75 : decode cX12_enters 75 = .ok (.iconst 2, 1) := by decide +kernel
theorem dX12_enters_76 : decode cX12_enters 76 = .ok (.dup2, 1) := by decide +kernel
theorem dX12_enters_77 : decode cX12_enters 77 = .ok (.iaload, 1) := by decide +kernel
theorem dX12_enters_78 : decode cX12_enters 78 = .ok (.iconst 1, 1) := by decide +kernel
theorem dX12_enters_79 : decode cX12_enters 79 = .ok (.iadd, 1) := by decide +kernel
theorem dX12_enters_80 : decode cX12_enters 80 = .ok (.iastore, 1) := by decide +kernel
theorem dX12_enters_81 : decode cX12_enters 81 = .ok (.aload_n 0, 1) := by decide +kernel
theorem dX12_enters_82 : decode cX12_enters 82 = .ok (.dup, 1) := by decide +kernel
theorem dX12_enters_83 : decode cX12_enters 83 = .ok (.getfield 50, 3) := by decide +kernel
theorem dX12_enters_86 : decode cX12_enters 86 = .ok (.iconst 1, 1) := by decide +kernel
theorem dX12_enters_87 : decode cX12_enters 87 = .ok (.iadd, 1) := by decide +kernel
theorem dX12_enters_88 : decode cX12_enters 88 = .ok (.putfield 50, 3) := by decide +kernel
theorem dX12_enters_91 : decode cX12_enters 91 = .ok (.iload 5, 2) := by decide +kernel
theorem dX12_enters_93 : decode cX12_enters 93 = .ok (.ireturn, 1) := by decide +kernel
theorem hd_Mo_enters_94 : y_Mo_enters_94.cls ≠ "java/lang/invoke/MethodHandle" ∧ y_Mo_enters_94.cls ≠ "java/lang/invoke/VarHandle" ∧ (parseMethodDescriptor y_Mo_enters_94.desc).map (fun d => d.parameters.length) = some 4 := by decide +kernel
def f_Mo_enters_94 (a1 : Int32) (a2 : Int32) (a3 : Int32) (a4 : Int32) (M0 : Mem) : Option (Int32 × Mem) :=
  if inb (190 + (M0.1 95 2)) 4700 then jv_ (wI M0 95 (190 + (M0.1 95 2)).toNatClampNeg a2) fun M2 => if inb (310 + (M0.1 95 2)) 4700 then jv_ (wI M2 95 (310 + (M0.1 95 2)).toNatClampNeg a1) fun M4 => if inb (430 + (M0.1 95 2)) 4700 then jv_ (wI M4 95 (430 + (M0.1 95 2)).toNatClampNeg a3) fun M6 => if inb (550 + (M0.1 95 2)) 4700 then jv_ (wI M6 95 (550 + (M0.1 95 2)).toNatClampNeg a4) fun M8 => if inb (670 + (M0.1 95 2)) 4700 then jv_ (wI M8 95 (670 + (M0.1 95 2)).toNatClampNeg 999) fun M10 => jv_ (wI M10 95 2 ((M10.1 95 2) + 1)) fun M11 => jv_ (wI M11 94 21 ((M11.1 94 21) + 1)) fun M12 => some (M0.1 95 2, M12) else none else none else none else none else none
set_option maxHeartbeats 4000000 in
set_option maxRecDepth 20000 in
theorem C_Mo_enters_94 {D : va_G} {ad adK adV : Nat → Nat} {cI cJ : ClassId} {l : Launch} (a1 : Int32) (a2 : Int32) (a3 : Int32) (a4 : Int32) (M0 : Mem) (o : Int32 × Mem) (h : f_Mo_enters_94 a1 a2 a3 a4 M0 = some o) : Ct D ad adK adV cI cJ l y_Mo_enters_94 cX12_enters 6 (some .int) 0 0 [.ref (ad 94), .int a1, .int a2, .int a3, .int a4] M0 (some (.int o.1)) o.2 := by
  refine x_start (lv := [(0, .ref (ad 94)), (1, .int a1), (2, .int a2), (3, .int a3), (4, .int a4)]) (own := "CurrentFarmsModel") rfl (by decide) (Nat.le_of_ble_eq_true rfl) rfl ?_
  intro p e s m args below meth c Q hQ B
  unfold f_Mo_enters_94 at h
  refine x_aload_n (pc := 0) B 0 dX12_enters_0 rfl rfl ?_
  refine x_get (T := TX12) (pc := 1) B 1 oi_94 rfl uw_12 (by decide) rfl tw_1300 rfl dX12_enters_1 ?_
  refine x_iconst (v := 2) (pc := 4) B dX12_enters_4 rfl ?_
  refine x_iald_c (j := 2) (pc := 5) B ai_95 (by decide) rfl dX12_enters_5 ?_
  refine x_istore (lv' := [(5, .int (M0.1 95 2)), (0, .ref (ad 94)), (1, .int a1), (2, .int a2), (3, .int a3), (4, .int a4)]) (pc := 6) B dX12_enters_6 (by decide) rfl ?_
  refine x_aload_n (pc := 8) B 1 dX12_enters_8 rfl rfl ?_
  refine x_get (T := TX12) (pc := 9) B 1 oi_94 rfl uw_12 (by decide) rfl tw_1300 rfl dX12_enters_9 ?_
  refine x_sipush (v := 190) (pc := 12) B dX12_enters_12 rfl ?_
  refine x_iload (pc := 15) B 0 dX12_enters_15 rfl ?_
  refine x_iadd (pc := 17) B dX12_enters_17 ?_
  refine x_iload_n (pc := 18) B 3 dX12_enters_18 rfl rfl ?_
  obtain ⟨hk1, h⟩ := ifn h
  refine x_iast (pc := 19) B ai_95 hk1 dX12_enters_19 ?_
  refine jv_m (P := fun M2 => XX D ad cI cJ p l e (Rm 0 0) s m args below meth c Q 6 M2 20 [(5, .int (M0.1 95 2)), (0, .ref (ad 94)), (1, .int a1), (2, .int a2), (3, .int a3), (4, .int a4)] []) h (fun M2 h => ?_)
  refine x_aload_n (pc := 20) B 1 dX12_enters_20 rfl rfl ?_
  refine x_get (T := TX12) (pc := 21) B 1 oi_94 rfl uw_12 (by decide) rfl tw_1300 rfl dX12_enters_21 ?_
  refine x_sipush (v := 310) (pc := 24) B dX12_enters_24 rfl ?_
  refine x_iload (pc := 27) B 0 dX12_enters_27 rfl ?_
  refine x_iadd (pc := 29) B dX12_enters_29 ?_
  refine x_iload_n (pc := 30) B 2 dX12_enters_30 rfl rfl ?_
  obtain ⟨hk3, h⟩ := ifn h
  refine x_iast (pc := 31) B ai_95 hk3 dX12_enters_31 ?_
  refine jv_m (P := fun M4 => XX D ad cI cJ p l e (Rm 0 0) s m args below meth c Q 6 M4 32 [(5, .int (M0.1 95 2)), (0, .ref (ad 94)), (1, .int a1), (2, .int a2), (3, .int a3), (4, .int a4)] []) h (fun M4 h => ?_)
  refine x_aload_n (pc := 32) B 1 dX12_enters_32 rfl rfl ?_
  refine x_get (T := TX12) (pc := 33) B 1 oi_94 rfl uw_12 (by decide) rfl tw_1300 rfl dX12_enters_33 ?_
  refine x_sipush (v := 430) (pc := 36) B dX12_enters_36 rfl ?_
  refine x_iload (pc := 39) B 0 dX12_enters_39 rfl ?_
  refine x_iadd (pc := 41) B dX12_enters_41 ?_
  refine x_iload_n (pc := 42) B 4 dX12_enters_42 rfl rfl ?_
  obtain ⟨hk5, h⟩ := ifn h
  refine x_iast (pc := 43) B ai_95 hk5 dX12_enters_43 ?_
  refine jv_m (P := fun M6 => XX D ad cI cJ p l e (Rm 0 0) s m args below meth c Q 6 M6 44 [(5, .int (M0.1 95 2)), (0, .ref (ad 94)), (1, .int a1), (2, .int a2), (3, .int a3), (4, .int a4)] []) h (fun M6 h => ?_)
  refine x_aload_n (pc := 44) B 1 dX12_enters_44 rfl rfl ?_
  refine x_get (T := TX12) (pc := 45) B 1 oi_94 rfl uw_12 (by decide) rfl tw_1300 rfl dX12_enters_45 ?_
  refine x_sipush (v := 550) (pc := 48) B dX12_enters_48 rfl ?_
  refine x_iload (pc := 51) B 0 dX12_enters_51 rfl ?_
  refine x_iadd (pc := 53) B dX12_enters_53 ?_
  refine x_iload (pc := 54) B 5 dX12_enters_54 rfl ?_
  obtain ⟨hk7, h⟩ := ifn h
  refine x_iast (pc := 56) B ai_95 hk7 dX12_enters_56 ?_
  refine jv_m (P := fun M8 => XX D ad cI cJ p l e (Rm 0 0) s m args below meth c Q 6 M8 57 [(5, .int (M0.1 95 2)), (0, .ref (ad 94)), (1, .int a1), (2, .int a2), (3, .int a3), (4, .int a4)] []) h (fun M8 h => ?_)
  refine x_aload_n (pc := 57) B 1 dX12_enters_57 rfl rfl ?_
  refine x_get (T := TX12) (pc := 58) B 1 oi_94 rfl uw_12 (by decide) rfl tw_1300 rfl dX12_enters_58 ?_
  refine x_sipush (v := 670) (pc := 61) B dX12_enters_61 rfl ?_
  refine x_iload (pc := 64) B 0 dX12_enters_64 rfl ?_
  refine x_iadd (pc := 66) B dX12_enters_66 ?_
  refine x_sipush (v := 999) (pc := 67) B dX12_enters_67 rfl ?_
  obtain ⟨hk9, h⟩ := ifn h
  refine x_iast (pc := 70) B ai_95 hk9 dX12_enters_70 ?_
  refine jv_m (P := fun M10 => XX D ad cI cJ p l e (Rm 0 0) s m args below meth c Q 6 M10 71 [(5, .int (M0.1 95 2)), (0, .ref (ad 94)), (1, .int a1), (2, .int a2), (3, .int a3), (4, .int a4)] []) h (fun M10 h => ?_)
  refine x_aload_n (pc := 71) B 1 dX12_enters_71 rfl rfl ?_
  refine x_get (T := TX12) (pc := 72) B 1 oi_94 rfl uw_12 (by decide) rfl tw_1300 rfl dX12_enters_72 ?_
  refine x_iconst (v := 2) (pc := 75) B dX12_enters_75 rfl ?_
  refine x_dup2 (pc := 76) B dX12_enters_76 rfl rfl ?_
  refine x_iald_c (j := 2) (pc := 77) B ai_95 (by decide) rfl dX12_enters_77 ?_
  refine x_iconst (v := 1) (pc := 78) B dX12_enters_78 rfl ?_
  refine x_iadd (pc := 79) B dX12_enters_79 ?_
  refine x_iast_c (j := 2) (pc := 80) B ai_95 (by decide) rfl dX12_enters_80 ?_
  refine jv_m (P := fun M11 => XX D ad cI cJ p l e (Rm 0 0) s m args below meth c Q 6 M11 81 [(5, .int (M0.1 95 2)), (0, .ref (ad 94)), (1, .int a1), (2, .int a2), (3, .int a3), (4, .int a4)] []) h (fun M11 h => ?_)
  refine x_aload_n (pc := 81) B 1 dX12_enters_81 rfl rfl ?_
  refine x_dup (pc := 82) B dX12_enters_82 rfl ?_
  refine x_get (T := TX12) (pc := 83) B 21 oi_94 rfl uw_12 (by decide) rfl tw_1320 rfl dX12_enters_83 ?_
  refine x_iconst (v := 1) (pc := 86) B dX12_enters_86 rfl ?_
  refine x_iadd (pc := 87) B dX12_enters_87 ?_
  refine x_put (T := TX12) (pc := 88) B 21 oi_94 of_94_21 rfl uw_12 tyX12_ok nmX12 (by decide) rfl tw_1320 rfl rfl rfl (Nat.le_of_ble_eq_true rfl) dX12_enters_88 ?_
  refine jv_m (P := fun M12 => XX D ad cI cJ p l e (Rm 0 0) s m args below meth c Q 6 M12 91 [(5, .int (M0.1 95 2)), (0, .ref (ad 94)), (1, .int a1), (2, .int a2), (3, .int a3), (4, .int a4)] []) h (fun M12 h => ?_)
  refine x_iload (pc := 91) B 0 dX12_enters_91 rfl ?_
  obtain rfl := Option.some.inj h
  exact x_iret (pc := 93) B hQ dX12_enters_93
-- CurrentFarmsModel.sign(IIII)I [94]
abbrev y_Mo_sign_94 : MethodName := ⟨"CurrentFarmsModel", "sign", "(IIII)I"⟩
abbrev cX12_sign : ByteArray := prog_14_method_19_code
theorem dX12_sign_0 : decode cX12_sign 0 = .ok (.aload_n 0, 1) := by decide +kernel
theorem dX12_sign_1 : decode cX12_sign 1 = .ok (.iload_n 1, 1) := by decide +kernel
theorem dX12_sign_2 : decode cX12_sign 2 = .ok (.invokevirtual 110, 3) := by decide +kernel
theorem dX12_sign_5 : decode cX12_sign 5 = .ok (.ifCond .eq 12, 3) := by decide +kernel
theorem dX12_sign_8 : decode cX12_sign 8 = .ok (.iload_n 2, 1) := by decide +kernel
theorem dX12_sign_9 : decode cX12_sign 9 = .ok (.iconst 0, 1) := by decide +kernel
theorem dX12_sign_10 : decode cX12_sign 10 = .ok (.iconst 4, 1) := by decide +kernel
theorem dX12_sign_11 : decode cX12_sign 11 = .ok (.invokestatic 84, 3) := by decide +kernel
theorem dX12_sign_14 : decode cX12_sign 14 = .ok (.ifCond .ne 5, 3) := by decide +kernel
theorem dX12_sign_17 : decode cX12_sign 17 = .ok (.iconst (-1), 1) := by decide +kernel
theorem dX12_sign_18 : decode cX12_sign 18 = .ok (.ireturn, 1) := by decide +kernel
theorem dX12_sign_19 : decode cX12_sign 19 = .ok (.iload_n 3, 1) := by decide +kernel
theorem dX12_sign_20 : decode cX12_sign 20 = .ok (.iconst 0, 1) := by decide +kernel
theorem dX12_sign_21 : decode cX12_sign 21 = .ok (.aload_n 0, 1) := by decide +kernel
theorem dX12_sign_22 : decode cX12_sign 22 = .ok (.getfield 7, 3) := by decide +kernel
theorem dX12_sign_25 : decode cX12_sign 25 = .ok (.iconst 0, 1) := by decide +kernel
theorem dX12_sign_26 : decode cX12_sign 26 = .ok (.iaload, 1) := by decide +kernel
theorem dX12_sign_27 : decode cX12_sign 27 = .ok (.invokestatic 84, 3) := by decide +kernel
theorem dX12_sign_30 : decode cX12_sign 30 = .ok (.ifCond .eq 19, 3) := by decide +kernel
theorem dX12_sign_33 : decode cX12_sign 33 = .ok (.iload_n 2, 1) := by decide +kernel
theorem dX12_sign_34 : decode cX12_sign 34 = .ok (.iconst 1, 1) := by decide +kernel
theorem dX12_sign_35 : decode cX12_sign 35 = .ok (.if_icmp .ne 17, 3) := by decide +kernel
theorem dX12_sign_38 : decode cX12_sign 38 = .ok (.iload 4, 2) := by decide +kernel
theorem dX12_sign_40 : decode cX12_sign 40 = .ok (.iconst 1, 1) := by decide +kernel
theorem dX12_sign_41 : decode cX12_sign 41 = .ok (.bipush 10, 2) := by decide +kernel
theorem dX12_sign_43 : decode cX12_sign 43 = .ok (.invokestatic 84, 3) := by decide +kernel
theorem dX12_sign_46 : decode cX12_sign 46 = .ok (.ifCond .ne 6, 3) := by decide +kernel
theorem dX12_sign_49 : decode cX12_sign 49 = .ok (.bipush (-2), 2) := by decide +kernel
theorem dX12_sign_51 : decode cX12_sign 51 = .ok (.ireturn, 1) := by decide +kernel
theorem dX12_sign_52 : decode cX12_sign 52 = .ok (.aload_n 0, 1) := by decide +kernel
theorem dX12_sign_53 : decode cX12_sign 53 = .ok (.getfield 7, 3) := by decide +kernel
theorem dX12_sign_56 : decode cX12_sign 56 = .ok (.iconst 2, 1) := by decide +kernel
theorem dX12_sign_57 : decode cX12_sign 57 = .ok (.iaload, 1) := by decide +kernel
theorem dX12_sign_58 : decode cX12_sign 58 = .ok (.bipush 120, 2) := by decide +kernel
theorem dX12_sign_60 : decode cX12_sign 60 = .ok (.if_icmp .ne 8, 3) := by decide +kernel
theorem dX12_sign_63 : decode cX12_sign 63 = .ok (.bipush (-4), 2) := by decide +kernel
theorem dX12_sign_65 : decode cX12_sign 65 = .ok (.goto 12, 3) := by decide +kernel
theorem dX12_sign_68 : decode cX12_sign 68 = .ok (.aload_n 0, 1) := by decide +kernel
theorem dX12_sign_69 : decode cX12_sign 69 = .ok (.iload_n 1, 1) := by decide +kernel
theorem dX12_sign_70 : decode cX12_sign 70 = .ok (.iload_n 2, 1) := by decide +kernel
theorem dX12_sign_71 : decode cX12_sign 71 = .ok (.iload_n 3, 1) := by decide +kernel
theorem dX12_sign_72 : decode cX12_sign 72 = .ok (.iload 4, 2) := by decide +kernel
theorem dX12_sign_74 : decode cX12_sign 74 = .ok (.invokevirtual 113, 3) := by decide +kernel
theorem dX12_sign_77 : decode cX12_sign 77 = .ok (.ireturn, 1) := by decide +kernel
theorem hd_Mo_sign_94 : y_Mo_sign_94.cls ≠ "java/lang/invoke/MethodHandle" ∧ y_Mo_sign_94.cls ≠ "java/lang/invoke/VarHandle" ∧ (parseMethodDescriptor y_Mo_sign_94.desc).map (fun d => d.parameters.length) = some 4 := by decide +kernel
def f_Mo_sign_94 (a1 : Int32) (a2 : Int32) (a3 : Int32) (a4 : Int32) (M0 : Mem) : Option (Int32 × Mem) :=
  (f_Mo_isFarm_94 a1 M0).bind fun q1 => if q1 then ((f_Mo_in a2 0 4).bind fun q3 => if q3 then ((f_Mo_in a3 0 (M0.1 95 0)).bind fun q5 => if q5 then (jn_ (fun (u8 : Unit) => if decide ((M0.1 95 2) = 120) then (some ((-4), M0)) else ((f_Mo_enters_94 a1 a2 a3 a4 M0).bind fun q10 => some (q10.1, q10.2))) fun k11 => if decide (a2 = 1) then ((f_Mo_in a4 1 10).bind fun q12 => if q12 then (k11 ()) else (some ((-2), M0))) else (k11 ())) else (some ((-2), M0))) else (some ((-1), M0))) else (some ((-1), M0))
set_option maxHeartbeats 4000000 in
set_option maxRecDepth 20000 in
theorem C_Mo_sign_94 {D : va_G} {ad adK adV : Nat → Nat} {cI cJ : ClassId} {l : Launch} (a1 : Int32) (a2 : Int32) (a3 : Int32) (a4 : Int32) (M0 : Mem) (o : Int32 × Mem) (h : f_Mo_sign_94 a1 a2 a3 a4 M0 = some o) : Ct D ad adK adV cI cJ l y_Mo_sign_94 cX12_sign 5 (some .int) 2 43 [.ref (ad 94), .int a1, .int a2, .int a3, .int a4] M0 (some (.int o.1)) o.2 := by
  refine x_start (lv := [(0, .ref (ad 94)), (1, .int a1), (2, .int a2), (3, .int a3), (4, .int a4)]) (own := "CurrentFarmsModel") rfl (by decide) (Nat.le_of_ble_eq_true rfl) rfl ?_
  intro p e s m args below meth c Q hQ B
  unfold f_Mo_sign_94 at h
  refine x_aload_n (pc := 0) B 0 dX12_sign_0 rfl rfl ?_
  refine x_iload_n (pc := 1) B 1 dX12_sign_1 rfl rfl ?_
  obtain ⟨q1, hq1, h⟩ := bnd h
  refine x_callV (rest := []) (st' := [.int (bI q1)]) (pc := 2) B oi_94 rfl (C_Mo_isFarm_94 a1 M0 _ hq1) tw_1448 tw_1445 tw_1447 tw_46 tw_111 hd_Mo_isFarm_94 ⟨Nat.le_of_ble_eq_true rfl, Nat.le_of_ble_eq_true rfl⟩ rfl rfl (Nat.le_of_ble_eq_true rfl) rfl dX12_sign_2 ?_
  refine x_if_eq_b (tgt := 17) (pc := 5) B dX12_sign_5 rfl (fun hc2 => ?_) (fun hc2 => ?_)
  · have h := iff_ hc2 h
    refine x_iconst (v := (-1)) (pc := 17) B dX12_sign_17 rfl ?_
    obtain rfl := Option.some.inj h
    exact x_iret (pc := 18) B hQ dX12_sign_18
  · have h := ift hc2 h
    refine x_iload_n (pc := 8) B 2 dX12_sign_8 rfl rfl ?_
    refine x_iconst (v := 0) (pc := 9) B dX12_sign_9 rfl ?_
    refine x_iconst (v := 4) (pc := 10) B dX12_sign_10 rfl ?_
    obtain ⟨q3, hq3, h⟩ := bnd h
    refine x_callS (rest := []) (st' := [.int (bI q3)]) (pc := 11) B (C_Mo_in a2 0 4 M0 _ hq3) tw_1406 tw_1404 tw_1405 tw_111 hd_Mo_in ⟨Nat.le_of_ble_eq_true rfl, Nat.le_of_ble_eq_true rfl⟩ rfl rfl (Nat.le_of_ble_eq_true rfl) rfl dX12_sign_11 ?_
    refine x_if_ne_b (tgt := 19) (pc := 14) B dX12_sign_14 rfl (fun hc4 => ?_) (fun hc4 => ?_)
    · have h := ift hc4 h
      refine x_iload_n (pc := 19) B 3 dX12_sign_19 rfl rfl ?_
      refine x_iconst (v := 0) (pc := 20) B dX12_sign_20 rfl ?_
      refine x_aload_n (pc := 21) B 0 dX12_sign_21 rfl rfl ?_
      refine x_get (T := TX12) (pc := 22) B 1 oi_94 rfl uw_12 (by decide) rfl tw_1300 rfl dX12_sign_22 ?_
      refine x_iconst (v := 0) (pc := 25) B dX12_sign_25 rfl ?_
      refine x_iald_c (j := 0) (pc := 26) B ai_95 (by decide) rfl dX12_sign_26 ?_
      obtain ⟨q5, hq5, h⟩ := bnd h
      refine x_callS (rest := []) (st' := [.int (bI q5)]) (pc := 27) B (C_Mo_in a3 0 (M0.1 95 0) M0 _ hq5) tw_1406 tw_1404 tw_1405 tw_111 hd_Mo_in ⟨Nat.le_of_ble_eq_true rfl, Nat.le_of_ble_eq_true rfl⟩ rfl rfl (Nat.le_of_ble_eq_true rfl) rfl dX12_sign_27 ?_
      refine x_if_eq_b (tgt := 49) (pc := 30) B dX12_sign_30 rfl (fun hc6 => ?_) (fun hc6 => ?_)
      · have h := iff_ hc6 h
        refine x_bipush (v := (-2)) (pc := 49) B dX12_sign_49 rfl ?_
        obtain rfl := Option.some.inj h
        exact x_iret (pc := 51) B hQ dX12_sign_51
      · have h := ift hc6 h
        refine x_iload_n (pc := 33) B 2 dX12_sign_33 rfl rfl ?_
        refine x_iconst (v := 1) (pc := 34) B dX12_sign_34 rfl ?_
        refine jn_k h (fun (u8 : Unit) => XX D ad cI cJ p l e (Rm 2 43) s m args below meth c Q 5 M0 52 [(0, .ref (ad 94)), (1, .int a1), (2, .int a2), (3, .int a3), (4, .int a4)] []) (fun u8 h => ?_) (fun k11 h JJ => ?_)
        · refine x_aload_n (pc := 52) B 0 dX12_sign_52 rfl rfl ?_
          refine x_get (T := TX12) (pc := 53) B 1 oi_94 rfl uw_12 (by decide) rfl tw_1300 rfl dX12_sign_53 ?_
          refine x_iconst (v := 2) (pc := 56) B dX12_sign_56 rfl ?_
          refine x_iald_c (j := 2) (pc := 57) B ai_95 (by decide) rfl dX12_sign_57 ?_
          refine x_bipush (v := 120) (pc := 58) B dX12_sign_58 rfl ?_
          refine x_icmp_ne (tgt := 68) (pc := 60) B dX12_sign_60 rfl (fun hc9 => ?_) (fun hc9 => ?_)
          · have h := iff_ hc9 h
            refine x_aload_n (pc := 68) B 0 dX12_sign_68 rfl rfl ?_
            refine x_iload_n (pc := 69) B 1 dX12_sign_69 rfl rfl ?_
            refine x_iload_n (pc := 70) B 2 dX12_sign_70 rfl rfl ?_
            refine x_iload_n (pc := 71) B 3 dX12_sign_71 rfl rfl ?_
            refine x_iload (pc := 72) B 4 dX12_sign_72 rfl ?_
            obtain ⟨q10, hq10, h⟩ := bnd h
            refine x_callV (rest := []) (st' := [.int q10.1]) (pc := 74) B oi_94 rfl (C_Mo_enters_94 a1 a2 a3 a4 M0 _ hq10) tw_1452 tw_1449 tw_1451 tw_47 tw_111 hd_Mo_enters_94 ⟨Nat.le_of_ble_eq_true rfl, Nat.le_of_ble_eq_true rfl⟩ rfl rfl (Nat.le_of_ble_eq_true rfl) rfl dX12_sign_74 ?_
            obtain rfl := Option.some.inj h
            exact x_iret (pc := 77) B hQ dX12_sign_77
          · have h := ift hc9 h
            refine x_bipush (v := (-4)) (pc := 63) B dX12_sign_63 rfl ?_
            refine x_goto (tgt := 77) (pc := 65) B dX12_sign_65 rfl ?_
            obtain rfl := Option.some.inj h
            exact x_iret (pc := 77) B hQ dX12_sign_77
        · refine x_icmp_ne (tgt := 52) (pc := 35) B dX12_sign_35 rfl (fun hc7 => ?_) (fun hc7 => ?_)
          · have h := iff_ hc7 h
            have z := JJ () h
            exact z
          · have h := ift hc7 h
            refine x_iload (pc := 38) B 4 dX12_sign_38 rfl ?_
            refine x_iconst (v := 1) (pc := 40) B dX12_sign_40 rfl ?_
            refine x_bipush (v := 10) (pc := 41) B dX12_sign_41 rfl ?_
            obtain ⟨q12, hq12, h⟩ := bnd h
            refine x_callS (rest := []) (st' := [.int (bI q12)]) (pc := 43) B (C_Mo_in a4 1 10 M0 _ hq12) tw_1406 tw_1404 tw_1405 tw_111 hd_Mo_in ⟨Nat.le_of_ble_eq_true rfl, Nat.le_of_ble_eq_true rfl⟩ rfl rfl (Nat.le_of_ble_eq_true rfl) rfl dX12_sign_43 ?_
            refine x_if_ne_b (tgt := 52) (pc := 46) B dX12_sign_46 rfl (fun hc13 => ?_) (fun hc13 => ?_)
            · have h := ift hc13 h
              have z := JJ () h
              exact z
            · have h := iff_ hc13 h
              refine x_bipush (v := (-2)) (pc := 49) B dX12_sign_49 rfl ?_
              obtain rfl := Option.some.inj h
              exact x_iret (pc := 51) B hQ dX12_sign_51
    · have h := iff_ hc4 h
      refine x_iconst (v := (-1)) (pc := 17) B dX12_sign_17 rfl ?_
      obtain rfl := Option.some.inj h
      exact x_iret (pc := 18) B hQ dX12_sign_18
-- CurrentFarmsModel.strike(I)I [94]
abbrev y_Mo_strike_94 : MethodName := ⟨"CurrentFarmsModel", "strike", "(I)I"⟩
abbrev cX12_strike : ByteArray := prog_14_method_20_code
theorem dX12_strike_0 : decode cX12_strike 0 = .ok (.iload_n 1, 1) := by decide +kernel
theorem dX12_strike_1 : decode cX12_strike 1 = .ok (.iconst 0, 1) := by decide +kernel
theorem dX12_strike_2 : decode cX12_strike 2 = .ok (.aload_n 0, 1) := by decide +kernel
theorem dX12_strike_3 : decode cX12_strike 3 = .ok (.getfield 7, 3) := by decide +kernel
theorem dX12_strike_6 : decode cX12_strike 6 = .ok (.iconst 2, 1) := by decide +kernel
theorem dX12_strike_7 : decode cX12_strike 7 = .ok (.iaload, 1) := by decide +kernel
theorem dX12_strike_8 : decode cX12_strike 8 = .ok (.iconst 1, 1) := by decide +kernel
theorem dX12_strike_9 : decode cX12_strike 9 = .ok (.isub, 1) := by decide +kernel
theorem dX12_strike_10 : decode cX12_strike 10 = .ok (.invokestatic 84, 3) := by decide +kernel
theorem dX12_strike_13 : decode cX12_strike 13 = .ok (.ifCond .ne 5, 3) := by decide +kernel
theorem dX12_strike_16 : decode cX12_strike 16 = .ok (.iconst (-1), 1) := by decide +kernel
theorem dX12_strike_17 : decode cX12_strike 17 = .ok (.ireturn, 1) := by decide +kernel
theorem dX12_strike_18 : decode cX12_strike 18 = .ok (.aload_n 0, 1) := by decide +kernel
theorem dX12_strike_19 : decode cX12_strike 19 = .ok (.getfield 7, 3) := by decide +kernel
theorem dX12_strike_22 : decode cX12_strike 22 = .ok (.sipush 190, 3) := by decide +kernel
theorem dX12_strike_25 : decode cX12_strike 25 = .ok (.iload_n 1, 1) := by decide +kernel
theorem dX12_strike_26 : decode cX12_strike 26 = .ok (.iadd, 1) := by decide +kernel
theorem dX12_strike_27 : decode cX12_strike 27 = .ok (.iaload, 1) := by decide +kernel
theorem dX12_strike_28 : decode cX12_strike 28 = .ok (.iconst 5, 1) := by decide +kernel
theorem dX12_strike_29 : decode cX12_strike 29 = .ok (.if_icmp .eq 19, 3) := by decide +kernel
theorem dX12_strike_32 : decode cX12_strike 32 = .ok (.aload_n 0, 1) := by decide +kernel
theorem dX12_strike_33 : decode cX12_strike 33 = .ok (.getfield 7, 3) := by decide +kernel
theorem dX12_strike_36 : decode cX12_strike 36 = .ok (.sipush 670, 3) := by decide +kernel
theorem dX12_strike_39 : decode cX12_strike 39 = .ok (.iload_n 1, 1) := by decide +kernel
theorem dX12_strike_40 : decode cX12_strike 40 = .ok (.iadd, 1) := by decide +kernel
theorem dX12_strike_41 : decode cX12_strike 41 = .ok (.iaload, 1) := by decide +kernel
theorem dX12_strike_42 : decode cX12_strike 42 = .ok (.sipush 999, 3) := by decide +kernel
theorem dX12_strike_45 : decode cX12_strike 45 = .ok (.if_icmp .eq 6, 3) := by decide +kernel
theorem dX12_strike_48 : decode cX12_strike 48 = .ok (.bipush (-3), 2) := by decide +kernel
theorem dX12_strike_50 : decode cX12_strike 50 = .ok (.ireturn, 1) := by decide +kernel
theorem dX12_strike_51 : decode cX12_strike 51 = .ok (.aload_n 0, 1) := by decide +kernel
theorem dX12_strike_52 : decode cX12_strike 52 = .ok (.getfield 7, 3) := by decide +kernel
theorem dX12_strike_55 : decode cX12_strike 55 = .ok (.iconst 2, 1) := by decide +kernel
theorem dX12_strike_56 : decode cX12_strike 56 = .ok (.iaload, 1) := by decide +kernel
theorem dX12_strike_57 : decode cX12_strike 57 = .ok (.bipush 120, 2) := by decide +kernel
theorem dX12_strike_59 : decode cX12_strike 59 = .ok (.if_icmp .ne 6, 3) := by decide +kernel
theorem dX12_strike_62 : decode cX12_strike 62 = .ok (.bipush (-4), 2) := by decide +kernel
theorem dX12_strike_64 : decode cX12_strike 64 = .ok (.ireturn, 1) := by decide +kernel
theorem dX12_strike_65 : decode cX12_strike 65 = .ok (.aload_n 0, 1) := by decide +kernel
theorem dX12_strike_66 : decode cX12_strike 66 = .ok (.iconst (-1), 1) := by decide +kernel
theorem dX12_strike_67 : decode cX12_strike 67 = .ok (.iconst 5, 1) := by decide +kernel
theorem dX12_strike_68 : decode cX12_strike 68 = .ok (.aload_n 0, 1) := by decide +kernel
theorem dX12_strike_69 : decode cX12_strike 69 = .ok (.getfield 7, 3) := by decide +kernel
theorem dX12_strike_72 : decode cX12_strike 72 = .ok (.iconst 0, 1) := by decide +kernel
theorem dX12_strike_73 : decode cX12_strike 73 = .ok (.iaload, 1) := by decide +kernel
theorem dX12_strike_74 : decode cX12_strike 74 = .ok (.iconst 0, 1) := by decide +kernel
theorem dX12_strike_75 : decode cX12_strike 75 = .ok (.invokevirtual 113, 3) := by decide +kernel
theorem dX12_strike_78 : decode cX12_strike 78 = .ok (.istore_n 2, 1) := by decide +kernel
theorem dX12_strike_79 : decode cX12_strike 79 = .ok (.aload_n 0, 1) := by decide +kernel
theorem dX12_strike_80 : decode cX12_strike 80 = .ok (.getfield 7, 3) := by decide +kernel
theorem dX12_strike_83 : decode cX12_strike 83 = .ok (.sipush 670, 3) := by decide +kernel
theorem dX12_strike_86 : decode cX12_strike 86 = .ok (.iload_n 1, 1) := by decide +kernel
theorem dX12_strike_87 : decode cX12_strike 87 = .ok (.iadd, 1) := by decide +kernel
theorem dX12_strike_88 : decode cX12_strike 88 = .ok (.iload_n 2, 1) := by decide +kernel
theorem dX12_strike_89 : decode cX12_strike 89 = .ok (.iastore, 1) := by decide +kernel
theorem dX12_strike_90 : decode cX12_strike 90 = .ok (.aload_n 0, 1) := by decide +kernel
theorem dX12_strike_91 : decode cX12_strike 91 = .ok (.dup, 1) := by decide +kernel
theorem dX12_strike_92 : decode cX12_strike 92 = .ok (.getfield 50, 3) := by decide +kernel
theorem dX12_strike_95 : decode cX12_strike 95 = .ok (.iconst 1, 1) := by decide +kernel
theorem dX12_strike_96 : decode cX12_strike 96 = .ok (.iadd, 1) := by decide +kernel
theorem dX12_strike_97 : decode cX12_strike 97 = .ok (.putfield 50, 3) := by decide +kernel
theorem dX12_strike_100 : decode cX12_strike 100 = .ok (.iload_n 2, 1) := by decide +kernel
theorem dX12_strike_101 : decode cX12_strike 101 = .ok (.ireturn, 1) := by decide +kernel
theorem hd_Mo_strike_94 : y_Mo_strike_94.cls ≠ "java/lang/invoke/MethodHandle" ∧ y_Mo_strike_94.cls ≠ "java/lang/invoke/VarHandle" ∧ (parseMethodDescriptor y_Mo_strike_94.desc).map (fun d => d.parameters.length) = some 1 := by decide +kernel
def f_Mo_strike_94 (a1 : Int32) (M0 : Mem) : Option (Int32 × Mem) :=
  (f_Mo_in a1 0 ((M0.1 95 2) - 1)).bind fun q1 => if q1 then (if inb (190 + a1) 4700 then if decide ((M0.1 95 (190 + a1).toNatClampNeg) = 5) then (some ((-3), M0)) else (if inb (670 + a1) 4700 then if decide ((M0.1 95 (670 + a1).toNatClampNeg) = 999) then (if decide ((M0.1 95 2) = 120) then (some ((-4), M0)) else ((f_Mo_enters_94 (-1) 5 (M0.1 95 0) 0 M0).bind fun q8 => if inb (670 + a1) 4700 then jv_ (wI q8.2 95 (670 + a1).toNatClampNeg q8.1) fun M10 => jv_ (wI M10 94 21 ((M10.1 94 21) + 1)) fun M11 => some (q8.1, M11) else none)) else (some ((-3), M0)) else none) else none) else (some ((-1), M0))
set_option maxHeartbeats 4000000 in
set_option maxRecDepth 20000 in
theorem C_Mo_strike_94 {D : va_G} {ad adK adV : Nat → Nat} {cI cJ : ClassId} {l : Launch} (a1 : Int32) (M0 : Mem) (o : Int32 × Mem) (h : f_Mo_strike_94 a1 M0 = some o) : Ct D ad adK adV cI cJ l y_Mo_strike_94 cX12_strike 3 (some .int) 1 25 [.ref (ad 94), .int a1] M0 (some (.int o.1)) o.2 := by
  refine x_start (lv := [(0, .ref (ad 94)), (1, .int a1)]) (own := "CurrentFarmsModel") rfl (by decide) (Nat.le_of_ble_eq_true rfl) rfl ?_
  intro p e s m args below meth c Q hQ B
  unfold f_Mo_strike_94 at h
  refine x_iload_n (pc := 0) B 1 dX12_strike_0 rfl rfl ?_
  refine x_iconst (v := 0) (pc := 1) B dX12_strike_1 rfl ?_
  refine x_aload_n (pc := 2) B 0 dX12_strike_2 rfl rfl ?_
  refine x_get (T := TX12) (pc := 3) B 1 oi_94 rfl uw_12 (by decide) rfl tw_1300 rfl dX12_strike_3 ?_
  refine x_iconst (v := 2) (pc := 6) B dX12_strike_6 rfl ?_
  refine x_iald_c (j := 2) (pc := 7) B ai_95 (by decide) rfl dX12_strike_7 ?_
  refine x_iconst (v := 1) (pc := 8) B dX12_strike_8 rfl ?_
  refine x_isub (pc := 9) B dX12_strike_9 ?_
  obtain ⟨q1, hq1, h⟩ := bnd h
  refine x_callS (rest := []) (st' := [.int (bI q1)]) (pc := 10) B (C_Mo_in a1 0 ((M0.1 95 2) - 1) M0 _ hq1) tw_1406 tw_1404 tw_1405 tw_111 hd_Mo_in ⟨Nat.le_of_ble_eq_true rfl, Nat.le_of_ble_eq_true rfl⟩ rfl rfl (Nat.le_of_ble_eq_true rfl) rfl dX12_strike_10 ?_
  refine x_if_ne_b (tgt := 18) (pc := 13) B dX12_strike_13 rfl (fun hc2 => ?_) (fun hc2 => ?_)
  · have h := ift hc2 h
    refine x_aload_n (pc := 18) B 0 dX12_strike_18 rfl rfl ?_
    refine x_get (T := TX12) (pc := 19) B 1 oi_94 rfl uw_12 (by decide) rfl tw_1300 rfl dX12_strike_19 ?_
    refine x_sipush (v := 190) (pc := 22) B dX12_strike_22 rfl ?_
    refine x_iload_n (pc := 25) B 1 dX12_strike_25 rfl rfl ?_
    refine x_iadd (pc := 26) B dX12_strike_26 ?_
    obtain ⟨hk3, h⟩ := ifn h
    refine x_iald (pc := 27) B ai_95 hk3 dX12_strike_27 ?_
    refine x_iconst (v := 5) (pc := 28) B dX12_strike_28 rfl ?_
    refine x_icmp_eq (tgt := 48) (pc := 29) B dX12_strike_29 rfl (fun hc4 => ?_) (fun hc4 => ?_)
    · have h := ift hc4 h
      refine x_bipush (v := (-3)) (pc := 48) B dX12_strike_48 rfl ?_
      obtain rfl := Option.some.inj h
      exact x_iret (pc := 50) B hQ dX12_strike_50
    · have h := iff_ hc4 h
      refine x_aload_n (pc := 32) B 0 dX12_strike_32 rfl rfl ?_
      refine x_get (T := TX12) (pc := 33) B 1 oi_94 rfl uw_12 (by decide) rfl tw_1300 rfl dX12_strike_33 ?_
      refine x_sipush (v := 670) (pc := 36) B dX12_strike_36 rfl ?_
      refine x_iload_n (pc := 39) B 1 dX12_strike_39 rfl rfl ?_
      refine x_iadd (pc := 40) B dX12_strike_40 ?_
      obtain ⟨hk5, h⟩ := ifn h
      refine x_iald (pc := 41) B ai_95 hk5 dX12_strike_41 ?_
      refine x_sipush (v := 999) (pc := 42) B dX12_strike_42 rfl ?_
      refine x_icmp_eq (tgt := 51) (pc := 45) B dX12_strike_45 rfl (fun hc6 => ?_) (fun hc6 => ?_)
      · have h := ift hc6 h
        refine x_aload_n (pc := 51) B 0 dX12_strike_51 rfl rfl ?_
        refine x_get (T := TX12) (pc := 52) B 1 oi_94 rfl uw_12 (by decide) rfl tw_1300 rfl dX12_strike_52 ?_
        refine x_iconst (v := 2) (pc := 55) B dX12_strike_55 rfl ?_
        refine x_iald_c (j := 2) (pc := 56) B ai_95 (by decide) rfl dX12_strike_56 ?_
        refine x_bipush (v := 120) (pc := 57) B dX12_strike_57 rfl ?_
        refine x_icmp_ne (tgt := 65) (pc := 59) B dX12_strike_59 rfl (fun hc7 => ?_) (fun hc7 => ?_)
        · have h := iff_ hc7 h
          refine x_aload_n (pc := 65) B 0 dX12_strike_65 rfl rfl ?_
          refine x_iconst (v := (-1)) (pc := 66) B dX12_strike_66 rfl ?_
          refine x_iconst (v := 5) (pc := 67) B dX12_strike_67 rfl ?_
          refine x_aload_n (pc := 68) B 0 dX12_strike_68 rfl rfl ?_
          refine x_get (T := TX12) (pc := 69) B 1 oi_94 rfl uw_12 (by decide) rfl tw_1300 rfl dX12_strike_69 ?_
          refine x_iconst (v := 0) (pc := 72) B dX12_strike_72 rfl ?_
          refine x_iald_c (j := 0) (pc := 73) B ai_95 (by decide) rfl dX12_strike_73 ?_
          refine x_iconst (v := 0) (pc := 74) B dX12_strike_74 rfl ?_
          obtain ⟨q8, hq8, h⟩ := bnd h
          refine x_callV (rest := []) (st' := [.int q8.1]) (pc := 75) B oi_94 rfl (C_Mo_enters_94 (-1) 5 (M0.1 95 0) 0 M0 _ hq8) tw_1452 tw_1449 tw_1451 tw_47 tw_111 hd_Mo_enters_94 ⟨Nat.le_of_ble_eq_true rfl, Nat.le_of_ble_eq_true rfl⟩ rfl rfl (Nat.le_of_ble_eq_true rfl) rfl dX12_strike_75 ?_
          refine x_istore_n (lv' := [(2, .int q8.1), (0, .ref (ad 94)), (1, .int a1)]) (pc := 78) B dX12_strike_78 rfl (by decide) rfl ?_
          refine x_aload_n (pc := 79) B 1 dX12_strike_79 rfl rfl ?_
          refine x_get (T := TX12) (pc := 80) B 1 oi_94 rfl uw_12 (by decide) rfl tw_1300 rfl dX12_strike_80 ?_
          refine x_sipush (v := 670) (pc := 83) B dX12_strike_83 rfl ?_
          refine x_iload_n (pc := 86) B 2 dX12_strike_86 rfl rfl ?_
          refine x_iadd (pc := 87) B dX12_strike_87 ?_
          refine x_iload_n (pc := 88) B 0 dX12_strike_88 rfl rfl ?_
          obtain ⟨hk9, h⟩ := ifn h
          refine x_iast (pc := 89) B ai_95 hk9 dX12_strike_89 ?_
          refine jv_m (P := fun M10 => XX D ad cI cJ p l e (Rm 1 25) s m args below meth c Q 3 M10 90 [(2, .int q8.1), (0, .ref (ad 94)), (1, .int a1)] []) h (fun M10 h => ?_)
          refine x_aload_n (pc := 90) B 1 dX12_strike_90 rfl rfl ?_
          refine x_dup (pc := 91) B dX12_strike_91 rfl ?_
          refine x_get (T := TX12) (pc := 92) B 21 oi_94 rfl uw_12 (by decide) rfl tw_1320 rfl dX12_strike_92 ?_
          refine x_iconst (v := 1) (pc := 95) B dX12_strike_95 rfl ?_
          refine x_iadd (pc := 96) B dX12_strike_96 ?_
          refine x_put (T := TX12) (pc := 97) B 21 oi_94 of_94_21 rfl uw_12 tyX12_ok nmX12 (by decide) rfl tw_1320 rfl rfl rfl (Nat.le_of_ble_eq_true rfl) dX12_strike_97 ?_
          refine jv_m (P := fun M11 => XX D ad cI cJ p l e (Rm 1 25) s m args below meth c Q 3 M11 100 [(2, .int q8.1), (0, .ref (ad 94)), (1, .int a1)] []) h (fun M11 h => ?_)
          refine x_iload_n (pc := 100) B 0 dX12_strike_100 rfl rfl ?_
          obtain rfl := Option.some.inj h
          exact x_iret (pc := 101) B hQ dX12_strike_101
        · have h := ift hc7 h
          refine x_bipush (v := (-4)) (pc := 62) B dX12_strike_62 rfl ?_
          obtain rfl := Option.some.inj h
          exact x_iret (pc := 64) B hQ dX12_strike_64
      · have h := iff_ hc6 h
        refine x_bipush (v := (-3)) (pc := 48) B dX12_strike_48 rfl ?_
        obtain rfl := Option.some.inj h
        exact x_iret (pc := 50) B hQ dX12_strike_50
  · have h := iff_ hc2 h
    refine x_iconst (v := (-1)) (pc := 16) B dX12_strike_16 rfl ?_
    obtain rfl := Option.some.inj h
    exact x_iret (pc := 17) B hQ dX12_strike_17
-- CurrentFarmsModel.decides(III)I [94]
abbrev y_Mo_decides_94 : MethodName := ⟨"CurrentFarmsModel", "decides", "(III)I"⟩
abbrev cX12_decides : ByteArray := prog_14_method_21_code
theorem dX12_decides_0 : decode cX12_decides 0 = .ok (.iload_n 3, 1) := by decide +kernel
theorem dX12_decides_1 : decode cX12_decides 1 = .ok (.iconst (-1), 1) := by decide +kernel
theorem dX12_decides_2 : decode cX12_decides 2 = .ok (.if_icmp .ne 12, 3) := by decide +kernel
theorem dX12_decides_5 : decode cX12_decides 5 = .ok (.aload_n 0, 1) := by decide +kernel
theorem dX12_decides_6 : decode cX12_decides 6 = .ok (.getfield 7, 3) := by decide +kernel
theorem dX12_decides_9 : decode cX12_decides 9 = .ok (.iconst 2, 1) := by decide +kernel
theorem dX12_decides_10 : decode cX12_decides 10 = .ok (.iaload, 1) := by decide +kernel
theorem dX12_decides_11 : decode cX12_decides 11 = .ok (.goto 4, 3) := by decide +kernel
theorem dX12_decides_14 : decode cX12_decides 14 = .ok (.iload_n 3, 1) := by decide +kernel
theorem dX12_decides_15 : decode cX12_decides 15 = .ok (.istore 4, 2) := by decide +kernel
theorem dX12_decides_17 : decode cX12_decides 17 = .ok (.iconst (-1), 1) := by decide +kernel
theorem dX12_decides_18 : decode cX12_decides 18 = .ok (.istore 5, 2) := by decide +kernel
theorem dX12_decides_20 : decode cX12_decides 20 = .ok (.iconst 0, 1) := by decide +kernel
theorem dX12_decides_21 : decode cX12_decides 21 = .ok (.istore 6, 2) := by decide +kernel
theorem dX12_decides_23 : decode cX12_decides 23 = .ok (.iload 6, 2) := by decide +kernel
theorem dX12_decides_25 : decode cX12_decides 25 = .ok (.iload 4, 2) := by decide +kernel
theorem dX12_decides_27 : decode cX12_decides 27 = .ok (.if_icmp .ge 122, 3) := by decide +kernel
theorem dX12_decides_30 : decode cX12_decides 30 = .ok (.aload_n 0, 1) := by decide +kernel
theorem dX12_decides_31 : decode cX12_decides 31 = .ok (.getfield 7, 3) := by decide +kernel
theorem dX12_decides_34 : decode cX12_decides 34 = .ok (.sipush 190, 3) := by decide +kernel
theorem dX12_decides_37 : decode cX12_decides 37 = .ok (.iload 6, 2) := by decide +kernel
theorem dX12_decides_39 : decode cX12_decides 39 = .ok (.iadd, 1) := by decide +kernel
theorem dX12_decides_40 : decode cX12_decides 40 = .ok (.iaload, 1) := by decide +kernel
theorem dX12_decides_41 : decode cX12_decides 41 = .ok (.iconst 5, 1) := by decide +kernel
theorem dX12_decides_42 : decode cX12_decides 42 = .ok (.if_icmp .eq 53, 3) := by decide +kernel
theorem dX12_decides_45 : decode cX12_decides 45 = .ok (.aload_n 0, 1) := by decide +kernel
theorem dX12_decides_46 : decode cX12_decides 46 = .ok (.getfield 7, 3) := by decide +kernel
theorem dX12_decides_49 : decode cX12_decides 49 = .ok (.sipush 310, 3) := by decide +kernel
theorem dX12_decides_52 : decode cX12_decides 52 = .ok (.iload 6, 2) := by decide +kernel
theorem dX12_decides_54 : decode cX12_decides 54 = .ok (.iadd, 1) := by decide +kernel
theorem dX12_decides_55 : decode cX12_decides 55 = .ok (.iaload, 1) := by decide +kernel
theorem dX12_decides_56 : decode cX12_decides 56 = .ok (.iload_n 1, 1) := by decide +kernel
theorem dX12_decides_57 : decode cX12_decides 57 = .ok (.if_icmp .ne 38, 3) := by decide +kernel
theorem dX12_decides_60 : decode cX12_decides 60 = .ok (.aload_n 0, 1) := by decide +kernel
theorem dX12_decides_61 : decode cX12_decides 61 = .ok (.getfield 7, 3) := by decide +kernel
theorem dX12_decides_64 : decode cX12_decides 64 = .ok (.sipush 430, 3) := by decide +kernel
theorem dX12_decides_67 : decode cX12_decides 67 = .ok (.iload 6, 2) := by decide +kernel
theorem dX12_decides_69 : decode cX12_decides 69 = .ok (.iadd, 1) := by decide +kernel
theorem dX12_decides_70 : decode cX12_decides 70 = .ok (.iaload, 1) := by decide +kernel
theorem dX12_decides_71 : decode cX12_decides 71 = .ok (.iload_n 2, 1) := by decide +kernel
theorem dX12_decides_72 : decode cX12_decides 72 = .ok (.if_icmp .gt 23, 3) := by decide +kernel
theorem dX12_decides_75 : decode cX12_decides 75 = .ok (.aload_n 0, 1) := by decide +kernel
theorem dX12_decides_76 : decode cX12_decides 76 = .ok (.getfield 7, 3) := by decide +kernel
theorem dX12_decides_79 : decode cX12_decides 79 = .ok (.sipush 670, 3) := by decide +kernel
theorem dX12_decides_82 : decode cX12_decides 82 = .ok (.iload 6, 2) := by decide +kernel
theorem dX12_decides_84 : decode cX12_decides 84 = .ok (.iadd, 1) := by decide +kernel
theorem dX12_decides_85 : decode cX12_decides 85 = .ok (.iaload, 1) := by decide +kernel
theorem dX12_decides_86 : decode cX12_decides 86 = .ok (.iload 4, 2) := by decide +kernel
theorem dX12_decides_88 : decode cX12_decides 88 = .ok (.if_icmp .lt 7, 3) := by decide +kernel
theorem dX12_decides_91 : decode cX12_decides 91 = .ok (.iconst 1, 1) := by decide +kernel
theorem dX12_decides_92 : decode cX12_decides 92 = .ok (.goto 4, 3) := by decide +kernel
theorem dX12_decides_95 : decode cX12_decides 95 = .ok (.iconst 0, 1) := by decide +kernel
theorem dX12_decides_96 : decode cX12_decides 96 = .ok (.istore 7, 2) := by decide +kernel
theorem dX12_decides_98 : decode cX12_decides 98 = .ok (.iload 7, 2) := by decide +kernel
theorem dX12_decides_100 : decode cX12_decides 100 = .ok (.ifCond .eq 39, 3) := by decide +kernel
theorem dX12_decides_103 : decode cX12_decides 103 = .ok (.iload 5, 2) := by decide +kernel
theorem dX12_decides_105 : decode cX12_decides 105 = .ok (.iconst (-1), 1) := by decide +kernel
theorem dX12_decides_106 : decode cX12_decides 106 = .ok (.if_icmp .eq 28, 3) := by decide +kernel
theorem dX12_decides_109 : decode cX12_decides 109 = .ok (.aload_n 0, 1) := by decide +kernel
theorem dX12_decides_110 : decode cX12_decides 110 = .ok (.getfield 7, 3) := by decide +kernel
theorem dX12_decides_113 : decode cX12_decides 113 = .ok (.sipush 430, 3) := by decide +kernel
theorem dX12_decides_116 : decode cX12_decides 116 = .ok (.iload 6, 2) := by decide +kernel
theorem dX12_decides_118 : decode cX12_decides 118 = .ok (.iadd, 1) := by decide +kernel
theorem dX12_decides_119 : decode cX12_decides 119 = .ok (.iaload, 1) := by decide +kernel
theorem dX12_decides_120 : decode cX12_decides 120 = .ok (.aload_n 0, 1) := by decide +kernel
theorem dX12_decides_121 : decode cX12_decides 121 = .ok (.getfield 7, 3) := by decide +kernel
theorem dX12_decides_124 : decode cX12_decides 124 = .ok (.sipush 430, 3) := by decide +kernel
theorem dX12_decides_127 : decode cX12_decides 127 = .ok (.iload 5, 2) := by decide +kernel
theorem dX12_decides_129 : decode cX12_decides 129 = .ok (.iadd, 1) := by decide +kernel
theorem dX12_decides_130 : decode cX12_decides 130 = .ok (.iaload, 1) := by decide +kernel
theorem dX12_decides_131 : decode cX12_decides 131 = .ok (.if_icmp .lt 8, 3) := by decide +kernel
theorem dX12_decides_134 : decode cX12_decides 134 = .ok (.iload 6, 2) := by decide +kernel
theorem dX12_decides_136 : decode cX12_decides 136 = .ok (.goto 5, 3) := by decide +kernel
theorem dX12_decides_139 : decode cX12_decides 139 = .ok (.iload 5, 2) := by decide +kernel
theorem dX12_decides_141 : decode cX12_decides 141 = .ok (.istore 5, 2) := by decide +kernel
theorem dX12_decides_143 : decode cX12_decides 143 = .ok (.iinc 6 1, 3) := by decide +kernel
theorem dX12_decides_146 : decode cX12_decides 146 = .ok (.goto (-123), 3) := by decide +kernel
theorem dX12_decides_149 : decode cX12_decides 149 = .ok (.iload 5, 2) := by decide +kernel
theorem dX12_decides_151 : decode cX12_decides 151 = .ok (.ireturn, 1) := by decide +kernel
theorem hd_Mo_decides_94 : y_Mo_decides_94.cls ≠ "java/lang/invoke/MethodHandle" ∧ y_Mo_decides_94.cls ≠ "java/lang/invoke/VarHandle" ∧ (parseMethodDescriptor y_Mo_decides_94.desc).map (fun d => d.parameters.length) = some 3 := by decide +kernel
def b_Mo_decides_94_23 (a1 : Int32) (a2 : Int32) (M0 : Mem) (u3 : Int32) (y4 : Int32 × Int32) : Option ((Int32 × Int32) ⊕ (Int32)) :=
  if decide (y4.2 < u3) then (if inb (190 + y4.2) 4700 then jn_ (fun (u9 : Bool) => if u9 then (if decide (y4.1 = (-1)) then (some (.inl (y4.2, y4.2 + 1))) else (if inb (430 + y4.2) 4700 then if inb (430 + y4.1) 4700 then if decide ((M0.1 95 (430 + y4.2).toNatClampNeg) < (M0.1 95 (430 + y4.1).toNatClampNeg)) then (some (.inl (y4.1, y4.2 + 1))) else (some (.inl (y4.2, y4.2 + 1))) else none else none)) else (some (.inl (y4.1, y4.2 + 1)))) fun k15 => if decide ((M0.1 95 (190 + y4.2).toNatClampNeg) = 5) then (k15 false) else (if inb (310 + y4.2) 4700 then if decide ((M0.1 95 (310 + y4.2).toNatClampNeg) = a1) then (if inb (430 + y4.2) 4700 then if decide ((M0.1 95 (430 + y4.2).toNatClampNeg) ≤ a2) then (if inb (670 + y4.2) 4700 then if decide ((M0.1 95 (670 + y4.2).toNatClampNeg) < u3) then (k15 false) else (k15 true) else none) else (k15 false) else none) else (k15 false) else none) else none) else (some (.inr y4.1))
def f_Mo_decides_94 (a1 : Int32) (a2 : Int32) (a3 : Int32) (M0 : Mem) : Option (Int32) :=
  jv_ ((if decide (a3 = (-1)) then M0.1 95 2 else a3) : Int32) fun u3 => (itr (b_Mo_decides_94_23 a1 a2 M0 u3) FU ((-1), 0)).bind fun q22 => some q22
set_option maxHeartbeats 4000000 in
set_option maxRecDepth 20000 in
theorem C_Mo_decides_94 {D : va_G} {ad adK adV : Nat → Nat} {cI cJ : ClassId} {l : Launch} (a1 : Int32) (a2 : Int32) (a3 : Int32) (M0 : Mem) (o : Int32) (h : f_Mo_decides_94 a1 a2 a3 M0 = some o) : Ct D ad adK adV cI cJ l y_Mo_decides_94 cX12_decides 8 (some .int) 0 0 [.ref (ad 94), .int a1, .int a2, .int a3] M0 (some (.int o)) M0 := by
  refine x_start (lv := [(0, .ref (ad 94)), (1, .int a1), (2, .int a2), (3, .int a3)]) (own := "CurrentFarmsModel") rfl (by decide) (Nat.le_of_ble_eq_true rfl) rfl ?_
  intro p e s m args below meth c Q hQ B
  unfold f_Mo_decides_94 at h
  refine x_iload_n (pc := 0) B 3 dX12_decides_0 rfl rfl ?_
  refine x_iconst (v := (-1)) (pc := 1) B dX12_decides_1 rfl ?_
  refine jv_k h (fun (u3 : Int32) => XX D ad cI cJ p l e (Rm 0 0) s m args below meth c Q 8 M0 15 [(0, .ref (ad 94)), (1, .int a1), (2, .int a2)] [.int u3]) (fun u3 h => ?_) (fun JJ => ?_)
  · refine x_istore (lv' := [(4, .int u3), (0, .ref (ad 94)), (1, .int a1), (2, .int a2)]) (pc := 15) B dX12_decides_15 (by decide) rfl ?_
    refine x_iconst (v := (-1)) (pc := 17) B dX12_decides_17 rfl ?_
    refine x_istore (lv' := [(5, .int (-1)), (4, .int u3), (0, .ref (ad 94)), (1, .int a1), (2, .int a2)]) (pc := 18) B dX12_decides_18 (by decide) rfl ?_
    refine x_iconst (v := 0) (pc := 20) B dX12_decides_20 rfl ?_
    refine x_istore (lv' := [(6, .int 0), (5, .int (-1)), (4, .int u3), (0, .ref (ad 94)), (1, .int a1), (2, .int a2)]) (pc := 21) B dX12_decides_21 (by decide) rfl ?_
    refine x_pick (lv' := [(0, .ref (ad 94)), (1, .int a1), (2, .int a2), (4, .int u3), (5, .int (-1)), (6, .int 0)]) [3, 4, 5, 2, 1, 0] rfl ?_
    obtain ⟨q22, hq22, h⟩ := bnd h
    refine x_loop (Head := fun (y4 : Int32 × Int32) => XX D ad cI cJ p l e (Rm 0 0) s m args below meth c Q 8 M0 23 [(0, .ref (ad 94)), (1, .int a1), (2, .int a2), (4, .int u3), (5, .int y4.1), (6, .int y4.2)] []) (Ex := fun (q22 : Int32) => XX D ad cI cJ p l e (Rm 0 0) s m args below meth c Q 8 M0 149 [(5, .int q22)] []) (fun y4 r h hback hexit => ?_) FU _ q22 hq22 ?_
    · unfold b_Mo_decides_94_23 at h
      refine x_iload (pc := 23) B 5 dX12_decides_23 rfl ?_
      refine x_iload (pc := 25) B 3 dX12_decides_25 rfl ?_
      refine x_icmp_ge (tgt := 149) (pc := 27) B dX12_decides_27 rfl (fun hc5 => ?_) (fun hc5 => ?_)
      · have h := iff_ hc5 h
        refine x_pick (lv' := [(5, .int y4.1)]) [4] rfl ?_
        have z := hexit y4.1 (Option.some.inj h).symm
        exact z
      · have h := ift hc5 h
        refine x_aload_n (pc := 30) B 0 dX12_decides_30 rfl rfl ?_
        refine x_get (T := TX12) (pc := 31) B 1 oi_94 rfl uw_12 (by decide) rfl tw_1300 rfl dX12_decides_31 ?_
        refine x_sipush (v := 190) (pc := 34) B dX12_decides_34 rfl ?_
        refine x_iload (pc := 37) B 5 dX12_decides_37 rfl ?_
        refine x_iadd (pc := 39) B dX12_decides_39 ?_
        obtain ⟨hk6, h⟩ := ifn h
        refine x_iald (pc := 40) B ai_95 hk6 dX12_decides_40 ?_
        refine x_iconst (v := 5) (pc := 41) B dX12_decides_41 rfl ?_
        refine jn_k h (fun (u9 : Bool) => XX D ad cI cJ p l e (Rm 0 0) s m args below meth c Q 8 M0 96 [(0, .ref (ad 94)), (1, .int a1), (2, .int a2), (4, .int u3), (5, .int y4.1), (6, .int y4.2)] [.int (bI u9)]) (fun u9 h => ?_) (fun k15 h JJ => ?_)
        · refine x_istore (lv' := [(7, .int (bI u9)), (0, .ref (ad 94)), (1, .int a1), (2, .int a2), (4, .int u3), (5, .int y4.1), (6, .int y4.2)]) (pc := 96) B dX12_decides_96 (by decide) rfl ?_
          refine x_iload (pc := 98) B 0 dX12_decides_98 rfl ?_
          refine x_if_eq_b (tgt := 139) (pc := 100) B dX12_decides_100 rfl (fun hc10 => ?_) (fun hc10 => ?_)
          · have h := iff_ hc10 h
            refine x_iload (pc := 139) B 5 dX12_decides_139 rfl ?_
            refine x_istore (lv' := [(5, .int y4.1), (7, .int (bI u9)), (0, .ref (ad 94)), (1, .int a1), (2, .int a2), (4, .int u3), (6, .int y4.2)]) (pc := 141) B dX12_decides_141 (by decide) rfl ?_
            refine x_iinc (k := 6) (v := y4.2 + 1) (lv' := [(6, .int (y4.2 + 1)), (5, .int y4.1), (7, .int (bI u9)), (0, .ref (ad 94)), (1, .int a1), (2, .int a2), (4, .int u3)]) (pc := 143) B dX12_decides_143 rfl rfl (by decide) rfl ?_
            refine x_goto (tgt := 23) (pc := 146) B dX12_decides_146 rfl ?_
            refine x_pick (lv' := [(0, .ref (ad 94)), (1, .int a1), (2, .int a2), (4, .int u3), (5, .int y4.1), (6, .int (y4.2 + 1))]) [3, 4, 5, 6, 1, 0] rfl ?_
            have z := hback (y4.1, y4.2 + 1) (Option.some.inj h).symm
            exact z
          · have h := ift hc10 h
            refine x_iload (pc := 103) B 5 dX12_decides_103 rfl ?_
            refine x_iconst (v := (-1)) (pc := 105) B dX12_decides_105 rfl ?_
            refine x_icmp_eq (tgt := 134) (pc := 106) B dX12_decides_106 rfl (fun hc11 => ?_) (fun hc11 => ?_)
            · have h := ift hc11 h
              refine x_iload (pc := 134) B 6 dX12_decides_134 rfl ?_
              refine x_goto (tgt := 141) (pc := 136) B dX12_decides_136 rfl ?_
              refine x_istore (lv' := [(5, .int y4.2), (7, .int (bI u9)), (0, .ref (ad 94)), (1, .int a1), (2, .int a2), (4, .int u3), (6, .int y4.2)]) (pc := 141) B dX12_decides_141 (by decide) rfl ?_
              refine x_iinc (k := 6) (v := y4.2 + 1) (lv' := [(6, .int (y4.2 + 1)), (5, .int y4.2), (7, .int (bI u9)), (0, .ref (ad 94)), (1, .int a1), (2, .int a2), (4, .int u3)]) (pc := 143) B dX12_decides_143 rfl rfl (by decide) rfl ?_
              refine x_goto (tgt := 23) (pc := 146) B dX12_decides_146 rfl ?_
              refine x_pick (lv' := [(0, .ref (ad 94)), (1, .int a1), (2, .int a2), (4, .int u3), (5, .int y4.2), (6, .int (y4.2 + 1))]) [3, 4, 5, 6, 1, 0] rfl ?_
              have z := hback (y4.2, y4.2 + 1) (Option.some.inj h).symm
              exact z
            · have h := iff_ hc11 h
              refine x_aload_n (pc := 109) B 1 dX12_decides_109 rfl rfl ?_
              refine x_get (T := TX12) (pc := 110) B 1 oi_94 rfl uw_12 (by decide) rfl tw_1300 rfl dX12_decides_110 ?_
              refine x_sipush (v := 430) (pc := 113) B dX12_decides_113 rfl ?_
              refine x_iload (pc := 116) B 6 dX12_decides_116 rfl ?_
              refine x_iadd (pc := 118) B dX12_decides_118 ?_
              obtain ⟨hk12, h⟩ := ifn h
              refine x_iald (pc := 119) B ai_95 hk12 dX12_decides_119 ?_
              refine x_aload_n (pc := 120) B 1 dX12_decides_120 rfl rfl ?_
              refine x_get (T := TX12) (pc := 121) B 1 oi_94 rfl uw_12 (by decide) rfl tw_1300 rfl dX12_decides_121 ?_
              refine x_sipush (v := 430) (pc := 124) B dX12_decides_124 rfl ?_
              refine x_iload (pc := 127) B 5 dX12_decides_127 rfl ?_
              refine x_iadd (pc := 129) B dX12_decides_129 ?_
              obtain ⟨hk13, h⟩ := ifn h
              refine x_iald (pc := 130) B ai_95 hk13 dX12_decides_130 ?_
              refine x_icmp_lt (tgt := 139) (pc := 131) B dX12_decides_131 rfl (fun hc14 => ?_) (fun hc14 => ?_)
              · have h := ift hc14 h
                refine x_iload (pc := 139) B 5 dX12_decides_139 rfl ?_
                refine x_istore (lv' := [(5, .int y4.1), (7, .int (bI u9)), (0, .ref (ad 94)), (1, .int a1), (2, .int a2), (4, .int u3), (6, .int y4.2)]) (pc := 141) B dX12_decides_141 (by decide) rfl ?_
                refine x_iinc (k := 6) (v := y4.2 + 1) (lv' := [(6, .int (y4.2 + 1)), (5, .int y4.1), (7, .int (bI u9)), (0, .ref (ad 94)), (1, .int a1), (2, .int a2), (4, .int u3)]) (pc := 143) B dX12_decides_143 rfl rfl (by decide) rfl ?_
                refine x_goto (tgt := 23) (pc := 146) B dX12_decides_146 rfl ?_
                refine x_pick (lv' := [(0, .ref (ad 94)), (1, .int a1), (2, .int a2), (4, .int u3), (5, .int y4.1), (6, .int (y4.2 + 1))]) [3, 4, 5, 6, 1, 0] rfl ?_
                have z := hback (y4.1, y4.2 + 1) (Option.some.inj h).symm
                exact z
              · have h := iff_ hc14 h
                refine x_iload (pc := 134) B 6 dX12_decides_134 rfl ?_
                refine x_goto (tgt := 141) (pc := 136) B dX12_decides_136 rfl ?_
                refine x_istore (lv' := [(5, .int y4.2), (7, .int (bI u9)), (0, .ref (ad 94)), (1, .int a1), (2, .int a2), (4, .int u3), (6, .int y4.2)]) (pc := 141) B dX12_decides_141 (by decide) rfl ?_
                refine x_iinc (k := 6) (v := y4.2 + 1) (lv' := [(6, .int (y4.2 + 1)), (5, .int y4.2), (7, .int (bI u9)), (0, .ref (ad 94)), (1, .int a1), (2, .int a2), (4, .int u3)]) (pc := 143) B dX12_decides_143 rfl rfl (by decide) rfl ?_
                refine x_goto (tgt := 23) (pc := 146) B dX12_decides_146 rfl ?_
                refine x_pick (lv' := [(0, .ref (ad 94)), (1, .int a1), (2, .int a2), (4, .int u3), (5, .int y4.2), (6, .int (y4.2 + 1))]) [3, 4, 5, 6, 1, 0] rfl ?_
                have z := hback (y4.2, y4.2 + 1) (Option.some.inj h).symm
                exact z
        · refine x_icmp_eq (tgt := 95) (pc := 42) B dX12_decides_42 rfl (fun hc7 => ?_) (fun hc7 => ?_)
          · have h := ift hc7 h
            refine x_iconst (v := 0) (pc := 95) B dX12_decides_95 rfl ?_
            have z := JJ false h
            exact z
          · have h := iff_ hc7 h
            refine x_aload_n (pc := 45) B 0 dX12_decides_45 rfl rfl ?_
            refine x_get (T := TX12) (pc := 46) B 1 oi_94 rfl uw_12 (by decide) rfl tw_1300 rfl dX12_decides_46 ?_
            refine x_sipush (v := 310) (pc := 49) B dX12_decides_49 rfl ?_
            refine x_iload (pc := 52) B 5 dX12_decides_52 rfl ?_
            refine x_iadd (pc := 54) B dX12_decides_54 ?_
            obtain ⟨hk16, h⟩ := ifn h
            refine x_iald (pc := 55) B ai_95 hk16 dX12_decides_55 ?_
            refine x_iload_n (pc := 56) B 1 dX12_decides_56 rfl rfl ?_
            refine x_icmp_ne (tgt := 95) (pc := 57) B dX12_decides_57 rfl (fun hc17 => ?_) (fun hc17 => ?_)
            · have h := iff_ hc17 h
              refine x_iconst (v := 0) (pc := 95) B dX12_decides_95 rfl ?_
              have z := JJ false h
              exact z
            · have h := ift hc17 h
              refine x_aload_n (pc := 60) B 0 dX12_decides_60 rfl rfl ?_
              refine x_get (T := TX12) (pc := 61) B 1 oi_94 rfl uw_12 (by decide) rfl tw_1300 rfl dX12_decides_61 ?_
              refine x_sipush (v := 430) (pc := 64) B dX12_decides_64 rfl ?_
              refine x_iload (pc := 67) B 5 dX12_decides_67 rfl ?_
              refine x_iadd (pc := 69) B dX12_decides_69 ?_
              obtain ⟨hk18, h⟩ := ifn h
              refine x_iald (pc := 70) B ai_95 hk18 dX12_decides_70 ?_
              refine x_iload_n (pc := 71) B 2 dX12_decides_71 rfl rfl ?_
              refine x_icmp_gt (tgt := 95) (pc := 72) B dX12_decides_72 rfl (fun hc19 => ?_) (fun hc19 => ?_)
              · have h := iff_ hc19 h
                refine x_iconst (v := 0) (pc := 95) B dX12_decides_95 rfl ?_
                have z := JJ false h
                exact z
              · have h := ift hc19 h
                refine x_aload_n (pc := 75) B 0 dX12_decides_75 rfl rfl ?_
                refine x_get (T := TX12) (pc := 76) B 1 oi_94 rfl uw_12 (by decide) rfl tw_1300 rfl dX12_decides_76 ?_
                refine x_sipush (v := 670) (pc := 79) B dX12_decides_79 rfl ?_
                refine x_iload (pc := 82) B 5 dX12_decides_82 rfl ?_
                refine x_iadd (pc := 84) B dX12_decides_84 ?_
                obtain ⟨hk20, h⟩ := ifn h
                refine x_iald (pc := 85) B ai_95 hk20 dX12_decides_85 ?_
                refine x_iload (pc := 86) B 3 dX12_decides_86 rfl ?_
                refine x_icmp_lt (tgt := 95) (pc := 88) B dX12_decides_88 rfl (fun hc21 => ?_) (fun hc21 => ?_)
                · have h := ift hc21 h
                  refine x_iconst (v := 0) (pc := 95) B dX12_decides_95 rfl ?_
                  have z := JJ false h
                  exact z
                · have h := iff_ hc21 h
                  refine x_iconst (v := 1) (pc := 91) B dX12_decides_91 rfl ?_
                  refine x_goto (tgt := 96) (pc := 92) B dX12_decides_92 rfl ?_
                  have z := JJ true h
                  exact z
    · refine x_iload (pc := 149) B 0 dX12_decides_149 rfl ?_
      obtain rfl := Option.some.inj h
      exact x_iret (pc := 151) B hQ dX12_decides_151
  · refine x_icmp_ne (tgt := 14) (pc := 2) B dX12_decides_2 rfl (fun hc1 => ?_) (fun hc1 => ?_)
    · refine x_iload_n (pc := 14) B 3 dX12_decides_14 rfl rfl ?_
      refine x_pick (lv' := [(0, .ref (ad 94)), (1, .int a1), (2, .int a2)]) [0, 1, 2] rfl ?_
      have z := JJ a3 ((zif_f hc1).trans rfl)
      exact z
    · refine x_aload_n (pc := 5) B 0 dX12_decides_5 rfl rfl ?_
      refine x_get (T := TX12) (pc := 6) B 1 oi_94 rfl uw_12 (by decide) rfl tw_1300 rfl dX12_decides_6 ?_
      refine x_iconst (v := 2) (pc := 9) B dX12_decides_9 rfl ?_
      refine x_iald_c (j := 2) (pc := 10) B ai_95 (by decide) rfl dX12_decides_10 ?_
      refine x_goto (tgt := 15) (pc := 11) B dX12_decides_11 rfl ?_
      refine x_pick (lv' := [(0, .ref (ad 94)), (1, .int a1), (2, .int a2)]) [0, 1, 2] rfl ?_
      have z := JJ (M0.1 95 2) ((zif_t hc1).trans rfl)
      exact z
-- CurrentFarmsModel.looks(IIII)V [94]
abbrev y_Mo_looks_94 : MethodName := ⟨"CurrentFarmsModel", "looks", "(IIII)V"⟩
abbrev cX12_looks : ByteArray := prog_14_method_22_code
theorem dX12_looks_0 : decode cX12_looks 0 = .ok (.iconst 0, 1) := by decide +kernel
theorem dX12_looks_1 : decode cX12_looks 1 = .ok (.istore 5, 2) := by decide +kernel
theorem dX12_looks_3 : decode cX12_looks 3 = .ok (.iload 5, 2) := by decide +kernel
theorem dX12_looks_5 : decode cX12_looks 5 = .ok (.aload_n 0, 1) := by decide +kernel
theorem dX12_looks_6 : decode cX12_looks 6 = .ok (.getfield 7, 3) := by decide +kernel
theorem dX12_looks_9 : decode cX12_looks 9 = .ok (.iconst 1, 1) := by decide +kernel
theorem dX12_looks_10 : decode cX12_looks 10 = .ok (.iaload, 1) := by decide +kernel
theorem dX12_looks_11 : decode cX12_looks 11 = .ok (.if_icmp .ge 143, 3) := by decide +kernel
theorem dX12_looks_14 : decode cX12_looks 14 = .ok (.aload_n 0, 1) := by decide +kernel
theorem dX12_looks_15 : decode cX12_looks 15 = .ok (.iload 5, 2) := by decide +kernel
theorem dX12_looks_17 : decode cX12_looks 17 = .ok (.iload_n 1, 1) := by decide +kernel
theorem dX12_looks_18 : decode cX12_looks 18 = .ok (.iload_n 2, 1) := by decide +kernel
theorem dX12_looks_19 : decode cX12_looks 19 = .ok (.invokevirtual 117, 3) := by decide +kernel
theorem dX12_looks_22 : decode cX12_looks 22 = .ok (.istore 6, 2) := by decide +kernel
theorem dX12_looks_24 : decode cX12_looks 24 = .ok (.iload 4, 2) := by decide +kernel
theorem dX12_looks_26 : decode cX12_looks 26 = .ok (.iload 5, 2) := by decide +kernel
theorem dX12_looks_28 : decode cX12_looks 28 = .ok (.ishr, 1) := by decide +kernel
theorem dX12_looks_29 : decode cX12_looks 29 = .ok (.iconst 1, 1) := by decide +kernel
theorem dX12_looks_30 : decode cX12_looks 30 = .ok (.iand, 1) := by decide +kernel
theorem dX12_looks_31 : decode cX12_looks 31 = .ok (.iconst 1, 1) := by decide +kernel
theorem dX12_looks_32 : decode cX12_looks 32 = .ok (.if_icmp .ne 7, 3) := by decide +kernel
theorem dX12_looks_35 : decode cX12_looks 35 = .ok (.iconst 4, 1) := by decide +kernel
theorem dX12_looks_36 : decode cX12_looks 36 = .ok (.goto 34, 3) := by decide +kernel
theorem dX12_looks_39 : decode cX12_looks 39 = .ok (.iload 5, 2) := by decide +kernel
theorem dX12_looks_41 : decode cX12_looks 41 = .ok (.iload_n 3, 1) := by decide +kernel
theorem dX12_looks_42 : decode cX12_looks 42 = .ok (.if_icmp .ne 7, 3) := by decide +kernel
theorem dX12_looks_45 : decode cX12_looks 45 = .ok (.iconst 0, 1) := by decide +kernel
theorem dX12_looks_46 : decode cX12_looks 46 = .ok (.goto 24, 3) := by decide +kernel
theorem dX12_looks_49 : decode cX12_looks 49 = .ok (.iload 6, 2) := by decide +kernel
theorem dX12_looks_51 : decode cX12_looks 51 = .ok (.iconst (-1), 1) := by decide +kernel
theorem dX12_looks_52 : decode cX12_looks 52 = .ok (.if_icmp .ne 7, 3) := by decide +kernel
theorem dX12_looks_55 : decode cX12_looks 55 = .ok (.iconst (-1), 1) := by decide +kernel
theorem dX12_looks_56 : decode cX12_looks 56 = .ok (.goto 14, 3) := by decide +kernel
theorem dX12_looks_59 : decode cX12_looks 59 = .ok (.aload_n 0, 1) := by decide +kernel
theorem dX12_looks_60 : decode cX12_looks 60 = .ok (.getfield 7, 3) := by decide +kernel
theorem dX12_looks_63 : decode cX12_looks 63 = .ok (.sipush 190, 3) := by decide +kernel
theorem dX12_looks_66 : decode cX12_looks 66 = .ok (.iload 6, 2) := by decide +kernel
theorem dX12_looks_68 : decode cX12_looks 68 = .ok (.iadd, 1) := by decide +kernel
theorem dX12_looks_69 : decode cX12_looks 69 = .ok (.iaload, 1) := by decide +kernel
theorem dX12_looks_70 : decode cX12_looks 70 = .ok (.istore 7, 2) := by decide +kernel
theorem dX12_looks_72 : decode cX12_looks 72 = .ok (.aload_n 0, 1) := by decide +kernel
theorem dX12_looks_73 : decode cX12_looks 73 = .ok (.getfield 16, 3) := by decide +kernel
theorem dX12_looks_76 : decode cX12_looks 76 = .ok (.iload 5, 2) := by decide +kernel
theorem dX12_looks_78 : decode cX12_looks 78 = .ok (.iload 7, 2) := by decide +kernel
theorem dX12_looks_80 : decode cX12_looks 80 = .ok (.iconst (-1), 1) := by decide +kernel
theorem dX12_looks_81 : decode cX12_looks 81 = .ok (.if_icmp .ne 7, 3) := by decide +kernel
theorem dX12_looks_84 : decode cX12_looks 84 = .ok (.iconst 0, 1) := by decide +kernel
theorem dX12_looks_85 : decode cX12_looks 85 = .ok (.goto 34, 3) := by decide +kernel
theorem dX12_looks_88 : decode cX12_looks 88 = .ok (.iload 7, 2) := by decide +kernel
theorem dX12_looks_90 : decode cX12_looks 90 = .ok (.iconst 1, 1) := by decide +kernel
theorem dX12_looks_91 : decode cX12_looks 91 = .ok (.if_icmp .ne 7, 3) := by decide +kernel
theorem dX12_looks_94 : decode cX12_looks 94 = .ok (.iconst 2, 1) := by decide +kernel
theorem dX12_looks_95 : decode cX12_looks 95 = .ok (.goto 24, 3) := by decide +kernel
theorem dX12_looks_98 : decode cX12_looks 98 = .ok (.iload 7, 2) := by decide +kernel
theorem dX12_looks_100 : decode cX12_looks 100 = .ok (.iconst 2, 1) := by decide +kernel
theorem dX12_looks_101 : decode cX12_looks 101 = .ok (.if_icmp .ne 7, 3) := by decide +kernel
theorem dX12_looks_104 : decode cX12_looks 104 = .ok (.iconst 3, 1) := by decide +kernel
theorem dX12_looks_105 : decode cX12_looks 105 = .ok (.goto 14, 3) := by decide +kernel
theorem dX12_looks_108 : decode cX12_looks 108 = .ok (.iload 7, 2) := by decide +kernel
theorem dX12_looks_110 : decode cX12_looks 110 = .ok (.iconst 4, 1) := by decide +kernel
theorem dX12_looks_111 : decode cX12_looks 111 = .ok (.if_icmp .ne 7, 3) := by decide +kernel
theorem dX12_looks_114 : decode cX12_looks 114 = .ok (.iconst 5, 1) := by decide +kernel
theorem dX12_looks_115 : decode cX12_looks 115 = .ok (.goto 4, 3) := by decide +kernel
theorem dX12_looks_118 : decode cX12_looks 118 = .ok (.iconst 1, 1) := by decide +kernel
theorem dX12_looks_119 : decode cX12_looks 119 = .ok (.iastore, 1) := by decide +kernel
theorem dX12_looks_120 : decode cX12_looks 120 = .ok (.aload_n 0, 1) := by decide +kernel
theorem dX12_looks_121 : decode cX12_looks 121 = .ok (.getfield 19, 3) := by decide +kernel
theorem dX12_looks_124 : decode cX12_looks 124 = .ok (.iload 5, 2) := by decide +kernel
theorem dX12_looks_126 : decode cX12_looks 126 = .ok (.iload 7, 2) := by decide +kernel
theorem dX12_looks_128 : decode cX12_looks 128 = .ok (.iconst 1, 1) := by decide +kernel
theorem dX12_looks_129 : decode cX12_looks 129 = .ok (.if_icmp .ne 17, 3) := by decide +kernel
theorem dX12_looks_132 : decode cX12_looks 132 = .ok (.aload_n 0, 1) := by decide +kernel
theorem dX12_looks_133 : decode cX12_looks 133 = .ok (.getfield 7, 3) := by decide +kernel
theorem dX12_looks_136 : decode cX12_looks 136 = .ok (.sipush 550, 3) := by decide +kernel
theorem dX12_looks_139 : decode cX12_looks 139 = .ok (.iload 6, 2) := by decide +kernel
theorem dX12_looks_141 : decode cX12_looks 141 = .ok (.iadd, 1) := by decide +kernel
theorem dX12_looks_142 : decode cX12_looks 142 = .ok (.iaload, 1) := by decide +kernel
theorem dX12_looks_143 : decode cX12_looks 143 = .ok (.goto 4, 3) := by decide +kernel
theorem dX12_looks_146 : decode cX12_looks 146 = .ok (.iconst 0, 1) := by decide +kernel
theorem dX12_looks_147 : decode cX12_looks 147 = .ok (.iastore, 1) := by decide +kernel
theorem dX12_looks_148 : decode cX12_looks 148 = .ok (.iinc 5 1, 3) := by decide +kernel
theorem dX12_looks_151 : decode cX12_looks 151 = .ok (.goto (-148), 3) := by decide +kernel
theorem dX12_looks_154 : decode cX12_looks 154 = .ok (.iconst 1, 1) := by decide +kernel
theorem dX12_looks_155 : decode cX12_looks 155 = .ok (.istore 5, 2) := by decide +kernel
theorem dX12_looks_157 : decode cX12_looks 157 = .ok (.iload 5, 2) := by decide +kernel
theorem dX12_looks_159 : decode cX12_looks 159 = .ok (.ifCond .eq 123, 3) := by decide +kernel
theorem dX12_looks_162 : decode cX12_looks 162 = .ok (.iconst 0, 1) := by decide +kernel
theorem dX12_looks_163 : decode cX12_looks 163 = .ok (.istore 5, 2) := by decide +kernel
theorem dX12_looks_165 : decode cX12_looks 165 = .ok (.iconst 0, 1) := by decide +kernel
theorem dX12_looks_166 : decode cX12_looks 166 = .ok (.istore 6, 2) := by decide +kernel
theorem dX12_looks_168 : decode cX12_looks 168 = .ok (.iconst 0, 1) := by decide +kernel
theorem dX12_looks_169 : decode cX12_looks 169 = .ok (.istore 7, 2) := by decide +kernel
theorem dX12_looks_171 : decode cX12_looks 171 = .ok (.iload 7, 2) := by decide +kernel
theorem dX12_looks_173 : decode cX12_looks 173 = .ok (.aload_n 0, 1) := by decide +kernel
theorem dX12_looks_174 : decode cX12_looks 174 = .ok (.getfield 7, 3) := by decide +kernel
theorem dX12_looks_177 : decode cX12_looks 177 = .ok (.iconst 1, 1) := by decide +kernel
theorem dX12_looks_178 : decode cX12_looks 178 = .ok (.iaload, 1) := by decide +kernel
theorem dX12_looks_179 : decode cX12_looks 179 = .ok (.if_icmp .ge 41, 3) := by decide +kernel
theorem dX12_looks_182 : decode cX12_looks 182 = .ok (.iload 6, 2) := by decide +kernel
theorem dX12_looks_184 : decode cX12_looks 184 = .ok (.aload_n 0, 1) := by decide +kernel
theorem dX12_looks_185 : decode cX12_looks 185 = .ok (.getfield 16, 3) := by decide +kernel
theorem dX12_looks_188 : decode cX12_looks 188 = .ok (.iload 7, 2) := by decide +kernel
theorem dX12_looks_190 : decode cX12_looks 190 = .ok (.iaload, 1) := by decide +kernel
theorem dX12_looks_191 : decode cX12_looks 191 = .ok (.iconst 1, 1) := by decide +kernel
theorem dX12_looks_192 : decode cX12_looks 192 = .ok (.if_icmp .eq 14, 3) := by decide +kernel
theorem dX12_looks_195 : decode cX12_looks 195 = .ok (.aload_n 0, 1) := by decide +kernel
theorem dX12_looks_196 : decode cX12_looks 196 = .ok (.getfield 16, 3) := by decide +kernel
theorem dX12_looks_199 : decode cX12_looks 199 = .ok (.iload 7, 2) := by decide +kernel
theorem dX12_looks_201 : decode cX12_looks 201 = .ok (.iaload, 1) := by decide +kernel
theorem dX12_looks_202 : decode cX12_looks 202 = .ok (.iconst 3, 1) := by decide +kernel
theorem dX12_looks_203 : decode cX12_looks 203 = .ok (.if_icmp .ne 7, 3) := by decide +kernel
theorem dX12_looks_206 : decode cX12_looks 206 = .ok (.iconst 1, 1) := by decide +kernel
theorem dX12_looks_207 : decode cX12_looks 207 = .ok (.goto 4, 3) := by decide +kernel
theorem dX12_looks_210 : decode cX12_looks 210 = .ok (.iconst 0, 1) := by decide +kernel
theorem dX12_looks_211 : decode cX12_looks 211 = .ok (.iadd, 1) := by decide +kernel
theorem dX12_looks_212 : decode cX12_looks 212 = .ok (.istore 6, 2) := by decide +kernel
theorem dX12_looks_214 : decode cX12_looks 214 = .ok (.iinc 7 1, 3) := by decide +kernel
theorem dX12_looks_217 : decode cX12_looks 217 = .ok (.goto (-46), 3) := by decide +kernel
theorem dX12_looks_220 : decode cX12_looks 220 = .ok (.iconst 0, 1) := by decide +kernel
theorem dX12_looks_221 : decode cX12_looks 221 = .ok (.istore 7, 2) := by decide +kernel
theorem dX12_looks_223 : decode cX12_looks 223 = .ok (.iload 7, 2) := by decide +kernel
theorem dX12_looks_225 : decode cX12_looks 225 = .ok (.aload_n 0, 1) := by decide +kernel
theorem dX12_looks_226 : decode cX12_looks 226 = .ok (.getfield 7, 3) := by decide +kernel
theorem dX12_looks_229 : decode cX12_looks 229 = .ok (.iconst 1, 1) := by decide +kernel
theorem dX12_looks_230 : decode cX12_looks 230 = .ok (.iaload, 1) := by decide +kernel
theorem dX12_looks_231 : decode cX12_looks 231 = .ok (.if_icmp .ge 48, 3) := by decide +kernel
theorem dX12_looks_234 : decode cX12_looks 234 = .ok (.iload 5, 2) := by decide +kernel
theorem dX12_looks_236 : decode cX12_looks 236 = .ok (.ifCond .ne 43, 3) := by decide +kernel
theorem dX12_looks_239 : decode cX12_looks 239 = .ok (.aload_n 0, 1) := by decide +kernel
theorem dX12_looks_240 : decode cX12_looks 240 = .ok (.getfield 16, 3) := by decide +kernel
theorem dX12_looks_243 : decode cX12_looks 243 = .ok (.iload 7, 2) := by decide +kernel
theorem dX12_looks_245 : decode cX12_looks 245 = .ok (.iaload, 1) := by decide +kernel
theorem dX12_looks_246 : decode cX12_looks 246 = .ok (.iconst 2, 1) := by decide +kernel
theorem dX12_looks_247 : decode cX12_looks 247 = .ok (.if_icmp .ne 26, 3) := by decide +kernel
theorem dX12_looks_250 : decode cX12_looks 250 = .ok (.aload_n 0, 1) := by decide +kernel
theorem dX12_looks_251 : decode cX12_looks 251 = .ok (.getfield 19, 3) := by decide +kernel
theorem dX12_looks_254 : decode cX12_looks 254 = .ok (.iload 7, 2) := by decide +kernel
theorem dX12_looks_256 : decode cX12_looks 256 = .ok (.iaload, 1) := by decide +kernel
theorem dX12_looks_257 : decode cX12_looks 257 = .ok (.iload 6, 2) := by decide +kernel
theorem dX12_looks_259 : decode cX12_looks 259 = .ok (.if_icmp .gt 14, 3) := by decide +kernel
theorem dX12_looks_262 : decode cX12_looks 262 = .ok (.aload_n 0, 1) := by decide +kernel
theorem dX12_looks_263 : decode cX12_looks 263 = .ok (.getfield 16, 3) := by decide +kernel
theorem dX12_looks_266 : decode cX12_looks 266 = .ok (.iload 7, 2) := by decide +kernel
theorem dX12_looks_268 : decode cX12_looks 268 = .ok (.iconst 1, 1) := by decide +kernel
theorem dX12_looks_269 : decode cX12_looks 269 = .ok (.iastore, 1) := by decide +kernel
theorem dX12_looks_270 : decode cX12_looks 270 = .ok (.iconst 1, 1) := by decide +kernel
theorem dX12_looks_271 : decode cX12_looks 271 = .ok (.istore 5, 2) := by decide +kernel
theorem dX12_looks_273 : decode cX12_looks 273 = .ok (.iinc 7 1, 3) := by decide +kernel
theorem dX12_looks_276 : decode cX12_looks 276 = .ok (.goto (-53), 3) := by decide +kernel
theorem dX12_looks_279 : decode cX12_looks 279 = .ok (.goto (-122), 3) := by decide +kernel
theorem dX12_looks_282 : decode cX12_looks 282 = .ok (.return_, 1) := by decide +kernel
theorem hd_Mo_looks_94 : y_Mo_looks_94.cls ≠ "java/lang/invoke/MethodHandle" ∧ y_Mo_looks_94.cls ≠ "java/lang/invoke/VarHandle" ∧ (parseMethodDescriptor y_Mo_looks_94.desc).map (fun d => d.parameters.length) = some 4 := by decide +kernel
def b_Mo_looks_94_3 (a1 : Int32) (a2 : Int32) (a3 : Int32) (a4 : Int32) (y1 : Int32 × Mem) : Option ((Int32 × Mem) ⊕ (Mem)) :=
  if decide (y1.1 < (y1.2.1 95 1)) then ((f_Mo_decides_94 y1.1 a1 a2 y1.2).bind fun q3 => jn_ (fun (u6 : Int32) => jv_ ((if decide (u6 = (-1)) then 0 else (if decide (u6 = 1) then 2 else (if decide (u6 = 2) then 3 else (if decide (u6 = 4) then 5 else 1)))) : Int32) fun u9 => if inb y1.1 10 then jv_ (wI y1.2 97 y1.1.toNatClampNeg u9) fun M11 => jn_ (fun (u14 : Int32) => if inb y1.1 10 then jv_ (wI M11 98 y1.1.toNatClampNeg u14) fun M16 => some (.inl (y1.1 + 1, M16)) else none) fun k17 => if decide (u6 = 1) then (if inb (550 + q3) 4700 then k17 (M11.1 95 (550 + q3).toNatClampNeg) else none) else (k17 0) else none) fun k22 => if decide (((a4 >>> (y1.1 &&& 31)) &&& 1) = 1) then (k22 4) else (if decide (y1.1 = a3) then (k22 0) else (if decide (q3 = (-1)) then (k22 (-1)) else (if inb (190 + q3) 4700 then k22 (y1.2.1 95 (190 + q3).toNatClampNeg) else none)))) else (some (.inr y1.2))
def b_Mo_looks_94_171 (y27 : Int32 × Mem) (y29 : Int32 × Int32) : Option ((Int32 × Int32) ⊕ (Int32)) :=
  if decide (y29.2 < (y27.2.1 95 1)) then (if inb y29.2 10 then jn_ (fun (u34 : Bool) => some (.inl (y29.1 + (bI u34), y29.2 + 1))) fun k35 => if decide ((y27.2.1 97 y29.2.toNatClampNeg) = 1) then (k35 true) else (if inb y29.2 10 then if decide ((y27.2.1 97 y29.2.toNatClampNeg) = 3) then (k35 true) else (k35 false) else none) else none) else (some (.inr y29.1))
def b_Mo_looks_94_223 (q38 : Int32) (y39 : Int32 × Int32 × Mem) : Option ((Int32 × Int32 × Mem) ⊕ (Int32 × Mem)) :=
  if decide (y39.2.1 < (y39.2.2.1 95 1)) then (if decide (y39.1 = 0) then (if inb y39.2.1 10 then if decide ((y39.2.2.1 97 y39.2.1.toNatClampNeg) = 2) then (if inb y39.2.1 10 then if decide ((y39.2.2.1 98 y39.2.1.toNatClampNeg) ≤ q38) then (if inb y39.2.1 10 then jv_ (wI y39.2.2 97 y39.2.1.toNatClampNeg 1) fun M47 => some (.inl (1, y39.2.1 + 1, M47)) else none) else (some (.inl (y39.1, y39.2.1 + 1, y39.2.2))) else none) else (some (.inl (y39.1, y39.2.1 + 1, y39.2.2))) else none) else (some (.inr (y39.1, y39.2.2)))) else (some (.inr (y39.1, y39.2.2)))
def b_Mo_looks_94_157  (y27 : Int32 × Mem) : Option ((Int32 × Mem) ⊕ (Mem)) :=
  if decide (y27.1 = 0) then (some (.inr y27.2)) else ((itr (b_Mo_looks_94_171 y27) FU (0, 0)).bind fun q38 => (itr (b_Mo_looks_94_223 q38) FU (0, 0, y27.2)).bind fun q48 => some (.inl (q48.1, q48.2)))
def f_Mo_looks_94 (a1 : Int32) (a2 : Int32) (a3 : Int32) (a4 : Int32) (M0 : Mem) : Option (Mem) :=
  (itr (b_Mo_looks_94_3 a1 a2 a3 a4) FU (0, M0)).bind fun q26 => (itr (b_Mo_looks_94_157) FU (1, q26)).bind fun q49 => some q49
set_option maxHeartbeats 4000000 in
set_option maxRecDepth 20000 in
theorem C_Mo_looks_94 {D : va_G} {ad adK adV : Nat → Nat} {cI cJ : ClassId} {l : Launch} (a1 : Int32) (a2 : Int32) (a3 : Int32) (a4 : Int32) (M0 : Mem) (o : Mem) (h : f_Mo_looks_94 a1 a2 a3 a4 M0 = some o) : Ct D ad adK adV cI cJ l y_Mo_looks_94 cX12_looks 8 none 1 27 [.ref (ad 94), .int a1, .int a2, .int a3, .int a4] M0 none o := by
  refine x_start (lv := [(0, .ref (ad 94)), (1, .int a1), (2, .int a2), (3, .int a3), (4, .int a4)]) (own := "CurrentFarmsModel") rfl (by decide) (Nat.le_of_ble_eq_true rfl) rfl ?_
  intro p e s m args below meth c Q hQ B
  unfold f_Mo_looks_94 at h
  refine x_iconst (v := 0) (pc := 0) B dX12_looks_0 rfl ?_
  refine x_istore (lv' := [(5, .int 0), (0, .ref (ad 94)), (1, .int a1), (2, .int a2), (3, .int a3), (4, .int a4)]) (pc := 1) B dX12_looks_1 (by decide) rfl ?_
  refine x_pick (lv' := [(0, .ref (ad 94)), (1, .int a1), (2, .int a2), (3, .int a3), (4, .int a4), (5, .int 0)]) [1, 2, 3, 4, 5, 0] rfl ?_
  obtain ⟨q26, hq26, h⟩ := bnd h
  refine x_loop (Head := fun (y1 : Int32 × Mem) => XX D ad cI cJ p l e (Rm 1 27) s m args below meth c Q 8 y1.2 3 [(0, .ref (ad 94)), (1, .int a1), (2, .int a2), (3, .int a3), (4, .int a4), (5, .int y1.1)] []) (Ex := fun (q26 : Mem) => XX D ad cI cJ p l e (Rm 1 27) s m args below meth c Q 8 q26 154 [(0, .ref (ad 94))] []) (fun y1 r h hback hexit => ?_) FU _ q26 hq26 ?_
  · unfold b_Mo_looks_94_3 at h
    refine x_iload (pc := 3) B 5 dX12_looks_3 rfl ?_
    refine x_aload_n (pc := 5) B 0 dX12_looks_5 rfl rfl ?_
    refine x_get (T := TX12) (pc := 6) B 1 oi_94 rfl uw_12 (by decide) rfl tw_1300 rfl dX12_looks_6 ?_
    refine x_iconst (v := 1) (pc := 9) B dX12_looks_9 rfl ?_
    refine x_iald_c (j := 1) (pc := 10) B ai_95 (by decide) rfl dX12_looks_10 ?_
    refine x_icmp_ge (tgt := 154) (pc := 11) B dX12_looks_11 rfl (fun hc2 => ?_) (fun hc2 => ?_)
    · have h := iff_ hc2 h
      refine x_pick (lv' := [(0, .ref (ad 94))]) [0] rfl ?_
      have z := hexit y1.2 (Option.some.inj h).symm
      exact z
    · have h := ift hc2 h
      refine x_aload_n (pc := 14) B 0 dX12_looks_14 rfl rfl ?_
      refine x_iload (pc := 15) B 5 dX12_looks_15 rfl ?_
      refine x_iload_n (pc := 17) B 1 dX12_looks_17 rfl rfl ?_
      refine x_iload_n (pc := 18) B 2 dX12_looks_18 rfl rfl ?_
      obtain ⟨q3, hq3, h⟩ := bnd h
      refine x_callV (rest := []) (st' := [.int q3]) (pc := 19) B oi_94 rfl (C_Mo_decides_94 y1.1 a1 a2 y1.2 _ hq3) tw_1479 tw_1476 tw_1478 tw_51 tw_111 hd_Mo_decides_94 ⟨Nat.le_of_ble_eq_true rfl, Nat.le_of_ble_eq_true rfl⟩ rfl rfl (Nat.le_of_ble_eq_true rfl) rfl dX12_looks_19 ?_
      refine x_istore (lv' := [(6, .int q3), (0, .ref (ad 94)), (1, .int a1), (2, .int a2), (3, .int a3), (4, .int a4), (5, .int y1.1)]) (pc := 22) B dX12_looks_22 (by decide) rfl ?_
      refine x_iload (pc := 24) B 5 dX12_looks_24 rfl ?_
      refine x_iload (pc := 26) B 6 dX12_looks_26 rfl ?_
      refine x_ishr (pc := 28) B dX12_looks_28 ?_
      refine x_iconst (v := 1) (pc := 29) B dX12_looks_29 rfl ?_
      refine x_iand (pc := 30) B dX12_looks_30 ?_
      refine x_iconst (v := 1) (pc := 31) B dX12_looks_31 rfl ?_
      refine jn_k h (fun (u6 : Int32) => XX D ad cI cJ p l e (Rm 1 27) s m args below meth c Q 8 y1.2 70 [(0, .ref (ad 94)), (1, .int a1), (2, .int a2), (3, .int a3), (4, .int a4), (5, .int y1.1), (6, .int q3)] [.int u6]) (fun u6 h => ?_) (fun k22 h JJ => ?_)
      · refine x_istore (lv' := [(7, .int u6), (0, .ref (ad 94)), (1, .int a1), (2, .int a2), (3, .int a3), (4, .int a4), (5, .int y1.1), (6, .int q3)]) (pc := 70) B dX12_looks_70 (by decide) rfl ?_
        refine x_aload_n (pc := 72) B 1 dX12_looks_72 rfl rfl ?_
        refine x_get (T := TX12) (pc := 73) B 4 oi_94 rfl uw_12 (by decide) rfl tw_1303 rfl dX12_looks_73 ?_
        refine x_iload (pc := 76) B 6 dX12_looks_76 rfl ?_
        refine x_iload (pc := 78) B 0 dX12_looks_78 rfl ?_
        refine x_iconst (v := (-1)) (pc := 80) B dX12_looks_80 rfl ?_
        refine jv_k h (fun (u9 : Int32) => XX D ad cI cJ p l e (Rm 1 27) s m args below meth c Q 8 y1.2 119 [(0, .ref (ad 94)), (1, .int a1), (2, .int a2), (3, .int a3), (4, .int a4), (5, .int y1.1), (6, .int q3), (7, .int u6)] [.int u9, .int y1.1, .ref (ad 97)]) (fun u9 h => ?_) (fun JJ => ?_)
        · obtain ⟨hk10, h⟩ := ifn h
          refine x_iast (pc := 119) B ai_97 hk10 dX12_looks_119 ?_
          refine jv_m (P := fun M11 => XX D ad cI cJ p l e (Rm 1 27) s m args below meth c Q 8 M11 120 [(0, .ref (ad 94)), (1, .int a1), (2, .int a2), (3, .int a3), (4, .int a4), (5, .int y1.1), (6, .int q3), (7, .int u6)] []) h (fun M11 h => ?_)
          refine x_aload_n (pc := 120) B 0 dX12_looks_120 rfl rfl ?_
          refine x_get (T := TX12) (pc := 121) B 5 oi_94 rfl uw_12 (by decide) rfl tw_1304 rfl dX12_looks_121 ?_
          refine x_iload (pc := 124) B 5 dX12_looks_124 rfl ?_
          refine x_iload (pc := 126) B 7 dX12_looks_126 rfl ?_
          refine x_iconst (v := 1) (pc := 128) B dX12_looks_128 rfl ?_
          refine jn_k h (fun (u14 : Int32) => XX D ad cI cJ p l e (Rm 1 27) s m args below meth c Q 8 M11 147 [(0, .ref (ad 94)), (1, .int a1), (2, .int a2), (3, .int a3), (4, .int a4), (5, .int y1.1)] [.int u14, .int y1.1, .ref (ad 98)]) (fun u14 h => ?_) (fun k17 h JJ => ?_)
          · obtain ⟨hk15, h⟩ := ifn h
            refine x_iast (pc := 147) B ai_98 hk15 dX12_looks_147 ?_
            refine jv_m (P := fun M16 => XX D ad cI cJ p l e (Rm 1 27) s m args below meth c Q 8 M16 148 [(0, .ref (ad 94)), (1, .int a1), (2, .int a2), (3, .int a3), (4, .int a4), (5, .int y1.1)] []) h (fun M16 h => ?_)
            refine x_iinc (k := 5) (v := y1.1 + 1) (lv' := [(5, .int (y1.1 + 1)), (0, .ref (ad 94)), (1, .int a1), (2, .int a2), (3, .int a3), (4, .int a4)]) (pc := 148) B dX12_looks_148 rfl rfl (by decide) rfl ?_
            refine x_goto (tgt := 3) (pc := 151) B dX12_looks_151 rfl ?_
            refine x_pick (lv' := [(0, .ref (ad 94)), (1, .int a1), (2, .int a2), (3, .int a3), (4, .int a4), (5, .int (y1.1 + 1))]) [1, 2, 3, 4, 5, 0] rfl ?_
            have z := hback (y1.1 + 1, M16) (Option.some.inj h).symm
            exact z
          · refine x_icmp_ne (tgt := 146) (pc := 129) B dX12_looks_129 rfl (fun hc12 => ?_) (fun hc12 => ?_)
            · have h := iff_ hc12 h
              refine x_iconst (v := 0) (pc := 146) B dX12_looks_146 rfl ?_
              refine x_pick (lv' := [(0, .ref (ad 94)), (1, .int a1), (2, .int a2), (3, .int a3), (4, .int a4), (5, .int y1.1)]) [0, 1, 2, 3, 4, 5] rfl ?_
              have z := JJ 0 h
              exact z
            · have h := ift hc12 h
              refine x_aload_n (pc := 132) B 0 dX12_looks_132 rfl rfl ?_
              refine x_get (T := TX12) (pc := 133) B 1 oi_94 rfl uw_12 (by decide) rfl tw_1300 rfl dX12_looks_133 ?_
              refine x_sipush (v := 550) (pc := 136) B dX12_looks_136 rfl ?_
              refine x_iload (pc := 139) B 6 dX12_looks_139 rfl ?_
              refine x_iadd (pc := 141) B dX12_looks_141 ?_
              obtain ⟨hk18, h⟩ := ifn h
              refine x_iald (pc := 142) B ai_95 hk18 dX12_looks_142 ?_
              refine x_goto (tgt := 147) (pc := 143) B dX12_looks_143 rfl ?_
              refine x_pick (lv' := [(0, .ref (ad 94)), (1, .int a1), (2, .int a2), (3, .int a3), (4, .int a4), (5, .int y1.1)]) [0, 1, 2, 3, 4, 5] rfl ?_
              have z := JJ (M11.1 95 (550 + q3).toNatClampNeg) h
              exact z
        · refine x_icmp_ne (tgt := 88) (pc := 81) B dX12_looks_81 rfl (fun hc7 => ?_) (fun hc7 => ?_)
          · refine x_iload (pc := 88) B 0 dX12_looks_88 rfl ?_
            refine x_iconst (v := 1) (pc := 90) B dX12_looks_90 rfl ?_
            refine x_icmp_ne (tgt := 98) (pc := 91) B dX12_looks_91 rfl (fun hc19 => ?_) (fun hc19 => ?_)
            · refine x_iload (pc := 98) B 0 dX12_looks_98 rfl ?_
              refine x_iconst (v := 2) (pc := 100) B dX12_looks_100 rfl ?_
              refine x_icmp_ne (tgt := 108) (pc := 101) B dX12_looks_101 rfl (fun hc20 => ?_) (fun hc20 => ?_)
              · refine x_iload (pc := 108) B 0 dX12_looks_108 rfl ?_
                refine x_iconst (v := 4) (pc := 110) B dX12_looks_110 rfl ?_
                refine x_icmp_ne (tgt := 118) (pc := 111) B dX12_looks_111 rfl (fun hc21 => ?_) (fun hc21 => ?_)
                · refine x_iconst (v := 1) (pc := 118) B dX12_looks_118 rfl ?_
                  refine x_pick (lv' := [(0, .ref (ad 94)), (1, .int a1), (2, .int a2), (3, .int a3), (4, .int a4), (5, .int y1.1), (6, .int q3), (7, .int u6)]) [1, 2, 3, 4, 5, 6, 7, 0] rfl ?_
                  have z := JJ 1 ((zif_f hc7).trans ((zif_f hc19).trans ((zif_f hc20).trans ((zif_f hc21).trans rfl))))
                  exact z
                · refine x_iconst (v := 5) (pc := 114) B dX12_looks_114 rfl ?_
                  refine x_goto (tgt := 119) (pc := 115) B dX12_looks_115 rfl ?_
                  refine x_pick (lv' := [(0, .ref (ad 94)), (1, .int a1), (2, .int a2), (3, .int a3), (4, .int a4), (5, .int y1.1), (6, .int q3), (7, .int u6)]) [1, 2, 3, 4, 5, 6, 7, 0] rfl ?_
                  have z := JJ 5 ((zif_f hc7).trans ((zif_f hc19).trans ((zif_f hc20).trans ((zif_t hc21).trans rfl))))
                  exact z
              · refine x_iconst (v := 3) (pc := 104) B dX12_looks_104 rfl ?_
                refine x_goto (tgt := 119) (pc := 105) B dX12_looks_105 rfl ?_
                refine x_pick (lv' := [(0, .ref (ad 94)), (1, .int a1), (2, .int a2), (3, .int a3), (4, .int a4), (5, .int y1.1), (6, .int q3), (7, .int u6)]) [1, 2, 3, 4, 5, 6, 7, 0] rfl ?_
                have z := JJ 3 ((zif_f hc7).trans ((zif_f hc19).trans ((zif_t hc20).trans rfl)))
                exact z
            · refine x_iconst (v := 2) (pc := 94) B dX12_looks_94 rfl ?_
              refine x_goto (tgt := 119) (pc := 95) B dX12_looks_95 rfl ?_
              refine x_pick (lv' := [(0, .ref (ad 94)), (1, .int a1), (2, .int a2), (3, .int a3), (4, .int a4), (5, .int y1.1), (6, .int q3), (7, .int u6)]) [1, 2, 3, 4, 5, 6, 7, 0] rfl ?_
              have z := JJ 2 ((zif_f hc7).trans ((zif_t hc19).trans rfl))
              exact z
          · refine x_iconst (v := 0) (pc := 84) B dX12_looks_84 rfl ?_
            refine x_goto (tgt := 119) (pc := 85) B dX12_looks_85 rfl ?_
            refine x_pick (lv' := [(0, .ref (ad 94)), (1, .int a1), (2, .int a2), (3, .int a3), (4, .int a4), (5, .int y1.1), (6, .int q3), (7, .int u6)]) [1, 2, 3, 4, 5, 6, 7, 0] rfl ?_
            have z := JJ 0 ((zif_t hc7).trans rfl)
            exact z
      · refine x_icmp_ne (tgt := 39) (pc := 32) B dX12_looks_32 rfl (fun hc4 => ?_) (fun hc4 => ?_)
        · have h := iff_ hc4 h
          refine x_iload (pc := 39) B 6 dX12_looks_39 rfl ?_
          refine x_iload_n (pc := 41) B 4 dX12_looks_41 rfl rfl ?_
          refine x_icmp_ne (tgt := 49) (pc := 42) B dX12_looks_42 rfl (fun hc23 => ?_) (fun hc23 => ?_)
          · have h := iff_ hc23 h
            refine x_iload (pc := 49) B 0 dX12_looks_49 rfl ?_
            refine x_iconst (v := (-1)) (pc := 51) B dX12_looks_51 rfl ?_
            refine x_icmp_ne (tgt := 59) (pc := 52) B dX12_looks_52 rfl (fun hc24 => ?_) (fun hc24 => ?_)
            · have h := iff_ hc24 h
              refine x_aload_n (pc := 59) B 1 dX12_looks_59 rfl rfl ?_
              refine x_get (T := TX12) (pc := 60) B 1 oi_94 rfl uw_12 (by decide) rfl tw_1300 rfl dX12_looks_60 ?_
              refine x_sipush (v := 190) (pc := 63) B dX12_looks_63 rfl ?_
              refine x_iload (pc := 66) B 0 dX12_looks_66 rfl ?_
              refine x_iadd (pc := 68) B dX12_looks_68 ?_
              obtain ⟨hk25, h⟩ := ifn h
              refine x_iald (pc := 69) B ai_95 hk25 dX12_looks_69 ?_
              refine x_pick (lv' := [(0, .ref (ad 94)), (1, .int a1), (2, .int a2), (3, .int a3), (4, .int a4), (5, .int y1.1), (6, .int q3)]) [1, 2, 3, 4, 5, 6, 0] rfl ?_
              have z := JJ (y1.2.1 95 (190 + q3).toNatClampNeg) h
              exact z
            · have h := ift hc24 h
              refine x_iconst (v := (-1)) (pc := 55) B dX12_looks_55 rfl ?_
              refine x_goto (tgt := 70) (pc := 56) B dX12_looks_56 rfl ?_
              refine x_pick (lv' := [(0, .ref (ad 94)), (1, .int a1), (2, .int a2), (3, .int a3), (4, .int a4), (5, .int y1.1), (6, .int q3)]) [1, 2, 3, 4, 5, 6, 0] rfl ?_
              have z := JJ (-1) h
              exact z
          · have h := ift hc23 h
            refine x_iconst (v := 0) (pc := 45) B dX12_looks_45 rfl ?_
            refine x_goto (tgt := 70) (pc := 46) B dX12_looks_46 rfl ?_
            refine x_pick (lv' := [(0, .ref (ad 94)), (1, .int a1), (2, .int a2), (3, .int a3), (4, .int a4), (5, .int y1.1), (6, .int q3)]) [1, 2, 3, 4, 5, 6, 0] rfl ?_
            have z := JJ 0 h
            exact z
        · have h := ift hc4 h
          refine x_iconst (v := 4) (pc := 35) B dX12_looks_35 rfl ?_
          refine x_goto (tgt := 70) (pc := 36) B dX12_looks_36 rfl ?_
          refine x_pick (lv' := [(0, .ref (ad 94)), (1, .int a1), (2, .int a2), (3, .int a3), (4, .int a4), (5, .int y1.1), (6, .int q3)]) [1, 2, 3, 4, 5, 6, 0] rfl ?_
          have z := JJ 4 h
          exact z
  · refine x_iconst (v := 1) (pc := 154) B dX12_looks_154 rfl ?_
    refine x_istore (lv' := [(5, .int 1), (0, .ref (ad 94))]) (pc := 155) B dX12_looks_155 (by decide) rfl ?_
    refine x_pick (lv' := [(0, .ref (ad 94)), (5, .int 1)]) [1, 0] rfl ?_
    obtain ⟨q49, hq49, h⟩ := bnd h
    refine x_loop (Head := fun (y27 : Int32 × Mem) => XX D ad cI cJ p l e (Rm 1 27) s m args below meth c Q 8 y27.2 157 [(0, .ref (ad 94)), (5, .int y27.1)] []) (Ex := fun (q49 : Mem) => XX D ad cI cJ p l e (Rm 1 27) s m args below meth c Q 8 q49 282 [] []) (fun y27 r h hback hexit => ?_) FU _ q49 hq49 ?_
    · unfold b_Mo_looks_94_157 at h
      refine x_iload (pc := 157) B 1 dX12_looks_157 rfl ?_
      refine x_if_eq (tgt := 282) (pc := 159) B dX12_looks_159 rfl (fun hc28 => ?_) (fun hc28 => ?_)
      · have h := ift hc28 h
        refine x_pick (lv' := []) [] rfl ?_
        have z := hexit y27.2 (Option.some.inj h).symm
        exact z
      · have h := iff_ hc28 h
        refine x_iconst (v := 0) (pc := 162) B dX12_looks_162 rfl ?_
        refine x_istore (lv' := [(5, .int 0), (0, .ref (ad 94))]) (pc := 163) B dX12_looks_163 (by decide) rfl ?_
        refine x_iconst (v := 0) (pc := 165) B dX12_looks_165 rfl ?_
        refine x_istore (lv' := [(6, .int 0), (5, .int 0), (0, .ref (ad 94))]) (pc := 166) B dX12_looks_166 (by decide) rfl ?_
        refine x_iconst (v := 0) (pc := 168) B dX12_looks_168 rfl ?_
        refine x_istore (lv' := [(7, .int 0), (6, .int 0), (5, .int 0), (0, .ref (ad 94))]) (pc := 169) B dX12_looks_169 (by decide) rfl ?_
        refine x_pick (lv' := [(0, .ref (ad 94)), (5, .int 0), (6, .int 0), (7, .int 0)]) [3, 2, 1, 0] rfl ?_
        obtain ⟨q38, hq38, h⟩ := bnd h
        refine x_loop (Head := fun (y29 : Int32 × Int32) => XX D ad cI cJ p l e (Rm 1 27) s m args below meth c Q 8 y27.2 171 [(0, .ref (ad 94)), (5, .int 0), (6, .int y29.1), (7, .int y29.2)] []) (Ex := fun (q38 : Int32) => XX D ad cI cJ p l e (Rm 1 27) s m args below meth c Q 8 y27.2 220 [(0, .ref (ad 94)), (5, .int 0), (6, .int q38)] []) (fun y29 r h hback hexit => ?_) FU _ q38 hq38 ?_
        · unfold b_Mo_looks_94_171 at h
          refine x_iload (pc := 171) B 3 dX12_looks_171 rfl ?_
          refine x_aload_n (pc := 173) B 0 dX12_looks_173 rfl rfl ?_
          refine x_get (T := TX12) (pc := 174) B 1 oi_94 rfl uw_12 (by decide) rfl tw_1300 rfl dX12_looks_174 ?_
          refine x_iconst (v := 1) (pc := 177) B dX12_looks_177 rfl ?_
          refine x_iald_c (j := 1) (pc := 178) B ai_95 (by decide) rfl dX12_looks_178 ?_
          refine x_icmp_ge (tgt := 220) (pc := 179) B dX12_looks_179 rfl (fun hc30 => ?_) (fun hc30 => ?_)
          · have h := iff_ hc30 h
            refine x_pick (lv' := [(0, .ref (ad 94)), (5, .int 0), (6, .int y29.1)]) [0, 1, 2] rfl ?_
            have z := hexit y29.1 (Option.some.inj h).symm
            exact z
          · have h := ift hc30 h
            refine x_iload (pc := 182) B 2 dX12_looks_182 rfl ?_
            refine x_aload_n (pc := 184) B 0 dX12_looks_184 rfl rfl ?_
            refine x_get (T := TX12) (pc := 185) B 4 oi_94 rfl uw_12 (by decide) rfl tw_1303 rfl dX12_looks_185 ?_
            refine x_iload (pc := 188) B 3 dX12_looks_188 rfl ?_
            obtain ⟨hk31, h⟩ := ifn h
            refine x_iald (pc := 190) B ai_97 hk31 dX12_looks_190 ?_
            refine x_iconst (v := 1) (pc := 191) B dX12_looks_191 rfl ?_
            refine jn_k h (fun (u34 : Bool) => XX D ad cI cJ p l e (Rm 1 27) s m args below meth c Q 8 y27.2 211 [(0, .ref (ad 94)), (5, .int 0), (7, .int y29.2)] [.int (bI u34), .int y29.1]) (fun u34 h => ?_) (fun k35 h JJ => ?_)
            · refine x_iadd (pc := 211) B dX12_looks_211 ?_
              refine x_istore (lv' := [(6, .int (y29.1 + (bI u34))), (0, .ref (ad 94)), (5, .int 0), (7, .int y29.2)]) (pc := 212) B dX12_looks_212 (by decide) rfl ?_
              refine x_iinc (k := 3) (v := y29.2 + 1) (lv' := [(7, .int (y29.2 + 1)), (6, .int (y29.1 + (bI u34))), (0, .ref (ad 94)), (5, .int 0)]) (pc := 214) B dX12_looks_214 rfl rfl (by decide) rfl ?_
              refine x_goto (tgt := 171) (pc := 217) B dX12_looks_217 rfl ?_
              refine x_pick (lv' := [(0, .ref (ad 94)), (5, .int 0), (6, .int (y29.1 + (bI u34))), (7, .int (y29.2 + 1))]) [2, 3, 1, 0] rfl ?_
              have z := hback (y29.1 + (bI u34), y29.2 + 1) (Option.some.inj h).symm
              exact z
            · refine x_icmp_eq (tgt := 206) (pc := 192) B dX12_looks_192 rfl (fun hc32 => ?_) (fun hc32 => ?_)
              · have h := ift hc32 h
                refine x_iconst (v := 1) (pc := 206) B dX12_looks_206 rfl ?_
                refine x_goto (tgt := 211) (pc := 207) B dX12_looks_207 rfl ?_
                refine x_pick (lv' := [(0, .ref (ad 94)), (5, .int 0), (7, .int y29.2)]) [0, 1, 3] rfl ?_
                have z := JJ true h
                exact z
              · have h := iff_ hc32 h
                refine x_aload_n (pc := 195) B 0 dX12_looks_195 rfl rfl ?_
                refine x_get (T := TX12) (pc := 196) B 4 oi_94 rfl uw_12 (by decide) rfl tw_1303 rfl dX12_looks_196 ?_
                refine x_iload (pc := 199) B 3 dX12_looks_199 rfl ?_
                obtain ⟨hk36, h⟩ := ifn h
                refine x_iald (pc := 201) B ai_97 hk36 dX12_looks_201 ?_
                refine x_iconst (v := 3) (pc := 202) B dX12_looks_202 rfl ?_
                refine x_icmp_ne (tgt := 210) (pc := 203) B dX12_looks_203 rfl (fun hc37 => ?_) (fun hc37 => ?_)
                · have h := iff_ hc37 h
                  refine x_iconst (v := 0) (pc := 210) B dX12_looks_210 rfl ?_
                  refine x_pick (lv' := [(0, .ref (ad 94)), (5, .int 0), (7, .int y29.2)]) [0, 1, 3] rfl ?_
                  have z := JJ false h
                  exact z
                · have h := ift hc37 h
                  refine x_iconst (v := 1) (pc := 206) B dX12_looks_206 rfl ?_
                  refine x_goto (tgt := 211) (pc := 207) B dX12_looks_207 rfl ?_
                  refine x_pick (lv' := [(0, .ref (ad 94)), (5, .int 0), (7, .int y29.2)]) [0, 1, 3] rfl ?_
                  have z := JJ true h
                  exact z
        · refine x_iconst (v := 0) (pc := 220) B dX12_looks_220 rfl ?_
          refine x_istore (lv' := [(7, .int 0), (0, .ref (ad 94)), (5, .int 0), (6, .int q38)]) (pc := 221) B dX12_looks_221 (by decide) rfl ?_
          refine x_pick (lv' := [(0, .ref (ad 94)), (5, .int 0), (6, .int q38), (7, .int 0)]) [1, 2, 3, 0] rfl ?_
          obtain ⟨q48, hq48, h⟩ := bnd h
          refine x_loop (Head := fun (y39 : Int32 × Int32 × Mem) => XX D ad cI cJ p l e (Rm 1 27) s m args below meth c Q 8 y39.2.2 223 [(0, .ref (ad 94)), (5, .int y39.1), (6, .int q38), (7, .int y39.2.1)] []) (Ex := fun (q48 : Int32 × Mem) => XX D ad cI cJ p l e (Rm 1 27) s m args below meth c Q 8 q48.2 279 [(0, .ref (ad 94)), (5, .int q48.1)] []) (fun y39 r h hback hexit => ?_) FU _ q48 hq48 ?_
          · unfold b_Mo_looks_94_223 at h
            refine x_iload (pc := 223) B 3 dX12_looks_223 rfl ?_
            refine x_aload_n (pc := 225) B 0 dX12_looks_225 rfl rfl ?_
            refine x_get (T := TX12) (pc := 226) B 1 oi_94 rfl uw_12 (by decide) rfl tw_1300 rfl dX12_looks_226 ?_
            refine x_iconst (v := 1) (pc := 229) B dX12_looks_229 rfl ?_
            refine x_iald_c (j := 1) (pc := 230) B ai_95 (by decide) rfl dX12_looks_230 ?_
            refine x_icmp_ge (tgt := 279) (pc := 231) B dX12_looks_231 rfl (fun hc40 => ?_) (fun hc40 => ?_)
            · have h := iff_ hc40 h
              refine x_pick (lv' := [(0, .ref (ad 94)), (5, .int y39.1)]) [0, 1] rfl ?_
              have z := hexit (y39.1, y39.2.2) (Option.some.inj h).symm
              exact z
            · have h := ift hc40 h
              refine x_iload (pc := 234) B 1 dX12_looks_234 rfl ?_
              refine x_if_ne (tgt := 279) (pc := 236) B dX12_looks_236 rfl (fun hc41 => ?_) (fun hc41 => ?_)
              · have h := iff_ hc41 h
                refine x_pick (lv' := [(0, .ref (ad 94)), (5, .int y39.1)]) [0, 1] rfl ?_
                have z := hexit (y39.1, y39.2.2) (Option.some.inj h).symm
                exact z
              · have h := ift hc41 h
                refine x_aload_n (pc := 239) B 0 dX12_looks_239 rfl rfl ?_
                refine x_get (T := TX12) (pc := 240) B 4 oi_94 rfl uw_12 (by decide) rfl tw_1303 rfl dX12_looks_240 ?_
                refine x_iload (pc := 243) B 3 dX12_looks_243 rfl ?_
                obtain ⟨hk42, h⟩ := ifn h
                refine x_iald (pc := 245) B ai_97 hk42 dX12_looks_245 ?_
                refine x_iconst (v := 2) (pc := 246) B dX12_looks_246 rfl ?_
                refine x_icmp_ne (tgt := 273) (pc := 247) B dX12_looks_247 rfl (fun hc43 => ?_) (fun hc43 => ?_)
                · have h := iff_ hc43 h
                  refine x_iinc (k := 3) (v := y39.2.1 + 1) (lv' := [(7, .int (y39.2.1 + 1)), (0, .ref (ad 94)), (5, .int y39.1), (6, .int q38)]) (pc := 273) B dX12_looks_273 rfl rfl (by decide) rfl ?_
                  refine x_goto (tgt := 223) (pc := 276) B dX12_looks_276 rfl ?_
                  refine x_pick (lv' := [(0, .ref (ad 94)), (5, .int y39.1), (6, .int q38), (7, .int (y39.2.1 + 1))]) [1, 2, 3, 0] rfl ?_
                  have z := hback (y39.1, y39.2.1 + 1, y39.2.2) (Option.some.inj h).symm
                  exact z
                · have h := ift hc43 h
                  refine x_aload_n (pc := 250) B 0 dX12_looks_250 rfl rfl ?_
                  refine x_get (T := TX12) (pc := 251) B 5 oi_94 rfl uw_12 (by decide) rfl tw_1304 rfl dX12_looks_251 ?_
                  refine x_iload (pc := 254) B 3 dX12_looks_254 rfl ?_
                  obtain ⟨hk44, h⟩ := ifn h
                  refine x_iald (pc := 256) B ai_98 hk44 dX12_looks_256 ?_
                  refine x_iload (pc := 257) B 2 dX12_looks_257 rfl ?_
                  refine x_icmp_gt (tgt := 273) (pc := 259) B dX12_looks_259 rfl (fun hc45 => ?_) (fun hc45 => ?_)
                  · have h := iff_ hc45 h
                    refine x_iinc (k := 3) (v := y39.2.1 + 1) (lv' := [(7, .int (y39.2.1 + 1)), (0, .ref (ad 94)), (5, .int y39.1), (6, .int q38)]) (pc := 273) B dX12_looks_273 rfl rfl (by decide) rfl ?_
                    refine x_goto (tgt := 223) (pc := 276) B dX12_looks_276 rfl ?_
                    refine x_pick (lv' := [(0, .ref (ad 94)), (5, .int y39.1), (6, .int q38), (7, .int (y39.2.1 + 1))]) [1, 2, 3, 0] rfl ?_
                    have z := hback (y39.1, y39.2.1 + 1, y39.2.2) (Option.some.inj h).symm
                    exact z
                  · have h := ift hc45 h
                    refine x_aload_n (pc := 262) B 0 dX12_looks_262 rfl rfl ?_
                    refine x_get (T := TX12) (pc := 263) B 4 oi_94 rfl uw_12 (by decide) rfl tw_1303 rfl dX12_looks_263 ?_
                    refine x_iload (pc := 266) B 3 dX12_looks_266 rfl ?_
                    refine x_iconst (v := 1) (pc := 268) B dX12_looks_268 rfl ?_
                    obtain ⟨hk46, h⟩ := ifn h
                    refine x_iast (pc := 269) B ai_97 hk46 dX12_looks_269 ?_
                    refine jv_m (P := fun M47 => XX D ad cI cJ p l e (Rm 1 27) s m args below meth c Q 8 M47 270 [(0, .ref (ad 94)), (5, .int y39.1), (6, .int q38), (7, .int y39.2.1)] []) h (fun M47 h => ?_)
                    refine x_iconst (v := 1) (pc := 270) B dX12_looks_270 rfl ?_
                    refine x_istore (lv' := [(5, .int 1), (0, .ref (ad 94)), (6, .int q38), (7, .int y39.2.1)]) (pc := 271) B dX12_looks_271 (by decide) rfl ?_
                    refine x_iinc (k := 3) (v := y39.2.1 + 1) (lv' := [(7, .int (y39.2.1 + 1)), (5, .int 1), (0, .ref (ad 94)), (6, .int q38)]) (pc := 273) B dX12_looks_273 rfl rfl (by decide) rfl ?_
                    refine x_goto (tgt := 223) (pc := 276) B dX12_looks_276 rfl ?_
                    refine x_pick (lv' := [(0, .ref (ad 94)), (5, .int 1), (6, .int q38), (7, .int (y39.2.1 + 1))]) [2, 1, 3, 0] rfl ?_
                    have z := hback (1, y39.2.1 + 1, M47) (Option.some.inj h).symm
                    exact z
          · refine x_goto (tgt := 157) (pc := 279) B dX12_looks_279 rfl ?_
            have z := hback (q48.1, q48.2) (Option.some.inj h).symm
            exact z
    · obtain rfl := Option.some.inj h
      exact x_vret (pc := 282) B hQ dX12_looks_282
-- CurrentFarmsModel.isServed(II)Z [94]
abbrev y_Mo_isServed_94 : MethodName := ⟨"CurrentFarmsModel", "isServed", "(II)Z"⟩
abbrev cX12_isServed : ByteArray := prog_14_method_23_code
theorem dX12_isServed_0 : decode cX12_isServed 0 = .ok (.aload_n 0, 1) := by decide +kernel
theorem dX12_isServed_1 : decode cX12_isServed 1 = .ok (.iload_n 1, 1) := by decide +kernel
theorem dX12_isServed_2 : decode cX12_isServed 2 = .ok (.iload_n 2, 1) := by decide +kernel
theorem dX12_isServed_3 : decode cX12_isServed 3 = .ok (.iconst (-1), 1) := by decide +kernel
theorem dX12_isServed_4 : decode cX12_isServed 4 = .ok (.invokevirtual 117, 3) := by decide +kernel
theorem dX12_isServed_7 : decode cX12_isServed 7 = .ok (.istore_n 3, 1) := by decide +kernel
theorem dX12_isServed_8 : decode cX12_isServed 8 = .ok (.iload_n 3, 1) := by decide +kernel
theorem dX12_isServed_9 : decode cX12_isServed 9 = .ok (.iconst (-1), 1) := by decide +kernel
theorem dX12_isServed_10 : decode cX12_isServed 10 = .ok (.if_icmp .eq 21, 3) := by decide +kernel
theorem dX12_isServed_13 : decode cX12_isServed 13 = .ok (.aload_n 0, 1) := by decide +kernel
theorem dX12_isServed_14 : decode cX12_isServed 14 = .ok (.getfield 7, 3) := by decide +kernel
theorem dX12_isServed_17 : decode cX12_isServed 17 = .ok (.sipush 190, 3) := by decide +kernel
theorem dX12_isServed_20 : decode cX12_isServed 20 = .ok (.iload_n 3, 1) := by decide +kernel
theorem dX12_isServed_21 : decode cX12_isServed 21 = .ok (.iadd, 1) := by decide +kernel
theorem dX12_isServed_22 : decode cX12_isServed 22 = .ok (.iaload, 1) := by decide +kernel
theorem dX12_isServed_23 : decode cX12_isServed 23 = .ok (.iconst 2, 1) := by decide +kernel
theorem dX12_isServed_24 : decode cX12_isServed 24 = .ok (.if_icmp .ne 7, 3) := by decide +kernel
theorem dX12_isServed_27 : decode cX12_isServed 27 = .ok (.iconst 1, 1) := by decide +kernel
theorem dX12_isServed_28 : decode cX12_isServed 28 = .ok (.goto 4, 3) := by decide +kernel
theorem dX12_isServed_31 : decode cX12_isServed 31 = .ok (.iconst 0, 1) := by decide +kernel
theorem dX12_isServed_32 : decode cX12_isServed 32 = .ok (.ireturn, 1) := by decide +kernel
theorem hd_Mo_isServed_94 : y_Mo_isServed_94.cls ≠ "java/lang/invoke/MethodHandle" ∧ y_Mo_isServed_94.cls ≠ "java/lang/invoke/VarHandle" ∧ (parseMethodDescriptor y_Mo_isServed_94.desc).map (fun d => d.parameters.length) = some 2 := by decide +kernel
def f_Mo_isServed_94 (a1 : Int32) (a2 : Int32) (M0 : Mem) : Option (Bool) :=
  (f_Mo_decides_94 a1 a2 (-1) M0).bind fun q1 => if decide (q1 = (-1)) then (some false) else (if inb (190 + q1) 4700 then if decide ((M0.1 95 (190 + q1).toNatClampNeg) = 2) then (some true) else (some false) else none)
set_option maxHeartbeats 4000000 in
set_option maxRecDepth 20000 in
theorem C_Mo_isServed_94 {D : va_G} {ad adK adV : Nat → Nat} {cI cJ : ClassId} {l : Launch} (a1 : Int32) (a2 : Int32) (M0 : Mem) (o : Bool) (h : f_Mo_isServed_94 a1 a2 M0 = some o) : Ct D ad adK adV cI cJ l y_Mo_isServed_94 cX12_isServed 4 (some .boolean) 1 27 [.ref (ad 94), .int a1, .int a2] M0 (some (.int (bI o))) M0 := by
  refine x_start (lv := [(0, .ref (ad 94)), (1, .int a1), (2, .int a2)]) (own := "CurrentFarmsModel") rfl (by decide) (Nat.le_of_ble_eq_true rfl) rfl ?_
  intro p e s m args below meth c Q hQ B
  unfold f_Mo_isServed_94 at h
  refine x_aload_n (pc := 0) B 0 dX12_isServed_0 rfl rfl ?_
  refine x_iload_n (pc := 1) B 1 dX12_isServed_1 rfl rfl ?_
  refine x_iload_n (pc := 2) B 2 dX12_isServed_2 rfl rfl ?_
  refine x_iconst (v := (-1)) (pc := 3) B dX12_isServed_3 rfl ?_
  obtain ⟨q1, hq1, h⟩ := bnd h
  refine x_callV (rest := []) (st' := [.int q1]) (pc := 4) B oi_94 rfl (C_Mo_decides_94 a1 a2 (-1) M0 _ hq1) tw_1479 tw_1476 tw_1478 tw_51 tw_111 hd_Mo_decides_94 ⟨Nat.le_of_ble_eq_true rfl, Nat.le_of_ble_eq_true rfl⟩ rfl rfl (Nat.le_of_ble_eq_true rfl) rfl dX12_isServed_4 ?_
  refine x_istore_n (lv' := [(3, .int q1), (0, .ref (ad 94)), (1, .int a1), (2, .int a2)]) (pc := 7) B dX12_isServed_7 rfl (by decide) rfl ?_
  refine x_iload_n (pc := 8) B 0 dX12_isServed_8 rfl rfl ?_
  refine x_iconst (v := (-1)) (pc := 9) B dX12_isServed_9 rfl ?_
  refine x_icmp_eq (tgt := 31) (pc := 10) B dX12_isServed_10 rfl (fun hc2 => ?_) (fun hc2 => ?_)
  · have h := ift hc2 h
    refine x_iconst (v := 0) (pc := 31) B dX12_isServed_31 rfl ?_
    obtain rfl := Option.some.inj h
    exact x_zret (v := false) (pc := 32) B hQ dX12_isServed_32
  · have h := iff_ hc2 h
    refine x_aload_n (pc := 13) B 1 dX12_isServed_13 rfl rfl ?_
    refine x_get (T := TX12) (pc := 14) B 1 oi_94 rfl uw_12 (by decide) rfl tw_1300 rfl dX12_isServed_14 ?_
    refine x_sipush (v := 190) (pc := 17) B dX12_isServed_17 rfl ?_
    refine x_iload_n (pc := 20) B 0 dX12_isServed_20 rfl rfl ?_
    refine x_iadd (pc := 21) B dX12_isServed_21 ?_
    obtain ⟨hk3, h⟩ := ifn h
    refine x_iald (pc := 22) B ai_95 hk3 dX12_isServed_22 ?_
    refine x_iconst (v := 2) (pc := 23) B dX12_isServed_23 rfl ?_
    refine x_icmp_ne (tgt := 31) (pc := 24) B dX12_isServed_24 rfl (fun hc4 => ?_) (fun hc4 => ?_)
    · have h := iff_ hc4 h
      refine x_iconst (v := 0) (pc := 31) B dX12_isServed_31 rfl ?_
      obtain rfl := Option.some.inj h
      exact x_zret (v := false) (pc := 32) B hQ dX12_isServed_32
    · have h := ift hc4 h
      refine x_iconst (v := 1) (pc := 27) B dX12_isServed_27 rfl ?_
      refine x_goto (tgt := 32) (pc := 28) B dX12_isServed_28 rfl ?_
      obtain rfl := Option.some.inj h
      exact x_zret (v := true) (pc := 32) B hQ dX12_isServed_32
-- CurrentFarmsModel.measures(I)V [94]
abbrev y_Mo_measures_94 : MethodName := ⟨"CurrentFarmsModel", "measures", "(I)V"⟩
abbrev cX12_measures : ByteArray := prog_14_method_80_code
theorem dX12_measures_0 : decode cX12_measures 0 = .ok (.iconst 0, 1) := by decide +kernel
theorem dX12_measures_1 : decode cX12_measures 1 = .ok (.istore_n 2, 1) := by decide +kernel
theorem dX12_measures_2 : decode cX12_measures 2 = .ok (.iconst 0, 1) := by decide +kernel
theorem dX12_measures_3 : decode cX12_measures 3 = .ok (.istore_n 3, 1) := by decide +kernel
theorem dX12_measures_4 : decode cX12_measures 4 = .ok (.iconst 0, 1) := by decide +kernel
theorem dX12_measures_5 : decode cX12_measures 5 = .ok (.istore 4, 2) := by decide +kernel
theorem dX12_measures_7 : decode cX12_measures 7 = .ok (.iconst (-1), 1) := by decide +kernel
theorem dX12_measures_8 : decode cX12_measures 8 = .ok (.istore 5, 2) := by decide +kernel
theorem dX12_measures_10 : decode cX12_measures 10 = .ok (.iconst 0, 1) := by decide +kernel
theorem dX12_measures_11 : decode cX12_measures 11 = .ok (.istore 6, 2) := by decide +kernel
theorem dX12_measures_13 : decode cX12_measures 13 = .ok (.iconst 1, 1) := by decide +kernel
theorem dX12_measures_14 : decode cX12_measures 14 = .ok (.istore 7, 2) := by decide +kernel
theorem dX12_measures_16 : decode cX12_measures 16 = .ok (.iconst 0, 1) := by decide +kernel
theorem dX12_measures_17 : decode cX12_measures 17 = .ok (.istore 8, 2) := by decide +kernel
theorem dX12_measures_19 : decode cX12_measures 19 = .ok (.iload 8, 2) := by decide +kernel
theorem dX12_measures_21 : decode cX12_measures 21 = .ok (.bipush 120, 2) := by decide +kernel
theorem dX12_measures_23 : decode cX12_measures 23 = .ok (.if_icmp .gt 163, 3) := by decide +kernel
theorem dX12_measures_26 : decode cX12_measures 26 = .ok (.aload_n 0, 1) := by decide +kernel
theorem dX12_measures_27 : decode cX12_measures 27 = .ok (.getfield 7, 3) := by decide +kernel
theorem dX12_measures_30 : decode cX12_measures 30 = .ok (.sipush 2280, 3) := by decide +kernel
theorem dX12_measures_33 : decode cX12_measures 33 = .ok (.bipush 121, 2) := by decide +kernel
theorem dX12_measures_35 : decode cX12_measures 35 = .ok (.iload_n 1, 1) := by decide +kernel
theorem dX12_measures_36 : decode cX12_measures 36 = .ok (.imul, 1) := by decide +kernel
theorem dX12_measures_37 : decode cX12_measures 37 = .ok (.iadd, 1) := by decide +kernel
theorem dX12_measures_38 : decode cX12_measures 38 = .ok (.iload 8, 2) := by decide +kernel
theorem dX12_measures_40 : decode cX12_measures 40 = .ok (.iadd, 1) := by decide +kernel
theorem dX12_measures_41 : decode cX12_measures 41 = .ok (.iaload, 1) := by decide +kernel
theorem dX12_measures_42 : decode cX12_measures 42 = .ok (.istore 9, 2) := by decide +kernel
theorem dX12_measures_44 : decode cX12_measures 44 = .ok (.iconst 0, 1) := by decide +kernel
theorem dX12_measures_45 : decode cX12_measures 45 = .ok (.istore 10, 2) := by decide +kernel
theorem dX12_measures_47 : decode cX12_measures 47 = .ok (.aload_n 0, 1) := by decide +kernel
theorem dX12_measures_48 : decode cX12_measures 48 = .ok (.iload_n 1, 1) := by decide +kernel
theorem dX12_measures_49 : decode cX12_measures 49 = .ok (.iload 8, 2) := by decide +kernel
theorem dX12_measures_51 : decode cX12_measures 51 = .ok (.invokevirtual 285, 3) := by decide +kernel
theorem dX12_measures_54 : decode cX12_measures 54 = .ok (.ifCond .eq 79, 3) := by decide +kernel
theorem dX12_measures_57 : decode cX12_measures 57 = .ok (.iload 9, 2) := by decide +kernel
theorem dX12_measures_59 : decode cX12_measures 59 = .ok (.iconst (-1), 1) := by decide +kernel
theorem dX12_measures_60 : decode cX12_measures 60 = .ok (.if_icmp .eq 73, 3) := by decide +kernel
theorem dX12_measures_63 : decode cX12_measures 63 = .ok (.iload 9, 2) := by decide +kernel
theorem dX12_measures_65 : decode cX12_measures 65 = .ok (.iload_n 2, 1) := by decide +kernel
theorem dX12_measures_66 : decode cX12_measures 66 = .ok (.isub, 1) := by decide +kernel
theorem dX12_measures_67 : decode cX12_measures 67 = .ok (.iload_n 3, 1) := by decide +kernel
theorem dX12_measures_68 : decode cX12_measures 68 = .ok (.isub, 1) := by decide +kernel
theorem dX12_measures_69 : decode cX12_measures 69 = .ok (.iload 4, 2) := by decide +kernel
theorem dX12_measures_71 : decode cX12_measures 71 = .ok (.iadd, 1) := by decide +kernel
theorem dX12_measures_72 : decode cX12_measures 72 = .ok (.istore 10, 2) := by decide +kernel
theorem dX12_measures_74 : decode cX12_measures 74 = .ok (.iload 10, 2) := by decide +kernel
theorem dX12_measures_76 : decode cX12_measures 76 = .ok (.ifCond .ge 8, 3) := by decide +kernel
theorem dX12_measures_79 : decode cX12_measures 79 = .ok (.iload 10, 2) := by decide +kernel
theorem dX12_measures_81 : decode cX12_measures 81 = .ok (.goto 4, 3) := by decide +kernel
theorem dX12_measures_84 : decode cX12_measures 84 = .ok (.iconst 0, 1) := by decide +kernel
theorem dX12_measures_85 : decode cX12_measures 85 = .ok (.istore 4, 2) := by decide +kernel
theorem dX12_measures_87 : decode cX12_measures 87 = .ok (.iload 10, 2) := by decide +kernel
theorem dX12_measures_89 : decode cX12_measures 89 = .ok (.ifCond .ge 7, 3) := by decide +kernel
theorem dX12_measures_92 : decode cX12_measures 92 = .ok (.iconst 0, 1) := by decide +kernel
theorem dX12_measures_93 : decode cX12_measures 93 = .ok (.goto 5, 3) := by decide +kernel
theorem dX12_measures_96 : decode cX12_measures 96 = .ok (.iload 10, 2) := by decide +kernel
theorem dX12_measures_98 : decode cX12_measures 98 = .ok (.istore 10, 2) := by decide +kernel
theorem dX12_measures_100 : decode cX12_measures 100 = .ok (.iload 5, 2) := by decide +kernel
theorem dX12_measures_102 : decode cX12_measures 102 = .ok (.iconst (-1), 1) := by decide +kernel
theorem dX12_measures_103 : decode cX12_measures 103 = .ok (.if_icmp .ne 7, 3) := by decide +kernel
theorem dX12_measures_106 : decode cX12_measures 106 = .ok (.iconst 1, 1) := by decide +kernel
theorem dX12_measures_107 : decode cX12_measures 107 = .ok (.goto 8, 3) := by decide +kernel
theorem dX12_measures_110 : decode cX12_measures 110 = .ok (.iload 8, 2) := by decide +kernel
theorem dX12_measures_112 : decode cX12_measures 112 = .ok (.iload 5, 2) := by decide +kernel
theorem dX12_measures_114 : decode cX12_measures 114 = .ok (.isub, 1) := by decide +kernel
theorem dX12_measures_115 : decode cX12_measures 115 = .ok (.istore 7, 2) := by decide +kernel
theorem dX12_measures_117 : decode cX12_measures 117 = .ok (.iload 9, 2) := by decide +kernel
theorem dX12_measures_119 : decode cX12_measures 119 = .ok (.istore_n 2, 1) := by decide +kernel
theorem dX12_measures_120 : decode cX12_measures 120 = .ok (.iconst 0, 1) := by decide +kernel
theorem dX12_measures_121 : decode cX12_measures 121 = .ok (.istore_n 3, 1) := by decide +kernel
theorem dX12_measures_122 : decode cX12_measures 122 = .ok (.iload 8, 2) := by decide +kernel
theorem dX12_measures_124 : decode cX12_measures 124 = .ok (.istore 5, 2) := by decide +kernel
theorem dX12_measures_126 : decode cX12_measures 126 = .ok (.iload 10, 2) := by decide +kernel
theorem dX12_measures_128 : decode cX12_measures 128 = .ok (.istore 6, 2) := by decide +kernel
theorem dX12_measures_130 : decode cX12_measures 130 = .ok (.goto 36, 3) := by decide +kernel
theorem dX12_measures_133 : decode cX12_measures 133 = .ok (.aload_n 0, 1) := by decide +kernel
theorem dX12_measures_134 : decode cX12_measures 134 = .ok (.iload_n 1, 1) := by decide +kernel
theorem dX12_measures_135 : decode cX12_measures 135 = .ok (.iload 8, 2) := by decide +kernel
theorem dX12_measures_137 : decode cX12_measures 137 = .ok (.invokevirtual 285, 3) := by decide +kernel
theorem dX12_measures_140 : decode cX12_measures 140 = .ok (.ifCond .eq 26, 3) := by decide +kernel
theorem dX12_measures_143 : decode cX12_measures 143 = .ok (.iload 5, 2) := by decide +kernel
theorem dX12_measures_145 : decode cX12_measures 145 = .ok (.iconst (-1), 1) := by decide +kernel
theorem dX12_measures_146 : decode cX12_measures 146 = .ok (.if_icmp .ne 8, 3) := by decide +kernel
theorem dX12_measures_149 : decode cX12_measures 149 = .ok (.bipush 10, 2) := by decide +kernel
theorem dX12_measures_151 : decode cX12_measures 151 = .ok (.goto 8, 3) := by decide +kernel
theorem dX12_measures_154 : decode cX12_measures 154 = .ok (.iload 6, 2) := by decide +kernel
theorem dX12_measures_156 : decode cX12_measures 156 = .ok (.iload 7, 2) := by decide +kernel
theorem dX12_measures_158 : decode cX12_measures 158 = .ok (.idiv, 1) := by decide +kernel
theorem dX12_measures_159 : decode cX12_measures 159 = .ok (.istore 10, 2) := by decide +kernel
theorem dX12_measures_161 : decode cX12_measures 161 = .ok (.iload_n 3, 1) := by decide +kernel
theorem dX12_measures_162 : decode cX12_measures 162 = .ok (.iload 10, 2) := by decide +kernel
theorem dX12_measures_164 : decode cX12_measures 164 = .ok (.iadd, 1) := by decide +kernel
theorem dX12_measures_165 : decode cX12_measures 165 = .ok (.istore_n 3, 1) := by decide +kernel
theorem dX12_measures_166 : decode cX12_measures 166 = .ok (.aload_n 0, 1) := by decide +kernel
theorem dX12_measures_167 : decode cX12_measures 167 = .ok (.getfield 54, 3) := by decide +kernel
theorem dX12_measures_170 : decode cX12_measures 170 = .ok (.bipush 121, 2) := by decide +kernel
theorem dX12_measures_172 : decode cX12_measures 172 = .ok (.iload_n 1, 1) := by decide +kernel
theorem dX12_measures_173 : decode cX12_measures 173 = .ok (.imul, 1) := by decide +kernel
theorem dX12_measures_174 : decode cX12_measures 174 = .ok (.iload 8, 2) := by decide +kernel
theorem dX12_measures_176 : decode cX12_measures 176 = .ok (.iadd, 1) := by decide +kernel
theorem dX12_measures_177 : decode cX12_measures 177 = .ok (.iload 10, 2) := by decide +kernel
theorem dX12_measures_179 : decode cX12_measures 179 = .ok (.iastore, 1) := by decide +kernel
theorem dX12_measures_180 : decode cX12_measures 180 = .ok (.iinc 8 1, 3) := by decide +kernel
theorem dX12_measures_183 : decode cX12_measures 183 = .ok (.goto (-164), 3) := by decide +kernel
theorem dX12_measures_186 : decode cX12_measures 186 = .ok (.return_, 1) := by decide +kernel
theorem hd_Mo_measures_94 : y_Mo_measures_94.cls ≠ "java/lang/invoke/MethodHandle" ∧ y_Mo_measures_94.cls ≠ "java/lang/invoke/VarHandle" ∧ (parseMethodDescriptor y_Mo_measures_94.desc).map (fun d => d.parameters.length) = some 1 := by decide +kernel
def b_Mo_measures_94_19 (a1 : Int32) (y1 : Int32 × Int32 × Int32 × Int32 × Int32 × Int32 × Int32 × Mem) : Option ((Int32 × Int32 × Int32 × Int32 × Int32 × Int32 × Int32 × Mem) ⊕ (Mem)) :=
  if decide (y1.2.2.2.2.2.2.1 ≤ 120) then (if inb ((2280 + (121 * a1)) + y1.2.2.2.2.2.2.1) 4700 then jv_ (y1.2.2.2.2.2.2.2.1 95 ((2280 + (121 * a1)) + y1.2.2.2.2.2.2.1).toNatClampNeg : Int32) fun x4 => (f_Mo_isServed_94 a1 y1.2.2.2.2.2.2.1 y1.2.2.2.2.2.2.2).bind fun q5 => jn_ (fun (u14 : Int32 × Int32 × Int32 × Int32 × Int32 × Int32 × Int32) => if inb ((121 * a1) + y1.2.2.2.2.2.2.1) 1210 then jv_ (wI y1.2.2.2.2.2.2.2 108 ((121 * a1) + y1.2.2.2.2.2.2.1).toNatClampNeg u14.2.2.2.2.2.2) fun M16 => some (.inl (u14.1, u14.2.1, u14.2.2.1, u14.2.2.2.1, u14.2.2.2.2.1, u14.2.2.2.2.2.1, y1.2.2.2.2.2.2.1 + 1, M16)) else none) fun k17 => if q5 then (if decide (x4 = (-1)) then ((f_Mo_isServed_94 a1 y1.2.2.2.2.2.2.1 y1.2.2.2.2.2.2.2).bind fun q28 => if q28 then (jn_ (fun (u32 : Int32) => k17 (y1.1, y1.2.1 + u32, y1.2.2.1, y1.2.2.2.1, y1.2.2.2.2.1, y1.2.2.2.2.2.1, u32)) fun k33 => if decide (y1.2.2.2.1 = (-1)) then (k33 10) else (if !decide (y1.2.2.2.2.2.1 = 0) then k33 (y1.2.2.2.2.1 / y1.2.2.2.2.2.1) else none)) else (k17 (y1.1, y1.2.1, y1.2.2.1, y1.2.2.2.1, y1.2.2.2.2.1, y1.2.2.2.2.2.1, 0))) else (jv_ ((if decide ((((x4 - y1.1) - y1.2.1) + y1.2.2.1) < 0) then ((x4 - y1.1) - y1.2.1) + y1.2.2.1 else 0) : Int32) fun u21 => jv_ ((if decide ((((x4 - y1.1) - y1.2.1) + y1.2.2.1) < 0) then 0 else ((x4 - y1.1) - y1.2.1) + y1.2.2.1) : Int32) fun u24 => jv_ ((if decide (y1.2.2.2.1 = (-1)) then 1 else y1.2.2.2.2.2.2.1 - y1.2.2.2.1) : Int32) fun u27 => k17 (x4, 0, u21, y1.2.2.2.2.2.2.1, u24, u27, u24))) else ((f_Mo_isServed_94 a1 y1.2.2.2.2.2.2.1 y1.2.2.2.2.2.2.2).bind fun q35 => if q35 then (jn_ (fun (u39 : Int32) => k17 (y1.1, y1.2.1 + u39, y1.2.2.1, y1.2.2.2.1, y1.2.2.2.2.1, y1.2.2.2.2.2.1, u39)) fun k40 => if decide (y1.2.2.2.1 = (-1)) then (k40 10) else (if !decide (y1.2.2.2.2.2.1 = 0) then k40 (y1.2.2.2.2.1 / y1.2.2.2.2.2.1) else none)) else (k17 (y1.1, y1.2.1, y1.2.2.1, y1.2.2.2.1, y1.2.2.2.2.1, y1.2.2.2.2.2.1, 0))) else none) else (some (.inr y1.2.2.2.2.2.2.2))
def f_Mo_measures_94 (a1 : Int32) (M0 : Mem) : Option (Mem) :=
  (itr (b_Mo_measures_94_19 a1) FU (0, 0, 0, (-1), 0, 1, 0, M0)).bind fun q42 => some q42
set_option maxHeartbeats 4000000 in
set_option maxRecDepth 20000 in
theorem C_Mo_measures_94 {D : va_G} {ad adK adV : Nat → Nat} {cI cJ : ClassId} {l : Launch} (a1 : Int32) (M0 : Mem) (o : Mem) (h : f_Mo_measures_94 a1 M0 = some o) : Ct D ad adK adV cI cJ l y_Mo_measures_94 cX12_measures 11 none 2 50 [.ref (ad 94), .int a1] M0 none o := by
  refine x_start (lv := [(0, .ref (ad 94)), (1, .int a1)]) (own := "CurrentFarmsModel") rfl (by decide) (Nat.le_of_ble_eq_true rfl) rfl ?_
  intro p e s m args below meth c Q hQ B
  unfold f_Mo_measures_94 at h
  refine x_iconst (v := 0) (pc := 0) B dX12_measures_0 rfl ?_
  refine x_istore_n (lv' := [(2, .int 0), (0, .ref (ad 94)), (1, .int a1)]) (pc := 1) B dX12_measures_1 rfl (by decide) rfl ?_
  refine x_iconst (v := 0) (pc := 2) B dX12_measures_2 rfl ?_
  refine x_istore_n (lv' := [(3, .int 0), (2, .int 0), (0, .ref (ad 94)), (1, .int a1)]) (pc := 3) B dX12_measures_3 rfl (by decide) rfl ?_
  refine x_iconst (v := 0) (pc := 4) B dX12_measures_4 rfl ?_
  refine x_istore (lv' := [(4, .int 0), (3, .int 0), (2, .int 0), (0, .ref (ad 94)), (1, .int a1)]) (pc := 5) B dX12_measures_5 (by decide) rfl ?_
  refine x_iconst (v := (-1)) (pc := 7) B dX12_measures_7 rfl ?_
  refine x_istore (lv' := [(5, .int (-1)), (4, .int 0), (3, .int 0), (2, .int 0), (0, .ref (ad 94)), (1, .int a1)]) (pc := 8) B dX12_measures_8 (by decide) rfl ?_
  refine x_iconst (v := 0) (pc := 10) B dX12_measures_10 rfl ?_
  refine x_istore (lv' := [(6, .int 0), (5, .int (-1)), (4, .int 0), (3, .int 0), (2, .int 0), (0, .ref (ad 94)), (1, .int a1)]) (pc := 11) B dX12_measures_11 (by decide) rfl ?_
  refine x_iconst (v := 1) (pc := 13) B dX12_measures_13 rfl ?_
  refine x_istore (lv' := [(7, .int 1), (6, .int 0), (5, .int (-1)), (4, .int 0), (3, .int 0), (2, .int 0), (0, .ref (ad 94)), (1, .int a1)]) (pc := 14) B dX12_measures_14 (by decide) rfl ?_
  refine x_iconst (v := 0) (pc := 16) B dX12_measures_16 rfl ?_
  refine x_istore (lv' := [(8, .int 0), (7, .int 1), (6, .int 0), (5, .int (-1)), (4, .int 0), (3, .int 0), (2, .int 0), (0, .ref (ad 94)), (1, .int a1)]) (pc := 17) B dX12_measures_17 (by decide) rfl ?_
  refine x_pick (lv' := [(0, .ref (ad 94)), (1, .int a1), (2, .int 0), (3, .int 0), (4, .int 0), (5, .int (-1)), (6, .int 0), (7, .int 1), (8, .int 0)]) [7, 8, 6, 5, 4, 3, 2, 1, 0] rfl ?_
  obtain ⟨q42, hq42, h⟩ := bnd h
  refine x_loop (Head := fun (y1 : Int32 × Int32 × Int32 × Int32 × Int32 × Int32 × Int32 × Mem) => XX D ad cI cJ p l e (Rm 2 50) s m args below meth c Q 11 y1.2.2.2.2.2.2.2 19 [(0, .ref (ad 94)), (1, .int a1), (2, .int y1.1), (3, .int y1.2.1), (4, .int y1.2.2.1), (5, .int y1.2.2.2.1), (6, .int y1.2.2.2.2.1), (7, .int y1.2.2.2.2.2.1), (8, .int y1.2.2.2.2.2.2.1)] []) (Ex := fun (q42 : Mem) => XX D ad cI cJ p l e (Rm 2 50) s m args below meth c Q 11 q42 186 [] []) (fun y1 r h hback hexit => ?_) FU _ q42 hq42 ?_
  · unfold b_Mo_measures_94_19 at h
    refine x_iload (pc := 19) B 8 dX12_measures_19 rfl ?_
    refine x_bipush (v := 120) (pc := 21) B dX12_measures_21 rfl ?_
    refine x_icmp_gt (tgt := 186) (pc := 23) B dX12_measures_23 rfl (fun hc2 => ?_) (fun hc2 => ?_)
    · have h := iff_ hc2 h
      refine x_pick (lv' := []) [] rfl ?_
      have z := hexit y1.2.2.2.2.2.2.2 (Option.some.inj h).symm
      exact z
    · have h := ift hc2 h
      refine x_aload_n (pc := 26) B 0 dX12_measures_26 rfl rfl ?_
      refine x_get (T := TX12) (pc := 27) B 1 oi_94 rfl uw_12 (by decide) rfl tw_1300 rfl dX12_measures_27 ?_
      refine x_sipush (v := 2280) (pc := 30) B dX12_measures_30 rfl ?_
      refine x_bipush (v := 121) (pc := 33) B dX12_measures_33 rfl ?_
      refine x_iload_n (pc := 35) B 1 dX12_measures_35 rfl rfl ?_
      refine x_imul (pc := 36) B dX12_measures_36 ?_
      refine x_iadd (pc := 37) B dX12_measures_37 ?_
      refine x_iload (pc := 38) B 8 dX12_measures_38 rfl ?_
      refine x_iadd (pc := 40) B dX12_measures_40 ?_
      obtain ⟨hk3, h⟩ := ifn h
      refine x_iald (pc := 41) B ai_95 hk3 dX12_measures_41 ?_
      refine jv_m (P := fun (x4 : Int32) => XX D ad cI cJ p l e (Rm 2 50) s m args below meth c Q 11 y1.2.2.2.2.2.2.2 42 [(0, .ref (ad 94)), (1, .int a1), (2, .int y1.1), (3, .int y1.2.1), (4, .int y1.2.2.1), (5, .int y1.2.2.2.1), (6, .int y1.2.2.2.2.1), (7, .int y1.2.2.2.2.2.1), (8, .int y1.2.2.2.2.2.2.1)] [.int x4]) h (fun x4 h => ?_)
      refine x_istore (lv' := [(9, .int x4), (0, .ref (ad 94)), (1, .int a1), (2, .int y1.1), (3, .int y1.2.1), (4, .int y1.2.2.1), (5, .int y1.2.2.2.1), (6, .int y1.2.2.2.2.1), (7, .int y1.2.2.2.2.2.1), (8, .int y1.2.2.2.2.2.2.1)]) (pc := 42) B dX12_measures_42 (by decide) rfl ?_
      refine x_iconst (v := 0) (pc := 44) B dX12_measures_44 rfl ?_
      refine x_istore (lv' := [(10, .int 0), (9, .int x4), (0, .ref (ad 94)), (1, .int a1), (2, .int y1.1), (3, .int y1.2.1), (4, .int y1.2.2.1), (5, .int y1.2.2.2.1), (6, .int y1.2.2.2.2.1), (7, .int y1.2.2.2.2.2.1), (8, .int y1.2.2.2.2.2.2.1)]) (pc := 45) B dX12_measures_45 (by decide) rfl ?_
      refine x_aload_n (pc := 47) B 2 dX12_measures_47 rfl rfl ?_
      refine x_iload_n (pc := 48) B 3 dX12_measures_48 rfl rfl ?_
      refine x_iload (pc := 49) B 10 dX12_measures_49 rfl ?_
      obtain ⟨q5, hq5, h⟩ := bnd h
      refine x_callV (rest := []) (st' := [.int (bI q5)]) (pc := 51) B oi_94 rfl (C_Mo_isServed_94 a1 y1.2.2.2.2.2.2.1 y1.2.2.2.2.2.2.2 _ hq5) tw_1491 tw_1488 tw_1490 tw_54 tw_111 hd_Mo_isServed_94 ⟨Nat.le_of_ble_eq_true rfl, Nat.le_of_ble_eq_true rfl⟩ rfl rfl (Nat.le_of_ble_eq_true rfl) rfl dX12_measures_51 ?_
      refine jn_k h (fun (u14 : Int32 × Int32 × Int32 × Int32 × Int32 × Int32 × Int32) => XX D ad cI cJ p l e (Rm 2 50) s m args below meth c Q 11 y1.2.2.2.2.2.2.2 166 [(0, .ref (ad 94)), (1, .int a1), (2, .int u14.1), (3, .int u14.2.1), (4, .int u14.2.2.1), (5, .int u14.2.2.2.1), (6, .int u14.2.2.2.2.1), (7, .int u14.2.2.2.2.2.1), (8, .int y1.2.2.2.2.2.2.1), (10, .int u14.2.2.2.2.2.2)] []) (fun u14 h => ?_) (fun k17 h JJ => ?_)
      · refine x_aload_n (pc := 166) B 0 dX12_measures_166 rfl rfl ?_
        refine x_get (T := TX12) (pc := 167) B 22 oi_94 rfl uw_12 (by decide) rfl tw_1321 rfl dX12_measures_167 ?_
        refine x_bipush (v := 121) (pc := 170) B dX12_measures_170 rfl ?_
        refine x_iload_n (pc := 172) B 1 dX12_measures_172 rfl rfl ?_
        refine x_imul (pc := 173) B dX12_measures_173 ?_
        refine x_iload (pc := 174) B 8 dX12_measures_174 rfl ?_
        refine x_iadd (pc := 176) B dX12_measures_176 ?_
        refine x_iload (pc := 177) B 9 dX12_measures_177 rfl ?_
        obtain ⟨hk15, h⟩ := ifn h
        refine x_iast (pc := 179) B ai_108 hk15 dX12_measures_179 ?_
        refine jv_m (P := fun M16 => XX D ad cI cJ p l e (Rm 2 50) s m args below meth c Q 11 M16 180 [(0, .ref (ad 94)), (1, .int a1), (2, .int u14.1), (3, .int u14.2.1), (4, .int u14.2.2.1), (5, .int u14.2.2.2.1), (6, .int u14.2.2.2.2.1), (7, .int u14.2.2.2.2.2.1), (8, .int y1.2.2.2.2.2.2.1), (10, .int u14.2.2.2.2.2.2)] []) h (fun M16 h => ?_)
        refine x_iinc (k := 8) (v := y1.2.2.2.2.2.2.1 + 1) (lv' := [(8, .int (y1.2.2.2.2.2.2.1 + 1)), (0, .ref (ad 94)), (1, .int a1), (2, .int u14.1), (3, .int u14.2.1), (4, .int u14.2.2.1), (5, .int u14.2.2.2.1), (6, .int u14.2.2.2.2.1), (7, .int u14.2.2.2.2.2.1), (10, .int u14.2.2.2.2.2.2)]) (pc := 180) B dX12_measures_180 rfl rfl (by decide) rfl ?_
        refine x_goto (tgt := 19) (pc := 183) B dX12_measures_183 rfl ?_
        refine x_pick (lv' := [(0, .ref (ad 94)), (1, .int a1), (2, .int u14.1), (3, .int u14.2.1), (4, .int u14.2.2.1), (5, .int u14.2.2.2.1), (6, .int u14.2.2.2.2.1), (7, .int u14.2.2.2.2.2.1), (8, .int (y1.2.2.2.2.2.2.1 + 1))]) [1, 2, 3, 4, 5, 6, 7, 8, 0] rfl ?_
        have z := hback (u14.1, u14.2.1, u14.2.2.1, u14.2.2.2.1, u14.2.2.2.2.1, u14.2.2.2.2.2.1, y1.2.2.2.2.2.2.1 + 1, M16) (Option.some.inj h).symm
        exact z
      · refine x_if_eq_b (tgt := 133) (pc := 54) B dX12_measures_54 rfl (fun hc6 => ?_) (fun hc6 => ?_)
        · have h := iff_ hc6 h
          refine x_aload_n (pc := 133) B 2 dX12_measures_133 rfl rfl ?_
          refine x_iload_n (pc := 134) B 3 dX12_measures_134 rfl rfl ?_
          refine x_iload (pc := 135) B 10 dX12_measures_135 rfl ?_
          obtain ⟨q35, hq35, h⟩ := bnd h
          refine x_callV (rest := []) (st' := [.int (bI q35)]) (pc := 137) B oi_94 rfl (C_Mo_isServed_94 a1 y1.2.2.2.2.2.2.1 y1.2.2.2.2.2.2.2 _ hq35) tw_1491 tw_1488 tw_1490 tw_54 tw_111 hd_Mo_isServed_94 ⟨Nat.le_of_ble_eq_true rfl, Nat.le_of_ble_eq_true rfl⟩ rfl rfl (Nat.le_of_ble_eq_true rfl) rfl dX12_measures_137 ?_
          refine x_if_eq_b (tgt := 166) (pc := 140) B dX12_measures_140 rfl (fun hc36 => ?_) (fun hc36 => ?_)
          · have h := iff_ hc36 h
            refine x_pick (lv' := [(0, .ref (ad 94)), (1, .int a1), (2, .int y1.1), (3, .int y1.2.1), (4, .int y1.2.2.1), (5, .int y1.2.2.2.1), (6, .int y1.2.2.2.2.1), (7, .int y1.2.2.2.2.2.1), (8, .int y1.2.2.2.2.2.2.1), (10, .int 0)]) [2, 3, 4, 5, 6, 7, 8, 9, 10, 0] rfl ?_
            have z := JJ (y1.1, y1.2.1, y1.2.2.1, y1.2.2.2.1, y1.2.2.2.2.1, y1.2.2.2.2.2.1, 0) h
            exact z
          · have h := ift hc36 h
            refine x_iload (pc := 143) B 7 dX12_measures_143 rfl ?_
            refine x_iconst (v := (-1)) (pc := 145) B dX12_measures_145 rfl ?_
            refine jn_k h (fun (u39 : Int32) => XX D ad cI cJ p l e (Rm 2 50) s m args below meth c Q 11 y1.2.2.2.2.2.2.2 159 [(0, .ref (ad 94)), (1, .int a1), (2, .int y1.1), (3, .int y1.2.1), (4, .int y1.2.2.1), (5, .int y1.2.2.2.1), (6, .int y1.2.2.2.2.1), (7, .int y1.2.2.2.2.2.1), (8, .int y1.2.2.2.2.2.2.1)] [.int u39]) (fun u39 h => ?_) (fun k40 h JJ => ?_)
            · refine x_istore (lv' := [(10, .int u39), (0, .ref (ad 94)), (1, .int a1), (2, .int y1.1), (3, .int y1.2.1), (4, .int y1.2.2.1), (5, .int y1.2.2.2.1), (6, .int y1.2.2.2.2.1), (7, .int y1.2.2.2.2.2.1), (8, .int y1.2.2.2.2.2.2.1)]) (pc := 159) B dX12_measures_159 (by decide) rfl ?_
              refine x_iload_n (pc := 161) B 4 dX12_measures_161 rfl rfl ?_
              refine x_iload (pc := 162) B 0 dX12_measures_162 rfl ?_
              refine x_iadd (pc := 164) B dX12_measures_164 ?_
              refine x_istore_n (lv' := [(3, .int (y1.2.1 + u39)), (10, .int u39), (0, .ref (ad 94)), (1, .int a1), (2, .int y1.1), (4, .int y1.2.2.1), (5, .int y1.2.2.2.1), (6, .int y1.2.2.2.2.1), (7, .int y1.2.2.2.2.2.1), (8, .int y1.2.2.2.2.2.2.1)]) (pc := 165) B dX12_measures_165 rfl (by decide) rfl ?_
              refine x_pick (lv' := [(0, .ref (ad 94)), (1, .int a1), (2, .int y1.1), (3, .int (y1.2.1 + u39)), (4, .int y1.2.2.1), (5, .int y1.2.2.2.1), (6, .int y1.2.2.2.2.1), (7, .int y1.2.2.2.2.2.1), (8, .int y1.2.2.2.2.2.2.1), (10, .int u39)]) [2, 3, 4, 0, 5, 6, 7, 8, 9, 1] rfl ?_
              have z := JJ (y1.1, y1.2.1 + u39, y1.2.2.1, y1.2.2.2.1, y1.2.2.2.2.1, y1.2.2.2.2.2.1, u39) h
              exact z
            · refine x_icmp_ne (tgt := 154) (pc := 146) B dX12_measures_146 rfl (fun hc37 => ?_) (fun hc37 => ?_)
              · have h := iff_ hc37 h
                refine x_iload (pc := 154) B 8 dX12_measures_154 rfl ?_
                refine x_iload (pc := 156) B 9 dX12_measures_156 rfl ?_
                obtain ⟨hk41, h⟩ := ifn h
                refine x_idiv (pc := 158) B dX12_measures_158 (nz hk41) ?_
                refine x_pick (lv' := [(0, .ref (ad 94)), (1, .int a1), (2, .int y1.1), (3, .int y1.2.1), (4, .int y1.2.2.1), (5, .int y1.2.2.2.1), (6, .int y1.2.2.2.2.1), (7, .int y1.2.2.2.2.2.1), (8, .int y1.2.2.2.2.2.2.1)]) [2, 3, 4, 5, 6, 7, 8, 9, 10] rfl ?_
                have z := JJ (y1.2.2.2.2.1 / y1.2.2.2.2.2.1) h
                exact z
              · have h := ift hc37 h
                refine x_bipush (v := 10) (pc := 149) B dX12_measures_149 rfl ?_
                refine x_goto (tgt := 159) (pc := 151) B dX12_measures_151 rfl ?_
                refine x_pick (lv' := [(0, .ref (ad 94)), (1, .int a1), (2, .int y1.1), (3, .int y1.2.1), (4, .int y1.2.2.1), (5, .int y1.2.2.2.1), (6, .int y1.2.2.2.2.1), (7, .int y1.2.2.2.2.2.1), (8, .int y1.2.2.2.2.2.2.1)]) [2, 3, 4, 5, 6, 7, 8, 9, 10] rfl ?_
                have z := JJ 10 h
                exact z
        · have h := ift hc6 h
          refine x_iload (pc := 57) B 1 dX12_measures_57 rfl ?_
          refine x_iconst (v := (-1)) (pc := 59) B dX12_measures_59 rfl ?_
          refine x_icmp_eq (tgt := 133) (pc := 60) B dX12_measures_60 rfl (fun hc18 => ?_) (fun hc18 => ?_)
          · have h := ift hc18 h
            refine x_aload_n (pc := 133) B 2 dX12_measures_133 rfl rfl ?_
            refine x_iload_n (pc := 134) B 3 dX12_measures_134 rfl rfl ?_
            refine x_iload (pc := 135) B 10 dX12_measures_135 rfl ?_
            obtain ⟨q28, hq28, h⟩ := bnd h
            refine x_callV (rest := []) (st' := [.int (bI q28)]) (pc := 137) B oi_94 rfl (C_Mo_isServed_94 a1 y1.2.2.2.2.2.2.1 y1.2.2.2.2.2.2.2 _ hq28) tw_1491 tw_1488 tw_1490 tw_54 tw_111 hd_Mo_isServed_94 ⟨Nat.le_of_ble_eq_true rfl, Nat.le_of_ble_eq_true rfl⟩ rfl rfl (Nat.le_of_ble_eq_true rfl) rfl dX12_measures_137 ?_
            refine x_if_eq_b (tgt := 166) (pc := 140) B dX12_measures_140 rfl (fun hc29 => ?_) (fun hc29 => ?_)
            · have h := iff_ hc29 h
              refine x_pick (lv' := [(0, .ref (ad 94)), (1, .int a1), (2, .int y1.1), (3, .int y1.2.1), (4, .int y1.2.2.1), (5, .int y1.2.2.2.1), (6, .int y1.2.2.2.2.1), (7, .int y1.2.2.2.2.2.1), (8, .int y1.2.2.2.2.2.2.1), (10, .int 0)]) [2, 3, 4, 5, 6, 7, 8, 9, 10, 0] rfl ?_
              have z := JJ (y1.1, y1.2.1, y1.2.2.1, y1.2.2.2.1, y1.2.2.2.2.1, y1.2.2.2.2.2.1, 0) h
              exact z
            · have h := ift hc29 h
              refine x_iload (pc := 143) B 7 dX12_measures_143 rfl ?_
              refine x_iconst (v := (-1)) (pc := 145) B dX12_measures_145 rfl ?_
              refine jn_k h (fun (u32 : Int32) => XX D ad cI cJ p l e (Rm 2 50) s m args below meth c Q 11 y1.2.2.2.2.2.2.2 159 [(0, .ref (ad 94)), (1, .int a1), (2, .int y1.1), (3, .int y1.2.1), (4, .int y1.2.2.1), (5, .int y1.2.2.2.1), (6, .int y1.2.2.2.2.1), (7, .int y1.2.2.2.2.2.1), (8, .int y1.2.2.2.2.2.2.1)] [.int u32]) (fun u32 h => ?_) (fun k33 h JJ => ?_)
              · refine x_istore (lv' := [(10, .int u32), (0, .ref (ad 94)), (1, .int a1), (2, .int y1.1), (3, .int y1.2.1), (4, .int y1.2.2.1), (5, .int y1.2.2.2.1), (6, .int y1.2.2.2.2.1), (7, .int y1.2.2.2.2.2.1), (8, .int y1.2.2.2.2.2.2.1)]) (pc := 159) B dX12_measures_159 (by decide) rfl ?_
                refine x_iload_n (pc := 161) B 4 dX12_measures_161 rfl rfl ?_
                refine x_iload (pc := 162) B 0 dX12_measures_162 rfl ?_
                refine x_iadd (pc := 164) B dX12_measures_164 ?_
                refine x_istore_n (lv' := [(3, .int (y1.2.1 + u32)), (10, .int u32), (0, .ref (ad 94)), (1, .int a1), (2, .int y1.1), (4, .int y1.2.2.1), (5, .int y1.2.2.2.1), (6, .int y1.2.2.2.2.1), (7, .int y1.2.2.2.2.2.1), (8, .int y1.2.2.2.2.2.2.1)]) (pc := 165) B dX12_measures_165 rfl (by decide) rfl ?_
                refine x_pick (lv' := [(0, .ref (ad 94)), (1, .int a1), (2, .int y1.1), (3, .int (y1.2.1 + u32)), (4, .int y1.2.2.1), (5, .int y1.2.2.2.1), (6, .int y1.2.2.2.2.1), (7, .int y1.2.2.2.2.2.1), (8, .int y1.2.2.2.2.2.2.1), (10, .int u32)]) [2, 3, 4, 0, 5, 6, 7, 8, 9, 1] rfl ?_
                have z := JJ (y1.1, y1.2.1 + u32, y1.2.2.1, y1.2.2.2.1, y1.2.2.2.2.1, y1.2.2.2.2.2.1, u32) h
                exact z
              · refine x_icmp_ne (tgt := 154) (pc := 146) B dX12_measures_146 rfl (fun hc30 => ?_) (fun hc30 => ?_)
                · have h := iff_ hc30 h
                  refine x_iload (pc := 154) B 8 dX12_measures_154 rfl ?_
                  refine x_iload (pc := 156) B 9 dX12_measures_156 rfl ?_
                  obtain ⟨hk34, h⟩ := ifn h
                  refine x_idiv (pc := 158) B dX12_measures_158 (nz hk34) ?_
                  refine x_pick (lv' := [(0, .ref (ad 94)), (1, .int a1), (2, .int y1.1), (3, .int y1.2.1), (4, .int y1.2.2.1), (5, .int y1.2.2.2.1), (6, .int y1.2.2.2.2.1), (7, .int y1.2.2.2.2.2.1), (8, .int y1.2.2.2.2.2.2.1)]) [2, 3, 4, 5, 6, 7, 8, 9, 10] rfl ?_
                  have z := JJ (y1.2.2.2.2.1 / y1.2.2.2.2.2.1) h
                  exact z
                · have h := ift hc30 h
                  refine x_bipush (v := 10) (pc := 149) B dX12_measures_149 rfl ?_
                  refine x_goto (tgt := 159) (pc := 151) B dX12_measures_151 rfl ?_
                  refine x_pick (lv' := [(0, .ref (ad 94)), (1, .int a1), (2, .int y1.1), (3, .int y1.2.1), (4, .int y1.2.2.1), (5, .int y1.2.2.2.1), (6, .int y1.2.2.2.2.1), (7, .int y1.2.2.2.2.2.1), (8, .int y1.2.2.2.2.2.2.1)]) [2, 3, 4, 5, 6, 7, 8, 9, 10] rfl ?_
                  have z := JJ 10 h
                  exact z
          · have h := iff_ hc18 h
            refine x_iload (pc := 63) B 1 dX12_measures_63 rfl ?_
            refine x_iload_n (pc := 65) B 4 dX12_measures_65 rfl rfl ?_
            refine x_isub (pc := 66) B dX12_measures_66 ?_
            refine x_iload_n (pc := 67) B 5 dX12_measures_67 rfl rfl ?_
            refine x_isub (pc := 68) B dX12_measures_68 ?_
            refine x_iload (pc := 69) B 6 dX12_measures_69 rfl ?_
            refine x_iadd (pc := 71) B dX12_measures_71 ?_
            refine x_istore (lv' := [(10, .int (((x4 - y1.1) - y1.2.1) + y1.2.2.1)), (9, .int x4), (0, .ref (ad 94)), (1, .int a1), (2, .int y1.1), (3, .int y1.2.1), (4, .int y1.2.2.1), (5, .int y1.2.2.2.1), (6, .int y1.2.2.2.2.1), (7, .int y1.2.2.2.2.2.1), (8, .int y1.2.2.2.2.2.2.1)]) (pc := 72) B dX12_measures_72 (by decide) rfl ?_
            refine x_iload (pc := 74) B 0 dX12_measures_74 rfl ?_
            refine jv_k h (fun (u21 : Int32) => XX D ad cI cJ p l e (Rm 2 50) s m args below meth c Q 11 y1.2.2.2.2.2.2.2 85 [(0, .ref (ad 94)), (1, .int a1), (5, .int y1.2.2.2.1), (8, .int y1.2.2.2.2.2.2.1), (9, .int x4), (10, .int (((x4 - y1.1) - y1.2.1) + y1.2.2.1))] [.int u21]) (fun u21 h => ?_) (fun JJ => ?_)
            · refine x_istore (lv' := [(4, .int u21), (0, .ref (ad 94)), (1, .int a1), (5, .int y1.2.2.2.1), (8, .int y1.2.2.2.2.2.2.1), (9, .int x4), (10, .int (((x4 - y1.1) - y1.2.1) + y1.2.2.1))]) (pc := 85) B dX12_measures_85 (by decide) rfl ?_
              refine x_iload (pc := 87) B 6 dX12_measures_87 rfl ?_
              refine jv_k h (fun (u24 : Int32) => XX D ad cI cJ p l e (Rm 2 50) s m args below meth c Q 11 y1.2.2.2.2.2.2.2 98 [(0, .ref (ad 94)), (1, .int a1), (4, .int u21), (5, .int y1.2.2.2.1), (8, .int y1.2.2.2.2.2.2.1), (9, .int x4)] [.int u24]) (fun u24 h => ?_) (fun JJ => ?_)
              · refine x_istore (lv' := [(10, .int u24), (0, .ref (ad 94)), (1, .int a1), (4, .int u21), (5, .int y1.2.2.2.1), (8, .int y1.2.2.2.2.2.2.1), (9, .int x4)]) (pc := 98) B dX12_measures_98 (by decide) rfl ?_
                refine x_iload (pc := 100) B 4 dX12_measures_100 rfl ?_
                refine x_iconst (v := (-1)) (pc := 102) B dX12_measures_102 rfl ?_
                refine jv_k h (fun (u27 : Int32) => XX D ad cI cJ p l e (Rm 2 50) s m args below meth c Q 11 y1.2.2.2.2.2.2.2 115 [(0, .ref (ad 94)), (1, .int a1), (4, .int u21), (8, .int y1.2.2.2.2.2.2.1), (9, .int x4), (10, .int u24)] [.int u27]) (fun u27 h => ?_) (fun JJ => ?_)
                · refine x_istore (lv' := [(7, .int u27), (0, .ref (ad 94)), (1, .int a1), (4, .int u21), (8, .int y1.2.2.2.2.2.2.1), (9, .int x4), (10, .int u24)]) (pc := 115) B dX12_measures_115 (by decide) rfl ?_
                  refine x_iload (pc := 117) B 5 dX12_measures_117 rfl ?_
                  refine x_istore_n (lv' := [(2, .int x4), (7, .int u27), (0, .ref (ad 94)), (1, .int a1), (4, .int u21), (8, .int y1.2.2.2.2.2.2.1), (9, .int x4), (10, .int u24)]) (pc := 119) B dX12_measures_119 rfl (by decide) rfl ?_
                  refine x_iconst (v := 0) (pc := 120) B dX12_measures_120 rfl ?_
                  refine x_istore_n (lv' := [(3, .int 0), (2, .int x4), (7, .int u27), (0, .ref (ad 94)), (1, .int a1), (4, .int u21), (8, .int y1.2.2.2.2.2.2.1), (9, .int x4), (10, .int u24)]) (pc := 121) B dX12_measures_121 rfl (by decide) rfl ?_
                  refine x_iload (pc := 122) B 6 dX12_measures_122 rfl ?_
                  refine x_istore (lv' := [(5, .int y1.2.2.2.2.2.2.1), (3, .int 0), (2, .int x4), (7, .int u27), (0, .ref (ad 94)), (1, .int a1), (4, .int u21), (8, .int y1.2.2.2.2.2.2.1), (9, .int x4), (10, .int u24)]) (pc := 124) B dX12_measures_124 (by decide) rfl ?_
                  refine x_iload (pc := 126) B 9 dX12_measures_126 rfl ?_
                  refine x_istore (lv' := [(6, .int u24), (5, .int y1.2.2.2.2.2.2.1), (3, .int 0), (2, .int x4), (7, .int u27), (0, .ref (ad 94)), (1, .int a1), (4, .int u21), (8, .int y1.2.2.2.2.2.2.1), (9, .int x4), (10, .int u24)]) (pc := 128) B dX12_measures_128 (by decide) rfl ?_
                  refine x_goto (tgt := 166) (pc := 130) B dX12_measures_130 rfl ?_
                  refine x_pick (lv' := [(0, .ref (ad 94)), (1, .int a1), (2, .int x4), (3, .int 0), (4, .int u21), (5, .int y1.2.2.2.2.2.2.1), (6, .int u24), (7, .int u27), (8, .int y1.2.2.2.2.2.2.1), (10, .int u24)]) [5, 6, 3, 2, 7, 1, 0, 4, 8, 10] rfl ?_
                  have z := JJ (x4, 0, u21, y1.2.2.2.2.2.2.1, u24, u27, u24) h
                  exact z
                · refine x_icmp_ne (tgt := 110) (pc := 103) B dX12_measures_103 rfl (fun hc25 => ?_) (fun hc25 => ?_)
                  · refine x_iload (pc := 110) B 5 dX12_measures_110 rfl ?_
                    refine x_iload (pc := 112) B 4 dX12_measures_112 rfl ?_
                    refine x_isub (pc := 114) B dX12_measures_114 ?_
                    refine x_pick (lv' := [(0, .ref (ad 94)), (1, .int a1), (4, .int u21), (8, .int y1.2.2.2.2.2.2.1), (9, .int x4), (10, .int u24)]) [1, 2, 3, 5, 6, 0] rfl ?_
                    have z := JJ (y1.2.2.2.2.2.2.1 - y1.2.2.2.1) ((zif_f hc25).trans rfl)
                    exact z
                  · refine x_iconst (v := 1) (pc := 106) B dX12_measures_106 rfl ?_
                    refine x_goto (tgt := 115) (pc := 107) B dX12_measures_107 rfl ?_
                    refine x_pick (lv' := [(0, .ref (ad 94)), (1, .int a1), (4, .int u21), (8, .int y1.2.2.2.2.2.2.1), (9, .int x4), (10, .int u24)]) [1, 2, 3, 5, 6, 0] rfl ?_
                    have z := JJ 1 ((zif_t hc25).trans rfl)
                    exact z
              · refine x_if_ge (tgt := 96) (pc := 89) B dX12_measures_89 rfl (fun hc22 => ?_) (fun hc22 => ?_)
                · refine x_iload (pc := 96) B 6 dX12_measures_96 rfl ?_
                  refine x_pick (lv' := [(0, .ref (ad 94)), (1, .int a1), (4, .int u21), (5, .int y1.2.2.2.1), (8, .int y1.2.2.2.2.2.2.1), (9, .int x4)]) [1, 2, 0, 3, 4, 5] rfl ?_
                  have z := JJ (((x4 - y1.1) - y1.2.1) + y1.2.2.1) ((zif_f hc22).trans rfl)
                  exact z
                · refine x_iconst (v := 0) (pc := 92) B dX12_measures_92 rfl ?_
                  refine x_goto (tgt := 98) (pc := 93) B dX12_measures_93 rfl ?_
                  refine x_pick (lv' := [(0, .ref (ad 94)), (1, .int a1), (4, .int u21), (5, .int y1.2.2.2.1), (8, .int y1.2.2.2.2.2.2.1), (9, .int x4)]) [1, 2, 0, 3, 4, 5] rfl ?_
                  have z := JJ 0 ((zif_t hc22).trans rfl)
                  exact z
            · refine x_if_ge (tgt := 84) (pc := 76) B dX12_measures_76 rfl (fun hc19 => ?_) (fun hc19 => ?_)
              · refine x_iconst (v := 0) (pc := 84) B dX12_measures_84 rfl ?_
                refine x_pick (lv' := [(0, .ref (ad 94)), (1, .int a1), (5, .int y1.2.2.2.1), (8, .int y1.2.2.2.2.2.2.1), (9, .int x4), (10, .int (((x4 - y1.1) - y1.2.1) + y1.2.2.1))]) [2, 3, 7, 10, 1, 0] rfl ?_
                have z := JJ 0 ((zif_f hc19).trans rfl)
                exact z
              · refine x_iload (pc := 79) B 0 dX12_measures_79 rfl ?_
                refine x_goto (tgt := 85) (pc := 81) B dX12_measures_81 rfl ?_
                refine x_pick (lv' := [(0, .ref (ad 94)), (1, .int a1), (5, .int y1.2.2.2.1), (8, .int y1.2.2.2.2.2.2.1), (9, .int x4), (10, .int (((x4 - y1.1) - y1.2.1) + y1.2.2.1))]) [2, 3, 7, 10, 1, 0] rfl ?_
                have z := JJ (((x4 - y1.1) - y1.2.1) + y1.2.2.1) ((zif_t hc19).trans rfl)
                exact z
  · obtain rfl := Option.some.inj h
    exact x_vret (pc := 186) B hQ dX12_measures_186
-- CurrentFarmsModel.unitsIn(II)I [94]
abbrev y_Mo_unitsIn_94 : MethodName := ⟨"CurrentFarmsModel", "unitsIn", "(II)I"⟩
abbrev cX12_unitsIn : ByteArray := prog_14_method_79_code
theorem dX12_unitsIn_0 : decode cX12_unitsIn 0 = .ok (.aload_n 0, 1) := by decide +kernel
theorem dX12_unitsIn_1 : decode cX12_unitsIn 1 = .ok (.getfield 57, 3) := by decide +kernel
theorem dX12_unitsIn_4 : decode cX12_unitsIn 4 = .ok (.iload_n 1, 1) := by decide +kernel
theorem dX12_unitsIn_5 : decode cX12_unitsIn 5 = .ok (.iaload, 1) := by decide +kernel
theorem dX12_unitsIn_6 : decode cX12_unitsIn 6 = .ok (.aload_n 0, 1) := by decide +kernel
theorem dX12_unitsIn_7 : decode cX12_unitsIn 7 = .ok (.getfield 50, 3) := by decide +kernel
theorem dX12_unitsIn_10 : decode cX12_unitsIn 10 = .ok (.if_icmp .eq 18, 3) := by decide +kernel
theorem dX12_unitsIn_13 : decode cX12_unitsIn 13 = .ok (.aload_n 0, 1) := by decide +kernel
theorem dX12_unitsIn_14 : decode cX12_unitsIn 14 = .ok (.getfield 57, 3) := by decide +kernel
theorem dX12_unitsIn_17 : decode cX12_unitsIn 17 = .ok (.iload_n 1, 1) := by decide +kernel
theorem dX12_unitsIn_18 : decode cX12_unitsIn 18 = .ok (.aload_n 0, 1) := by decide +kernel
theorem dX12_unitsIn_19 : decode cX12_unitsIn 19 = .ok (.getfield 50, 3) := by decide +kernel
theorem dX12_unitsIn_22 : decode cX12_unitsIn 22 = .ok (.iastore, 1) := by decide +kernel
theorem dX12_unitsIn_23 : decode cX12_unitsIn 23 = .ok (.aload_n 0, 1) := by decide +kernel
theorem dX12_unitsIn_24 : decode cX12_unitsIn 24 = .ok (.iload_n 1, 1) := by decide +kernel
theorem dX12_unitsIn_25 : decode cX12_unitsIn 25 = .ok (.invokevirtual 313, 3) := by decide +kernel
theorem dX12_unitsIn_28 : decode cX12_unitsIn 28 = .ok (.aload_n 0, 1) := by decide +kernel
theorem dX12_unitsIn_29 : decode cX12_unitsIn 29 = .ok (.getfield 54, 3) := by decide +kernel
theorem dX12_unitsIn_32 : decode cX12_unitsIn 32 = .ok (.bipush 121, 2) := by decide +kernel
theorem dX12_unitsIn_34 : decode cX12_unitsIn 34 = .ok (.iload_n 1, 1) := by decide +kernel
theorem dX12_unitsIn_35 : decode cX12_unitsIn 35 = .ok (.imul, 1) := by decide +kernel
theorem dX12_unitsIn_36 : decode cX12_unitsIn 36 = .ok (.iload_n 2, 1) := by decide +kernel
theorem dX12_unitsIn_37 : decode cX12_unitsIn 37 = .ok (.iadd, 1) := by decide +kernel
theorem dX12_unitsIn_38 : decode cX12_unitsIn 38 = .ok (.iaload, 1) := by decide +kernel
theorem dX12_unitsIn_39 : decode cX12_unitsIn 39 = .ok (.ireturn, 1) := by decide +kernel
theorem hd_Mo_unitsIn_94 : y_Mo_unitsIn_94.cls ≠ "java/lang/invoke/MethodHandle" ∧ y_Mo_unitsIn_94.cls ≠ "java/lang/invoke/VarHandle" ∧ (parseMethodDescriptor y_Mo_unitsIn_94.desc).map (fun d => d.parameters.length) = some 2 := by decide +kernel
def f_Mo_unitsIn_94 (a1 : Int32) (a2 : Int32) (M0 : Mem) : Option (Int32 × Mem) :=
  if inb a1 10 then jn_ (fun (u4 : Mem) => if inb ((121 * a1) + a2) 1210 then some (u4.1 108 ((121 * a1) + a2).toNatClampNeg, u4) else none) fun k6 => if decide ((M0.1 109 a1.toNatClampNeg) = (M0.1 94 21)) then (k6 M0) else (if inb a1 10 then jv_ (wI M0 109 a1.toNatClampNeg (M0.1 94 21)) fun M8 => (f_Mo_measures_94 a1 M8).bind fun q9 => k6 q9 else none) else none
set_option maxHeartbeats 4000000 in
set_option maxRecDepth 20000 in
theorem C_Mo_unitsIn_94 {D : va_G} {ad adK adV : Nat → Nat} {cI cJ : ClassId} {l : Launch} (a1 : Int32) (a2 : Int32) (M0 : Mem) (o : Int32 × Mem) (h : f_Mo_unitsIn_94 a1 a2 M0 = some o) : Ct D ad adK adV cI cJ l y_Mo_unitsIn_94 cX12_unitsIn 3 (some .int) 3 80 [.ref (ad 94), .int a1, .int a2] M0 (some (.int o.1)) o.2 := by
  refine x_start (lv := [(0, .ref (ad 94)), (1, .int a1), (2, .int a2)]) (own := "CurrentFarmsModel") rfl (by decide) (Nat.le_of_ble_eq_true rfl) rfl ?_
  intro p e s m args below meth c Q hQ B
  unfold f_Mo_unitsIn_94 at h
  refine x_aload_n (pc := 0) B 0 dX12_unitsIn_0 rfl rfl ?_
  refine x_get (T := TX12) (pc := 1) B 23 oi_94 rfl uw_12 (by decide) rfl tw_1322 rfl dX12_unitsIn_1 ?_
  refine x_iload_n (pc := 4) B 1 dX12_unitsIn_4 rfl rfl ?_
  obtain ⟨hk1, h⟩ := ifn h
  refine x_iald (pc := 5) B ai_109 hk1 dX12_unitsIn_5 ?_
  refine x_aload_n (pc := 6) B 0 dX12_unitsIn_6 rfl rfl ?_
  refine x_get (T := TX12) (pc := 7) B 21 oi_94 rfl uw_12 (by decide) rfl tw_1320 rfl dX12_unitsIn_7 ?_
  refine jn_k h (fun (u4 : Mem) => XX D ad cI cJ p l e (Rm 3 80) s m args below meth c Q 3 u4 28 [(0, .ref (ad 94)), (1, .int a1), (2, .int a2)] []) (fun u4 h => ?_) (fun k6 h JJ => ?_)
  · refine x_aload_n (pc := 28) B 0 dX12_unitsIn_28 rfl rfl ?_
    refine x_get (T := TX12) (pc := 29) B 22 oi_94 rfl uw_12 (by decide) rfl tw_1321 rfl dX12_unitsIn_29 ?_
    refine x_bipush (v := 121) (pc := 32) B dX12_unitsIn_32 rfl ?_
    refine x_iload_n (pc := 34) B 1 dX12_unitsIn_34 rfl rfl ?_
    refine x_imul (pc := 35) B dX12_unitsIn_35 ?_
    refine x_iload_n (pc := 36) B 2 dX12_unitsIn_36 rfl rfl ?_
    refine x_iadd (pc := 37) B dX12_unitsIn_37 ?_
    obtain ⟨hk5, h⟩ := ifn h
    refine x_iald (pc := 38) B ai_108 hk5 dX12_unitsIn_38 ?_
    obtain rfl := Option.some.inj h
    exact x_iret (pc := 39) B hQ dX12_unitsIn_39
  · refine x_icmp_eq (tgt := 28) (pc := 10) B dX12_unitsIn_10 rfl (fun hc2 => ?_) (fun hc2 => ?_)
    · have h := ift hc2 h
      have z := JJ M0 h
      exact z
    · have h := iff_ hc2 h
      refine x_aload_n (pc := 13) B 0 dX12_unitsIn_13 rfl rfl ?_
      refine x_get (T := TX12) (pc := 14) B 23 oi_94 rfl uw_12 (by decide) rfl tw_1322 rfl dX12_unitsIn_14 ?_
      refine x_iload_n (pc := 17) B 1 dX12_unitsIn_17 rfl rfl ?_
      refine x_aload_n (pc := 18) B 0 dX12_unitsIn_18 rfl rfl ?_
      refine x_get (T := TX12) (pc := 19) B 21 oi_94 rfl uw_12 (by decide) rfl tw_1320 rfl dX12_unitsIn_19 ?_
      obtain ⟨hk7, h⟩ := ifn h
      refine x_iast (pc := 22) B ai_109 hk7 dX12_unitsIn_22 ?_
      refine jv_m (P := fun M8 => XX D ad cI cJ p l e (Rm 3 80) s m args below meth c Q 3 M8 23 [(0, .ref (ad 94)), (1, .int a1), (2, .int a2)] []) h (fun M8 h => ?_)
      refine x_aload_n (pc := 23) B 0 dX12_unitsIn_23 rfl rfl ?_
      refine x_iload_n (pc := 24) B 1 dX12_unitsIn_24 rfl rfl ?_
      obtain ⟨q9, hq9, h⟩ := bnd h
      refine x_callV (rest := []) (st' := []) (pc := 25) B oi_94 rfl (C_Mo_measures_94 a1 M8 _ hq9) tw_1499 tw_1496 tw_1498 tw_56 tw_111 hd_Mo_measures_94 ⟨Nat.le_of_ble_eq_true rfl, Nat.le_of_ble_eq_true rfl⟩ rfl rfl (Nat.le_of_ble_eq_true rfl) rfl dX12_unitsIn_25 ?_
      have z := JJ q9 h
      exact z
-- CurrentFarmsModel.milesTo(I)I [94]
abbrev y_Mo_milesTo_94 : MethodName := ⟨"CurrentFarmsModel", "milesTo", "(I)I"⟩
abbrev cX12_milesTo : ByteArray := prog_14_method_56_code
theorem dX12_milesTo_0 : decode cX12_milesTo 0 = .ok (.iconst 0, 1) := by decide +kernel
theorem dX12_milesTo_1 : decode cX12_milesTo 1 = .ok (.istore_n 2, 1) := by decide +kernel
theorem dX12_milesTo_2 : decode cX12_milesTo 2 = .ok (.iload_n 1, 1) := by decide +kernel
theorem dX12_milesTo_3 : decode cX12_milesTo 3 = .ok (.istore_n 3, 1) := by decide +kernel
theorem dX12_milesTo_4 : decode cX12_milesTo 4 = .ok (.aload_n 0, 1) := by decide +kernel
theorem dX12_milesTo_5 : decode cX12_milesTo 5 = .ok (.iload_n 3, 1) := by decide +kernel
theorem dX12_milesTo_6 : decode cX12_milesTo 6 = .ok (.invokevirtual 92, 3) := by decide +kernel
theorem dX12_milesTo_9 : decode cX12_milesTo 9 = .ok (.ifCond .eq 30, 3) := by decide +kernel
theorem dX12_milesTo_12 : decode cX12_milesTo 12 = .ok (.iload_n 3, 1) := by decide +kernel
theorem dX12_milesTo_13 : decode cX12_milesTo 13 = .ok (.aload_n 0, 1) := by decide +kernel
theorem dX12_milesTo_14 : decode cX12_milesTo 14 = .ok (.getfield 7, 3) := by decide +kernel
theorem dX12_milesTo_17 : decode cX12_milesTo 17 = .ok (.bipush 9, 2) := by decide +kernel
theorem dX12_milesTo_19 : decode cX12_milesTo 19 = .ok (.iaload, 1) := by decide +kernel
theorem dX12_milesTo_20 : decode cX12_milesTo 20 = .ok (.if_icmp .eq 19, 3) := by decide +kernel
theorem dX12_milesTo_23 : decode cX12_milesTo 23 = .ok (.iinc 2 1, 3) := by decide +kernel
theorem dX12_milesTo_26 : decode cX12_milesTo 26 = .ok (.aload_n 0, 1) := by decide +kernel
theorem dX12_milesTo_27 : decode cX12_milesTo 27 = .ok (.getfield 7, 3) := by decide +kernel
theorem dX12_milesTo_30 : decode cX12_milesTo 30 = .ok (.bipush 116, 2) := by decide +kernel
theorem dX12_milesTo_32 : decode cX12_milesTo 32 = .ok (.iload_n 3, 1) := by decide +kernel
theorem dX12_milesTo_33 : decode cX12_milesTo 33 = .ok (.iadd, 1) := by decide +kernel
theorem dX12_milesTo_34 : decode cX12_milesTo 34 = .ok (.iaload, 1) := by decide +kernel
theorem dX12_milesTo_35 : decode cX12_milesTo 35 = .ok (.istore_n 3, 1) := by decide +kernel
theorem dX12_milesTo_36 : decode cX12_milesTo 36 = .ok (.goto (-32), 3) := by decide +kernel
theorem dX12_milesTo_39 : decode cX12_milesTo 39 = .ok (.iload_n 2, 1) := by decide +kernel
theorem dX12_milesTo_40 : decode cX12_milesTo 40 = .ok (.ireturn, 1) := by decide +kernel
theorem hd_Mo_milesTo_94 : y_Mo_milesTo_94.cls ≠ "java/lang/invoke/MethodHandle" ∧ y_Mo_milesTo_94.cls ≠ "java/lang/invoke/VarHandle" ∧ (parseMethodDescriptor y_Mo_milesTo_94.desc).map (fun d => d.parameters.length) = some 1 := by decide +kernel
def b_Mo_milesTo_94_4 (M0 : Mem) (y1 : Int32 × Int32) : Option ((Int32 × Int32) ⊕ (Int32)) :=
  (f_Mo_isOnLine_94 y1.2 M0).bind fun q2 => if q2 then (if decide (y1.2 = (M0.1 95 9)) then (some (.inr y1.1)) else (if inb (116 + y1.2) 4700 then some (.inl (y1.1 + 1, M0.1 95 (116 + y1.2).toNatClampNeg)) else none)) else (some (.inr y1.1))
def f_Mo_milesTo_94 (a1 : Int32) (M0 : Mem) : Option (Int32) :=
  (itr (b_Mo_milesTo_94_4 M0) FU (0, a1)).bind fun q6 => some q6
set_option maxHeartbeats 4000000 in
set_option maxRecDepth 20000 in
theorem C_Mo_milesTo_94 {D : va_G} {ad adK adV : Nat → Nat} {cI cJ : ClassId} {l : Launch} (a1 : Int32) (M0 : Mem) (o : Int32) (h : f_Mo_milesTo_94 a1 M0 = some o) : Ct D ad adK adV cI cJ l y_Mo_milesTo_94 cX12_milesTo 4 (some .int) 1 21 [.ref (ad 94), .int a1] M0 (some (.int o)) M0 := by
  refine x_start (lv := [(0, .ref (ad 94)), (1, .int a1)]) (own := "CurrentFarmsModel") rfl (by decide) (Nat.le_of_ble_eq_true rfl) rfl ?_
  intro p e s m args below meth c Q hQ B
  unfold f_Mo_milesTo_94 at h
  refine x_iconst (v := 0) (pc := 0) B dX12_milesTo_0 rfl ?_
  refine x_istore_n (lv' := [(2, .int 0), (0, .ref (ad 94)), (1, .int a1)]) (pc := 1) B dX12_milesTo_1 rfl (by decide) rfl ?_
  refine x_iload_n (pc := 2) B 2 dX12_milesTo_2 rfl rfl ?_
  refine x_istore_n (lv' := [(3, .int a1), (2, .int 0), (0, .ref (ad 94)), (1, .int a1)]) (pc := 3) B dX12_milesTo_3 rfl (by decide) rfl ?_
  refine x_pick (lv' := [(0, .ref (ad 94)), (2, .int 0), (3, .int a1)]) [2, 1, 0] rfl ?_
  obtain ⟨q6, hq6, h⟩ := bnd h
  refine x_loop (Head := fun (y1 : Int32 × Int32) => XX D ad cI cJ p l e (Rm 1 21) s m args below meth c Q 4 M0 4 [(0, .ref (ad 94)), (2, .int y1.1), (3, .int y1.2)] []) (Ex := fun (q6 : Int32) => XX D ad cI cJ p l e (Rm 1 21) s m args below meth c Q 4 M0 39 [(2, .int q6)] []) (fun y1 r h hback hexit => ?_) FU _ q6 hq6 ?_
  · unfold b_Mo_milesTo_94_4 at h
    refine x_aload_n (pc := 4) B 0 dX12_milesTo_4 rfl rfl ?_
    refine x_iload_n (pc := 5) B 2 dX12_milesTo_5 rfl rfl ?_
    obtain ⟨q2, hq2, h⟩ := bnd h
    refine x_callV (rest := []) (st' := [.int (bI q2)]) (pc := 6) B oi_94 rfl (C_Mo_isOnLine_94 y1.2 M0 _ hq2) tw_1410 tw_1407 tw_1409 tw_43 tw_111 hd_Mo_isOnLine_94 ⟨Nat.le_of_ble_eq_true rfl, Nat.le_of_ble_eq_true rfl⟩ rfl rfl (Nat.le_of_ble_eq_true rfl) rfl dX12_milesTo_6 ?_
    refine x_if_eq_b (tgt := 39) (pc := 9) B dX12_milesTo_9 rfl (fun hc3 => ?_) (fun hc3 => ?_)
    · have h := iff_ hc3 h
      refine x_pick (lv' := [(2, .int y1.1)]) [1] rfl ?_
      have z := hexit y1.1 (Option.some.inj h).symm
      exact z
    · have h := ift hc3 h
      refine x_iload_n (pc := 12) B 2 dX12_milesTo_12 rfl rfl ?_
      refine x_aload_n (pc := 13) B 0 dX12_milesTo_13 rfl rfl ?_
      refine x_get (T := TX12) (pc := 14) B 1 oi_94 rfl uw_12 (by decide) rfl tw_1300 rfl dX12_milesTo_14 ?_
      refine x_bipush (v := 9) (pc := 17) B dX12_milesTo_17 rfl ?_
      refine x_iald_c (j := 9) (pc := 19) B ai_95 (by decide) rfl dX12_milesTo_19 ?_
      refine x_icmp_eq (tgt := 39) (pc := 20) B dX12_milesTo_20 rfl (fun hc4 => ?_) (fun hc4 => ?_)
      · have h := ift hc4 h
        refine x_pick (lv' := [(2, .int y1.1)]) [1] rfl ?_
        have z := hexit y1.1 (Option.some.inj h).symm
        exact z
      · have h := iff_ hc4 h
        refine x_iinc (k := 1) (v := y1.1 + 1) (lv' := [(2, .int (y1.1 + 1)), (0, .ref (ad 94)), (3, .int y1.2)]) (pc := 23) B dX12_milesTo_23 rfl rfl (by decide) rfl ?_
        refine x_aload_n (pc := 26) B 1 dX12_milesTo_26 rfl rfl ?_
        refine x_get (T := TX12) (pc := 27) B 1 oi_94 rfl uw_12 (by decide) rfl tw_1300 rfl dX12_milesTo_27 ?_
        refine x_bipush (v := 116) (pc := 30) B dX12_milesTo_30 rfl ?_
        refine x_iload_n (pc := 32) B 2 dX12_milesTo_32 rfl rfl ?_
        refine x_iadd (pc := 33) B dX12_milesTo_33 ?_
        obtain ⟨hk5, h⟩ := ifn h
        refine x_iald (pc := 34) B ai_95 hk5 dX12_milesTo_34 ?_
        refine x_istore_n (lv' := [(3, .int (M0.1 95 (116 + y1.2).toNatClampNeg)), (2, .int (y1.1 + 1)), (0, .ref (ad 94))]) (pc := 35) B dX12_milesTo_35 rfl (by decide) rfl ?_
        refine x_goto (tgt := 4) (pc := 36) B dX12_milesTo_36 rfl ?_
        refine x_pick (lv' := [(0, .ref (ad 94)), (2, .int (y1.1 + 1)), (3, .int (M0.1 95 (116 + y1.2).toNatClampNeg))]) [2, 1, 0] rfl ?_
        have z := hback (y1.1 + 1, M0.1 95 (116 + y1.2).toNatClampNeg) (Option.some.inj h).symm
        exact z
  · refine x_iload_n (pc := 39) B 0 dX12_milesTo_39 rfl rfl ?_
    obtain rfl := Option.some.inj h
    exact x_iret (pc := 40) B hQ dX12_milesTo_40
-- CurrentFarmsModel.names(IIII)V [94]
abbrev y_Mo_names_94 : MethodName := ⟨"CurrentFarmsModel", "names", "(IIII)V"⟩
abbrev cX12_names : ByteArray := prog_14_method_48_code
theorem dX12_names_0 : decode cX12_names 0 = .ok (.aload_n 0, 1) := by decide +kernel
theorem dX12_names_1 : decode cX12_names 1 = .ok (.getfield 22, 3) := by decide +kernel
theorem dX12_names_4 : decode cX12_names 4 = .ok (.iconst 0, 1) := by decide +kernel
theorem dX12_names_5 : decode cX12_names 5 = .ok (.iload_n 1, 1) := by decide +kernel
theorem dX12_names_6 : decode cX12_names 6 = .ok (.iconst (-1), 1) := by decide +kernel
theorem dX12_names_7 : decode cX12_names 7 = .ok (.if_icmp .ne 7, 3) := by decide +kernel
theorem dX12_names_10 : decode cX12_names 10 = .ok (.iconst 0, 1) := by decide +kernel
theorem dX12_names_11 : decode cX12_names 11 = .ok (.goto 4, 3) := by decide +kernel
theorem dX12_names_14 : decode cX12_names 14 = .ok (.iload_n 3, 1) := by decide +kernel
theorem dX12_names_15 : decode cX12_names 15 = .ok (.iastore, 1) := by decide +kernel
theorem dX12_names_16 : decode cX12_names 16 = .ok (.iconst 1, 1) := by decide +kernel
theorem dX12_names_17 : decode cX12_names 17 = .ok (.istore 5, 2) := by decide +kernel
theorem dX12_names_19 : decode cX12_names 19 = .ok (.iload 5, 2) := by decide +kernel
theorem dX12_names_21 : decode cX12_names 21 = .ok (.iconst 5, 1) := by decide +kernel
theorem dX12_names_22 : decode cX12_names 22 = .ok (.if_icmp .ge 17, 3) := by decide +kernel
theorem dX12_names_25 : decode cX12_names 25 = .ok (.aload_n 0, 1) := by decide +kernel
theorem dX12_names_26 : decode cX12_names 26 = .ok (.getfield 22, 3) := by decide +kernel
theorem dX12_names_29 : decode cX12_names 29 = .ok (.iload 5, 2) := by decide +kernel
theorem dX12_names_31 : decode cX12_names 31 = .ok (.iconst 0, 1) := by decide +kernel
theorem dX12_names_32 : decode cX12_names 32 = .ok (.iastore, 1) := by decide +kernel
theorem dX12_names_33 : decode cX12_names 33 = .ok (.iinc 5 1, 3) := by decide +kernel
theorem dX12_names_36 : decode cX12_names 36 = .ok (.goto (-17), 3) := by decide +kernel
theorem dX12_names_39 : decode cX12_names 39 = .ok (.iload_n 1, 1) := by decide +kernel
theorem dX12_names_40 : decode cX12_names 40 = .ok (.iconst (-1), 1) := by decide +kernel
theorem dX12_names_41 : decode cX12_names 41 = .ok (.if_icmp .ne 4, 3) := by decide +kernel
theorem dX12_names_44 : decode cX12_names 44 = .ok (.return_, 1) := by decide +kernel
theorem dX12_names_45 : decode cX12_names 45 = .ok (.aload_n 0, 1) := by decide +kernel
theorem dX12_names_46 : decode cX12_names 46 = .ok (.iload_n 2, 1) := by decide +kernel
theorem dX12_names_47 : decode cX12_names 47 = .ok (.iconst (-1), 1) := by decide +kernel
theorem dX12_names_48 : decode cX12_names 48 = .ok (.iconst (-1), 1) := by decide +kernel
theorem dX12_names_49 : decode cX12_names 49 = .ok (.iconst 0, 1) := by decide +kernel
theorem dX12_names_50 : decode cX12_names 50 = .ok (.invokevirtual 130, 3) := by decide +kernel
theorem dX12_names_53 : decode cX12_names 53 = .ok (.aload_n 0, 1) := by decide +kernel
theorem dX12_names_54 : decode cX12_names 54 = .ok (.getfield 22, 3) := by decide +kernel
theorem dX12_names_57 : decode cX12_names 57 = .ok (.iconst 1, 1) := by decide +kernel
theorem dX12_names_58 : decode cX12_names 58 = .ok (.aload_n 0, 1) := by decide +kernel
theorem dX12_names_59 : decode cX12_names 59 = .ok (.getfield 7, 3) := by decide +kernel
theorem dX12_names_62 : decode cX12_names 62 = .ok (.sipush 174, 3) := by decide +kernel
theorem dX12_names_65 : decode cX12_names 65 = .ok (.iload_n 1, 1) := by decide +kernel
theorem dX12_names_66 : decode cX12_names 66 = .ok (.iadd, 1) := by decide +kernel
theorem dX12_names_67 : decode cX12_names 67 = .ok (.iaload, 1) := by decide +kernel
theorem dX12_names_68 : decode cX12_names 68 = .ok (.iastore, 1) := by decide +kernel
theorem dX12_names_69 : decode cX12_names 69 = .ok (.aload_n 0, 1) := by decide +kernel
theorem dX12_names_70 : decode cX12_names 70 = .ok (.getfield 22, 3) := by decide +kernel
theorem dX12_names_73 : decode cX12_names 73 = .ok (.iconst 2, 1) := by decide +kernel
theorem dX12_names_74 : decode cX12_names 74 = .ok (.aload_n 0, 1) := by decide +kernel
theorem dX12_names_75 : decode cX12_names 75 = .ok (.getfield 16, 3) := by decide +kernel
theorem dX12_names_78 : decode cX12_names 78 = .ok (.iload_n 1, 1) := by decide +kernel
theorem dX12_names_79 : decode cX12_names 79 = .ok (.iaload, 1) := by decide +kernel
theorem dX12_names_80 : decode cX12_names 80 = .ok (.iastore, 1) := by decide +kernel
theorem dX12_names_81 : decode cX12_names 81 = .ok (.aload_n 0, 1) := by decide +kernel
theorem dX12_names_82 : decode cX12_names 82 = .ok (.getfield 22, 3) := by decide +kernel
theorem dX12_names_85 : decode cX12_names 85 = .ok (.iconst 3, 1) := by decide +kernel
theorem dX12_names_86 : decode cX12_names 86 = .ok (.iload 4, 2) := by decide +kernel
theorem dX12_names_88 : decode cX12_names 88 = .ok (.iastore, 1) := by decide +kernel
theorem dX12_names_89 : decode cX12_names 89 = .ok (.aload_n 0, 1) := by decide +kernel
theorem dX12_names_90 : decode cX12_names 90 = .ok (.getfield 22, 3) := by decide +kernel
theorem dX12_names_93 : decode cX12_names 93 = .ok (.iconst 4, 1) := by decide +kernel
theorem dX12_names_94 : decode cX12_names 94 = .ok (.aload_n 0, 1) := by decide +kernel
theorem dX12_names_95 : decode cX12_names 95 = .ok (.aload_n 0, 1) := by decide +kernel
theorem dX12_names_96 : decode cX12_names 96 = .ok (.getfield 7, 3) := by decide +kernel
theorem dX12_names_99 : decode cX12_names 99 = .ok (.sipush 164, 3) := by decide +kernel
theorem dX12_names_102 : decode cX12_names 102 = .ok (.iload_n 1, 1) := by decide +kernel
theorem dX12_names_103 : decode cX12_names 103 = .ok (.iadd, 1) := by decide +kernel
theorem dX12_names_104 : decode cX12_names 104 = .ok (.iaload, 1) := by decide +kernel
theorem dX12_names_105 : decode cX12_names 105 = .ok (.invokevirtual 237, 3) := by decide +kernel
theorem dX12_names_108 : decode cX12_names 108 = .ok (.iastore, 1) := by decide +kernel
theorem dX12_names_109 : decode cX12_names 109 = .ok (.return_, 1) := by decide +kernel
theorem hd_Mo_names_94 : y_Mo_names_94.cls ≠ "java/lang/invoke/MethodHandle" ∧ y_Mo_names_94.cls ≠ "java/lang/invoke/VarHandle" ∧ (parseMethodDescriptor y_Mo_names_94.desc).map (fun d => d.parameters.length) = some 4 := by decide +kernel
def b_Mo_names_94_19  (y5 : Int32 × Mem) : Option ((Int32 × Mem) ⊕ (Mem)) :=
  if decide (y5.1 < 5) then (if inb y5.1 5 then jv_ (wI y5.2 99 y5.1.toNatClampNeg 0) fun M8 => some (.inl (y5.1 + 1, M8)) else none) else (some (.inr y5.2))
def f_Mo_names_94 (a1 : Int32) (a2 : Int32) (a3 : Int32) (a4 : Int32) (M0 : Mem) : Option (Mem) :=
  jv_ ((if decide (a1 = (-1)) then 0 else a3) : Int32) fun u3 => jv_ (wI M0 99 0 u3) fun M4 => (itr (b_Mo_names_94_19) FU (1, M4)).bind fun q9 => if decide (a1 = (-1)) then (some q9) else ((f_Mo_looks_94 a2 (-1) (-1) 0 q9).bind fun q11 => if inb (174 + a1) 4700 then jv_ (wI q11 99 1 (q11.1 95 (174 + a1).toNatClampNeg)) fun M13 => if inb a1 10 then jv_ (wI M13 99 2 (M13.1 97 a1.toNatClampNeg)) fun M15 => jv_ (wI M15 99 3 a4) fun M16 => if inb (164 + a1) 4700 then (f_Mo_milesTo_94 (M16.1 95 (164 + a1).toNatClampNeg) M16).bind fun q18 => jv_ (wI M16 99 4 q18) fun M19 => some M19 else none else none else none)
set_option maxHeartbeats 4000000 in
set_option maxRecDepth 20000 in
theorem C_Mo_names_94 {D : va_G} {ad adK adV : Nat → Nat} {cI cJ : ClassId} {l : Launch} (a1 : Int32) (a2 : Int32) (a3 : Int32) (a4 : Int32) (M0 : Mem) (o : Mem) (h : f_Mo_names_94 a1 a2 a3 a4 M0 = some o) : Ct D ad adK adV cI cJ l y_Mo_names_94 cX12_names 6 none 2 54 [.ref (ad 94), .int a1, .int a2, .int a3, .int a4] M0 none o := by
  refine x_start (lv := [(0, .ref (ad 94)), (1, .int a1), (2, .int a2), (3, .int a3), (4, .int a4)]) (own := "CurrentFarmsModel") rfl (by decide) (Nat.le_of_ble_eq_true rfl) rfl ?_
  intro p e s m args below meth c Q hQ B
  unfold f_Mo_names_94 at h
  refine x_aload_n (pc := 0) B 0 dX12_names_0 rfl rfl ?_
  refine x_get (T := TX12) (pc := 1) B 9 oi_94 rfl uw_12 (by decide) rfl tw_1308 rfl dX12_names_1 ?_
  refine x_iconst (v := 0) (pc := 4) B dX12_names_4 rfl ?_
  refine x_iload_n (pc := 5) B 1 dX12_names_5 rfl rfl ?_
  refine x_iconst (v := (-1)) (pc := 6) B dX12_names_6 rfl ?_
  refine jv_k h (fun (u3 : Int32) => XX D ad cI cJ p l e (Rm 2 54) s m args below meth c Q 6 M0 15 [(0, .ref (ad 94)), (1, .int a1), (2, .int a2), (4, .int a4)] [.int u3, .int 0, .ref (ad 99)]) (fun u3 h => ?_) (fun JJ => ?_)
  · refine x_iast_c (j := 0) (pc := 15) B ai_99 (by decide) rfl dX12_names_15 ?_
    refine jv_m (P := fun M4 => XX D ad cI cJ p l e (Rm 2 54) s m args below meth c Q 6 M4 16 [(0, .ref (ad 94)), (1, .int a1), (2, .int a2), (4, .int a4)] []) h (fun M4 h => ?_)
    refine x_iconst (v := 1) (pc := 16) B dX12_names_16 rfl ?_
    refine x_istore (lv' := [(5, .int 1), (0, .ref (ad 94)), (1, .int a1), (2, .int a2), (4, .int a4)]) (pc := 17) B dX12_names_17 (by decide) rfl ?_
    refine x_pick (lv' := [(0, .ref (ad 94)), (1, .int a1), (2, .int a2), (4, .int a4), (5, .int 1)]) [1, 2, 3, 4, 0] rfl ?_
    obtain ⟨q9, hq9, h⟩ := bnd h
    refine x_loop (Head := fun (y5 : Int32 × Mem) => XX D ad cI cJ p l e (Rm 2 54) s m args below meth c Q 6 y5.2 19 [(0, .ref (ad 94)), (1, .int a1), (2, .int a2), (4, .int a4), (5, .int y5.1)] []) (Ex := fun (q9 : Mem) => XX D ad cI cJ p l e (Rm 2 54) s m args below meth c Q 6 q9 39 [(0, .ref (ad 94)), (1, .int a1), (2, .int a2), (4, .int a4)] []) (fun y5 r h hback hexit => ?_) FU _ q9 hq9 ?_
    · unfold b_Mo_names_94_19 at h
      refine x_iload (pc := 19) B 4 dX12_names_19 rfl ?_
      refine x_iconst (v := 5) (pc := 21) B dX12_names_21 rfl ?_
      refine x_icmp_ge (tgt := 39) (pc := 22) B dX12_names_22 rfl (fun hc6 => ?_) (fun hc6 => ?_)
      · have h := iff_ hc6 h
        refine x_pick (lv' := [(0, .ref (ad 94)), (1, .int a1), (2, .int a2), (4, .int a4)]) [0, 1, 2, 3] rfl ?_
        have z := hexit y5.2 (Option.some.inj h).symm
        exact z
      · have h := ift hc6 h
        refine x_aload_n (pc := 25) B 0 dX12_names_25 rfl rfl ?_
        refine x_get (T := TX12) (pc := 26) B 9 oi_94 rfl uw_12 (by decide) rfl tw_1308 rfl dX12_names_26 ?_
        refine x_iload (pc := 29) B 4 dX12_names_29 rfl ?_
        refine x_iconst (v := 0) (pc := 31) B dX12_names_31 rfl ?_
        obtain ⟨hk7, h⟩ := ifn h
        refine x_iast (pc := 32) B ai_99 hk7 dX12_names_32 ?_
        refine jv_m (P := fun M8 => XX D ad cI cJ p l e (Rm 2 54) s m args below meth c Q 6 M8 33 [(0, .ref (ad 94)), (1, .int a1), (2, .int a2), (4, .int a4), (5, .int y5.1)] []) h (fun M8 h => ?_)
        refine x_iinc (k := 4) (v := y5.1 + 1) (lv' := [(5, .int (y5.1 + 1)), (0, .ref (ad 94)), (1, .int a1), (2, .int a2), (4, .int a4)]) (pc := 33) B dX12_names_33 rfl rfl (by decide) rfl ?_
        refine x_goto (tgt := 19) (pc := 36) B dX12_names_36 rfl ?_
        refine x_pick (lv' := [(0, .ref (ad 94)), (1, .int a1), (2, .int a2), (4, .int a4), (5, .int (y5.1 + 1))]) [1, 2, 3, 4, 0] rfl ?_
        have z := hback (y5.1 + 1, M8) (Option.some.inj h).symm
        exact z
    · refine x_iload_n (pc := 39) B 1 dX12_names_39 rfl rfl ?_
      refine x_iconst (v := (-1)) (pc := 40) B dX12_names_40 rfl ?_
      refine x_icmp_ne (tgt := 45) (pc := 41) B dX12_names_41 rfl (fun hc10 => ?_) (fun hc10 => ?_)
      · have h := iff_ hc10 h
        refine x_aload_n (pc := 45) B 0 dX12_names_45 rfl rfl ?_
        refine x_iload_n (pc := 46) B 2 dX12_names_46 rfl rfl ?_
        refine x_iconst (v := (-1)) (pc := 47) B dX12_names_47 rfl ?_
        refine x_iconst (v := (-1)) (pc := 48) B dX12_names_48 rfl ?_
        refine x_iconst (v := 0) (pc := 49) B dX12_names_49 rfl ?_
        obtain ⟨q11, hq11, h⟩ := bnd h
        refine x_callV (rest := []) (st' := []) (pc := 50) B oi_94 rfl (C_Mo_looks_94 a2 (-1) (-1) 0 q9 _ hq11) tw_1475 tw_1472 tw_1474 tw_50 tw_111 hd_Mo_looks_94 ⟨Nat.le_of_ble_eq_true rfl, Nat.le_of_ble_eq_true rfl⟩ rfl rfl (Nat.le_of_ble_eq_true rfl) rfl dX12_names_50 ?_
        refine x_aload_n (pc := 53) B 0 dX12_names_53 rfl rfl ?_
        refine x_get (T := TX12) (pc := 54) B 9 oi_94 rfl uw_12 (by decide) rfl tw_1308 rfl dX12_names_54 ?_
        refine x_iconst (v := 1) (pc := 57) B dX12_names_57 rfl ?_
        refine x_aload_n (pc := 58) B 0 dX12_names_58 rfl rfl ?_
        refine x_get (T := TX12) (pc := 59) B 1 oi_94 rfl uw_12 (by decide) rfl tw_1300 rfl dX12_names_59 ?_
        refine x_sipush (v := 174) (pc := 62) B dX12_names_62 rfl ?_
        refine x_iload_n (pc := 65) B 1 dX12_names_65 rfl rfl ?_
        refine x_iadd (pc := 66) B dX12_names_66 ?_
        obtain ⟨hk12, h⟩ := ifn h
        refine x_iald (pc := 67) B ai_95 hk12 dX12_names_67 ?_
        refine x_iast_c (j := 1) (pc := 68) B ai_99 (by decide) rfl dX12_names_68 ?_
        refine jv_m (P := fun M13 => XX D ad cI cJ p l e (Rm 2 54) s m args below meth c Q 6 M13 69 [(0, .ref (ad 94)), (1, .int a1), (2, .int a2), (4, .int a4)] []) h (fun M13 h => ?_)
        refine x_aload_n (pc := 69) B 0 dX12_names_69 rfl rfl ?_
        refine x_get (T := TX12) (pc := 70) B 9 oi_94 rfl uw_12 (by decide) rfl tw_1308 rfl dX12_names_70 ?_
        refine x_iconst (v := 2) (pc := 73) B dX12_names_73 rfl ?_
        refine x_aload_n (pc := 74) B 0 dX12_names_74 rfl rfl ?_
        refine x_get (T := TX12) (pc := 75) B 4 oi_94 rfl uw_12 (by decide) rfl tw_1303 rfl dX12_names_75 ?_
        refine x_iload_n (pc := 78) B 1 dX12_names_78 rfl rfl ?_
        obtain ⟨hk14, h⟩ := ifn h
        refine x_iald (pc := 79) B ai_97 hk14 dX12_names_79 ?_
        refine x_iast_c (j := 2) (pc := 80) B ai_99 (by decide) rfl dX12_names_80 ?_
        refine jv_m (P := fun M15 => XX D ad cI cJ p l e (Rm 2 54) s m args below meth c Q 6 M15 81 [(0, .ref (ad 94)), (1, .int a1), (2, .int a2), (4, .int a4)] []) h (fun M15 h => ?_)
        refine x_aload_n (pc := 81) B 0 dX12_names_81 rfl rfl ?_
        refine x_get (T := TX12) (pc := 82) B 9 oi_94 rfl uw_12 (by decide) rfl tw_1308 rfl dX12_names_82 ?_
        refine x_iconst (v := 3) (pc := 85) B dX12_names_85 rfl ?_
        refine x_iload (pc := 86) B 3 dX12_names_86 rfl ?_
        refine x_iast_c (j := 3) (pc := 88) B ai_99 (by decide) rfl dX12_names_88 ?_
        refine jv_m (P := fun M16 => XX D ad cI cJ p l e (Rm 2 54) s m args below meth c Q 6 M16 89 [(0, .ref (ad 94)), (1, .int a1), (2, .int a2), (4, .int a4)] []) h (fun M16 h => ?_)
        refine x_aload_n (pc := 89) B 0 dX12_names_89 rfl rfl ?_
        refine x_get (T := TX12) (pc := 90) B 9 oi_94 rfl uw_12 (by decide) rfl tw_1308 rfl dX12_names_90 ?_
        refine x_iconst (v := 4) (pc := 93) B dX12_names_93 rfl ?_
        refine x_aload_n (pc := 94) B 0 dX12_names_94 rfl rfl ?_
        refine x_aload_n (pc := 95) B 0 dX12_names_95 rfl rfl ?_
        refine x_get (T := TX12) (pc := 96) B 1 oi_94 rfl uw_12 (by decide) rfl tw_1300 rfl dX12_names_96 ?_
        refine x_sipush (v := 164) (pc := 99) B dX12_names_99 rfl ?_
        refine x_iload_n (pc := 102) B 1 dX12_names_102 rfl rfl ?_
        refine x_iadd (pc := 103) B dX12_names_103 ?_
        obtain ⟨hk17, h⟩ := ifn h
        refine x_iald (pc := 104) B ai_95 hk17 dX12_names_104 ?_
        obtain ⟨q18, hq18, h⟩ := bnd h
        refine x_callV (rest := [.int 4, .ref (ad 99)]) (st' := [.int q18, .int 4, .ref (ad 99)]) (pc := 105) B oi_94 rfl (C_Mo_milesTo_94 (M16.1 95 (164 + a1).toNatClampNeg) M16 _ hq18) tw_1507 tw_1504 tw_1506 tw_58 tw_111 hd_Mo_milesTo_94 ⟨Nat.le_of_ble_eq_true rfl, Nat.le_of_ble_eq_true rfl⟩ rfl rfl (Nat.le_of_ble_eq_true rfl) rfl dX12_names_105 ?_
        refine x_iast_c (j := 4) (pc := 108) B ai_99 (by decide) rfl dX12_names_108 ?_
        refine jv_m (P := fun M19 => XX D ad cI cJ p l e (Rm 2 54) s m args below meth c Q 6 M19 109 [(0, .ref (ad 94)), (1, .int a1), (2, .int a2), (4, .int a4)] []) h (fun M19 h => ?_)
        obtain rfl := Option.some.inj h
        exact x_vret (pc := 109) B hQ dX12_names_109
      · have h := ift hc10 h
        obtain rfl := Option.some.inj h
        exact x_vret (pc := 44) B hQ dX12_names_44
  · refine x_icmp_ne (tgt := 14) (pc := 7) B dX12_names_7 rfl (fun hc1 => ?_) (fun hc1 => ?_)
    · refine x_iload_n (pc := 14) B 3 dX12_names_14 rfl rfl ?_
      refine x_pick (lv' := [(0, .ref (ad 94)), (1, .int a1), (2, .int a2), (4, .int a4)]) [0, 1, 2, 4] rfl ?_
      have z := JJ a3 ((zif_f hc1).trans rfl)
      exact z
    · refine x_iconst (v := 0) (pc := 10) B dX12_names_10 rfl ?_
      refine x_goto (tgt := 15) (pc := 11) B dX12_names_11 rfl ?_
      refine x_pick (lv' := [(0, .ref (ad 94)), (1, .int a1), (2, .int a2), (4, .int a4)]) [0, 1, 2, 4] rfl ?_
      have z := JJ 0 ((zif_t hc1).trans rfl)
      exact z
-- CurrentFarmsModel.here()I [94]
abbrev y_Mo_here_94 : MethodName := ⟨"CurrentFarmsModel", "here", "()I"⟩
abbrev cX12_here : ByteArray := prog_14_method_32_code
theorem dX12_here_0 : decode cX12_here 0 = .ok (.aload_n 0, 1) := by decide +kernel
theorem dX12_here_1 : decode cX12_here 1 = .ok (.getfield 149, 3) := by decide +kernel
theorem dX12_here_4 : decode cX12_here 4 = .ok (.aload_n 0, 1) := by decide +kernel
theorem dX12_here_5 : decode cX12_here 5 = .ok (.getfield 7, 3) := by decide +kernel
theorem dX12_here_8 : decode cX12_here 8 = .ok (.sipush 800, 3) := by decide +kernel
theorem dX12_here_11 : decode cX12_here 11 = .ok (.aload_n 0, 1) := by decide +kernel
theorem dX12_here_12 : decode cX12_here 12 = .ok (.getfield 152, 3) := by decide +kernel
theorem dX12_here_15 : decode cX12_here 15 = .ok (.iadd, 1) := by decide +kernel
theorem dX12_here_16 : decode cX12_here 16 = .ok (.iaload, 1) := by decide +kernel
theorem dX12_here_17 : decode cX12_here 17 = .ok (.if_icmp .ge 27, 3) := by decide +kernel
theorem dX12_here_20 : decode cX12_here 20 = .ok (.aload_n 0, 1) := by decide +kernel
theorem dX12_here_21 : decode cX12_here 21 = .ok (.getfield 7, 3) := by decide +kernel
theorem dX12_here_24 : decode cX12_here 24 = .ok (.sipush 810, 3) := by decide +kernel
theorem dX12_here_27 : decode cX12_here 27 = .ok (.bipush 120, 2) := by decide +kernel
theorem dX12_here_29 : decode cX12_here 29 = .ok (.aload_n 0, 1) := by decide +kernel
theorem dX12_here_30 : decode cX12_here 30 = .ok (.getfield 152, 3) := by decide +kernel
theorem dX12_here_33 : decode cX12_here 33 = .ok (.imul, 1) := by decide +kernel
theorem dX12_here_34 : decode cX12_here 34 = .ok (.iadd, 1) := by decide +kernel
theorem dX12_here_35 : decode cX12_here 35 = .ok (.aload_n 0, 1) := by decide +kernel
theorem dX12_here_36 : decode cX12_here 36 = .ok (.getfield 149, 3) := by decide +kernel
theorem dX12_here_39 : decode cX12_here 39 = .ok (.iadd, 1) := by decide +kernel
theorem dX12_here_40 : decode cX12_here 40 = .ok (.iaload, 1) := by decide +kernel
theorem dX12_here_41 : decode cX12_here 41 = .ok (.goto 4, 3) := by decide +kernel
theorem dX12_here_44 : decode cX12_here 44 = .ok (.iconst (-1), 1) := by decide +kernel
theorem dX12_here_45 : decode cX12_here 45 = .ok (.ireturn, 1) := by decide +kernel
theorem hd_Mo_here_94 : y_Mo_here_94.cls ≠ "java/lang/invoke/MethodHandle" ∧ y_Mo_here_94.cls ≠ "java/lang/invoke/VarHandle" ∧ (parseMethodDescriptor y_Mo_here_94.desc).map (fun d => d.parameters.length) = some 0 := by decide +kernel
def f_Mo_here_94  (M0 : Mem) : Option (Int32) :=
  if inb (800 + (M0.1 94 6)) 4700 then if decide ((M0.1 94 7) < (M0.1 95 (800 + (M0.1 94 6)).toNatClampNeg)) then (if inb ((810 + (120 * (M0.1 94 6))) + (M0.1 94 7)) 4700 then some (M0.1 95 ((810 + (120 * (M0.1 94 6))) + (M0.1 94 7)).toNatClampNeg) else none) else (some (-1)) else none
set_option maxHeartbeats 4000000 in
set_option maxRecDepth 20000 in
theorem C_Mo_here_94 {D : va_G} {ad adK adV : Nat → Nat} {cI cJ : ClassId} {l : Launch}  (M0 : Mem) (o : Int32) (h : f_Mo_here_94  M0 = some o) : Ct D ad adK adV cI cJ l y_Mo_here_94 cX12_here 1 (some .int) 0 0 [.ref (ad 94)] M0 (some (.int o)) M0 := by
  refine x_start (lv := [(0, .ref (ad 94))]) (own := "CurrentFarmsModel") rfl (by decide) (Nat.le_of_ble_eq_true rfl) rfl ?_
  intro p e s m args below meth c Q hQ B
  unfold f_Mo_here_94 at h
  refine x_aload_n (pc := 0) B 0 dX12_here_0 rfl rfl ?_
  refine x_get (T := TX12) (pc := 1) B 7 oi_94 rfl uw_12 (by decide) rfl tw_1306 rfl dX12_here_1 ?_
  refine x_aload_n (pc := 4) B 0 dX12_here_4 rfl rfl ?_
  refine x_get (T := TX12) (pc := 5) B 1 oi_94 rfl uw_12 (by decide) rfl tw_1300 rfl dX12_here_5 ?_
  refine x_sipush (v := 800) (pc := 8) B dX12_here_8 rfl ?_
  refine x_aload_n (pc := 11) B 0 dX12_here_11 rfl rfl ?_
  refine x_get (T := TX12) (pc := 12) B 6 oi_94 rfl uw_12 (by decide) rfl tw_1305 rfl dX12_here_12 ?_
  refine x_iadd (pc := 15) B dX12_here_15 ?_
  obtain ⟨hk1, h⟩ := ifn h
  refine x_iald (pc := 16) B ai_95 hk1 dX12_here_16 ?_
  refine x_icmp_ge (tgt := 44) (pc := 17) B dX12_here_17 rfl (fun hc2 => ?_) (fun hc2 => ?_)
  · have h := iff_ hc2 h
    refine x_iconst (v := (-1)) (pc := 44) B dX12_here_44 rfl ?_
    obtain rfl := Option.some.inj h
    exact x_iret (pc := 45) B hQ dX12_here_45
  · have h := ift hc2 h
    refine x_aload_n (pc := 20) B 0 dX12_here_20 rfl rfl ?_
    refine x_get (T := TX12) (pc := 21) B 1 oi_94 rfl uw_12 (by decide) rfl tw_1300 rfl dX12_here_21 ?_
    refine x_sipush (v := 810) (pc := 24) B dX12_here_24 rfl ?_
    refine x_bipush (v := 120) (pc := 27) B dX12_here_27 rfl ?_
    refine x_aload_n (pc := 29) B 0 dX12_here_29 rfl rfl ?_
    refine x_get (T := TX12) (pc := 30) B 6 oi_94 rfl uw_12 (by decide) rfl tw_1305 rfl dX12_here_30 ?_
    refine x_imul (pc := 33) B dX12_here_33 ?_
    refine x_iadd (pc := 34) B dX12_here_34 ?_
    refine x_aload_n (pc := 35) B 0 dX12_here_35 rfl rfl ?_
    refine x_get (T := TX12) (pc := 36) B 7 oi_94 rfl uw_12 (by decide) rfl tw_1306 rfl dX12_here_36 ?_
    refine x_iadd (pc := 39) B dX12_here_39 ?_
    obtain ⟨hk3, h⟩ := ifn h
    refine x_iald (pc := 40) B ai_95 hk3 dX12_here_40 ?_
    refine x_goto (tgt := 45) (pc := 41) B dX12_here_41 rfl ?_
    obtain rfl := Option.some.inj h
    exact x_iret (pc := 45) B hQ dX12_here_45
