-- CurrentFarms$Line.ahead(I)I [24]
abbrev y_Line_ahead_24 : MethodName := ⟨"CurrentFarms$Line", "ahead", "(I)I"⟩
abbrev cX5_ahead : ByteArray := prog_7_method_5_code
theorem dX5_ahead_0 : decode cX5_ahead 0 = .ok (.iload_n 1, 1) := by decide +kernel
theorem dX5_ahead_1 : decode cX5_ahead 1 = .ok (.invokestatic 48, 3) := by decide +kernel
theorem dX5_ahead_4 : decode cX5_ahead 4 = .ok (.ifCond .eq 14, 3) := by decide +kernel
theorem dX5_ahead_7 : decode cX5_ahead 7 = .ok (.aload_n 0, 1) := by decide +kernel
theorem dX5_ahead_8 : decode cX5_ahead 8 = .ok (.getfield 9, 3) := by decide +kernel
theorem dX5_ahead_11 : decode cX5_ahead 11 = .ok (.iload_n 1, 1) := by decide +kernel
theorem dX5_ahead_12 : decode cX5_ahead 12 = .ok (.invokestatic 52, 3) := by decide +kernel
theorem dX5_ahead_15 : decode cX5_ahead 15 = .ok (.goto 4, 3) := by decide +kernel
theorem dX5_ahead_18 : decode cX5_ahead 18 = .ok (.iconst (-1), 1) := by decide +kernel
theorem dX5_ahead_19 : decode cX5_ahead 19 = .ok (.ireturn, 1) := by decide +kernel
theorem hd_Line_ahead_24 : y_Line_ahead_24.cls ≠ "java/lang/invoke/MethodHandle" ∧ y_Line_ahead_24.cls ≠ "java/lang/invoke/VarHandle" ∧ (parseMethodDescriptor y_Line_ahead_24.desc).map (fun d => d.parameters.length) = some 1 := by decide +kernel
def f_Line_ahead_24 (a1 : Int32) (M0 : Mem) : Option (Int32) :=
  if wthn a1 0 47 then (some (atv (M0.1 25) 48 a1)) else (some (-1))
set_option maxHeartbeats 4000000 in
set_option maxRecDepth 20000 in
theorem C_Line_ahead_24 {D : va_G} {ad adK adV : Nat → Nat} {cI cJ : ClassId} {l : Launch} (a1 : Int32) (M0 : Mem) (o : Int32) (h : f_Line_ahead_24 a1 M0 = some o) : Ct D ad adK adV cI cJ l y_Line_ahead_24 cX5_ahead 2 (some .int) 2 42 [.ref (ad 24), .int a1] M0 (some (.int o)) M0 := by
  refine x_start (lv := [(0, .ref (ad 24)), (1, .int a1)]) (own := "CurrentFarms$Line") rfl (by decide) (Nat.le_of_ble_eq_true rfl) rfl ?_
  intro p e s m args below meth c Q hQ B
  unfold f_Line_ahead_24 at h
  refine x_iload_n (pc := 0) B 1 dX5_ahead_0 rfl rfl ?_
  refine x_callSN (rest := []) (st' := [.int (bI (wthn a1 0 47))]) (pc := 1) B (T_CF_isCell a1 M0) tw_556 tw_572 tw_555 tw_98 hd_CF_isCell ⟨Nat.le_of_ble_eq_true rfl, Nat.le_of_ble_eq_true rfl⟩ rfl rfl (Nat.le_of_ble_eq_true rfl) rfl dX5_ahead_1 ?_
  refine x_if_eq_b (tgt := 18) (pc := 4) B dX5_ahead_4 rfl (fun hc1 => ?_) (fun hc1 => ?_)
  · have h := iff_ hc1 h
    refine x_iconst (v := (-1)) (pc := 18) B dX5_ahead_18 rfl ?_
    obtain rfl := Option.some.inj h
    exact x_iret (pc := 19) B hQ dX5_ahead_19
  · have h := ift hc1 h
    refine x_aload_n (pc := 7) B 0 dX5_ahead_7 rfl rfl ?_
    refine x_get (T := TX5) (pc := 8) B 0 oi_24 rfl uw_5 (by decide) rfl tw_263 rfl dX5_ahead_8 ?_
    refine x_iload_n (pc := 11) B 1 dX5_ahead_11 rfl rfl ?_
    refine x_callSN (rest := []) (st' := [.int (atv (M0.1 25) 48 a1)]) (pc := 12) B (T_CF_at 25 48 a1 ai_25 (by decide) M0) tw_575 tw_573 tw_574 tw_98 hd_CF_at ⟨Nat.le_of_ble_eq_true rfl, Nat.le_of_ble_eq_true rfl⟩ rfl rfl (Nat.le_of_ble_eq_true rfl) rfl dX5_ahead_12 ?_
    refine x_goto (tgt := 19) (pc := 15) B dX5_ahead_15 rfl ?_
    obtain rfl := Option.some.inj h
    exact x_iret (pc := 19) B hQ dX5_ahead_19
-- CurrentFarms.isOnLine(I)Z [0]
abbrev y_CF_isOnLine_0 : MethodName := ⟨"CurrentFarms", "isOnLine", "(I)Z"⟩
abbrev cX11_isOnLine : ByteArray := prog_1_method_46_code
theorem dX11_isOnLine_0 : decode cX11_isOnLine 0 = .ok (.iload_n 1, 1) := by decide +kernel
theorem dX11_isOnLine_1 : decode cX11_isOnLine 1 = .ok (.aload_n 0, 1) := by decide +kernel
theorem dX11_isOnLine_2 : decode cX11_isOnLine 2 = .ok (.getfield 12, 3) := by decide +kernel
theorem dX11_isOnLine_5 : decode cX11_isOnLine 5 = .ok (.getfield 43, 3) := by decide +kernel
theorem dX11_isOnLine_8 : decode cX11_isOnLine 8 = .ok (.getfield 114, 3) := by decide +kernel
theorem dX11_isOnLine_11 : decode cX11_isOnLine 11 = .ok (.if_icmp .eq 18, 3) := by decide +kernel
theorem dX11_isOnLine_14 : decode cX11_isOnLine 14 = .ok (.aload_n 0, 1) := by decide +kernel
theorem dX11_isOnLine_15 : decode cX11_isOnLine 15 = .ok (.getfield 12, 3) := by decide +kernel
theorem dX11_isOnLine_18 : decode cX11_isOnLine 18 = .ok (.getfield 107, 3) := by decide +kernel
theorem dX11_isOnLine_21 : decode cX11_isOnLine 21 = .ok (.iload_n 1, 1) := by decide +kernel
theorem dX11_isOnLine_22 : decode cX11_isOnLine 22 = .ok (.invokevirtual 318, 3) := by decide +kernel
theorem dX11_isOnLine_25 : decode cX11_isOnLine 25 = .ok (.iconst (-1), 1) := by decide +kernel
theorem dX11_isOnLine_26 : decode cX11_isOnLine 26 = .ok (.if_icmp .eq 7, 3) := by decide +kernel
theorem dX11_isOnLine_29 : decode cX11_isOnLine 29 = .ok (.iconst 1, 1) := by decide +kernel
theorem dX11_isOnLine_30 : decode cX11_isOnLine 30 = .ok (.goto 4, 3) := by decide +kernel
theorem dX11_isOnLine_33 : decode cX11_isOnLine 33 = .ok (.iconst 0, 1) := by decide +kernel
theorem dX11_isOnLine_34 : decode cX11_isOnLine 34 = .ok (.ireturn, 1) := by decide +kernel
theorem hd_CF_isOnLine_0 : y_CF_isOnLine_0.cls ≠ "java/lang/invoke/MethodHandle" ∧ y_CF_isOnLine_0.cls ≠ "java/lang/invoke/VarHandle" ∧ (parseMethodDescriptor y_CF_isOnLine_0.desc).map (fun d => d.parameters.length) = some 1 := by decide +kernel
def f_CF_isOnLine_0 (a1 : Int32) (M0 : Mem) : Option (Bool) :=
  if decide (a1 = (M0.1 2 5)) then (some true) else ((f_Line_ahead_24 a1 M0).bind fun q2 => if decide (q2 = (-1)) then (some false) else (some true))
set_option maxHeartbeats 4000000 in
set_option maxRecDepth 20000 in
theorem C_CF_isOnLine_0 {D : va_G} {ad adK adV : Nat → Nat} {cI cJ : ClassId} {l : Launch} (a1 : Int32) (M0 : Mem) (o : Bool) (h : f_CF_isOnLine_0 a1 M0 = some o) : Ct D ad adK adV cI cJ l y_CF_isOnLine_0 cX11_isOnLine 2 (some .boolean) 3 63 [.ref (ad 0), .int a1] M0 (some (.int (bI o))) M0 := by
  refine x_start (lv := [(0, .ref (ad 0)), (1, .int a1)]) (own := "CurrentFarms") rfl (by decide) (Nat.le_of_ble_eq_true rfl) rfl ?_
  intro p e s m args below meth c Q hQ B
  unfold f_CF_isOnLine_0 at h
  refine x_iload_n (pc := 0) B 1 dX11_isOnLine_0 rfl rfl ?_
  refine x_aload_n (pc := 1) B 0 dX11_isOnLine_1 rfl rfl ?_
  refine x_get (T := TX11) (pc := 2) B 0 oi_0 rfl uw_11 (by decide) rfl tw_525 rfl dX11_isOnLine_2 ?_
  refine x_get (T := TX8) (pc := 5) B 0 oi_1 rfl uw_8 (by decide) rfl tw_359 rfl dX11_isOnLine_5 ?_
  refine x_get (T := TX4) (pc := 8) B 5 oi_2 rfl uw_4 (by decide) rfl tw_154 rfl dX11_isOnLine_8 ?_
  refine x_icmp_eq (tgt := 29) (pc := 11) B dX11_isOnLine_11 rfl (fun hc1 => ?_) (fun hc1 => ?_)
  · have h := ift hc1 h
    refine x_iconst (v := 1) (pc := 29) B dX11_isOnLine_29 rfl ?_
    refine x_goto (tgt := 34) (pc := 30) B dX11_isOnLine_30 rfl ?_
    obtain rfl := Option.some.inj h
    exact x_zret (v := true) (pc := 34) B hQ dX11_isOnLine_34
  · have h := iff_ hc1 h
    refine x_aload_n (pc := 14) B 0 dX11_isOnLine_14 rfl rfl ?_
    refine x_get (T := TX11) (pc := 15) B 0 oi_0 rfl uw_11 (by decide) rfl tw_525 rfl dX11_isOnLine_15 ?_
    refine x_get (T := TX8) (pc := 18) B 3 oi_1 rfl uw_8 (by decide) rfl tw_374 rfl dX11_isOnLine_18 ?_
    refine x_iload_n (pc := 21) B 1 dX11_isOnLine_21 rfl rfl ?_
    obtain ⟨q2, hq2, h⟩ := bnd h
    refine x_callV (rest := []) (st' := [.int q2]) (pc := 22) B oi_24 rfl (C_Line_ahead_24 a1 M0 _ hq2) tw_571 tw_568 tw_569 tw_570 tw_103 hd_Line_ahead_24 ⟨Nat.le_of_ble_eq_true rfl, Nat.le_of_ble_eq_true rfl⟩ rfl rfl (Nat.le_of_ble_eq_true rfl) rfl dX11_isOnLine_22 ?_
    refine x_iconst (v := (-1)) (pc := 25) B dX11_isOnLine_25 rfl ?_
    refine x_icmp_eq (tgt := 33) (pc := 26) B dX11_isOnLine_26 rfl (fun hc3 => ?_) (fun hc3 => ?_)
    · have h := ift hc3 h
      refine x_iconst (v := 0) (pc := 33) B dX11_isOnLine_33 rfl ?_
      obtain rfl := Option.some.inj h
      exact x_zret (v := false) (pc := 34) B hQ dX11_isOnLine_34
    · have h := iff_ hc3 h
      refine x_iconst (v := 1) (pc := 29) B dX11_isOnLine_29 rfl ?_
      refine x_goto (tgt := 34) (pc := 30) B dX11_isOnLine_30 rfl ?_
      obtain rfl := Option.some.inj h
      exact x_zret (v := true) (pc := 34) B hQ dX11_isOnLine_34
-- CurrentFarms$Land.cellOf(I)I [2]
abbrev y_Land_cellOf_2 : MethodName := ⟨"CurrentFarms$Land", "cellOf", "(I)I"⟩
abbrev cX4_cellOf : ByteArray := prog_6_method_4_code
theorem dX4_cellOf_0 : decode cX4_cellOf 0 = .ok (.aload_n 0, 1) := by decide +kernel
theorem dX4_cellOf_1 : decode cX4_cellOf 1 = .ok (.getfield 18, 3) := by decide +kernel
theorem dX4_cellOf_4 : decode cX4_cellOf 4 = .ok (.iload_n 1, 1) := by decide +kernel
theorem dX4_cellOf_5 : decode cX4_cellOf 5 = .ok (.invokestatic 39, 3) := by decide +kernel
theorem dX4_cellOf_8 : decode cX4_cellOf 8 = .ok (.ireturn, 1) := by decide +kernel
theorem hd_Land_cellOf_2 : y_Land_cellOf_2.cls ≠ "java/lang/invoke/MethodHandle" ∧ y_Land_cellOf_2.cls ≠ "java/lang/invoke/VarHandle" ∧ (parseMethodDescriptor y_Land_cellOf_2.desc).map (fun d => d.parameters.length) = some 1 := by decide +kernel
def f_Land_cellOf_2 (a1 : Int32) (M0 : Mem) : Option (Int32) :=
  some (atv (M0.1 5) 10 a1)
set_option maxHeartbeats 4000000 in
set_option maxRecDepth 20000 in
theorem C_Land_cellOf_2 {D : va_G} {ad adK adV : Nat → Nat} {cI cJ : ClassId} {l : Launch} (a1 : Int32) (M0 : Mem) (o : Int32) (h : f_Land_cellOf_2 a1 M0 = some o) : Ct D ad adK adV cI cJ l y_Land_cellOf_2 cX4_cellOf 2 (some .int) 1 21 [.ref (ad 2), .int a1] M0 (some (.int o)) M0 := by
  refine x_start (lv := [(0, .ref (ad 2)), (1, .int a1)]) (own := "CurrentFarms$Land") rfl (by decide) (Nat.le_of_ble_eq_true rfl) rfl ?_
  intro p e s m args below meth c Q hQ B
  unfold f_Land_cellOf_2 at h
  refine x_aload_n (pc := 0) B 0 dX4_cellOf_0 rfl rfl ?_
  refine x_get (T := TX4) (pc := 1) B 2 oi_2 rfl uw_4 (by decide) rfl tw_144 rfl dX4_cellOf_1 ?_
  refine x_iload_n (pc := 4) B 1 dX4_cellOf_4 rfl rfl ?_
  refine x_callSN (rest := []) (st' := [.int (atv (M0.1 5) 10 a1)]) (pc := 5) B (T_CF_at 5 10 a1 ai_5 (by decide) M0) tw_575 tw_584 tw_574 tw_98 hd_CF_at ⟨Nat.le_of_ble_eq_true rfl, Nat.le_of_ble_eq_true rfl⟩ rfl rfl (Nat.le_of_ble_eq_true rfl) rfl dX4_cellOf_5 ?_
  obtain rfl := Option.some.inj h
  exact x_iret (pc := 8) B hQ dX4_cellOf_8
-- CurrentFarms$Land.farmsOn(J)I [2]
abbrev y_Land_farmsOn_2 : MethodName := ⟨"CurrentFarms$Land", "farmsOn", "(J)I"⟩
abbrev cX4_farmsOn : ByteArray := prog_6_method_7_code
theorem dX4_farmsOn_0 : decode cX4_farmsOn 0 = .ok (.iconst 0, 1) := by decide +kernel
theorem dX4_farmsOn_1 : decode cX4_farmsOn 1 = .ok (.istore_n 3, 1) := by decide +kernel
theorem dX4_farmsOn_2 : decode cX4_farmsOn 2 = .ok (.iconst 0, 1) := by decide +kernel
theorem dX4_farmsOn_3 : decode cX4_farmsOn 3 = .ok (.istore 4, 2) := by decide +kernel
theorem dX4_farmsOn_5 : decode cX4_farmsOn 5 = .ok (.iload 4, 2) := by decide +kernel
theorem dX4_farmsOn_7 : decode cX4_farmsOn 7 = .ok (.aload_n 0, 1) := by decide +kernel
theorem dX4_farmsOn_8 : decode cX4_farmsOn 8 = .ok (.getfield 28, 3) := by decide +kernel
theorem dX4_farmsOn_11 : decode cX4_farmsOn 11 = .ok (.if_icmp .ge 31, 3) := by decide +kernel
theorem dX4_farmsOn_14 : decode cX4_farmsOn 14 = .ok (.lload_n 1, 1) := by decide +kernel
theorem dX4_farmsOn_15 : decode cX4_farmsOn 15 = .ok (.aload_n 0, 1) := by decide +kernel
theorem dX4_farmsOn_16 : decode cX4_farmsOn 16 = .ok (.iload 4, 2) := by decide +kernel
theorem dX4_farmsOn_18 : decode cX4_farmsOn 18 = .ok (.invokevirtual 57, 3) := by decide +kernel
theorem dX4_farmsOn_21 : decode cX4_farmsOn 21 = .ok (.lshr, 1) := by decide +kernel
theorem dX4_farmsOn_22 : decode cX4_farmsOn 22 = .ok (.lconst 1, 1) := by decide +kernel
theorem dX4_farmsOn_23 : decode cX4_farmsOn 23 = .ok (.land, 1) := by decide +kernel
theorem dX4_farmsOn_24 : decode cX4_farmsOn 24 = .ok (.lconst 1, 1) := by decide +kernel
theorem dX4_farmsOn_25 : decode cX4_farmsOn 25 = .ok (.lcmp, 1) := by decide +kernel
theorem dX4_farmsOn_26 : decode cX4_farmsOn 26 = .ok (.ifCond .ne 10, 3) := by decide +kernel
theorem dX4_farmsOn_29 : decode cX4_farmsOn 29 = .ok (.iload_n 3, 1) := by decide +kernel
theorem dX4_farmsOn_30 : decode cX4_farmsOn 30 = .ok (.iconst 1, 1) := by decide +kernel
theorem dX4_farmsOn_31 : decode cX4_farmsOn 31 = .ok (.iload 4, 2) := by decide +kernel
theorem dX4_farmsOn_33 : decode cX4_farmsOn 33 = .ok (.ishl, 1) := by decide +kernel
theorem dX4_farmsOn_34 : decode cX4_farmsOn 34 = .ok (.ior, 1) := by decide +kernel
theorem dX4_farmsOn_35 : decode cX4_farmsOn 35 = .ok (.istore_n 3, 1) := by decide +kernel
theorem dX4_farmsOn_36 : decode cX4_farmsOn 36 = .ok (.iinc 4 1, 3) := by decide +kernel
theorem dX4_farmsOn_39 : decode cX4_farmsOn 39 = .ok (.goto (-34), 3) := by decide +kernel
theorem dX4_farmsOn_42 : decode cX4_farmsOn 42 = .ok (.iload_n 3, 1) := by decide +kernel
theorem dX4_farmsOn_43 : decode cX4_farmsOn 43 = .ok (.ireturn, 1) := by decide +kernel
theorem hd_Land_farmsOn_2 : y_Land_farmsOn_2.cls ≠ "java/lang/invoke/MethodHandle" ∧ y_Land_farmsOn_2.cls ≠ "java/lang/invoke/VarHandle" ∧ (parseMethodDescriptor y_Land_farmsOn_2.desc).map (fun d => d.parameters.length) = some 1 := by decide +kernel
def b_Land_farmsOn_2_5 (a1 : Int64) (M0 : Mem) (y1 : Int32 × Int32) : Option ((Int32 × Int32) ⊕ (Int32)) :=
  if decide (y1.2 < (M0.1 2 4)) then ((f_Land_cellOf_2 y1.2 M0).bind fun q3 => if decide ((lg_cmp ((a1 >>> (q3.toInt64 &&& 63)) &&& 1) 1) = 0) then (some (.inl (y1.1 ||| (1 <<< (y1.2 &&& 31)), y1.2 + 1))) else (some (.inl (y1.1, y1.2 + 1)))) else (some (.inr y1.1))
def f_Land_farmsOn_2 (a1 : Int64) (M0 : Mem) : Option (Int32) :=
  (itr (b_Land_farmsOn_2_5 a1 M0) FU (0, 0)).bind fun q5 => some q5
set_option maxHeartbeats 4000000 in
set_option maxRecDepth 20000 in
theorem C_Land_farmsOn_2 {D : va_G} {ad adK adV : Nat → Nat} {cI cJ : ClassId} {l : Launch} (a1 : Int64) (M0 : Mem) (o : Int32) (h : f_Land_farmsOn_2 a1 M0 = some o) : Ct D ad adK adV cI cJ l y_Land_farmsOn_2 cX4_farmsOn 5 (some .int) 2 42 [.ref (ad 2), .long a1] M0 (some (.int o)) M0 := by
  refine x_start (lv := [(0, .ref (ad 2)), (1, .long a1)]) (own := "CurrentFarms$Land") rfl (by decide) (Nat.le_of_ble_eq_true rfl) rfl ?_
  intro p e s m args below meth c Q hQ B
  unfold f_Land_farmsOn_2 at h
  refine x_iconst (v := 0) (pc := 0) B dX4_farmsOn_0 rfl ?_
  refine x_istore_n (lv' := [(3, .int 0), (0, .ref (ad 2)), (1, .long a1)]) (pc := 1) B dX4_farmsOn_1 rfl (by decide) rfl ?_
  refine x_iconst (v := 0) (pc := 2) B dX4_farmsOn_2 rfl ?_
  refine x_istore (lv' := [(4, .int 0), (3, .int 0), (0, .ref (ad 2)), (1, .long a1)]) (pc := 3) B dX4_farmsOn_3 (by decide) rfl ?_
  refine x_pick (lv' := [(0, .ref (ad 2)), (1, .long a1), (3, .int 0), (4, .int 0)]) [2, 3, 1, 0] rfl ?_
  obtain ⟨q5, hq5, h⟩ := bnd h
  refine x_loop (Head := fun (y1 : Int32 × Int32) => XX D ad cI cJ p l e (Rm 2 42) s m args below meth c Q 5 M0 5 [(0, .ref (ad 2)), (1, .long a1), (3, .int y1.1), (4, .int y1.2)] []) (Ex := fun (q5 : Int32) => XX D ad cI cJ p l e (Rm 2 42) s m args below meth c Q 5 M0 42 [(3, .int q5)] []) (fun y1 r h hback hexit => ?_) FU _ q5 hq5 ?_
  · unfold b_Land_farmsOn_2_5 at h
    refine x_iload (pc := 5) B 3 dX4_farmsOn_5 rfl ?_
    refine x_aload_n (pc := 7) B 0 dX4_farmsOn_7 rfl rfl ?_
    refine x_get (T := TX4) (pc := 8) B 4 oi_2 rfl uw_4 (by decide) rfl tw_149 rfl dX4_farmsOn_8 ?_
    refine x_icmp_ge (tgt := 42) (pc := 11) B dX4_farmsOn_11 rfl (fun hc2 => ?_) (fun hc2 => ?_)
    · have h := iff_ hc2 h
      refine x_pick (lv' := [(3, .int y1.1)]) [2] rfl ?_
      have z := hexit y1.1 (Option.some.inj h).symm
      exact z
    · have h := ift hc2 h
      refine x_lload_n (pc := 14) B 1 dX4_farmsOn_14 rfl rfl ?_
      refine x_aload_n (pc := 15) B 0 dX4_farmsOn_15 rfl rfl ?_
      refine x_iload (pc := 16) B 3 dX4_farmsOn_16 rfl ?_
      obtain ⟨q3, hq3, h⟩ := bnd h
      refine x_callV (rest := [.long a1]) (st' := [.int q3, .long a1]) (pc := 18) B oi_2 rfl (C_Land_cellOf_2 y1.2 M0 _ hq3) tw_583 tw_580 tw_581 tw_582 tw_100 hd_Land_cellOf_2 ⟨Nat.le_of_ble_eq_true rfl, Nat.le_of_ble_eq_true rfl⟩ rfl rfl (Nat.le_of_ble_eq_true rfl) rfl dX4_farmsOn_18 ?_
      refine x_lshr (pc := 21) B dX4_farmsOn_21 ?_
      refine x_lconst (v := 1) (pc := 22) B dX4_farmsOn_22 rfl ?_
      refine x_land (pc := 23) B dX4_farmsOn_23 ?_
      refine x_lconst (v := 1) (pc := 24) B dX4_farmsOn_24 rfl ?_
      refine x_lcmp (pc := 25) B dX4_farmsOn_25 ?_
      refine x_if_ne (tgt := 36) (pc := 26) B dX4_farmsOn_26 rfl (fun hc4 => ?_) (fun hc4 => ?_)
      · have h := iff_ hc4 h
        refine x_iinc (k := 3) (v := y1.2 + 1) (lv' := [(4, .int (y1.2 + 1)), (0, .ref (ad 2)), (1, .long a1), (3, .int y1.1)]) (pc := 36) B dX4_farmsOn_36 rfl rfl (by decide) rfl ?_
        refine x_goto (tgt := 5) (pc := 39) B dX4_farmsOn_39 rfl ?_
        refine x_pick (lv' := [(0, .ref (ad 2)), (1, .long a1), (3, .int y1.1), (4, .int (y1.2 + 1))]) [1, 2, 3, 0] rfl ?_
        have z := hback (y1.1, y1.2 + 1) (Option.some.inj h).symm
        exact z
      · have h := ift hc4 h
        refine x_iload_n (pc := 29) B 2 dX4_farmsOn_29 rfl rfl ?_
        refine x_iconst (v := 1) (pc := 30) B dX4_farmsOn_30 rfl ?_
        refine x_iload (pc := 31) B 3 dX4_farmsOn_31 rfl ?_
        refine x_ishl (pc := 33) B dX4_farmsOn_33 ?_
        refine x_ior (pc := 34) B dX4_farmsOn_34 ?_
        refine x_istore_n (lv' := [(3, .int (y1.1 ||| (1 <<< (y1.2 &&& 31)))), (0, .ref (ad 2)), (1, .long a1), (4, .int y1.2)]) (pc := 35) B dX4_farmsOn_35 rfl (by decide) rfl ?_
        refine x_iinc (k := 3) (v := y1.2 + 1) (lv' := [(4, .int (y1.2 + 1)), (3, .int (y1.1 ||| (1 <<< (y1.2 &&& 31)))), (0, .ref (ad 2)), (1, .long a1)]) (pc := 36) B dX4_farmsOn_36 rfl rfl (by decide) rfl ?_
        refine x_goto (tgt := 5) (pc := 39) B dX4_farmsOn_39 rfl ?_
        refine x_pick (lv' := [(0, .ref (ad 2)), (1, .long a1), (3, .int (y1.1 ||| (1 <<< (y1.2 &&& 31)))), (4, .int (y1.2 + 1))]) [2, 3, 1, 0] rfl ?_
        have z := hback (y1.1 ||| (1 <<< (y1.2 &&& 31)), y1.2 + 1) (Option.some.inj h).symm
        exact z
  · refine x_iload_n (pc := 42) B 0 dX4_farmsOn_42 rfl rfl ?_
    obtain rfl := Option.some.inj h
    exact x_iret (pc := 43) B hQ dX4_farmsOn_43
-- CurrentFarms.isNeeded(I)Z [0]
abbrev y_CF_isNeeded_0 : MethodName := ⟨"CurrentFarms", "isNeeded", "(I)Z"⟩
abbrev cX11_isNeeded : ByteArray := prog_1_method_47_code
theorem dX11_isNeeded_0 : decode cX11_isNeeded 0 = .ok (.aload_n 0, 1) := by decide +kernel
theorem dX11_isNeeded_1 : decode cX11_isNeeded 1 = .ok (.iload_n 1, 1) := by decide +kernel
theorem dX11_isNeeded_2 : decode cX11_isNeeded 2 = .ok (.invokevirtual 195, 3) := by decide +kernel
theorem dX11_isNeeded_5 : decode cX11_isNeeded 5 = .ok (.ifCond .ne 19, 3) := by decide +kernel
theorem dX11_isNeeded_8 : decode cX11_isNeeded 8 = .ok (.aload_n 0, 1) := by decide +kernel
theorem dX11_isNeeded_9 : decode cX11_isNeeded 9 = .ok (.getfield 12, 3) := by decide +kernel
theorem dX11_isNeeded_12 : decode cX11_isNeeded 12 = .ok (.getfield 43, 3) := by decide +kernel
theorem dX11_isNeeded_15 : decode cX11_isNeeded 15 = .ok (.lconst 1, 1) := by decide +kernel
theorem dX11_isNeeded_16 : decode cX11_isNeeded 16 = .ok (.iload_n 1, 1) := by decide +kernel
theorem dX11_isNeeded_17 : decode cX11_isNeeded 17 = .ok (.lshl, 1) := by decide +kernel
theorem dX11_isNeeded_18 : decode cX11_isNeeded 18 = .ok (.invokevirtual 340, 3) := by decide +kernel
theorem dX11_isNeeded_21 : decode cX11_isNeeded 21 = .ok (.ifCond .eq 7, 3) := by decide +kernel
theorem dX11_isNeeded_24 : decode cX11_isNeeded 24 = .ok (.iconst 1, 1) := by decide +kernel
theorem dX11_isNeeded_25 : decode cX11_isNeeded 25 = .ok (.goto 4, 3) := by decide +kernel
theorem dX11_isNeeded_28 : decode cX11_isNeeded 28 = .ok (.iconst 0, 1) := by decide +kernel
theorem dX11_isNeeded_29 : decode cX11_isNeeded 29 = .ok (.ireturn, 1) := by decide +kernel
theorem hd_CF_isNeeded_0 : y_CF_isNeeded_0.cls ≠ "java/lang/invoke/MethodHandle" ∧ y_CF_isNeeded_0.cls ≠ "java/lang/invoke/VarHandle" ∧ (parseMethodDescriptor y_CF_isNeeded_0.desc).map (fun d => d.parameters.length) = some 1 := by decide +kernel
def f_CF_isNeeded_0 (a1 : Int32) (M0 : Mem) : Option (Bool) :=
  (f_CF_isOnLine_0 a1 M0).bind fun q1 => if q1 then (some true) else ((f_Land_farmsOn_2 (1 <<< (a1.toInt64 &&& 63)) M0).bind fun q3 => if decide (q3 = 0) then (some false) else (some true))
set_option maxHeartbeats 4000000 in
set_option maxRecDepth 20000 in
theorem C_CF_isNeeded_0 {D : va_G} {ad adK adV : Nat → Nat} {cI cJ : ClassId} {l : Launch} (a1 : Int32) (M0 : Mem) (o : Bool) (h : f_CF_isNeeded_0 a1 M0 = some o) : Ct D ad adK adV cI cJ l y_CF_isNeeded_0 cX11_isNeeded 2 (some .boolean) 4 84 [.ref (ad 0), .int a1] M0 (some (.int (bI o))) M0 := by
  refine x_start (lv := [(0, .ref (ad 0)), (1, .int a1)]) (own := "CurrentFarms") rfl (by decide) (Nat.le_of_ble_eq_true rfl) rfl ?_
  intro p e s m args below meth c Q hQ B
  unfold f_CF_isNeeded_0 at h
  refine x_aload_n (pc := 0) B 0 dX11_isNeeded_0 rfl rfl ?_
  refine x_iload_n (pc := 1) B 1 dX11_isNeeded_1 rfl rfl ?_
  obtain ⟨q1, hq1, h⟩ := bnd h
  refine x_callV (rest := []) (st' := [.int (bI q1)]) (pc := 2) B oi_0 rfl (C_CF_isOnLine_0 a1 M0 _ hq1) tw_567 tw_564 tw_566 tw_1 tw_98 hd_CF_isOnLine_0 ⟨Nat.le_of_ble_eq_true rfl, Nat.le_of_ble_eq_true rfl⟩ rfl rfl (Nat.le_of_ble_eq_true rfl) rfl dX11_isNeeded_2 ?_
  refine x_if_ne_b (tgt := 24) (pc := 5) B dX11_isNeeded_5 rfl (fun hc2 => ?_) (fun hc2 => ?_)
  · have h := ift hc2 h
    refine x_iconst (v := 1) (pc := 24) B dX11_isNeeded_24 rfl ?_
    refine x_goto (tgt := 29) (pc := 25) B dX11_isNeeded_25 rfl ?_
    obtain rfl := Option.some.inj h
    exact x_zret (v := true) (pc := 29) B hQ dX11_isNeeded_29
  · have h := iff_ hc2 h
    refine x_aload_n (pc := 8) B 0 dX11_isNeeded_8 rfl rfl ?_
    refine x_get (T := TX11) (pc := 9) B 0 oi_0 rfl uw_11 (by decide) rfl tw_525 rfl dX11_isNeeded_9 ?_
    refine x_get (T := TX8) (pc := 12) B 0 oi_1 rfl uw_8 (by decide) rfl tw_359 rfl dX11_isNeeded_12 ?_
    refine x_lconst (v := 1) (pc := 15) B dX11_isNeeded_15 rfl ?_
    refine x_iload_n (pc := 16) B 1 dX11_isNeeded_16 rfl rfl ?_
    refine x_lshl (pc := 17) B dX11_isNeeded_17 ?_
    obtain ⟨q3, hq3, h⟩ := bnd h
    refine x_callV (rest := []) (st' := [.int q3]) (pc := 18) B oi_2 rfl (C_Land_farmsOn_2 (1 <<< (a1.toInt64 &&& 63)) M0 _ hq3) tw_579 tw_576 tw_577 tw_578 tw_100 hd_Land_farmsOn_2 ⟨Nat.le_of_ble_eq_true rfl, Nat.le_of_ble_eq_true rfl⟩ rfl rfl (Nat.le_of_ble_eq_true rfl) rfl dX11_isNeeded_18 ?_
    refine x_if_eq (tgt := 28) (pc := 21) B dX11_isNeeded_21 rfl (fun hc4 => ?_) (fun hc4 => ?_)
    · have h := ift hc4 h
      refine x_iconst (v := 0) (pc := 28) B dX11_isNeeded_28 rfl ?_
      obtain rfl := Option.some.inj h
      exact x_zret (v := false) (pc := 29) B hQ dX11_isNeeded_29
    · have h := iff_ hc4 h
      refine x_iconst (v := 1) (pc := 24) B dX11_isNeeded_24 rfl ?_
      refine x_goto (tgt := 29) (pc := 25) B dX11_isNeeded_25 rfl ?_
      obtain rfl := Option.some.inj h
      exact x_zret (v := true) (pc := 29) B hQ dX11_isNeeded_29
-- CurrentFarms.land(III)I [0]
abbrev y_CF_land_0 : MethodName := ⟨"CurrentFarms", "land", "(III)I"⟩
abbrev cX11_land : ByteArray := prog_1_method_2_code
theorem dX11_land_0 : decode cX11_land 0 = .ok (.iload_n 1, 1) := by decide +kernel
theorem dX11_land_1 : decode cX11_land 1 = .ok (.invokestatic 68, 3) := by decide +kernel
theorem dX11_land_4 : decode cX11_land 4 = .ok (.ifCond .eq 12, 3) := by decide +kernel
theorem dX11_land_7 : decode cX11_land 7 = .ok (.iload_n 2, 1) := by decide +kernel
theorem dX11_land_8 : decode cX11_land 8 = .ok (.iconst 0, 1) := by decide +kernel
theorem dX11_land_9 : decode cX11_land 9 = .ok (.iconst 1, 1) := by decide +kernel
theorem dX11_land_10 : decode cX11_land 10 = .ok (.invokestatic 72, 3) := by decide +kernel
theorem dX11_land_13 : decode cX11_land 13 = .ok (.ifCond .ne 5, 3) := by decide +kernel
theorem dX11_land_16 : decode cX11_land 16 = .ok (.iconst (-1), 1) := by decide +kernel
theorem dX11_land_17 : decode cX11_land 17 = .ok (.ireturn, 1) := by decide +kernel
theorem dX11_land_18 : decode cX11_land 18 = .ok (.iload_n 3, 1) := by decide +kernel
theorem dX11_land_19 : decode cX11_land 19 = .ok (.iconst 0, 1) := by decide +kernel
theorem dX11_land_20 : decode cX11_land 20 = .ok (.iload_n 2, 1) := by decide +kernel
theorem dX11_land_21 : decode cX11_land 21 = .ok (.ifCond .ne 8, 3) := by decide +kernel
theorem dX11_land_24 : decode cX11_land 24 = .ok (.bipush 9, 2) := by decide +kernel
theorem dX11_land_26 : decode cX11_land 26 = .ok (.goto 4, 3) := by decide +kernel
theorem dX11_land_29 : decode cX11_land 29 = .ok (.iconst 3, 1) := by decide +kernel
theorem dX11_land_30 : decode cX11_land 30 = .ok (.invokestatic 72, 3) := by decide +kernel
theorem dX11_land_33 : decode cX11_land 33 = .ok (.ifCond .ne 6, 3) := by decide +kernel
theorem dX11_land_36 : decode cX11_land 36 = .ok (.bipush (-2), 2) := by decide +kernel
theorem dX11_land_38 : decode cX11_land 38 = .ok (.ireturn, 1) := by decide +kernel
theorem dX11_land_39 : decode cX11_land 39 = .ok (.iload_n 2, 1) := by decide +kernel
theorem dX11_land_40 : decode cX11_land 40 = .ok (.iconst 1, 1) := by decide +kernel
theorem dX11_land_41 : decode cX11_land 41 = .ok (.if_icmp .ne 19, 3) := by decide +kernel
theorem dX11_land_44 : decode cX11_land 44 = .ok (.iload_n 3, 1) := by decide +kernel
theorem dX11_land_45 : decode cX11_land 45 = .ok (.iconst 3, 1) := by decide +kernel
theorem dX11_land_46 : decode cX11_land 46 = .ok (.if_icmp .ne 14, 3) := by decide +kernel
theorem dX11_land_49 : decode cX11_land 49 = .ok (.aload_n 0, 1) := by decide +kernel
theorem dX11_land_50 : decode cX11_land 50 = .ok (.iload_n 1, 1) := by decide +kernel
theorem dX11_land_51 : decode cX11_land 51 = .ok (.invokevirtual 76, 3) := by decide +kernel
theorem dX11_land_54 : decode cX11_land 54 = .ok (.ifCond .eq 6, 3) := by decide +kernel
theorem dX11_land_57 : decode cX11_land 57 = .ok (.bipush (-3), 2) := by decide +kernel
theorem dX11_land_59 : decode cX11_land 59 = .ok (.ireturn, 1) := by decide +kernel
theorem dX11_land_60 : decode cX11_land 60 = .ok (.iload_n 2, 1) := by decide +kernel
theorem dX11_land_61 : decode cX11_land 61 = .ok (.ifCond .ne 16, 3) := by decide +kernel
theorem dX11_land_64 : decode cX11_land 64 = .ok (.aload_n 0, 1) := by decide +kernel
theorem dX11_land_65 : decode cX11_land 65 = .ok (.getfield 12, 3) := by decide +kernel
theorem dX11_land_68 : decode cX11_land 68 = .ok (.getfield 43, 3) := by decide +kernel
theorem dX11_land_71 : decode cX11_land 71 = .ok (.getfield 79, 3) := by decide +kernel
theorem dX11_land_74 : decode cX11_land 74 = .ok (.goto 13, 3) := by decide +kernel
theorem dX11_land_77 : decode cX11_land 77 = .ok (.aload_n 0, 1) := by decide +kernel
theorem dX11_land_78 : decode cX11_land 78 = .ok (.getfield 12, 3) := by decide +kernel
theorem dX11_land_81 : decode cX11_land 81 = .ok (.getfield 43, 3) := by decide +kernel
theorem dX11_land_84 : decode cX11_land 84 = .ok (.getfield 85, 3) := by decide +kernel
theorem dX11_land_87 : decode cX11_land 87 = .ok (.astore 4, 2) := by decide +kernel
theorem dX11_land_89 : decode cX11_land 89 = .ok (.aload 4, 2) := by decide +kernel
theorem dX11_land_91 : decode cX11_land 91 = .ok (.iload_n 1, 1) := by decide +kernel
theorem dX11_land_92 : decode cX11_land 92 = .ok (.invokestatic 88, 3) := by decide +kernel
theorem dX11_land_95 : decode cX11_land 95 = .ok (.istore 5, 2) := by decide +kernel
theorem dX11_land_97 : decode cX11_land 97 = .ok (.aload 4, 2) := by decide +kernel
theorem dX11_land_99 : decode cX11_land 99 = .ok (.iload_n 1, 1) := by decide +kernel
theorem dX11_land_100 : decode cX11_land 100 = .ok (.iload_n 3, 1) := by decide +kernel
theorem dX11_land_101 : decode cX11_land 101 = .ok (.invokestatic 92, 3) := by decide +kernel
theorem dX11_land_104 : decode cX11_land 104 = .ok (.iload 5, 2) := by decide +kernel
theorem dX11_land_106 : decode cX11_land 106 = .ok (.ireturn, 1) := by decide +kernel
theorem hd_CF_land_0 : y_CF_land_0.cls ≠ "java/lang/invoke/MethodHandle" ∧ y_CF_land_0.cls ≠ "java/lang/invoke/VarHandle" ∧ (parseMethodDescriptor y_CF_land_0.desc).map (fun d => d.parameters.length) = some 3 := by decide +kernel
def f_CF_land_0 (a1 : Int32) (a2 : Int32) (a3 : Int32) (M0 : Mem) : Option (Int32 × Mem) :=
  if wthn a1 0 47 then (if wthn a2 0 1 then (jv_ ((if decide (a2 = 0) then 9 else 3) : Int32) fun u5 => if wthn a3 0 u5 then (jn_ (fun (u8 : Unit) => if decide (a2 = 0) then (jv_ (putv M0 3 48 a1 a3) fun M10 => some (atv (M0.1 3) 48 a1, M10)) else (jv_ (putv M0 4 48 a1 a3) fun M11 => some (atv (M0.1 4) 48 a1, M11))) fun k12 => if decide (a2 = 1) then (if decide (a3 = 3) then ((f_CF_isNeeded_0 a1 M0).bind fun q14 => if q14 then (some ((-3), M0)) else (k12 ())) else (k12 ())) else (k12 ())) else (some ((-2), M0))) else (some ((-1), M0))) else (some ((-1), M0))
set_option maxHeartbeats 4000000 in
set_option maxRecDepth 20000 in
theorem C_CF_land_0 {D : va_G} {ad adK adV : Nat → Nat} {cI cJ : ClassId} {l : Launch} (a1 : Int32) (a2 : Int32) (a3 : Int32) (M0 : Mem) (o : Int32 × Mem) (h : f_CF_land_0 a1 a2 a3 M0 = some o) : Ct D ad adK adV cI cJ l y_CF_land_0 cX11_land 6 (some .int) 5 105 [.ref (ad 0), .int a1, .int a2, .int a3] M0 (some (.int o.1)) o.2 := by
  refine x_start (lv := [(0, .ref (ad 0)), (1, .int a1), (2, .int a2), (3, .int a3)]) (own := "CurrentFarms") rfl (by decide) (Nat.le_of_ble_eq_true rfl) rfl ?_
  intro p e s m args below meth c Q hQ B
  unfold f_CF_land_0 at h
  refine x_iload_n (pc := 0) B 1 dX11_land_0 rfl rfl ?_
  refine x_callS (rest := []) (st' := [.int (bI (wthn a1 0 47))]) (pc := 1) B (T_CF_isCell a1 M0) tw_556 tw_554 tw_555 tw_98 hd_CF_isCell ⟨Nat.le_of_ble_eq_true rfl, Nat.le_of_ble_eq_true rfl⟩ rfl rfl (Nat.le_of_ble_eq_true rfl) rfl dX11_land_1 ?_
  refine x_if_eq_b (tgt := 16) (pc := 4) B dX11_land_4 rfl (fun hc1 => ?_) (fun hc1 => ?_)
  · have h := iff_ hc1 h
    refine x_iconst (v := (-1)) (pc := 16) B dX11_land_16 rfl ?_
    obtain rfl := Option.some.inj h
    exact x_iret (pc := 17) B hQ dX11_land_17
  · have h := ift hc1 h
    refine x_iload_n (pc := 7) B 2 dX11_land_7 rfl rfl ?_
    refine x_iconst (v := 0) (pc := 8) B dX11_land_8 rfl ?_
    refine x_iconst (v := 1) (pc := 9) B dX11_land_9 rfl ?_
    refine x_callS (rest := []) (st' := [.int (bI (wthn a2 0 1))]) (pc := 10) B (T_CF_within a2 0 1 M0) tw_559 tw_557 tw_558 tw_98 hd_CF_within ⟨Nat.le_of_ble_eq_true rfl, Nat.le_of_ble_eq_true rfl⟩ rfl rfl (Nat.le_of_ble_eq_true rfl) rfl dX11_land_10 ?_
    refine x_if_ne_b (tgt := 18) (pc := 13) B dX11_land_13 rfl (fun hc2 => ?_) (fun hc2 => ?_)
    · have h := ift hc2 h
      refine x_iload_n (pc := 18) B 3 dX11_land_18 rfl rfl ?_
      refine x_iconst (v := 0) (pc := 19) B dX11_land_19 rfl ?_
      refine x_iload_n (pc := 20) B 2 dX11_land_20 rfl rfl ?_
      refine jv_k h (fun (u5 : Int32) => XX D ad cI cJ p l e (Rm 5 105) s m args below meth c Q 6 M0 30 [(0, .ref (ad 0)), (1, .int a1), (2, .int a2), (3, .int a3)] [.int u5, .int 0, .int a3]) (fun u5 h => ?_) (fun JJ => ?_)
      · refine x_callS (rest := []) (st' := [.int (bI (wthn a3 0 u5))]) (pc := 30) B (T_CF_within a3 0 u5 M0) tw_559 tw_557 tw_558 tw_98 hd_CF_within ⟨Nat.le_of_ble_eq_true rfl, Nat.le_of_ble_eq_true rfl⟩ rfl rfl (Nat.le_of_ble_eq_true rfl) rfl dX11_land_30 ?_
        refine x_if_ne_b (tgt := 39) (pc := 33) B dX11_land_33 rfl (fun hc6 => ?_) (fun hc6 => ?_)
        · have h := ift hc6 h
          refine x_iload_n (pc := 39) B 2 dX11_land_39 rfl rfl ?_
          refine x_iconst (v := 1) (pc := 40) B dX11_land_40 rfl ?_
          refine jn_k h (fun (u8 : Unit) => XX D ad cI cJ p l e (Rm 5 105) s m args below meth c Q 6 M0 60 [(0, .ref (ad 0)), (1, .int a1), (2, .int a2), (3, .int a3)] []) (fun u8 h => ?_) (fun k12 h JJ => ?_)
          · refine x_iload_n (pc := 60) B 2 dX11_land_60 rfl rfl ?_
            refine x_if_ne (tgt := 77) (pc := 61) B dX11_land_61 rfl (fun hc9 => ?_) (fun hc9 => ?_)
            · have h := iff_ hc9 h
              refine x_aload_n (pc := 77) B 0 dX11_land_77 rfl rfl ?_
              refine x_get (T := TX11) (pc := 78) B 0 oi_0 rfl uw_11 (by decide) rfl tw_525 rfl dX11_land_78 ?_
              refine x_get (T := TX8) (pc := 81) B 0 oi_1 rfl uw_8 (by decide) rfl tw_359 rfl dX11_land_81 ?_
              refine x_get (T := TX4) (pc := 84) B 1 oi_2 rfl uw_4 (by decide) rfl tw_143 rfl dX11_land_84 ?_
              refine x_astore (lv' := [(4, .ref (ad 4)), (0, .ref (ad 0)), (1, .int a1), (2, .int a2), (3, .int a3)]) (pc := 87) B dX11_land_87 (by decide) rfl ?_
              refine x_aload (pc := 89) B 0 dX11_land_89 rfl ?_
              refine x_iload_n (pc := 91) B 2 dX11_land_91 rfl rfl ?_
              refine x_callS (rest := []) (st' := [.int (atv (M0.1 4) 48 a1)]) (pc := 92) B (T_CF_at 4 48 a1 ai_4 (by decide) M0) tw_575 tw_585 tw_574 tw_98 hd_CF_at ⟨Nat.le_of_ble_eq_true rfl, Nat.le_of_ble_eq_true rfl⟩ rfl rfl (Nat.le_of_ble_eq_true rfl) rfl dX11_land_92 ?_
              refine x_istore (lv' := [(5, .int (atv (M0.1 4) 48 a1)), (4, .ref (ad 4)), (0, .ref (ad 0)), (1, .int a1), (2, .int a2), (3, .int a3)]) (pc := 95) B dX11_land_95 (by decide) rfl ?_
              refine x_aload (pc := 97) B 1 dX11_land_97 rfl ?_
              refine x_iload_n (pc := 99) B 3 dX11_land_99 rfl rfl ?_
              refine x_iload_n (pc := 100) B 5 dX11_land_100 rfl rfl ?_
              refine x_callS (rest := []) (st' := []) (pc := 101) B (T_CF_put 4 48 a1 a3 ai_4 (by decide) M0) tw_588 tw_586 tw_587 tw_98 hd_CF_put ⟨Nat.le_of_ble_eq_true rfl, Nat.le_of_ble_eq_true rfl⟩ rfl rfl (Nat.le_of_ble_eq_true rfl) rfl dX11_land_101 ?_
              refine jv_m (P := fun M11 => XX D ad cI cJ p l e (Rm 5 105) s m args below meth c Q 6 M11 104 [(5, .int (atv (M0.1 4) 48 a1)), (4, .ref (ad 4)), (0, .ref (ad 0)), (1, .int a1), (2, .int a2), (3, .int a3)] []) h (fun M11 h => ?_)
              refine x_iload (pc := 104) B 0 dX11_land_104 rfl ?_
              obtain rfl := Option.some.inj h
              exact x_iret (pc := 106) B hQ dX11_land_106
            · have h := ift hc9 h
              refine x_aload_n (pc := 64) B 0 dX11_land_64 rfl rfl ?_
              refine x_get (T := TX11) (pc := 65) B 0 oi_0 rfl uw_11 (by decide) rfl tw_525 rfl dX11_land_65 ?_
              refine x_get (T := TX8) (pc := 68) B 0 oi_1 rfl uw_8 (by decide) rfl tw_359 rfl dX11_land_68 ?_
              refine x_get (T := TX4) (pc := 71) B 0 oi_2 rfl uw_4 (by decide) rfl tw_140 rfl dX11_land_71 ?_
              refine x_goto (tgt := 87) (pc := 74) B dX11_land_74 rfl ?_
              refine x_astore (lv' := [(4, .ref (ad 3)), (0, .ref (ad 0)), (1, .int a1), (2, .int a2), (3, .int a3)]) (pc := 87) B dX11_land_87 (by decide) rfl ?_
              refine x_aload (pc := 89) B 0 dX11_land_89 rfl ?_
              refine x_iload_n (pc := 91) B 2 dX11_land_91 rfl rfl ?_
              refine x_callS (rest := []) (st' := [.int (atv (M0.1 3) 48 a1)]) (pc := 92) B (T_CF_at 3 48 a1 ai_3 (by decide) M0) tw_575 tw_585 tw_574 tw_98 hd_CF_at ⟨Nat.le_of_ble_eq_true rfl, Nat.le_of_ble_eq_true rfl⟩ rfl rfl (Nat.le_of_ble_eq_true rfl) rfl dX11_land_92 ?_
              refine x_istore (lv' := [(5, .int (atv (M0.1 3) 48 a1)), (4, .ref (ad 3)), (0, .ref (ad 0)), (1, .int a1), (2, .int a2), (3, .int a3)]) (pc := 95) B dX11_land_95 (by decide) rfl ?_
              refine x_aload (pc := 97) B 1 dX11_land_97 rfl ?_
              refine x_iload_n (pc := 99) B 3 dX11_land_99 rfl rfl ?_
              refine x_iload_n (pc := 100) B 5 dX11_land_100 rfl rfl ?_
              refine x_callS (rest := []) (st' := []) (pc := 101) B (T_CF_put 3 48 a1 a3 ai_3 (by decide) M0) tw_588 tw_586 tw_587 tw_98 hd_CF_put ⟨Nat.le_of_ble_eq_true rfl, Nat.le_of_ble_eq_true rfl⟩ rfl rfl (Nat.le_of_ble_eq_true rfl) rfl dX11_land_101 ?_
              refine jv_m (P := fun M10 => XX D ad cI cJ p l e (Rm 5 105) s m args below meth c Q 6 M10 104 [(5, .int (atv (M0.1 3) 48 a1)), (4, .ref (ad 3)), (0, .ref (ad 0)), (1, .int a1), (2, .int a2), (3, .int a3)] []) h (fun M10 h => ?_)
              refine x_iload (pc := 104) B 0 dX11_land_104 rfl ?_
              obtain rfl := Option.some.inj h
              exact x_iret (pc := 106) B hQ dX11_land_106
          · refine x_icmp_ne (tgt := 60) (pc := 41) B dX11_land_41 rfl (fun hc7 => ?_) (fun hc7 => ?_)
            · have h := iff_ hc7 h
              have z := JJ () h
              exact z
            · have h := ift hc7 h
              refine x_iload_n (pc := 44) B 3 dX11_land_44 rfl rfl ?_
              refine x_iconst (v := 3) (pc := 45) B dX11_land_45 rfl ?_
              refine x_icmp_ne (tgt := 60) (pc := 46) B dX11_land_46 rfl (fun hc13 => ?_) (fun hc13 => ?_)
              · have h := iff_ hc13 h
                have z := JJ () h
                exact z
              · have h := ift hc13 h
                refine x_aload_n (pc := 49) B 0 dX11_land_49 rfl rfl ?_
                refine x_iload_n (pc := 50) B 1 dX11_land_50 rfl rfl ?_
                obtain ⟨q14, hq14, h⟩ := bnd h
                refine x_callV (rest := []) (st' := [.int (bI q14)]) (pc := 51) B oi_0 rfl (C_CF_isNeeded_0 a1 M0 _ hq14) tw_563 tw_560 tw_562 tw_0 tw_98 hd_CF_isNeeded_0 ⟨Nat.le_of_ble_eq_true rfl, Nat.le_of_ble_eq_true rfl⟩ rfl rfl (Nat.le_of_ble_eq_true rfl) rfl dX11_land_51 ?_
                refine x_if_eq_b (tgt := 60) (pc := 54) B dX11_land_54 rfl (fun hc15 => ?_) (fun hc15 => ?_)
                · have h := iff_ hc15 h
                  have z := JJ () h
                  exact z
                · have h := ift hc15 h
                  refine x_bipush (v := (-3)) (pc := 57) B dX11_land_57 rfl ?_
                  obtain rfl := Option.some.inj h
                  exact x_iret (pc := 59) B hQ dX11_land_59
        · have h := iff_ hc6 h
          refine x_bipush (v := (-2)) (pc := 36) B dX11_land_36 rfl ?_
          obtain rfl := Option.some.inj h
          exact x_iret (pc := 38) B hQ dX11_land_38
      · refine x_if_ne (tgt := 29) (pc := 21) B dX11_land_21 rfl (fun hc3 => ?_) (fun hc3 => ?_)
        · refine x_iconst (v := 3) (pc := 29) B dX11_land_29 rfl ?_
          have z := JJ 3 ((zif_f hc3).trans rfl)
          exact z
        · refine x_bipush (v := 9) (pc := 24) B dX11_land_24 rfl ?_
          refine x_goto (tgt := 30) (pc := 26) B dX11_land_26 rfl ?_
          have z := JJ 9 ((zif_t hc3).trans rfl)
          exact z
    · have h := iff_ hc2 h
      refine x_iconst (v := (-1)) (pc := 16) B dX11_land_16 rfl ?_
      obtain rfl := Option.some.inj h
      exact x_iret (pc := 17) B hQ dX11_land_17
-- CurrentFarms$Land.stretch(II)I [2]
abbrev y_Land_stretch_2 : MethodName := ⟨"CurrentFarms$Land", "stretch", "(II)I"⟩
abbrev cX4_stretch : ByteArray := prog_6_method_6_code
theorem dX4_stretch_0 : decode cX4_stretch 0 = .ok (.aload_n 0, 1) := by decide +kernel
theorem dX4_stretch_1 : decode cX4_stretch 1 = .ok (.getfield 15, 3) := by decide +kernel
theorem dX4_stretch_4 : decode cX4_stretch 4 = .ok (.iload_n 1, 1) := by decide +kernel
theorem dX4_stretch_5 : decode cX4_stretch 5 = .ok (.invokestatic 39, 3) := by decide +kernel
theorem dX4_stretch_8 : decode cX4_stretch 8 = .ok (.istore_n 3, 1) := by decide +kernel
theorem dX4_stretch_9 : decode cX4_stretch 9 = .ok (.aload_n 0, 1) := by decide +kernel
theorem dX4_stretch_10 : decode cX4_stretch 10 = .ok (.getfield 15, 3) := by decide +kernel
theorem dX4_stretch_13 : decode cX4_stretch 13 = .ok (.iload_n 2, 1) := by decide +kernel
theorem dX4_stretch_14 : decode cX4_stretch 14 = .ok (.invokestatic 39, 3) := by decide +kernel
theorem dX4_stretch_17 : decode cX4_stretch 17 = .ok (.istore 4, 2) := by decide +kernel
theorem dX4_stretch_19 : decode cX4_stretch 19 = .ok (.iload_n 3, 1) := by decide +kernel
theorem dX4_stretch_20 : decode cX4_stretch 20 = .ok (.iconst 3, 1) := by decide +kernel
theorem dX4_stretch_21 : decode cX4_stretch 21 = .ok (.if_icmp .eq 9, 3) := by decide +kernel
theorem dX4_stretch_24 : decode cX4_stretch 24 = .ok (.iload 4, 2) := by decide +kernel
theorem dX4_stretch_26 : decode cX4_stretch 26 = .ok (.iconst 3, 1) := by decide +kernel
theorem dX4_stretch_27 : decode cX4_stretch 27 = .ok (.if_icmp .ne 6, 3) := by decide +kernel
theorem dX4_stretch_30 : decode cX4_stretch 30 = .ok (.bipush (-5), 2) := by decide +kernel
theorem dX4_stretch_32 : decode cX4_stretch 32 = .ok (.ireturn, 1) := by decide +kernel
theorem dX4_stretch_33 : decode cX4_stretch 33 = .ok (.bipush 10, 2) := by decide +kernel
theorem dX4_stretch_35 : decode cX4_stretch 35 = .ok (.iconst 2, 1) := by decide +kernel
theorem dX4_stretch_36 : decode cX4_stretch 36 = .ok (.aload_n 0, 1) := by decide +kernel
theorem dX4_stretch_37 : decode cX4_stretch 37 = .ok (.getfield 9, 3) := by decide +kernel
theorem dX4_stretch_40 : decode cX4_stretch 40 = .ok (.iload_n 1, 1) := by decide +kernel
theorem dX4_stretch_41 : decode cX4_stretch 41 = .ok (.invokestatic 39, 3) := by decide +kernel
theorem dX4_stretch_44 : decode cX4_stretch 44 = .ok (.aload_n 0, 1) := by decide +kernel
theorem dX4_stretch_45 : decode cX4_stretch 45 = .ok (.getfield 9, 3) := by decide +kernel
theorem dX4_stretch_48 : decode cX4_stretch 48 = .ok (.iload_n 2, 1) := by decide +kernel
theorem dX4_stretch_49 : decode cX4_stretch 49 = .ok (.invokestatic 39, 3) := by decide +kernel
theorem dX4_stretch_52 : decode cX4_stretch 52 = .ok (.isub, 1) := by decide +kernel
theorem dX4_stretch_53 : decode cX4_stretch 53 = .ok (.invokestatic 43, 3) := by decide +kernel
theorem dX4_stretch_56 : decode cX4_stretch 56 = .ok (.imul, 1) := by decide +kernel
theorem dX4_stretch_57 : decode cX4_stretch 57 = .ok (.iadd, 1) := by decide +kernel
theorem dX4_stretch_58 : decode cX4_stretch 58 = .ok (.istore 5, 2) := by decide +kernel
theorem dX4_stretch_60 : decode cX4_stretch 60 = .ok (.iload 5, 2) := by decide +kernel
theorem dX4_stretch_62 : decode cX4_stretch 62 = .ok (.bipush 6, 2) := by decide +kernel
theorem dX4_stretch_64 : decode cX4_stretch 64 = .ok (.iload_n 3, 1) := by decide +kernel
theorem dX4_stretch_65 : decode cX4_stretch 65 = .ok (.iconst 1, 1) := by decide +kernel
theorem dX4_stretch_66 : decode cX4_stretch 66 = .ok (.if_icmp .ne 7, 3) := by decide +kernel
theorem dX4_stretch_69 : decode cX4_stretch 69 = .ok (.iconst 1, 1) := by decide +kernel
theorem dX4_stretch_70 : decode cX4_stretch 70 = .ok (.goto 4, 3) := by decide +kernel
theorem dX4_stretch_73 : decode cX4_stretch 73 = .ok (.iconst 0, 1) := by decide +kernel
theorem dX4_stretch_74 : decode cX4_stretch 74 = .ok (.invokestatic 49, 3) := by decide +kernel
theorem dX4_stretch_77 : decode cX4_stretch 77 = .ok (.iload 4, 2) := by decide +kernel
theorem dX4_stretch_79 : decode cX4_stretch 79 = .ok (.iconst 1, 1) := by decide +kernel
theorem dX4_stretch_80 : decode cX4_stretch 80 = .ok (.if_icmp .ne 7, 3) := by decide +kernel
theorem dX4_stretch_83 : decode cX4_stretch 83 = .ok (.iconst 1, 1) := by decide +kernel
theorem dX4_stretch_84 : decode cX4_stretch 84 = .ok (.goto 4, 3) := by decide +kernel
theorem dX4_stretch_87 : decode cX4_stretch 87 = .ok (.iconst 0, 1) := by decide +kernel
theorem dX4_stretch_88 : decode cX4_stretch 88 = .ok (.invokestatic 49, 3) := by decide +kernel
theorem dX4_stretch_91 : decode cX4_stretch 91 = .ok (.iadd, 1) := by decide +kernel
theorem dX4_stretch_92 : decode cX4_stretch 92 = .ok (.imul, 1) := by decide +kernel
theorem dX4_stretch_93 : decode cX4_stretch 93 = .ok (.iadd, 1) := by decide +kernel
theorem dX4_stretch_94 : decode cX4_stretch 94 = .ok (.istore 5, 2) := by decide +kernel
theorem dX4_stretch_96 : decode cX4_stretch 96 = .ok (.iload 5, 2) := by decide +kernel
theorem dX4_stretch_98 : decode cX4_stretch 98 = .ok (.iconst 4, 1) := by decide +kernel
theorem dX4_stretch_99 : decode cX4_stretch 99 = .ok (.iload_n 3, 1) := by decide +kernel
theorem dX4_stretch_100 : decode cX4_stretch 100 = .ok (.iconst 2, 1) := by decide +kernel
theorem dX4_stretch_101 : decode cX4_stretch 101 = .ok (.if_icmp .ne 7, 3) := by decide +kernel
theorem dX4_stretch_104 : decode cX4_stretch 104 = .ok (.iconst 1, 1) := by decide +kernel
theorem dX4_stretch_105 : decode cX4_stretch 105 = .ok (.goto 4, 3) := by decide +kernel
theorem dX4_stretch_108 : decode cX4_stretch 108 = .ok (.iconst 0, 1) := by decide +kernel
theorem dX4_stretch_109 : decode cX4_stretch 109 = .ok (.invokestatic 49, 3) := by decide +kernel
theorem dX4_stretch_112 : decode cX4_stretch 112 = .ok (.iload 4, 2) := by decide +kernel
theorem dX4_stretch_114 : decode cX4_stretch 114 = .ok (.iconst 2, 1) := by decide +kernel
theorem dX4_stretch_115 : decode cX4_stretch 115 = .ok (.if_icmp .ne 7, 3) := by decide +kernel
theorem dX4_stretch_118 : decode cX4_stretch 118 = .ok (.iconst 1, 1) := by decide +kernel
theorem dX4_stretch_119 : decode cX4_stretch 119 = .ok (.goto 4, 3) := by decide +kernel
theorem dX4_stretch_122 : decode cX4_stretch 122 = .ok (.iconst 0, 1) := by decide +kernel
theorem dX4_stretch_123 : decode cX4_stretch 123 = .ok (.invokestatic 49, 3) := by decide +kernel
theorem dX4_stretch_126 : decode cX4_stretch 126 = .ok (.iadd, 1) := by decide +kernel
theorem dX4_stretch_127 : decode cX4_stretch 127 = .ok (.imul, 1) := by decide +kernel
theorem dX4_stretch_128 : decode cX4_stretch 128 = .ok (.isub, 1) := by decide +kernel
theorem dX4_stretch_129 : decode cX4_stretch 129 = .ok (.istore 5, 2) := by decide +kernel
theorem dX4_stretch_131 : decode cX4_stretch 131 = .ok (.iconst 1, 1) := by decide +kernel
theorem dX4_stretch_132 : decode cX4_stretch 132 = .ok (.iload 5, 2) := by decide +kernel
theorem dX4_stretch_134 : decode cX4_stretch 134 = .ok (.invokestatic 53, 3) := by decide +kernel
theorem dX4_stretch_137 : decode cX4_stretch 137 = .ok (.ireturn, 1) := by decide +kernel
theorem hd_Land_stretch_2 : y_Land_stretch_2.cls ≠ "java/lang/invoke/MethodHandle" ∧ y_Land_stretch_2.cls ≠ "java/lang/invoke/VarHandle" ∧ (parseMethodDescriptor y_Land_stretch_2.desc).map (fun d => d.parameters.length) = some 2 := by decide +kernel
def f_Land_stretch_2 (a1 : Int32) (a2 : Int32) (M0 : Mem) : Option (Int32) :=
  if decide ((atv (M0.1 4) 48 a1) = 3) then (some (-5)) else (if decide ((atv (M0.1 4) 48 a2) = 3) then (some (-5)) else (jv_ (10 + (2 * (jabs ((atv (M0.1 3) 48 a1) - (atv (M0.1 3) 48 a2)))) : Int32) fun x3 => jv_ ((decide ((atv (M0.1 4) 48 a1) = 1)) : Bool) fun u6 => jv_ ((decide ((atv (M0.1 4) 48 a2) = 1)) : Bool) fun u9 => jv_ ((decide ((atv (M0.1 4) 48 a1) = 2)) : Bool) fun u12 => jv_ ((decide ((atv (M0.1 4) 48 a2) = 2)) : Bool) fun u15 => jv_ ((x3 + (6 * ((bI u6) + (bI u9)))) - (4 * ((bI u12) + (bI u15))) : Int32) fun x16 => some (jmax 1 x16)))
set_option maxHeartbeats 4000000 in
set_option maxRecDepth 20000 in
theorem C_Land_stretch_2 {D : va_G} {ad adK adV : Nat → Nat} {cI cJ : ClassId} {l : Launch} (a1 : Int32) (a2 : Int32) (M0 : Mem) (o : Int32) (h : f_Land_stretch_2 a1 a2 M0 = some o) : Ct D ad adK adV cI cJ l y_Land_stretch_2 cX4_stretch 6 (some .int) 1 21 [.ref (ad 2), .int a1, .int a2] M0 (some (.int o)) M0 := by
  refine x_start (lv := [(0, .ref (ad 2)), (1, .int a1), (2, .int a2)]) (own := "CurrentFarms$Land") rfl (by decide) (Nat.le_of_ble_eq_true rfl) rfl ?_
  intro p e s m args below meth c Q hQ B
  unfold f_Land_stretch_2 at h
  refine x_aload_n (pc := 0) B 0 dX4_stretch_0 rfl rfl ?_
  refine x_get (T := TX4) (pc := 1) B 1 oi_2 rfl uw_4 (by decide) rfl tw_142 rfl dX4_stretch_1 ?_
  refine x_iload_n (pc := 4) B 1 dX4_stretch_4 rfl rfl ?_
  refine x_callSN (rest := []) (st' := [.int (atv (M0.1 4) 48 a1)]) (pc := 5) B (T_CF_at 4 48 a1 ai_4 (by decide) M0) tw_575 tw_584 tw_574 tw_98 hd_CF_at ⟨Nat.le_of_ble_eq_true rfl, Nat.le_of_ble_eq_true rfl⟩ rfl rfl (Nat.le_of_ble_eq_true rfl) rfl dX4_stretch_5 ?_
  refine x_istore_n (lv' := [(3, .int (atv (M0.1 4) 48 a1)), (0, .ref (ad 2)), (1, .int a1), (2, .int a2)]) (pc := 8) B dX4_stretch_8 rfl (by decide) rfl ?_
  refine x_aload_n (pc := 9) B 1 dX4_stretch_9 rfl rfl ?_
  refine x_get (T := TX4) (pc := 10) B 1 oi_2 rfl uw_4 (by decide) rfl tw_142 rfl dX4_stretch_10 ?_
  refine x_iload_n (pc := 13) B 3 dX4_stretch_13 rfl rfl ?_
  refine x_callSN (rest := []) (st' := [.int (atv (M0.1 4) 48 a2)]) (pc := 14) B (T_CF_at 4 48 a2 ai_4 (by decide) M0) tw_575 tw_584 tw_574 tw_98 hd_CF_at ⟨Nat.le_of_ble_eq_true rfl, Nat.le_of_ble_eq_true rfl⟩ rfl rfl (Nat.le_of_ble_eq_true rfl) rfl dX4_stretch_14 ?_
  refine x_istore (lv' := [(4, .int (atv (M0.1 4) 48 a2)), (3, .int (atv (M0.1 4) 48 a1)), (0, .ref (ad 2)), (1, .int a1), (2, .int a2)]) (pc := 17) B dX4_stretch_17 (by decide) rfl ?_
  refine x_iload_n (pc := 19) B 1 dX4_stretch_19 rfl rfl ?_
  refine x_iconst (v := 3) (pc := 20) B dX4_stretch_20 rfl ?_
  refine x_icmp_eq (tgt := 30) (pc := 21) B dX4_stretch_21 rfl (fun hc1 => ?_) (fun hc1 => ?_)
  · have h := ift hc1 h
    refine x_bipush (v := (-5)) (pc := 30) B dX4_stretch_30 rfl ?_
    obtain rfl := Option.some.inj h
    exact x_iret (pc := 32) B hQ dX4_stretch_32
  · have h := iff_ hc1 h
    refine x_iload (pc := 24) B 0 dX4_stretch_24 rfl ?_
    refine x_iconst (v := 3) (pc := 26) B dX4_stretch_26 rfl ?_
    refine x_icmp_ne (tgt := 33) (pc := 27) B dX4_stretch_27 rfl (fun hc2 => ?_) (fun hc2 => ?_)
    · have h := iff_ hc2 h
      refine x_bipush (v := 10) (pc := 33) B dX4_stretch_33 rfl ?_
      refine x_iconst (v := 2) (pc := 35) B dX4_stretch_35 rfl ?_
      refine x_aload_n (pc := 36) B 2 dX4_stretch_36 rfl rfl ?_
      refine x_get (T := TX4) (pc := 37) B 0 oi_2 rfl uw_4 (by decide) rfl tw_139 rfl dX4_stretch_37 ?_
      refine x_iload_n (pc := 40) B 3 dX4_stretch_40 rfl rfl ?_
      refine x_callSN (rest := [.int 2, .int 10]) (st' := [.int (atv (M0.1 3) 48 a1), .int 2, .int 10]) (pc := 41) B (T_CF_at 3 48 a1 ai_3 (by decide) M0) tw_575 tw_584 tw_574 tw_98 hd_CF_at ⟨Nat.le_of_ble_eq_true rfl, Nat.le_of_ble_eq_true rfl⟩ rfl rfl (Nat.le_of_ble_eq_true rfl) rfl dX4_stretch_41 ?_
      refine x_aload_n (pc := 44) B 2 dX4_stretch_44 rfl rfl ?_
      refine x_get (T := TX4) (pc := 45) B 0 oi_2 rfl uw_4 (by decide) rfl tw_139 rfl dX4_stretch_45 ?_
      refine x_iload_n (pc := 48) B 4 dX4_stretch_48 rfl rfl ?_
      refine x_callSN (rest := [.int (atv (M0.1 3) 48 a1), .int 2, .int 10]) (st' := [.int (atv (M0.1 3) 48 a2), .int (atv (M0.1 3) 48 a1), .int 2, .int 10]) (pc := 49) B (T_CF_at 3 48 a2 ai_3 (by decide) M0) tw_575 tw_584 tw_574 tw_98 hd_CF_at ⟨Nat.le_of_ble_eq_true rfl, Nat.le_of_ble_eq_true rfl⟩ rfl rfl (Nat.le_of_ble_eq_true rfl) rfl dX4_stretch_49 ?_
      refine x_isub (pc := 52) B dX4_stretch_52 ?_
      refine x_mabs (pc := 53) B tw_603 tw_597 tw_112 tw_598 (by decide) (Nat.le_of_ble_eq_true rfl) dX4_stretch_53 ?_
      refine x_imul (pc := 56) B dX4_stretch_56 ?_
      refine x_iadd (pc := 57) B dX4_stretch_57 ?_
      refine jv_m (P := fun (x3 : Int32) => XX D ad cI cJ p l e (Rm 1 21) s m args below meth c Q 6 M0 58 [(4, .int (atv (M0.1 4) 48 a2)), (3, .int (atv (M0.1 4) 48 a1)), (0, .ref (ad 2)), (1, .int a1), (2, .int a2)] [.int x3]) h (fun x3 h => ?_)
      refine x_istore (lv' := [(5, .int x3), (4, .int (atv (M0.1 4) 48 a2)), (3, .int (atv (M0.1 4) 48 a1)), (0, .ref (ad 2)), (1, .int a1), (2, .int a2)]) (pc := 58) B dX4_stretch_58 (by decide) rfl ?_
      refine x_iload (pc := 60) B 0 dX4_stretch_60 rfl ?_
      refine x_bipush (v := 6) (pc := 62) B dX4_stretch_62 rfl ?_
      refine x_iload_n (pc := 64) B 2 dX4_stretch_64 rfl rfl ?_
      refine x_iconst (v := 1) (pc := 65) B dX4_stretch_65 rfl ?_
      refine jv_k h (fun (u6 : Bool) => XX D ad cI cJ p l e (Rm 1 21) s m args below meth c Q 6 M0 74 [(3, .int (atv (M0.1 4) 48 a1)), (4, .int (atv (M0.1 4) 48 a2))] [.int (bI u6), .int 6, .int x3]) (fun u6 h => ?_) (fun JJ => ?_)
      · refine x_callSN (rest := [.int 6, .int x3]) (st' := [.int (bI u6), .int 6, .int x3]) (pc := 74) B (T_CF_flag u6 M0) tw_606 tw_604 tw_605 tw_98 hd_CF_flag ⟨Nat.le_of_ble_eq_true rfl, Nat.le_of_ble_eq_true rfl⟩ rfl rfl (Nat.le_of_ble_eq_true rfl) rfl dX4_stretch_74 ?_
        refine x_iload (pc := 77) B 1 dX4_stretch_77 rfl ?_
        refine x_iconst (v := 1) (pc := 79) B dX4_stretch_79 rfl ?_
        refine jv_k h (fun (u9 : Bool) => XX D ad cI cJ p l e (Rm 1 21) s m args below meth c Q 6 M0 88 [(3, .int (atv (M0.1 4) 48 a1)), (4, .int (atv (M0.1 4) 48 a2))] [.int (bI u9), .int (bI u6), .int 6, .int x3]) (fun u9 h => ?_) (fun JJ => ?_)
        · refine x_callSN (rest := [.int (bI u6), .int 6, .int x3]) (st' := [.int (bI u9), .int (bI u6), .int 6, .int x3]) (pc := 88) B (T_CF_flag u9 M0) tw_606 tw_604 tw_605 tw_98 hd_CF_flag ⟨Nat.le_of_ble_eq_true rfl, Nat.le_of_ble_eq_true rfl⟩ rfl rfl (Nat.le_of_ble_eq_true rfl) rfl dX4_stretch_88 ?_
          refine x_iadd (pc := 91) B dX4_stretch_91 ?_
          refine x_imul (pc := 92) B dX4_stretch_92 ?_
          refine x_iadd (pc := 93) B dX4_stretch_93 ?_
          refine x_istore (lv' := [(5, .int (x3 + (6 * ((bI u6) + (bI u9))))), (3, .int (atv (M0.1 4) 48 a1)), (4, .int (atv (M0.1 4) 48 a2))]) (pc := 94) B dX4_stretch_94 (by decide) rfl ?_
          refine x_iload (pc := 96) B 0 dX4_stretch_96 rfl ?_
          refine x_iconst (v := 4) (pc := 98) B dX4_stretch_98 rfl ?_
          refine x_iload_n (pc := 99) B 1 dX4_stretch_99 rfl rfl ?_
          refine x_iconst (v := 2) (pc := 100) B dX4_stretch_100 rfl ?_
          refine jv_k h (fun (u12 : Bool) => XX D ad cI cJ p l e (Rm 1 21) s m args below meth c Q 6 M0 109 [(4, .int (atv (M0.1 4) 48 a2))] [.int (bI u12), .int 4, .int (x3 + (6 * ((bI u6) + (bI u9))))]) (fun u12 h => ?_) (fun JJ => ?_)
          · refine x_callSN (rest := [.int 4, .int (x3 + (6 * ((bI u6) + (bI u9))))]) (st' := [.int (bI u12), .int 4, .int (x3 + (6 * ((bI u6) + (bI u9))))]) (pc := 109) B (T_CF_flag u12 M0) tw_606 tw_604 tw_605 tw_98 hd_CF_flag ⟨Nat.le_of_ble_eq_true rfl, Nat.le_of_ble_eq_true rfl⟩ rfl rfl (Nat.le_of_ble_eq_true rfl) rfl dX4_stretch_109 ?_
            refine x_iload (pc := 112) B 0 dX4_stretch_112 rfl ?_
            refine x_iconst (v := 2) (pc := 114) B dX4_stretch_114 rfl ?_
            refine jv_k h (fun (u15 : Bool) => XX D ad cI cJ p l e (Rm 1 21) s m args below meth c Q 6 M0 123 [] [.int (bI u15), .int (bI u12), .int 4, .int (x3 + (6 * ((bI u6) + (bI u9))))]) (fun u15 h => ?_) (fun JJ => ?_)
            · refine x_callSN (rest := [.int (bI u12), .int 4, .int (x3 + (6 * ((bI u6) + (bI u9))))]) (st' := [.int (bI u15), .int (bI u12), .int 4, .int (x3 + (6 * ((bI u6) + (bI u9))))]) (pc := 123) B (T_CF_flag u15 M0) tw_606 tw_604 tw_605 tw_98 hd_CF_flag ⟨Nat.le_of_ble_eq_true rfl, Nat.le_of_ble_eq_true rfl⟩ rfl rfl (Nat.le_of_ble_eq_true rfl) rfl dX4_stretch_123 ?_
              refine x_iadd (pc := 126) B dX4_stretch_126 ?_
              refine x_imul (pc := 127) B dX4_stretch_127 ?_
              refine x_isub (pc := 128) B dX4_stretch_128 ?_
              refine jv_m (P := fun (x16 : Int32) => XX D ad cI cJ p l e (Rm 1 21) s m args below meth c Q 6 M0 129 [] [.int x16]) h (fun x16 h => ?_)
              refine x_istore (lv' := [(5, .int x16)]) (pc := 129) B dX4_stretch_129 (by decide) rfl ?_
              refine x_iconst (v := 1) (pc := 131) B dX4_stretch_131 rfl ?_
              refine x_iload (pc := 132) B 0 dX4_stretch_132 rfl ?_
              refine x_mmax (pc := 134) B tw_607 tw_608 tw_112 tw_609 (by decide) (Nat.le_of_ble_eq_true rfl) dX4_stretch_134 ?_
              obtain rfl := Option.some.inj h
              exact x_iret (pc := 137) B hQ dX4_stretch_137
            · refine x_icmp_ne (tgt := 122) (pc := 115) B dX4_stretch_115 rfl (fun hc13 => ?_) (fun hc13 => ?_)
              · refine x_iconst (v := 0) (pc := 122) B dX4_stretch_122 rfl ?_
                refine x_pick (lv' := []) [] rfl ?_
                have z := JJ false hc13
                exact z
              · refine x_iconst (v := 1) (pc := 118) B dX4_stretch_118 rfl ?_
                refine x_goto (tgt := 123) (pc := 119) B dX4_stretch_119 rfl ?_
                refine x_pick (lv' := []) [] rfl ?_
                have z := JJ true hc13
                exact z
          · refine x_icmp_ne (tgt := 108) (pc := 101) B dX4_stretch_101 rfl (fun hc10 => ?_) (fun hc10 => ?_)
            · refine x_iconst (v := 0) (pc := 108) B dX4_stretch_108 rfl ?_
              refine x_pick (lv' := [(4, .int (atv (M0.1 4) 48 a2))]) [2] rfl ?_
              have z := JJ false hc10
              exact z
            · refine x_iconst (v := 1) (pc := 104) B dX4_stretch_104 rfl ?_
              refine x_goto (tgt := 109) (pc := 105) B dX4_stretch_105 rfl ?_
              refine x_pick (lv' := [(4, .int (atv (M0.1 4) 48 a2))]) [2] rfl ?_
              have z := JJ true hc10
              exact z
        · refine x_icmp_ne (tgt := 87) (pc := 80) B dX4_stretch_80 rfl (fun hc7 => ?_) (fun hc7 => ?_)
          · refine x_iconst (v := 0) (pc := 87) B dX4_stretch_87 rfl ?_
            have z := JJ false hc7
            exact z
          · refine x_iconst (v := 1) (pc := 83) B dX4_stretch_83 rfl ?_
            refine x_goto (tgt := 88) (pc := 84) B dX4_stretch_84 rfl ?_
            have z := JJ true hc7
            exact z
      · refine x_icmp_ne (tgt := 73) (pc := 66) B dX4_stretch_66 rfl (fun hc4 => ?_) (fun hc4 => ?_)
        · refine x_iconst (v := 0) (pc := 73) B dX4_stretch_73 rfl ?_
          refine x_pick (lv' := [(3, .int (atv (M0.1 4) 48 a1)), (4, .int (atv (M0.1 4) 48 a2))]) [2, 1] rfl ?_
          have z := JJ false hc4
          exact z
        · refine x_iconst (v := 1) (pc := 69) B dX4_stretch_69 rfl ?_
          refine x_goto (tgt := 74) (pc := 70) B dX4_stretch_70 rfl ?_
          refine x_pick (lv' := [(3, .int (atv (M0.1 4) 48 a1)), (4, .int (atv (M0.1 4) 48 a2))]) [2, 1] rfl ?_
          have z := JJ true hc4
          exact z
    · have h := ift hc2 h
      refine x_bipush (v := (-5)) (pc := 30) B dX4_stretch_30 rfl ?_
      obtain rfl := Option.some.inj h
      exact x_iret (pc := 32) B hQ dX4_stretch_32
-- CurrentFarms.cost(II)I [0]
abbrev y_CF_cost_0 : MethodName := ⟨"CurrentFarms", "cost", "(II)I"⟩
abbrev cX11_cost : ByteArray := prog_1_method_3_code
theorem dX11_cost_0 : decode cX11_cost 0 = .ok (.iload_n 1, 1) := by decide +kernel
theorem dX11_cost_1 : decode cX11_cost 1 = .ok (.invokestatic 68, 3) := by decide +kernel
theorem dX11_cost_4 : decode cX11_cost 4 = .ok (.ifCond .eq 10, 3) := by decide +kernel
theorem dX11_cost_7 : decode cX11_cost 7 = .ok (.iload_n 2, 1) := by decide +kernel
theorem dX11_cost_8 : decode cX11_cost 8 = .ok (.invokestatic 68, 3) := by decide +kernel
theorem dX11_cost_11 : decode cX11_cost 11 = .ok (.ifCond .ne 5, 3) := by decide +kernel
theorem dX11_cost_14 : decode cX11_cost 14 = .ok (.iconst (-1), 1) := by decide +kernel
theorem dX11_cost_15 : decode cX11_cost 15 = .ok (.ireturn, 1) := by decide +kernel
theorem dX11_cost_16 : decode cX11_cost 16 = .ok (.iload_n 1, 1) := by decide +kernel
theorem dX11_cost_17 : decode cX11_cost 17 = .ok (.iload_n 2, 1) := by decide +kernel
theorem dX11_cost_18 : decode cX11_cost 18 = .ok (.invokestatic 96, 3) := by decide +kernel
theorem dX11_cost_21 : decode cX11_cost 21 = .ok (.ifCond .ne 6, 3) := by decide +kernel
theorem dX11_cost_24 : decode cX11_cost 24 = .ok (.bipush (-2), 2) := by decide +kernel
theorem dX11_cost_26 : decode cX11_cost 26 = .ok (.ireturn, 1) := by decide +kernel
theorem dX11_cost_27 : decode cX11_cost 27 = .ok (.aload_n 0, 1) := by decide +kernel
theorem dX11_cost_28 : decode cX11_cost 28 = .ok (.getfield 12, 3) := by decide +kernel
theorem dX11_cost_31 : decode cX11_cost 31 = .ok (.getfield 43, 3) := by decide +kernel
theorem dX11_cost_34 : decode cX11_cost 34 = .ok (.iload_n 1, 1) := by decide +kernel
theorem dX11_cost_35 : decode cX11_cost 35 = .ok (.iload_n 2, 1) := by decide +kernel
theorem dX11_cost_36 : decode cX11_cost 36 = .ok (.invokevirtual 100, 3) := by decide +kernel
theorem dX11_cost_39 : decode cX11_cost 39 = .ok (.ireturn, 1) := by decide +kernel
theorem hd_CF_cost_0 : y_CF_cost_0.cls ≠ "java/lang/invoke/MethodHandle" ∧ y_CF_cost_0.cls ≠ "java/lang/invoke/VarHandle" ∧ (parseMethodDescriptor y_CF_cost_0.desc).map (fun d => d.parameters.length) = some 2 := by decide +kernel
def f_CF_cost_0 (a1 : Int32) (a2 : Int32) (M0 : Mem) : Option (Int32) :=
  if wthn a1 0 47 then (if wthn a2 0 47 then (if bsd a1 a2 then ((f_Land_stretch_2 a1 a2 M0).bind fun q4 => some q4) else (some (-2))) else (some (-1))) else (some (-1))
set_option maxHeartbeats 4000000 in
set_option maxRecDepth 20000 in
theorem C_CF_cost_0 {D : va_G} {ad adK adV : Nat → Nat} {cI cJ : ClassId} {l : Launch} (a1 : Int32) (a2 : Int32) (M0 : Mem) (o : Int32) (h : f_CF_cost_0 a1 a2 M0 = some o) : Ct D ad adK adV cI cJ l y_CF_cost_0 cX11_cost 3 (some .int) 2 46 [.ref (ad 0), .int a1, .int a2] M0 (some (.int o)) M0 := by
  refine x_start (lv := [(0, .ref (ad 0)), (1, .int a1), (2, .int a2)]) (own := "CurrentFarms") rfl (by decide) (Nat.le_of_ble_eq_true rfl) rfl ?_
  intro p e s m args below meth c Q hQ B
  unfold f_CF_cost_0 at h
  refine x_iload_n (pc := 0) B 1 dX11_cost_0 rfl rfl ?_
  refine x_callS (rest := []) (st' := [.int (bI (wthn a1 0 47))]) (pc := 1) B (T_CF_isCell a1 M0) tw_556 tw_554 tw_555 tw_98 hd_CF_isCell ⟨Nat.le_of_ble_eq_true rfl, Nat.le_of_ble_eq_true rfl⟩ rfl rfl (Nat.le_of_ble_eq_true rfl) rfl dX11_cost_1 ?_
  refine x_if_eq_b (tgt := 14) (pc := 4) B dX11_cost_4 rfl (fun hc1 => ?_) (fun hc1 => ?_)
  · have h := iff_ hc1 h
    refine x_iconst (v := (-1)) (pc := 14) B dX11_cost_14 rfl ?_
    obtain rfl := Option.some.inj h
    exact x_iret (pc := 15) B hQ dX11_cost_15
  · have h := ift hc1 h
    refine x_iload_n (pc := 7) B 2 dX11_cost_7 rfl rfl ?_
    refine x_callS (rest := []) (st' := [.int (bI (wthn a2 0 47))]) (pc := 8) B (T_CF_isCell a2 M0) tw_556 tw_554 tw_555 tw_98 hd_CF_isCell ⟨Nat.le_of_ble_eq_true rfl, Nat.le_of_ble_eq_true rfl⟩ rfl rfl (Nat.le_of_ble_eq_true rfl) rfl dX11_cost_8 ?_
    refine x_if_ne_b (tgt := 16) (pc := 11) B dX11_cost_11 rfl (fun hc2 => ?_) (fun hc2 => ?_)
    · have h := ift hc2 h
      refine x_iload_n (pc := 16) B 1 dX11_cost_16 rfl rfl ?_
      refine x_iload_n (pc := 17) B 2 dX11_cost_17 rfl rfl ?_
      refine x_callS (rest := []) (st' := [.int (bI (bsd a1 a2))]) (pc := 18) B (T_CF_beside a1 a2 M0) tw_595 tw_593 tw_594 tw_98 hd_CF_beside ⟨Nat.le_of_ble_eq_true rfl, Nat.le_of_ble_eq_true rfl⟩ rfl rfl (Nat.le_of_ble_eq_true rfl) rfl dX11_cost_18 ?_
      refine x_if_ne_b (tgt := 27) (pc := 21) B dX11_cost_21 rfl (fun hc3 => ?_) (fun hc3 => ?_)
      · have h := ift hc3 h
        refine x_aload_n (pc := 27) B 0 dX11_cost_27 rfl rfl ?_
        refine x_get (T := TX11) (pc := 28) B 0 oi_0 rfl uw_11 (by decide) rfl tw_525 rfl dX11_cost_28 ?_
        refine x_get (T := TX8) (pc := 31) B 0 oi_1 rfl uw_8 (by decide) rfl tw_359 rfl dX11_cost_31 ?_
        refine x_iload_n (pc := 34) B 1 dX11_cost_34 rfl rfl ?_
        refine x_iload_n (pc := 35) B 2 dX11_cost_35 rfl rfl ?_
        obtain ⟨q4, hq4, h⟩ := bnd h
        refine x_callV (rest := []) (st' := [.int q4]) (pc := 36) B oi_2 rfl (C_Land_stretch_2 a1 a2 M0 _ hq4) tw_602 tw_599 tw_600 tw_601 tw_100 hd_Land_stretch_2 ⟨Nat.le_of_ble_eq_true rfl, Nat.le_of_ble_eq_true rfl⟩ rfl rfl (Nat.le_of_ble_eq_true rfl) rfl dX11_cost_36 ?_
        obtain rfl := Option.some.inj h
        exact x_iret (pc := 39) B hQ dX11_cost_39
      · have h := iff_ hc3 h
        refine x_bipush (v := (-2)) (pc := 24) B dX11_cost_24 rfl ?_
        obtain rfl := Option.some.inj h
        exact x_iret (pc := 26) B hQ dX11_cost_26
    · have h := iff_ hc2 h
      refine x_iconst (v := (-1)) (pc := 14) B dX11_cost_14 rfl ?_
      obtain rfl := Option.some.inj h
      exact x_iret (pc := 15) B hQ dX11_cost_15
-- CurrentFarms$Land.isWater(I)Z [2]
abbrev y_Land_isWater_2 : MethodName := ⟨"CurrentFarms$Land", "isWater", "(I)Z"⟩
abbrev cX4_isWater : ByteArray := prog_6_method_5_code
theorem dX4_isWater_0 : decode cX4_isWater 0 = .ok (.aload_n 0, 1) := by decide +kernel
theorem dX4_isWater_1 : decode cX4_isWater 1 = .ok (.getfield 15, 3) := by decide +kernel
theorem dX4_isWater_4 : decode cX4_isWater 4 = .ok (.iload_n 1, 1) := by decide +kernel
theorem dX4_isWater_5 : decode cX4_isWater 5 = .ok (.invokestatic 39, 3) := by decide +kernel
theorem dX4_isWater_8 : decode cX4_isWater 8 = .ok (.iconst 3, 1) := by decide +kernel
theorem dX4_isWater_9 : decode cX4_isWater 9 = .ok (.if_icmp .ne 7, 3) := by decide +kernel
theorem dX4_isWater_12 : decode cX4_isWater 12 = .ok (.iconst 1, 1) := by decide +kernel
theorem dX4_isWater_13 : decode cX4_isWater 13 = .ok (.goto 4, 3) := by decide +kernel
theorem dX4_isWater_16 : decode cX4_isWater 16 = .ok (.iconst 0, 1) := by decide +kernel
theorem dX4_isWater_17 : decode cX4_isWater 17 = .ok (.ireturn, 1) := by decide +kernel
theorem hd_Land_isWater_2 : y_Land_isWater_2.cls ≠ "java/lang/invoke/MethodHandle" ∧ y_Land_isWater_2.cls ≠ "java/lang/invoke/VarHandle" ∧ (parseMethodDescriptor y_Land_isWater_2.desc).map (fun d => d.parameters.length) = some 1 := by decide +kernel
def f_Land_isWater_2 (a1 : Int32) (M0 : Mem) : Option (Bool) :=
  if decide ((atv (M0.1 4) 48 a1) = 3) then (some true) else (some false)
set_option maxHeartbeats 4000000 in
set_option maxRecDepth 20000 in
theorem C_Land_isWater_2 {D : va_G} {ad adK adV : Nat → Nat} {cI cJ : ClassId} {l : Launch} (a1 : Int32) (M0 : Mem) (o : Bool) (h : f_Land_isWater_2 a1 M0 = some o) : Ct D ad adK adV cI cJ l y_Land_isWater_2 cX4_isWater 2 (some .boolean) 1 21 [.ref (ad 2), .int a1] M0 (some (.int (bI o))) M0 := by
  refine x_start (lv := [(0, .ref (ad 2)), (1, .int a1)]) (own := "CurrentFarms$Land") rfl (by decide) (Nat.le_of_ble_eq_true rfl) rfl ?_
  intro p e s m args below meth c Q hQ B
  unfold f_Land_isWater_2 at h
  refine x_aload_n (pc := 0) B 0 dX4_isWater_0 rfl rfl ?_
  refine x_get (T := TX4) (pc := 1) B 1 oi_2 rfl uw_4 (by decide) rfl tw_142 rfl dX4_isWater_1 ?_
  refine x_iload_n (pc := 4) B 1 dX4_isWater_4 rfl rfl ?_
  refine x_callSN (rest := []) (st' := [.int (atv (M0.1 4) 48 a1)]) (pc := 5) B (T_CF_at 4 48 a1 ai_4 (by decide) M0) tw_575 tw_584 tw_574 tw_98 hd_CF_at ⟨Nat.le_of_ble_eq_true rfl, Nat.le_of_ble_eq_true rfl⟩ rfl rfl (Nat.le_of_ble_eq_true rfl) rfl dX4_isWater_5 ?_
  refine x_iconst (v := 3) (pc := 8) B dX4_isWater_8 rfl ?_
  refine x_icmp_ne (tgt := 16) (pc := 9) B dX4_isWater_9 rfl (fun hc1 => ?_) (fun hc1 => ?_)
  · have h := iff_ hc1 h
    refine x_iconst (v := 0) (pc := 16) B dX4_isWater_16 rfl ?_
    obtain rfl := Option.some.inj h
    exact x_zret (v := false) (pc := 17) B hQ dX4_isWater_17
  · have h := ift hc1 h
    refine x_iconst (v := 1) (pc := 12) B dX4_isWater_12 rfl ?_
    refine x_goto (tgt := 17) (pc := 13) B dX4_isWater_13 rfl ?_
    obtain rfl := Option.some.inj h
    exact x_zret (v := true) (pc := 17) B hQ dX4_isWater_17
-- CurrentFarms.house(I)I [0]
abbrev y_CF_house_0 : MethodName := ⟨"CurrentFarms", "house", "(I)I"⟩
abbrev cX11_house : ByteArray := prog_1_method_4_code
theorem dX11_house_0 : decode cX11_house 0 = .ok (.iload_n 1, 1) := by decide +kernel
theorem dX11_house_1 : decode cX11_house 1 = .ok (.invokestatic 68, 3) := by decide +kernel
theorem dX11_house_4 : decode cX11_house 4 = .ok (.ifCond .ne 5, 3) := by decide +kernel
theorem dX11_house_7 : decode cX11_house 7 = .ok (.iconst (-1), 1) := by decide +kernel
theorem dX11_house_8 : decode cX11_house 8 = .ok (.ireturn, 1) := by decide +kernel
theorem dX11_house_9 : decode cX11_house 9 = .ok (.aload_n 0, 1) := by decide +kernel
theorem dX11_house_10 : decode cX11_house 10 = .ok (.getfield 12, 3) := by decide +kernel
theorem dX11_house_13 : decode cX11_house 13 = .ok (.getfield 43, 3) := by decide +kernel
theorem dX11_house_16 : decode cX11_house 16 = .ok (.iload_n 1, 1) := by decide +kernel
theorem dX11_house_17 : decode cX11_house 17 = .ok (.invokevirtual 104, 3) := by decide +kernel
theorem dX11_house_20 : decode cX11_house 20 = .ok (.ifCond .ne 16, 3) := by decide +kernel
theorem dX11_house_23 : decode cX11_house 23 = .ok (.aload_n 0, 1) := by decide +kernel
theorem dX11_house_24 : decode cX11_house 24 = .ok (.getfield 12, 3) := by decide +kernel
theorem dX11_house_27 : decode cX11_house 27 = .ok (.getfield 107, 3) := by decide +kernel
theorem dX11_house_30 : decode cX11_house 30 = .ok (.getfield 110, 3) := by decide +kernel
theorem dX11_house_33 : decode cX11_house 33 = .ok (.ifCond .le 6, 3) := by decide +kernel
theorem dX11_house_36 : decode cX11_house 36 = .ok (.bipush (-3), 2) := by decide +kernel
theorem dX11_house_38 : decode cX11_house 38 = .ok (.ireturn, 1) := by decide +kernel
theorem dX11_house_39 : decode cX11_house 39 = .ok (.aload_n 0, 1) := by decide +kernel
theorem dX11_house_40 : decode cX11_house 40 = .ok (.getfield 12, 3) := by decide +kernel
theorem dX11_house_43 : decode cX11_house 43 = .ok (.getfield 43, 3) := by decide +kernel
theorem dX11_house_46 : decode cX11_house 46 = .ok (.getfield 114, 3) := by decide +kernel
theorem dX11_house_49 : decode cX11_house 49 = .ok (.istore_n 2, 1) := by decide +kernel
theorem dX11_house_50 : decode cX11_house 50 = .ok (.aload_n 0, 1) := by decide +kernel
theorem dX11_house_51 : decode cX11_house 51 = .ok (.getfield 12, 3) := by decide +kernel
theorem dX11_house_54 : decode cX11_house 54 = .ok (.getfield 43, 3) := by decide +kernel
theorem dX11_house_57 : decode cX11_house 57 = .ok (.iload_n 1, 1) := by decide +kernel
theorem dX11_house_58 : decode cX11_house 58 = .ok (.putfield 114, 3) := by decide +kernel
theorem dX11_house_61 : decode cX11_house 61 = .ok (.iload_n 2, 1) := by decide +kernel
theorem dX11_house_62 : decode cX11_house 62 = .ok (.ireturn, 1) := by decide +kernel
theorem hd_CF_house_0 : y_CF_house_0.cls ≠ "java/lang/invoke/MethodHandle" ∧ y_CF_house_0.cls ≠ "java/lang/invoke/VarHandle" ∧ (parseMethodDescriptor y_CF_house_0.desc).map (fun d => d.parameters.length) = some 1 := by decide +kernel
def f_CF_house_0 (a1 : Int32) (M0 : Mem) : Option (Int32 × Mem) :=
  if wthn a1 0 47 then ((f_Land_isWater_2 a1 M0).bind fun q2 => if q2 then (some ((-3), M0)) else (if decide ((M0.1 24 2) ≤ 0) then (jv_ (wI M0 2 5 a1) fun M5 => some (M0.1 2 5, M5)) else (some ((-3), M0)))) else (some ((-1), M0))
set_option maxHeartbeats 4000000 in
set_option maxRecDepth 20000 in
theorem C_CF_house_0 {D : va_G} {ad adK adV : Nat → Nat} {cI cJ : ClassId} {l : Launch} (a1 : Int32) (M0 : Mem) (o : Int32 × Mem) (h : f_CF_house_0 a1 M0 = some o) : Ct D ad adK adV cI cJ l y_CF_house_0 cX11_house 3 (some .int) 2 42 [.ref (ad 0), .int a1] M0 (some (.int o.1)) o.2 := by
  refine x_start (lv := [(0, .ref (ad 0)), (1, .int a1)]) (own := "CurrentFarms") rfl (by decide) (Nat.le_of_ble_eq_true rfl) rfl ?_
  intro p e s m args below meth c Q hQ B
  unfold f_CF_house_0 at h
  refine x_iload_n (pc := 0) B 1 dX11_house_0 rfl rfl ?_
  refine x_callS (rest := []) (st' := [.int (bI (wthn a1 0 47))]) (pc := 1) B (T_CF_isCell a1 M0) tw_556 tw_554 tw_555 tw_98 hd_CF_isCell ⟨Nat.le_of_ble_eq_true rfl, Nat.le_of_ble_eq_true rfl⟩ rfl rfl (Nat.le_of_ble_eq_true rfl) rfl dX11_house_1 ?_
  refine x_if_ne_b (tgt := 9) (pc := 4) B dX11_house_4 rfl (fun hc1 => ?_) (fun hc1 => ?_)
  · have h := ift hc1 h
    refine x_aload_n (pc := 9) B 0 dX11_house_9 rfl rfl ?_
    refine x_get (T := TX11) (pc := 10) B 0 oi_0 rfl uw_11 (by decide) rfl tw_525 rfl dX11_house_10 ?_
    refine x_get (T := TX8) (pc := 13) B 0 oi_1 rfl uw_8 (by decide) rfl tw_359 rfl dX11_house_13 ?_
    refine x_iload_n (pc := 16) B 1 dX11_house_16 rfl rfl ?_
    obtain ⟨q2, hq2, h⟩ := bnd h
    refine x_callV (rest := []) (st' := [.int (bI q2)]) (pc := 17) B oi_2 rfl (C_Land_isWater_2 a1 M0 _ hq2) tw_617 tw_614 tw_615 tw_616 tw_100 hd_Land_isWater_2 ⟨Nat.le_of_ble_eq_true rfl, Nat.le_of_ble_eq_true rfl⟩ rfl rfl (Nat.le_of_ble_eq_true rfl) rfl dX11_house_17 ?_
    refine x_if_ne_b (tgt := 36) (pc := 20) B dX11_house_20 rfl (fun hc3 => ?_) (fun hc3 => ?_)
    · have h := ift hc3 h
      refine x_bipush (v := (-3)) (pc := 36) B dX11_house_36 rfl ?_
      obtain rfl := Option.some.inj h
      exact x_iret (pc := 38) B hQ dX11_house_38
    · have h := iff_ hc3 h
      refine x_aload_n (pc := 23) B 0 dX11_house_23 rfl rfl ?_
      refine x_get (T := TX11) (pc := 24) B 0 oi_0 rfl uw_11 (by decide) rfl tw_525 rfl dX11_house_24 ?_
      refine x_get (T := TX8) (pc := 27) B 3 oi_1 rfl uw_8 (by decide) rfl tw_374 rfl dX11_house_27 ?_
      refine x_get (T := TX5) (pc := 30) B 2 oi_24 rfl uw_5 (by decide) rfl tw_268 rfl dX11_house_30 ?_
      refine x_if_le (tgt := 39) (pc := 33) B dX11_house_33 rfl (fun hc4 => ?_) (fun hc4 => ?_)
      · have h := ift hc4 h
        refine x_aload_n (pc := 39) B 0 dX11_house_39 rfl rfl ?_
        refine x_get (T := TX11) (pc := 40) B 0 oi_0 rfl uw_11 (by decide) rfl tw_525 rfl dX11_house_40 ?_
        refine x_get (T := TX8) (pc := 43) B 0 oi_1 rfl uw_8 (by decide) rfl tw_359 rfl dX11_house_43 ?_
        refine x_get (T := TX4) (pc := 46) B 5 oi_2 rfl uw_4 (by decide) rfl tw_154 rfl dX11_house_46 ?_
        refine x_istore_n (lv' := [(2, .int (M0.1 2 5)), (0, .ref (ad 0)), (1, .int a1)]) (pc := 49) B dX11_house_49 rfl (by decide) rfl ?_
        refine x_aload_n (pc := 50) B 1 dX11_house_50 rfl rfl ?_
        refine x_get (T := TX11) (pc := 51) B 0 oi_0 rfl uw_11 (by decide) rfl tw_525 rfl dX11_house_51 ?_
        refine x_get (T := TX8) (pc := 54) B 0 oi_1 rfl uw_8 (by decide) rfl tw_359 rfl dX11_house_54 ?_
        refine x_iload_n (pc := 57) B 2 dX11_house_57 rfl rfl ?_
        refine x_put (T := TX4) (pc := 58) B 5 oi_2 of_2_5 rfl uw_4 tyX4_ok nmX4 (by decide) rfl tw_154 rfl rfl rfl (Nat.le_of_ble_eq_true rfl) dX11_house_58 ?_
        refine jv_m (P := fun M5 => XX D ad cI cJ p l e (Rm 2 42) s m args below meth c Q 3 M5 61 [(2, .int (M0.1 2 5)), (0, .ref (ad 0)), (1, .int a1)] []) h (fun M5 h => ?_)
        refine x_iload_n (pc := 61) B 0 dX11_house_61 rfl rfl ?_
        obtain rfl := Option.some.inj h
        exact x_iret (pc := 62) B hQ dX11_house_62
      · have h := iff_ hc4 h
        refine x_bipush (v := (-3)) (pc := 36) B dX11_house_36 rfl ?_
        obtain rfl := Option.some.inj h
        exact x_iret (pc := 38) B hQ dX11_house_38
  · have h := iff_ hc1 h
    refine x_iconst (v := (-1)) (pc := 7) B dX11_house_7 rfl ?_
    obtain rfl := Option.some.inj h
    exact x_iret (pc := 8) B hQ dX11_house_8
-- CurrentFarms$Land.settle(II)I [2]
abbrev y_Land_settle_2 : MethodName := ⟨"CurrentFarms$Land", "settle", "(II)I"⟩
abbrev cX4_settle : ByteArray := prog_6_method_3_code
theorem dX4_settle_0 : decode cX4_settle 0 = .ok (.aload_n 0, 1) := by decide +kernel
theorem dX4_settle_1 : decode cX4_settle 1 = .ok (.getfield 18, 3) := by decide +kernel
theorem dX4_settle_4 : decode cX4_settle 4 = .ok (.aload_n 0, 1) := by decide +kernel
theorem dX4_settle_5 : decode cX4_settle 5 = .ok (.getfield 28, 3) := by decide +kernel
theorem dX4_settle_8 : decode cX4_settle 8 = .ok (.iload_n 1, 1) := by decide +kernel
theorem dX4_settle_9 : decode cX4_settle 9 = .ok (.invokestatic 35, 3) := by decide +kernel
theorem dX4_settle_12 : decode cX4_settle 12 = .ok (.aload_n 0, 1) := by decide +kernel
theorem dX4_settle_13 : decode cX4_settle 13 = .ok (.getfield 21, 3) := by decide +kernel
theorem dX4_settle_16 : decode cX4_settle 16 = .ok (.aload_n 0, 1) := by decide +kernel
theorem dX4_settle_17 : decode cX4_settle 17 = .ok (.getfield 28, 3) := by decide +kernel
theorem dX4_settle_20 : decode cX4_settle 20 = .ok (.iload_n 2, 1) := by decide +kernel
theorem dX4_settle_21 : decode cX4_settle 21 = .ok (.invokestatic 35, 3) := by decide +kernel
theorem dX4_settle_24 : decode cX4_settle 24 = .ok (.aload_n 0, 1) := by decide +kernel
theorem dX4_settle_25 : decode cX4_settle 25 = .ok (.dup, 1) := by decide +kernel
theorem dX4_settle_26 : decode cX4_settle 26 = .ok (.getfield 28, 3) := by decide +kernel
theorem dX4_settle_29 : decode cX4_settle 29 = .ok (.iconst 1, 1) := by decide +kernel
theorem dX4_settle_30 : decode cX4_settle 30 = .ok (.iadd, 1) := by decide +kernel
theorem dX4_settle_31 : decode cX4_settle 31 = .ok (.putfield 28, 3) := by decide +kernel
theorem dX4_settle_34 : decode cX4_settle 34 = .ok (.aload_n 0, 1) := by decide +kernel
theorem dX4_settle_35 : decode cX4_settle 35 = .ok (.getfield 28, 3) := by decide +kernel
theorem dX4_settle_38 : decode cX4_settle 38 = .ok (.iconst 1, 1) := by decide +kernel
theorem dX4_settle_39 : decode cX4_settle 39 = .ok (.isub, 1) := by decide +kernel
theorem dX4_settle_40 : decode cX4_settle 40 = .ok (.ireturn, 1) := by decide +kernel
theorem hd_Land_settle_2 : y_Land_settle_2.cls ≠ "java/lang/invoke/MethodHandle" ∧ y_Land_settle_2.cls ≠ "java/lang/invoke/VarHandle" ∧ (parseMethodDescriptor y_Land_settle_2.desc).map (fun d => d.parameters.length) = some 2 := by decide +kernel
def f_Land_settle_2 (a1 : Int32) (a2 : Int32) (M0 : Mem) : Option (Int32 × Mem) :=
  jv_ (putv M0 5 10 (M0.1 2 4) a1) fun M1 => jv_ (putv M1 6 10 (M1.1 2 4) a2) fun M2 => jv_ (wI M2 2 4 ((M2.1 2 4) + 1)) fun M3 => some ((M3.1 2 4) - 1, M3)
set_option maxHeartbeats 4000000 in
set_option maxRecDepth 20000 in
theorem C_Land_settle_2 {D : va_G} {ad adK adV : Nat → Nat} {cI cJ : ClassId} {l : Launch} (a1 : Int32) (a2 : Int32) (M0 : Mem) (o : Int32 × Mem) (h : f_Land_settle_2 a1 a2 M0 = some o) : Ct D ad adK adV cI cJ l y_Land_settle_2 cX4_settle 3 (some .int) 1 22 [.ref (ad 2), .int a1, .int a2] M0 (some (.int o.1)) o.2 := by
  refine x_start (lv := [(0, .ref (ad 2)), (1, .int a1), (2, .int a2)]) (own := "CurrentFarms$Land") rfl (by decide) (Nat.le_of_ble_eq_true rfl) rfl ?_
  intro p e s m args below meth c Q hQ B
  unfold f_Land_settle_2 at h
  refine x_aload_n (pc := 0) B 0 dX4_settle_0 rfl rfl ?_
  refine x_get (T := TX4) (pc := 1) B 2 oi_2 rfl uw_4 (by decide) rfl tw_144 rfl dX4_settle_1 ?_
  refine x_aload_n (pc := 4) B 0 dX4_settle_4 rfl rfl ?_
  refine x_get (T := TX4) (pc := 5) B 4 oi_2 rfl uw_4 (by decide) rfl tw_149 rfl dX4_settle_5 ?_
  refine x_iload_n (pc := 8) B 1 dX4_settle_8 rfl rfl ?_
  refine x_callSN (rest := []) (st' := []) (pc := 9) B (T_CF_put 5 10 (M0.1 2 4) a1 ai_5 (by decide) M0) tw_588 tw_626 tw_587 tw_98 hd_CF_put ⟨Nat.le_of_ble_eq_true rfl, Nat.le_of_ble_eq_true rfl⟩ rfl rfl (Nat.le_of_ble_eq_true rfl) rfl dX4_settle_9 ?_
  refine jv_m (P := fun M1 => XX D ad cI cJ p l e (Rm 1 22) s m args below meth c Q 3 M1 12 [(0, .ref (ad 2)), (1, .int a1), (2, .int a2)] []) h (fun M1 h => ?_)
  refine x_aload_n (pc := 12) B 0 dX4_settle_12 rfl rfl ?_
  refine x_get (T := TX4) (pc := 13) B 3 oi_2 rfl uw_4 (by decide) rfl tw_145 rfl dX4_settle_13 ?_
  refine x_aload_n (pc := 16) B 0 dX4_settle_16 rfl rfl ?_
  refine x_get (T := TX4) (pc := 17) B 4 oi_2 rfl uw_4 (by decide) rfl tw_149 rfl dX4_settle_17 ?_
  refine x_iload_n (pc := 20) B 2 dX4_settle_20 rfl rfl ?_
  refine x_callSN (rest := []) (st' := []) (pc := 21) B (T_CF_put 6 10 (M1.1 2 4) a2 ai_6 (by decide) M1) tw_588 tw_626 tw_587 tw_98 hd_CF_put ⟨Nat.le_of_ble_eq_true rfl, Nat.le_of_ble_eq_true rfl⟩ rfl rfl (Nat.le_of_ble_eq_true rfl) rfl dX4_settle_21 ?_
  refine jv_m (P := fun M2 => XX D ad cI cJ p l e (Rm 1 22) s m args below meth c Q 3 M2 24 [(0, .ref (ad 2)), (1, .int a1), (2, .int a2)] []) h (fun M2 h => ?_)
  refine x_aload_n (pc := 24) B 0 dX4_settle_24 rfl rfl ?_
  refine x_dup (pc := 25) B dX4_settle_25 rfl ?_
  refine x_get (T := TX4) (pc := 26) B 4 oi_2 rfl uw_4 (by decide) rfl tw_149 rfl dX4_settle_26 ?_
  refine x_iconst (v := 1) (pc := 29) B dX4_settle_29 rfl ?_
  refine x_iadd (pc := 30) B dX4_settle_30 ?_
  refine x_put (T := TX4) (pc := 31) B 4 oi_2 of_2_4 rfl uw_4 tyX4_ok nmX4 (by decide) rfl tw_149 rfl rfl rfl (Nat.le_of_ble_eq_true rfl) dX4_settle_31 ?_
  refine jv_m (P := fun M3 => XX D ad cI cJ p l e (Rm 1 22) s m args below meth c Q 3 M3 34 [(0, .ref (ad 2)), (1, .int a1), (2, .int a2)] []) h (fun M3 h => ?_)
  refine x_aload_n (pc := 34) B 0 dX4_settle_34 rfl rfl ?_
  refine x_get (T := TX4) (pc := 35) B 4 oi_2 rfl uw_4 (by decide) rfl tw_149 rfl dX4_settle_35 ?_
  refine x_iconst (v := 1) (pc := 38) B dX4_settle_38 rfl ?_
  refine x_isub (pc := 39) B dX4_settle_39 ?_
  obtain rfl := Option.some.inj h
  exact x_iret (pc := 40) B hQ dX4_settle_40
-- CurrentFarms.farm(II)I [0]
abbrev y_CF_farm_0 : MethodName := ⟨"CurrentFarms", "farm", "(II)I"⟩
abbrev cX11_farm : ByteArray := prog_1_method_5_code
theorem dX11_farm_0 : decode cX11_farm 0 = .ok (.iload_n 1, 1) := by decide +kernel
theorem dX11_farm_1 : decode cX11_farm 1 = .ok (.invokestatic 68, 3) := by decide +kernel
theorem dX11_farm_4 : decode cX11_farm 4 = .ok (.ifCond .ne 5, 3) := by decide +kernel
theorem dX11_farm_7 : decode cX11_farm 7 = .ok (.iconst (-1), 1) := by decide +kernel
theorem dX11_farm_8 : decode cX11_farm 8 = .ok (.ireturn, 1) := by decide +kernel
theorem dX11_farm_9 : decode cX11_farm 9 = .ok (.iload_n 2, 1) := by decide +kernel
theorem dX11_farm_10 : decode cX11_farm 10 = .ok (.iconst 1, 1) := by decide +kernel
theorem dX11_farm_11 : decode cX11_farm 11 = .ok (.bipush 50, 2) := by decide +kernel
theorem dX11_farm_13 : decode cX11_farm 13 = .ok (.invokestatic 72, 3) := by decide +kernel
theorem dX11_farm_16 : decode cX11_farm 16 = .ok (.ifCond .ne 6, 3) := by decide +kernel
theorem dX11_farm_19 : decode cX11_farm 19 = .ok (.bipush (-2), 2) := by decide +kernel
theorem dX11_farm_21 : decode cX11_farm 21 = .ok (.ireturn, 1) := by decide +kernel
theorem dX11_farm_22 : decode cX11_farm 22 = .ok (.aload_n 0, 1) := by decide +kernel
theorem dX11_farm_23 : decode cX11_farm 23 = .ok (.getfield 12, 3) := by decide +kernel
theorem dX11_farm_26 : decode cX11_farm 26 = .ok (.getfield 43, 3) := by decide +kernel
theorem dX11_farm_29 : decode cX11_farm 29 = .ok (.iload_n 1, 1) := by decide +kernel
theorem dX11_farm_30 : decode cX11_farm 30 = .ok (.invokevirtual 104, 3) := by decide +kernel
theorem dX11_farm_33 : decode cX11_farm 33 = .ok (.ifCond .eq 6, 3) := by decide +kernel
theorem dX11_farm_36 : decode cX11_farm 36 = .ok (.bipush (-3), 2) := by decide +kernel
theorem dX11_farm_38 : decode cX11_farm 38 = .ok (.ireturn, 1) := by decide +kernel
theorem dX11_farm_39 : decode cX11_farm 39 = .ok (.aload_n 0, 1) := by decide +kernel
theorem dX11_farm_40 : decode cX11_farm 40 = .ok (.getfield 12, 3) := by decide +kernel
theorem dX11_farm_43 : decode cX11_farm 43 = .ok (.getfield 43, 3) := by decide +kernel
theorem dX11_farm_46 : decode cX11_farm 46 = .ok (.getfield 117, 3) := by decide +kernel
theorem dX11_farm_49 : decode cX11_farm 49 = .ok (.bipush 10, 2) := by decide +kernel
theorem dX11_farm_51 : decode cX11_farm 51 = .ok (.if_icmp .lt 6, 3) := by decide +kernel
theorem dX11_farm_54 : decode cX11_farm 54 = .ok (.bipush (-4), 2) := by decide +kernel
theorem dX11_farm_56 : decode cX11_farm 56 = .ok (.ireturn, 1) := by decide +kernel
theorem dX11_farm_57 : decode cX11_farm 57 = .ok (.aload_n 0, 1) := by decide +kernel
theorem dX11_farm_58 : decode cX11_farm 58 = .ok (.getfield 12, 3) := by decide +kernel
theorem dX11_farm_61 : decode cX11_farm 61 = .ok (.getfield 43, 3) := by decide +kernel
theorem dX11_farm_64 : decode cX11_farm 64 = .ok (.iload_n 1, 1) := by decide +kernel
theorem dX11_farm_65 : decode cX11_farm 65 = .ok (.iload_n 2, 1) := by decide +kernel
theorem dX11_farm_66 : decode cX11_farm 66 = .ok (.invokevirtual 120, 3) := by decide +kernel
theorem dX11_farm_69 : decode cX11_farm 69 = .ok (.ireturn, 1) := by decide +kernel
theorem hd_CF_farm_0 : y_CF_farm_0.cls ≠ "java/lang/invoke/MethodHandle" ∧ y_CF_farm_0.cls ≠ "java/lang/invoke/VarHandle" ∧ (parseMethodDescriptor y_CF_farm_0.desc).map (fun d => d.parameters.length) = some 2 := by decide +kernel
def f_CF_farm_0 (a1 : Int32) (a2 : Int32) (M0 : Mem) : Option (Int32 × Mem) :=
  if wthn a1 0 47 then (if wthn a2 1 50 then ((f_Land_isWater_2 a1 M0).bind fun q3 => if q3 then (some ((-3), M0)) else (if decide ((M0.1 2 4) < 10) then ((f_Land_settle_2 a1 a2 M0).bind fun q6 => some (q6.1, q6.2)) else (some ((-4), M0)))) else (some ((-2), M0))) else (some ((-1), M0))
set_option maxHeartbeats 4000000 in
set_option maxRecDepth 20000 in
theorem C_CF_farm_0 {D : va_G} {ad adK adV : Nat → Nat} {cI cJ : ClassId} {l : Launch} (a1 : Int32) (a2 : Int32) (M0 : Mem) (o : Int32 × Mem) (h : f_CF_farm_0 a1 a2 M0 = some o) : Ct D ad adK adV cI cJ l y_CF_farm_0 cX11_farm 3 (some .int) 2 44 [.ref (ad 0), .int a1, .int a2] M0 (some (.int o.1)) o.2 := by
  refine x_start (lv := [(0, .ref (ad 0)), (1, .int a1), (2, .int a2)]) (own := "CurrentFarms") rfl (by decide) (Nat.le_of_ble_eq_true rfl) rfl ?_
  intro p e s m args below meth c Q hQ B
  unfold f_CF_farm_0 at h
  refine x_iload_n (pc := 0) B 1 dX11_farm_0 rfl rfl ?_
  refine x_callS (rest := []) (st' := [.int (bI (wthn a1 0 47))]) (pc := 1) B (T_CF_isCell a1 M0) tw_556 tw_554 tw_555 tw_98 hd_CF_isCell ⟨Nat.le_of_ble_eq_true rfl, Nat.le_of_ble_eq_true rfl⟩ rfl rfl (Nat.le_of_ble_eq_true rfl) rfl dX11_farm_1 ?_
  refine x_if_ne_b (tgt := 9) (pc := 4) B dX11_farm_4 rfl (fun hc1 => ?_) (fun hc1 => ?_)
  · have h := ift hc1 h
    refine x_iload_n (pc := 9) B 2 dX11_farm_9 rfl rfl ?_
    refine x_iconst (v := 1) (pc := 10) B dX11_farm_10 rfl ?_
    refine x_bipush (v := 50) (pc := 11) B dX11_farm_11 rfl ?_
    refine x_callS (rest := []) (st' := [.int (bI (wthn a2 1 50))]) (pc := 13) B (T_CF_within a2 1 50 M0) tw_559 tw_557 tw_558 tw_98 hd_CF_within ⟨Nat.le_of_ble_eq_true rfl, Nat.le_of_ble_eq_true rfl⟩ rfl rfl (Nat.le_of_ble_eq_true rfl) rfl dX11_farm_13 ?_
    refine x_if_ne_b (tgt := 22) (pc := 16) B dX11_farm_16 rfl (fun hc2 => ?_) (fun hc2 => ?_)
    · have h := ift hc2 h
      refine x_aload_n (pc := 22) B 0 dX11_farm_22 rfl rfl ?_
      refine x_get (T := TX11) (pc := 23) B 0 oi_0 rfl uw_11 (by decide) rfl tw_525 rfl dX11_farm_23 ?_
      refine x_get (T := TX8) (pc := 26) B 0 oi_1 rfl uw_8 (by decide) rfl tw_359 rfl dX11_farm_26 ?_
      refine x_iload_n (pc := 29) B 1 dX11_farm_29 rfl rfl ?_
      obtain ⟨q3, hq3, h⟩ := bnd h
      refine x_callV (rest := []) (st' := [.int (bI q3)]) (pc := 30) B oi_2 rfl (C_Land_isWater_2 a1 M0 _ hq3) tw_617 tw_614 tw_615 tw_616 tw_100 hd_Land_isWater_2 ⟨Nat.le_of_ble_eq_true rfl, Nat.le_of_ble_eq_true rfl⟩ rfl rfl (Nat.le_of_ble_eq_true rfl) rfl dX11_farm_30 ?_
      refine x_if_eq_b (tgt := 39) (pc := 33) B dX11_farm_33 rfl (fun hc4 => ?_) (fun hc4 => ?_)
      · have h := iff_ hc4 h
        refine x_aload_n (pc := 39) B 0 dX11_farm_39 rfl rfl ?_
        refine x_get (T := TX11) (pc := 40) B 0 oi_0 rfl uw_11 (by decide) rfl tw_525 rfl dX11_farm_40 ?_
        refine x_get (T := TX8) (pc := 43) B 0 oi_1 rfl uw_8 (by decide) rfl tw_359 rfl dX11_farm_43 ?_
        refine x_get (T := TX4) (pc := 46) B 4 oi_2 rfl uw_4 (by decide) rfl tw_151 rfl dX11_farm_46 ?_
        refine x_bipush (v := 10) (pc := 49) B dX11_farm_49 rfl ?_
        refine x_icmp_lt (tgt := 57) (pc := 51) B dX11_farm_51 rfl (fun hc5 => ?_) (fun hc5 => ?_)
        · have h := ift hc5 h
          refine x_aload_n (pc := 57) B 0 dX11_farm_57 rfl rfl ?_
          refine x_get (T := TX11) (pc := 58) B 0 oi_0 rfl uw_11 (by decide) rfl tw_525 rfl dX11_farm_58 ?_
          refine x_get (T := TX8) (pc := 61) B 0 oi_1 rfl uw_8 (by decide) rfl tw_359 rfl dX11_farm_61 ?_
          refine x_iload_n (pc := 64) B 1 dX11_farm_64 rfl rfl ?_
          refine x_iload_n (pc := 65) B 2 dX11_farm_65 rfl rfl ?_
          obtain ⟨q6, hq6, h⟩ := bnd h
          refine x_callV (rest := []) (st' := [.int q6.1]) (pc := 66) B oi_2 rfl (C_Land_settle_2 a1 a2 M0 _ hq6) tw_625 tw_622 tw_623 tw_624 tw_100 hd_Land_settle_2 ⟨Nat.le_of_ble_eq_true rfl, Nat.le_of_ble_eq_true rfl⟩ rfl rfl (Nat.le_of_ble_eq_true rfl) rfl dX11_farm_66 ?_
          obtain rfl := Option.some.inj h
          exact x_iret (pc := 69) B hQ dX11_farm_69
        · have h := iff_ hc5 h
          refine x_bipush (v := (-4)) (pc := 54) B dX11_farm_54 rfl ?_
          obtain rfl := Option.some.inj h
          exact x_iret (pc := 56) B hQ dX11_farm_56
      · have h := ift hc4 h
        refine x_bipush (v := (-3)) (pc := 36) B dX11_farm_36 rfl ?_
        obtain rfl := Option.some.inj h
        exact x_iret (pc := 38) B hQ dX11_farm_38
    · have h := iff_ hc2 h
      refine x_bipush (v := (-2)) (pc := 19) B dX11_farm_19 rfl ?_
      obtain rfl := Option.some.inj h
      exact x_iret (pc := 21) B hQ dX11_farm_21
  · have h := iff_ hc1 h
    refine x_iconst (v := (-1)) (pc := 7) B dX11_farm_7 rfl ?_
    obtain rfl := Option.some.inj h
    exact x_iret (pc := 8) B hQ dX11_farm_8
-- CurrentFarms.month(I)I [0]
abbrev y_CF_month_0 : MethodName := ⟨"CurrentFarms", "month", "(I)I"⟩
abbrev cX11_month : ByteArray := prog_1_method_6_code
theorem dX11_month_0 : decode cX11_month 0 = .ok (.iload_n 1, 1) := by decide +kernel
theorem dX11_month_1 : decode cX11_month 1 = .ok (.aload_n 0, 1) := by decide +kernel
theorem dX11_month_2 : decode cX11_month 2 = .ok (.getfield 12, 3) := by decide +kernel
theorem dX11_month_5 : decode cX11_month 5 = .ok (.getfield 123, 3) := by decide +kernel
theorem dX11_month_8 : decode cX11_month 8 = .ok (.bipush 120, 2) := by decide +kernel
theorem dX11_month_10 : decode cX11_month 10 = .ok (.invokestatic 72, 3) := by decide +kernel
theorem dX11_month_13 : decode cX11_month 13 = .ok (.ifCond .ne 6, 3) := by decide +kernel
theorem dX11_month_16 : decode cX11_month 16 = .ok (.bipush (-2), 2) := by decide +kernel
theorem dX11_month_18 : decode cX11_month 18 = .ok (.ireturn, 1) := by decide +kernel
theorem dX11_month_19 : decode cX11_month 19 = .ok (.aload_n 0, 1) := by decide +kernel
theorem dX11_month_20 : decode cX11_month 20 = .ok (.getfield 12, 3) := by decide +kernel
theorem dX11_month_23 : decode cX11_month 23 = .ok (.getfield 123, 3) := by decide +kernel
theorem dX11_month_26 : decode cX11_month 26 = .ok (.istore_n 2, 1) := by decide +kernel
theorem dX11_month_27 : decode cX11_month 27 = .ok (.aload_n 0, 1) := by decide +kernel
theorem dX11_month_28 : decode cX11_month 28 = .ok (.getfield 12, 3) := by decide +kernel
theorem dX11_month_31 : decode cX11_month 31 = .ok (.iload_n 1, 1) := by decide +kernel
theorem dX11_month_32 : decode cX11_month 32 = .ok (.putfield 123, 3) := by decide +kernel
theorem dX11_month_35 : decode cX11_month 35 = .ok (.iload_n 2, 1) := by decide +kernel
theorem dX11_month_36 : decode cX11_month 36 = .ok (.ireturn, 1) := by decide +kernel
theorem hd_CF_month_0 : y_CF_month_0.cls ≠ "java/lang/invoke/MethodHandle" ∧ y_CF_month_0.cls ≠ "java/lang/invoke/VarHandle" ∧ (parseMethodDescriptor y_CF_month_0.desc).map (fun d => d.parameters.length) = some 1 := by decide +kernel
def f_CF_month_0 (a1 : Int32) (M0 : Mem) : Option (Int32 × Mem) :=
  if wthn a1 (M0.1 1 6) 120 then (jv_ (wI M0 1 6 a1) fun M2 => some (M0.1 1 6, M2)) else (some ((-2), M0))
set_option maxHeartbeats 4000000 in
set_option maxRecDepth 20000 in
theorem C_CF_month_0 {D : va_G} {ad adK adV : Nat → Nat} {cI cJ : ClassId} {l : Launch} (a1 : Int32) (M0 : Mem) (o : Int32 × Mem) (h : f_CF_month_0 a1 M0 = some o) : Ct D ad adK adV cI cJ l y_CF_month_0 cX11_month 3 (some .int) 1 22 [.ref (ad 0), .int a1] M0 (some (.int o.1)) o.2 := by
  refine x_start (lv := [(0, .ref (ad 0)), (1, .int a1)]) (own := "CurrentFarms") rfl (by decide) (Nat.le_of_ble_eq_true rfl) rfl ?_
  intro p e s m args below meth c Q hQ B
  unfold f_CF_month_0 at h
  refine x_iload_n (pc := 0) B 1 dX11_month_0 rfl rfl ?_
  refine x_aload_n (pc := 1) B 0 dX11_month_1 rfl rfl ?_
  refine x_get (T := TX11) (pc := 2) B 0 oi_0 rfl uw_11 (by decide) rfl tw_525 rfl dX11_month_2 ?_
  refine x_get (T := TX8) (pc := 5) B 6 oi_1 rfl uw_8 (by decide) rfl tw_384 rfl dX11_month_5 ?_
  refine x_bipush (v := 120) (pc := 8) B dX11_month_8 rfl ?_
  refine x_callS (rest := []) (st' := [.int (bI (wthn a1 (M0.1 1 6) 120))]) (pc := 10) B (T_CF_within a1 (M0.1 1 6) 120 M0) tw_559 tw_557 tw_558 tw_98 hd_CF_within ⟨Nat.le_of_ble_eq_true rfl, Nat.le_of_ble_eq_true rfl⟩ rfl rfl (Nat.le_of_ble_eq_true rfl) rfl dX11_month_10 ?_
  refine x_if_ne_b (tgt := 19) (pc := 13) B dX11_month_13 rfl (fun hc1 => ?_) (fun hc1 => ?_)
  · have h := ift hc1 h
    refine x_aload_n (pc := 19) B 0 dX11_month_19 rfl rfl ?_
    refine x_get (T := TX11) (pc := 20) B 0 oi_0 rfl uw_11 (by decide) rfl tw_525 rfl dX11_month_20 ?_
    refine x_get (T := TX8) (pc := 23) B 6 oi_1 rfl uw_8 (by decide) rfl tw_384 rfl dX11_month_23 ?_
    refine x_istore_n (lv' := [(2, .int (M0.1 1 6)), (0, .ref (ad 0)), (1, .int a1)]) (pc := 26) B dX11_month_26 rfl (by decide) rfl ?_
    refine x_aload_n (pc := 27) B 1 dX11_month_27 rfl rfl ?_
    refine x_get (T := TX11) (pc := 28) B 0 oi_0 rfl uw_11 (by decide) rfl tw_525 rfl dX11_month_28 ?_
    refine x_iload_n (pc := 31) B 2 dX11_month_31 rfl rfl ?_
    refine x_put (T := TX8) (pc := 32) B 6 oi_1 of_1_6 rfl uw_8 tyX8_ok nmX8 (by decide) rfl tw_384 rfl rfl rfl (Nat.le_of_ble_eq_true rfl) dX11_month_32 ?_
    refine jv_m (P := fun M2 => XX D ad cI cJ p l e (Rm 1 22) s m args below meth c Q 3 M2 35 [(2, .int (M0.1 1 6)), (0, .ref (ad 0)), (1, .int a1)] []) h (fun M2 h => ?_)
    refine x_iload_n (pc := 35) B 0 dX11_month_35 rfl rfl ?_
    obtain rfl := Option.some.inj h
    exact x_iret (pc := 36) B hQ dX11_month_36
  · have h := iff_ hc1 h
    refine x_bipush (v := (-2)) (pc := 16) B dX11_month_16 rfl ?_
    obtain rfl := Option.some.inj h
    exact x_iret (pc := 18) B hQ dX11_month_18
-- CurrentFarms.isFarm(I)Z [0]
abbrev y_CF_isFarm_0 : MethodName := ⟨"CurrentFarms", "isFarm", "(I)Z"⟩
abbrev cX11_isFarm : ByteArray := prog_1_method_43_code
theorem dX11_isFarm_0 : decode cX11_isFarm 0 = .ok (.iload_n 1, 1) := by decide +kernel
theorem dX11_isFarm_1 : decode cX11_isFarm 1 = .ok (.iconst 0, 1) := by decide +kernel
theorem dX11_isFarm_2 : decode cX11_isFarm 2 = .ok (.aload_n 0, 1) := by decide +kernel
theorem dX11_isFarm_3 : decode cX11_isFarm 3 = .ok (.getfield 12, 3) := by decide +kernel
theorem dX11_isFarm_6 : decode cX11_isFarm 6 = .ok (.getfield 43, 3) := by decide +kernel
theorem dX11_isFarm_9 : decode cX11_isFarm 9 = .ok (.getfield 117, 3) := by decide +kernel
theorem dX11_isFarm_12 : decode cX11_isFarm 12 = .ok (.iconst 1, 1) := by decide +kernel
theorem dX11_isFarm_13 : decode cX11_isFarm 13 = .ok (.isub, 1) := by decide +kernel
theorem dX11_isFarm_14 : decode cX11_isFarm 14 = .ok (.invokestatic 72, 3) := by decide +kernel
theorem dX11_isFarm_17 : decode cX11_isFarm 17 = .ok (.ireturn, 1) := by decide +kernel
theorem hd_CF_isFarm_0 : y_CF_isFarm_0.cls ≠ "java/lang/invoke/MethodHandle" ∧ y_CF_isFarm_0.cls ≠ "java/lang/invoke/VarHandle" ∧ (parseMethodDescriptor y_CF_isFarm_0.desc).map (fun d => d.parameters.length) = some 1 := by decide +kernel
def f_CF_isFarm_0 (a1 : Int32) (M0 : Mem) : Option (Bool) :=
  some (wthn a1 0 ((M0.1 2 4) - 1))
set_option maxHeartbeats 4000000 in
set_option maxRecDepth 20000 in
theorem C_CF_isFarm_0 {D : va_G} {ad adK adV : Nat → Nat} {cI cJ : ClassId} {l : Launch} (a1 : Int32) (M0 : Mem) (o : Bool) (h : f_CF_isFarm_0 a1 M0 = some o) : Ct D ad adK adV cI cJ l y_CF_isFarm_0 cX11_isFarm 2 (some .boolean) 1 22 [.ref (ad 0), .int a1] M0 (some (.int (bI o))) M0 := by
  refine x_start (lv := [(0, .ref (ad 0)), (1, .int a1)]) (own := "CurrentFarms") rfl (by decide) (Nat.le_of_ble_eq_true rfl) rfl ?_
  intro p e s m args below meth c Q hQ B
  unfold f_CF_isFarm_0 at h
  refine x_iload_n (pc := 0) B 1 dX11_isFarm_0 rfl rfl ?_
  refine x_iconst (v := 0) (pc := 1) B dX11_isFarm_1 rfl ?_
  refine x_aload_n (pc := 2) B 0 dX11_isFarm_2 rfl rfl ?_
  refine x_get (T := TX11) (pc := 3) B 0 oi_0 rfl uw_11 (by decide) rfl tw_525 rfl dX11_isFarm_3 ?_
  refine x_get (T := TX8) (pc := 6) B 0 oi_1 rfl uw_8 (by decide) rfl tw_359 rfl dX11_isFarm_6 ?_
  refine x_get (T := TX4) (pc := 9) B 4 oi_2 rfl uw_4 (by decide) rfl tw_151 rfl dX11_isFarm_9 ?_
  refine x_iconst (v := 1) (pc := 12) B dX11_isFarm_12 rfl ?_
  refine x_isub (pc := 13) B dX11_isFarm_13 ?_
  refine x_callS (rest := []) (st' := [.int (bI (wthn a1 0 ((M0.1 2 4) - 1)))]) (pc := 14) B (T_CF_within a1 0 ((M0.1 2 4) - 1) M0) tw_559 tw_557 tw_558 tw_98 hd_CF_within ⟨Nat.le_of_ble_eq_true rfl, Nat.le_of_ble_eq_true rfl⟩ rfl rfl (Nat.le_of_ble_eq_true rfl) rfl dX11_isFarm_14 ?_
  obtain rfl := Option.some.inj h
  exact x_zret (v := wthn a1 0 ((M0.1 2 4) - 1)) (pc := 17) B hQ dX11_isFarm_17
-- CurrentFarms.isPast(I)Z [0]
abbrev y_CF_isPast_0 : MethodName := ⟨"CurrentFarms", "isPast", "(I)Z"⟩
abbrev cX11_isPast : ByteArray := prog_1_method_44_code
theorem dX11_isPast_0 : decode cX11_isPast 0 = .ok (.iload_n 1, 1) := by decide +kernel
theorem dX11_isPast_1 : decode cX11_isPast 1 = .ok (.iconst 0, 1) := by decide +kernel
theorem dX11_isPast_2 : decode cX11_isPast 2 = .ok (.aload_n 0, 1) := by decide +kernel
theorem dX11_isPast_3 : decode cX11_isPast 3 = .ok (.getfield 12, 3) := by decide +kernel
theorem dX11_isPast_6 : decode cX11_isPast 6 = .ok (.getfield 123, 3) := by decide +kernel
theorem dX11_isPast_9 : decode cX11_isPast 9 = .ok (.invokestatic 72, 3) := by decide +kernel
theorem dX11_isPast_12 : decode cX11_isPast 12 = .ok (.ireturn, 1) := by decide +kernel
theorem hd_CF_isPast_0 : y_CF_isPast_0.cls ≠ "java/lang/invoke/MethodHandle" ∧ y_CF_isPast_0.cls ≠ "java/lang/invoke/VarHandle" ∧ (parseMethodDescriptor y_CF_isPast_0.desc).map (fun d => d.parameters.length) = some 1 := by decide +kernel
def f_CF_isPast_0 (a1 : Int32) (M0 : Mem) : Option (Bool) :=
  some (wthn a1 0 (M0.1 1 6))
set_option maxHeartbeats 4000000 in
set_option maxRecDepth 20000 in
theorem C_CF_isPast_0 {D : va_G} {ad adK adV : Nat → Nat} {cI cJ : ClassId} {l : Launch} (a1 : Int32) (M0 : Mem) (o : Bool) (h : f_CF_isPast_0 a1 M0 = some o) : Ct D ad adK adV cI cJ l y_CF_isPast_0 cX11_isPast 2 (some .boolean) 1 22 [.ref (ad 0), .int a1] M0 (some (.int (bI o))) M0 := by
  refine x_start (lv := [(0, .ref (ad 0)), (1, .int a1)]) (own := "CurrentFarms") rfl (by decide) (Nat.le_of_ble_eq_true rfl) rfl ?_
  intro p e s m args below meth c Q hQ B
  unfold f_CF_isPast_0 at h
  refine x_iload_n (pc := 0) B 1 dX11_isPast_0 rfl rfl ?_
  refine x_iconst (v := 0) (pc := 1) B dX11_isPast_1 rfl ?_
  refine x_aload_n (pc := 2) B 0 dX11_isPast_2 rfl rfl ?_
  refine x_get (T := TX11) (pc := 3) B 0 oi_0 rfl uw_11 (by decide) rfl tw_525 rfl dX11_isPast_3 ?_
  refine x_get (T := TX8) (pc := 6) B 6 oi_1 rfl uw_8 (by decide) rfl tw_384 rfl dX11_isPast_6 ?_
  refine x_callS (rest := []) (st' := [.int (bI (wthn a1 0 (M0.1 1 6)))]) (pc := 9) B (T_CF_within a1 0 (M0.1 1 6) M0) tw_559 tw_557 tw_558 tw_98 hd_CF_within ⟨Nat.le_of_ble_eq_true rfl, Nat.le_of_ble_eq_true rfl⟩ rfl rfl (Nat.le_of_ble_eq_true rfl) rfl dX11_isPast_9 ?_
  obtain rfl := Option.some.inj h
  exact x_zret (v := wthn a1 0 (M0.1 1 6)) (pc := 12) B hQ dX11_isPast_12
-- CurrentFarms$Book.enter(IIII)I [7]
abbrev y_Book_enter_7 : MethodName := ⟨"CurrentFarms$Book", "enter", "(IIII)I"⟩
abbrev cX1_enter : ByteArray := prog_3_method_3_code
theorem dX1_enter_0 : decode cX1_enter 0 = .ok (.aload_n 0, 1) := by decide +kernel
theorem dX1_enter_1 : decode cX1_enter 1 = .ok (.getfield 9, 3) := by decide +kernel
theorem dX1_enter_4 : decode cX1_enter 4 = .ok (.aload_n 0, 1) := by decide +kernel
theorem dX1_enter_5 : decode cX1_enter 5 = .ok (.getfield 34, 3) := by decide +kernel
theorem dX1_enter_8 : decode cX1_enter 8 = .ok (.iload_n 1, 1) := by decide +kernel
theorem dX1_enter_9 : decode cX1_enter 9 = .ok (.invokestatic 38, 3) := by decide +kernel
theorem dX1_enter_12 : decode cX1_enter 12 = .ok (.aload_n 0, 1) := by decide +kernel
theorem dX1_enter_13 : decode cX1_enter 13 = .ok (.getfield 15, 3) := by decide +kernel
theorem dX1_enter_16 : decode cX1_enter 16 = .ok (.aload_n 0, 1) := by decide +kernel
theorem dX1_enter_17 : decode cX1_enter 17 = .ok (.getfield 34, 3) := by decide +kernel
theorem dX1_enter_20 : decode cX1_enter 20 = .ok (.iload_n 2, 1) := by decide +kernel
theorem dX1_enter_21 : decode cX1_enter 21 = .ok (.invokestatic 38, 3) := by decide +kernel
theorem dX1_enter_24 : decode cX1_enter 24 = .ok (.aload_n 0, 1) := by decide +kernel
theorem dX1_enter_25 : decode cX1_enter 25 = .ok (.getfield 18, 3) := by decide +kernel
theorem dX1_enter_28 : decode cX1_enter 28 = .ok (.aload_n 0, 1) := by decide +kernel
theorem dX1_enter_29 : decode cX1_enter 29 = .ok (.getfield 34, 3) := by decide +kernel
theorem dX1_enter_32 : decode cX1_enter 32 = .ok (.iload_n 3, 1) := by decide +kernel
theorem dX1_enter_33 : decode cX1_enter 33 = .ok (.invokestatic 38, 3) := by decide +kernel
theorem dX1_enter_36 : decode cX1_enter 36 = .ok (.aload_n 0, 1) := by decide +kernel
theorem dX1_enter_37 : decode cX1_enter 37 = .ok (.getfield 21, 3) := by decide +kernel
theorem dX1_enter_40 : decode cX1_enter 40 = .ok (.aload_n 0, 1) := by decide +kernel
theorem dX1_enter_41 : decode cX1_enter 41 = .ok (.getfield 34, 3) := by decide +kernel
theorem dX1_enter_44 : decode cX1_enter 44 = .ok (.iload 4, 2) := by decide +kernel
theorem dX1_enter_46 : decode cX1_enter 46 = .ok (.invokestatic 38, 3) := by decide +kernel
theorem dX1_enter_49 : decode cX1_enter 49 = .ok (.aload_n 0, 1) := by decide +kernel
theorem dX1_enter_50 : decode cX1_enter 50 = .ok (.getfield 24, 3) := by decide +kernel
theorem dX1_enter_53 : decode cX1_enter 53 = .ok (.aload_n 0, 1) := by decide +kernel
theorem dX1_enter_54 : decode cX1_enter 54 = .ok (.getfield 34, 3) := by decide +kernel
theorem dX1_enter_57 : decode cX1_enter 57 = .ok (.iconst 0, 1) := by decide +kernel
theorem dX1_enter_58 : decode cX1_enter 58 = .ok (.invokestatic 38, 3) := by decide +kernel
theorem dX1_enter_61 : decode cX1_enter 61 = .ok (.aload_n 0, 1) := by decide +kernel
theorem dX1_enter_62 : decode cX1_enter 62 = .ok (.dup, 1) := by decide +kernel
theorem dX1_enter_63 : decode cX1_enter 63 = .ok (.getfield 34, 3) := by decide +kernel
theorem dX1_enter_66 : decode cX1_enter 66 = .ok (.iconst 1, 1) := by decide +kernel
theorem dX1_enter_67 : decode cX1_enter 67 = .ok (.iadd, 1) := by decide +kernel
theorem dX1_enter_68 : decode cX1_enter 68 = .ok (.putfield 34, 3) := by decide +kernel
theorem dX1_enter_71 : decode cX1_enter 71 = .ok (.aload_n 0, 1) := by decide +kernel
theorem dX1_enter_72 : decode cX1_enter 72 = .ok (.getfield 34, 3) := by decide +kernel
theorem dX1_enter_75 : decode cX1_enter 75 = .ok (.iconst 1, 1) := by decide +kernel
theorem dX1_enter_76 : decode cX1_enter 76 = .ok (.isub, 1) := by decide +kernel
theorem dX1_enter_77 : decode cX1_enter 77 = .ok (.ireturn, 1) := by decide +kernel
theorem hd_Book_enter_7 : y_Book_enter_7.cls ≠ "java/lang/invoke/MethodHandle" ∧ y_Book_enter_7.cls ≠ "java/lang/invoke/VarHandle" ∧ (parseMethodDescriptor y_Book_enter_7.desc).map (fun d => d.parameters.length) = some 4 := by decide +kernel
def f_Book_enter_7 (a1 : Int32) (a2 : Int32) (a3 : Int32) (a4 : Int32) (M0 : Mem) : Option (Int32 × Mem) :=
  jv_ (putv M0 8 120 (M0.1 7 5) a1) fun M1 => jv_ (putv M1 9 120 (M1.1 7 5) a2) fun M2 => jv_ (putv M2 10 120 (M2.1 7 5) a3) fun M3 => jv_ (putv M3 11 120 (M3.1 7 5) a4) fun M4 => jv_ (putv M4 12 120 (M4.1 7 5) 0) fun M5 => jv_ (wI M5 7 5 ((M5.1 7 5) + 1)) fun M6 => some ((M6.1 7 5) - 1, M6)
set_option maxHeartbeats 4000000 in
set_option maxRecDepth 20000 in
theorem C_Book_enter_7 {D : va_G} {ad adK adV : Nat → Nat} {cI cJ : ClassId} {l : Launch} (a1 : Int32) (a2 : Int32) (a3 : Int32) (a4 : Int32) (M0 : Mem) (o : Int32 × Mem) (h : f_Book_enter_7 a1 a2 a3 a4 M0 = some o) : Ct D ad adK adV cI cJ l y_Book_enter_7 cX1_enter 5 (some .int) 1 22 [.ref (ad 7), .int a1, .int a2, .int a3, .int a4] M0 (some (.int o.1)) o.2 := by
  refine x_start (lv := [(0, .ref (ad 7)), (1, .int a1), (2, .int a2), (3, .int a3), (4, .int a4)]) (own := "CurrentFarms$Book") rfl (by decide) (Nat.le_of_ble_eq_true rfl) rfl ?_
  intro p e s m args below meth c Q hQ B
  unfold f_Book_enter_7 at h
  refine x_aload_n (pc := 0) B 0 dX1_enter_0 rfl rfl ?_
  refine x_get (T := TX1) (pc := 1) B 0 oi_7 rfl uw_1 (by decide) rfl tw_175 rfl dX1_enter_1 ?_
  refine x_aload_n (pc := 4) B 0 dX1_enter_4 rfl rfl ?_
  refine x_get (T := TX1) (pc := 5) B 5 oi_7 rfl uw_1 (by decide) rfl tw_180 rfl dX1_enter_5 ?_
  refine x_iload_n (pc := 8) B 1 dX1_enter_8 rfl rfl ?_
  refine x_callSN (rest := []) (st' := []) (pc := 9) B (T_CF_put 8 120 (M0.1 7 5) a1 ai_8 (by decide) M0) tw_588 tw_647 tw_587 tw_98 hd_CF_put ⟨Nat.le_of_ble_eq_true rfl, Nat.le_of_ble_eq_true rfl⟩ rfl rfl (Nat.le_of_ble_eq_true rfl) rfl dX1_enter_9 ?_
  refine jv_m (P := fun M1 => XX D ad cI cJ p l e (Rm 1 22) s m args below meth c Q 5 M1 12 [(0, .ref (ad 7)), (1, .int a1), (2, .int a2), (3, .int a3), (4, .int a4)] []) h (fun M1 h => ?_)
  refine x_aload_n (pc := 12) B 0 dX1_enter_12 rfl rfl ?_
  refine x_get (T := TX1) (pc := 13) B 1 oi_7 rfl uw_1 (by decide) rfl tw_176 rfl dX1_enter_13 ?_
  refine x_aload_n (pc := 16) B 0 dX1_enter_16 rfl rfl ?_
  refine x_get (T := TX1) (pc := 17) B 5 oi_7 rfl uw_1 (by decide) rfl tw_180 rfl dX1_enter_17 ?_
  refine x_iload_n (pc := 20) B 2 dX1_enter_20 rfl rfl ?_
  refine x_callSN (rest := []) (st' := []) (pc := 21) B (T_CF_put 9 120 (M1.1 7 5) a2 ai_9 (by decide) M1) tw_588 tw_647 tw_587 tw_98 hd_CF_put ⟨Nat.le_of_ble_eq_true rfl, Nat.le_of_ble_eq_true rfl⟩ rfl rfl (Nat.le_of_ble_eq_true rfl) rfl dX1_enter_21 ?_
  refine jv_m (P := fun M2 => XX D ad cI cJ p l e (Rm 1 22) s m args below meth c Q 5 M2 24 [(0, .ref (ad 7)), (1, .int a1), (2, .int a2), (3, .int a3), (4, .int a4)] []) h (fun M2 h => ?_)
  refine x_aload_n (pc := 24) B 0 dX1_enter_24 rfl rfl ?_
  refine x_get (T := TX1) (pc := 25) B 2 oi_7 rfl uw_1 (by decide) rfl tw_177 rfl dX1_enter_25 ?_
  refine x_aload_n (pc := 28) B 0 dX1_enter_28 rfl rfl ?_
  refine x_get (T := TX1) (pc := 29) B 5 oi_7 rfl uw_1 (by decide) rfl tw_180 rfl dX1_enter_29 ?_
  refine x_iload_n (pc := 32) B 3 dX1_enter_32 rfl rfl ?_
  refine x_callSN (rest := []) (st' := []) (pc := 33) B (T_CF_put 10 120 (M2.1 7 5) a3 ai_10 (by decide) M2) tw_588 tw_647 tw_587 tw_98 hd_CF_put ⟨Nat.le_of_ble_eq_true rfl, Nat.le_of_ble_eq_true rfl⟩ rfl rfl (Nat.le_of_ble_eq_true rfl) rfl dX1_enter_33 ?_
  refine jv_m (P := fun M3 => XX D ad cI cJ p l e (Rm 1 22) s m args below meth c Q 5 M3 36 [(0, .ref (ad 7)), (1, .int a1), (2, .int a2), (3, .int a3), (4, .int a4)] []) h (fun M3 h => ?_)
  refine x_aload_n (pc := 36) B 0 dX1_enter_36 rfl rfl ?_
  refine x_get (T := TX1) (pc := 37) B 3 oi_7 rfl uw_1 (by decide) rfl tw_178 rfl dX1_enter_37 ?_
  refine x_aload_n (pc := 40) B 0 dX1_enter_40 rfl rfl ?_
  refine x_get (T := TX1) (pc := 41) B 5 oi_7 rfl uw_1 (by decide) rfl tw_180 rfl dX1_enter_41 ?_
  refine x_iload (pc := 44) B 4 dX1_enter_44 rfl ?_
  refine x_callSN (rest := []) (st' := []) (pc := 46) B (T_CF_put 11 120 (M3.1 7 5) a4 ai_11 (by decide) M3) tw_588 tw_647 tw_587 tw_98 hd_CF_put ⟨Nat.le_of_ble_eq_true rfl, Nat.le_of_ble_eq_true rfl⟩ rfl rfl (Nat.le_of_ble_eq_true rfl) rfl dX1_enter_46 ?_
  refine jv_m (P := fun M4 => XX D ad cI cJ p l e (Rm 1 22) s m args below meth c Q 5 M4 49 [(0, .ref (ad 7)), (1, .int a1), (2, .int a2), (3, .int a3), (4, .int a4)] []) h (fun M4 h => ?_)
  refine x_aload_n (pc := 49) B 0 dX1_enter_49 rfl rfl ?_
  refine x_get (T := TX1) (pc := 50) B 4 oi_7 rfl uw_1 (by decide) rfl tw_179 rfl dX1_enter_50 ?_
  refine x_aload_n (pc := 53) B 0 dX1_enter_53 rfl rfl ?_
  refine x_get (T := TX1) (pc := 54) B 5 oi_7 rfl uw_1 (by decide) rfl tw_180 rfl dX1_enter_54 ?_
  refine x_iconst (v := 0) (pc := 57) B dX1_enter_57 rfl ?_
  refine x_callSN (rest := []) (st' := []) (pc := 58) B (T_CF_put 12 120 (M4.1 7 5) 0 ai_12 (by decide) M4) tw_588 tw_647 tw_587 tw_98 hd_CF_put ⟨Nat.le_of_ble_eq_true rfl, Nat.le_of_ble_eq_true rfl⟩ rfl rfl (Nat.le_of_ble_eq_true rfl) rfl dX1_enter_58 ?_
  refine jv_m (P := fun M5 => XX D ad cI cJ p l e (Rm 1 22) s m args below meth c Q 5 M5 61 [(0, .ref (ad 7)), (1, .int a1), (2, .int a2), (3, .int a3), (4, .int a4)] []) h (fun M5 h => ?_)
  refine x_aload_n (pc := 61) B 0 dX1_enter_61 rfl rfl ?_
  refine x_dup (pc := 62) B dX1_enter_62 rfl ?_
  refine x_get (T := TX1) (pc := 63) B 5 oi_7 rfl uw_1 (by decide) rfl tw_180 rfl dX1_enter_63 ?_
  refine x_iconst (v := 1) (pc := 66) B dX1_enter_66 rfl ?_
  refine x_iadd (pc := 67) B dX1_enter_67 ?_
  refine x_put (T := TX1) (pc := 68) B 5 oi_7 of_7_5 rfl uw_1 tyX1_ok nmX1 (by decide) rfl tw_180 rfl rfl rfl (Nat.le_of_ble_eq_true rfl) dX1_enter_68 ?_
  refine jv_m (P := fun M6 => XX D ad cI cJ p l e (Rm 1 22) s m args below meth c Q 5 M6 71 [(0, .ref (ad 7)), (1, .int a1), (2, .int a2), (3, .int a3), (4, .int a4)] []) h (fun M6 h => ?_)
  refine x_aload_n (pc := 71) B 0 dX1_enter_71 rfl rfl ?_
  refine x_get (T := TX1) (pc := 72) B 5 oi_7 rfl uw_1 (by decide) rfl tw_180 rfl dX1_enter_72 ?_
  refine x_iconst (v := 1) (pc := 75) B dX1_enter_75 rfl ?_
  refine x_isub (pc := 76) B dX1_enter_76 ?_
  obtain rfl := Option.some.inj h
  exact x_iret (pc := 77) B hQ dX1_enter_77
-- CurrentFarms.sign(IIII)I [0]
abbrev y_CF_sign_0 : MethodName := ⟨"CurrentFarms", "sign", "(IIII)I"⟩
abbrev cX11_sign : ByteArray := prog_1_method_7_code
theorem dX11_sign_0 : decode cX11_sign 0 = .ok (.aload_n 0, 1) := by decide +kernel
theorem dX11_sign_1 : decode cX11_sign 1 = .ok (.iload_n 1, 1) := by decide +kernel
theorem dX11_sign_2 : decode cX11_sign 2 = .ok (.invokevirtual 126, 3) := by decide +kernel
theorem dX11_sign_5 : decode cX11_sign 5 = .ok (.ifCond .eq 12, 3) := by decide +kernel
theorem dX11_sign_8 : decode cX11_sign 8 = .ok (.iload_n 2, 1) := by decide +kernel
theorem dX11_sign_9 : decode cX11_sign 9 = .ok (.iconst 0, 1) := by decide +kernel
theorem dX11_sign_10 : decode cX11_sign 10 = .ok (.iconst 4, 1) := by decide +kernel
theorem dX11_sign_11 : decode cX11_sign 11 = .ok (.invokestatic 72, 3) := by decide +kernel
theorem dX11_sign_14 : decode cX11_sign 14 = .ok (.ifCond .ne 5, 3) := by decide +kernel
theorem dX11_sign_17 : decode cX11_sign 17 = .ok (.iconst (-1), 1) := by decide +kernel
theorem dX11_sign_18 : decode cX11_sign 18 = .ok (.ireturn, 1) := by decide +kernel
theorem dX11_sign_19 : decode cX11_sign 19 = .ok (.aload_n 0, 1) := by decide +kernel
theorem dX11_sign_20 : decode cX11_sign 20 = .ok (.iload_n 3, 1) := by decide +kernel
theorem dX11_sign_21 : decode cX11_sign 21 = .ok (.invokevirtual 129, 3) := by decide +kernel
theorem dX11_sign_24 : decode cX11_sign 24 = .ok (.ifCond .eq 19, 3) := by decide +kernel
theorem dX11_sign_27 : decode cX11_sign 27 = .ok (.iload_n 2, 1) := by decide +kernel
theorem dX11_sign_28 : decode cX11_sign 28 = .ok (.iconst 1, 1) := by decide +kernel
theorem dX11_sign_29 : decode cX11_sign 29 = .ok (.if_icmp .ne 17, 3) := by decide +kernel
theorem dX11_sign_32 : decode cX11_sign 32 = .ok (.iload 4, 2) := by decide +kernel
theorem dX11_sign_34 : decode cX11_sign 34 = .ok (.iconst 1, 1) := by decide +kernel
theorem dX11_sign_35 : decode cX11_sign 35 = .ok (.bipush 10, 2) := by decide +kernel
theorem dX11_sign_37 : decode cX11_sign 37 = .ok (.invokestatic 72, 3) := by decide +kernel
theorem dX11_sign_40 : decode cX11_sign 40 = .ok (.ifCond .ne 6, 3) := by decide +kernel
theorem dX11_sign_43 : decode cX11_sign 43 = .ok (.bipush (-2), 2) := by decide +kernel
theorem dX11_sign_45 : decode cX11_sign 45 = .ok (.ireturn, 1) := by decide +kernel
theorem dX11_sign_46 : decode cX11_sign 46 = .ok (.aload_n 0, 1) := by decide +kernel
theorem dX11_sign_47 : decode cX11_sign 47 = .ok (.getfield 12, 3) := by decide +kernel
theorem dX11_sign_50 : decode cX11_sign 50 = .ok (.getfield 132, 3) := by decide +kernel
theorem dX11_sign_53 : decode cX11_sign 53 = .ok (.getfield 136, 3) := by decide +kernel
theorem dX11_sign_56 : decode cX11_sign 56 = .ok (.bipush 120, 2) := by decide +kernel
theorem dX11_sign_58 : decode cX11_sign 58 = .ok (.if_icmp .lt 6, 3) := by decide +kernel
theorem dX11_sign_61 : decode cX11_sign 61 = .ok (.bipush (-4), 2) := by decide +kernel
theorem dX11_sign_63 : decode cX11_sign 63 = .ok (.ireturn, 1) := by decide +kernel
theorem dX11_sign_64 : decode cX11_sign 64 = .ok (.aload_n 0, 1) := by decide +kernel
theorem dX11_sign_65 : decode cX11_sign 65 = .ok (.getfield 12, 3) := by decide +kernel
theorem dX11_sign_68 : decode cX11_sign 68 = .ok (.getfield 132, 3) := by decide +kernel
theorem dX11_sign_71 : decode cX11_sign 71 = .ok (.iload_n 1, 1) := by decide +kernel
theorem dX11_sign_72 : decode cX11_sign 72 = .ok (.iload_n 2, 1) := by decide +kernel
theorem dX11_sign_73 : decode cX11_sign 73 = .ok (.iload_n 3, 1) := by decide +kernel
theorem dX11_sign_74 : decode cX11_sign 74 = .ok (.iload 4, 2) := by decide +kernel
theorem dX11_sign_76 : decode cX11_sign 76 = .ok (.invokevirtual 139, 3) := by decide +kernel
theorem dX11_sign_79 : decode cX11_sign 79 = .ok (.ireturn, 1) := by decide +kernel
theorem hd_CF_sign_0 : y_CF_sign_0.cls ≠ "java/lang/invoke/MethodHandle" ∧ y_CF_sign_0.cls ≠ "java/lang/invoke/VarHandle" ∧ (parseMethodDescriptor y_CF_sign_0.desc).map (fun d => d.parameters.length) = some 4 := by decide +kernel
def f_CF_sign_0 (a1 : Int32) (a2 : Int32) (a3 : Int32) (a4 : Int32) (M0 : Mem) : Option (Int32 × Mem) :=
  (f_CF_isFarm_0 a1 M0).bind fun q1 => if q1 then (if wthn a2 0 4 then ((f_CF_isPast_0 a3 M0).bind fun q4 => if q4 then (jn_ (fun (u7 : Unit) => if decide ((M0.1 7 5) < 120) then ((f_Book_enter_7 a1 a2 a3 a4 M0).bind fun q9 => some (q9.1, q9.2)) else (some ((-4), M0))) fun k10 => if decide (a2 = 1) then (if wthn a4 1 10 then (k10 ()) else (some ((-2), M0))) else (k10 ())) else (some ((-2), M0))) else (some ((-1), M0))) else (some ((-1), M0))
set_option maxHeartbeats 4000000 in
set_option maxRecDepth 20000 in
theorem C_CF_sign_0 {D : va_G} {ad adK adV : Nat → Nat} {cI cJ : ClassId} {l : Launch} (a1 : Int32) (a2 : Int32) (a3 : Int32) (a4 : Int32) (M0 : Mem) (o : Int32 × Mem) (h : f_CF_sign_0 a1 a2 a3 a4 M0 = some o) : Ct D ad adK adV cI cJ l y_CF_sign_0 cX11_sign 5 (some .int) 2 46 [.ref (ad 0), .int a1, .int a2, .int a3, .int a4] M0 (some (.int o.1)) o.2 := by
  refine x_start (lv := [(0, .ref (ad 0)), (1, .int a1), (2, .int a2), (3, .int a3), (4, .int a4)]) (own := "CurrentFarms") rfl (by decide) (Nat.le_of_ble_eq_true rfl) rfl ?_
  intro p e s m args below meth c Q hQ B
  unfold f_CF_sign_0 at h
  refine x_aload_n (pc := 0) B 0 dX11_sign_0 rfl rfl ?_
  refine x_iload_n (pc := 1) B 1 dX11_sign_1 rfl rfl ?_
  obtain ⟨q1, hq1, h⟩ := bnd h
  refine x_callV (rest := []) (st' := [.int (bI q1)]) (pc := 2) B oi_0 rfl (C_CF_isFarm_0 a1 M0 _ hq1) tw_638 tw_635 tw_637 tw_2 tw_98 hd_CF_isFarm_0 ⟨Nat.le_of_ble_eq_true rfl, Nat.le_of_ble_eq_true rfl⟩ rfl rfl (Nat.le_of_ble_eq_true rfl) rfl dX11_sign_2 ?_
  refine x_if_eq_b (tgt := 17) (pc := 5) B dX11_sign_5 rfl (fun hc2 => ?_) (fun hc2 => ?_)
  · have h := iff_ hc2 h
    refine x_iconst (v := (-1)) (pc := 17) B dX11_sign_17 rfl ?_
    obtain rfl := Option.some.inj h
    exact x_iret (pc := 18) B hQ dX11_sign_18
  · have h := ift hc2 h
    refine x_iload_n (pc := 8) B 2 dX11_sign_8 rfl rfl ?_
    refine x_iconst (v := 0) (pc := 9) B dX11_sign_9 rfl ?_
    refine x_iconst (v := 4) (pc := 10) B dX11_sign_10 rfl ?_
    refine x_callS (rest := []) (st' := [.int (bI (wthn a2 0 4))]) (pc := 11) B (T_CF_within a2 0 4 M0) tw_559 tw_557 tw_558 tw_98 hd_CF_within ⟨Nat.le_of_ble_eq_true rfl, Nat.le_of_ble_eq_true rfl⟩ rfl rfl (Nat.le_of_ble_eq_true rfl) rfl dX11_sign_11 ?_
    refine x_if_ne_b (tgt := 19) (pc := 14) B dX11_sign_14 rfl (fun hc3 => ?_) (fun hc3 => ?_)
    · have h := ift hc3 h
      refine x_aload_n (pc := 19) B 0 dX11_sign_19 rfl rfl ?_
      refine x_iload_n (pc := 20) B 3 dX11_sign_20 rfl rfl ?_
      obtain ⟨q4, hq4, h⟩ := bnd h
      refine x_callV (rest := []) (st' := [.int (bI q4)]) (pc := 21) B oi_0 rfl (C_CF_isPast_0 a3 M0 _ hq4) tw_642 tw_639 tw_641 tw_3 tw_98 hd_CF_isPast_0 ⟨Nat.le_of_ble_eq_true rfl, Nat.le_of_ble_eq_true rfl⟩ rfl rfl (Nat.le_of_ble_eq_true rfl) rfl dX11_sign_21 ?_
      refine x_if_eq_b (tgt := 43) (pc := 24) B dX11_sign_24 rfl (fun hc5 => ?_) (fun hc5 => ?_)
      · have h := iff_ hc5 h
        refine x_bipush (v := (-2)) (pc := 43) B dX11_sign_43 rfl ?_
        obtain rfl := Option.some.inj h
        exact x_iret (pc := 45) B hQ dX11_sign_45
      · have h := ift hc5 h
        refine x_iload_n (pc := 27) B 2 dX11_sign_27 rfl rfl ?_
        refine x_iconst (v := 1) (pc := 28) B dX11_sign_28 rfl ?_
        refine jn_k h (fun (u7 : Unit) => XX D ad cI cJ p l e (Rm 2 46) s m args below meth c Q 5 M0 46 [(0, .ref (ad 0)), (1, .int a1), (2, .int a2), (3, .int a3), (4, .int a4)] []) (fun u7 h => ?_) (fun k10 h JJ => ?_)
        · refine x_aload_n (pc := 46) B 0 dX11_sign_46 rfl rfl ?_
          refine x_get (T := TX11) (pc := 47) B 0 oi_0 rfl uw_11 (by decide) rfl tw_525 rfl dX11_sign_47 ?_
          refine x_get (T := TX8) (pc := 50) B 1 oi_1 rfl uw_8 (by decide) rfl tw_367 rfl dX11_sign_50 ?_
          refine x_get (T := TX1) (pc := 53) B 5 oi_7 rfl uw_1 (by decide) rfl tw_181 rfl dX11_sign_53 ?_
          refine x_bipush (v := 120) (pc := 56) B dX11_sign_56 rfl ?_
          refine x_icmp_lt (tgt := 64) (pc := 58) B dX11_sign_58 rfl (fun hc8 => ?_) (fun hc8 => ?_)
          · have h := ift hc8 h
            refine x_aload_n (pc := 64) B 0 dX11_sign_64 rfl rfl ?_
            refine x_get (T := TX11) (pc := 65) B 0 oi_0 rfl uw_11 (by decide) rfl tw_525 rfl dX11_sign_65 ?_
            refine x_get (T := TX8) (pc := 68) B 1 oi_1 rfl uw_8 (by decide) rfl tw_367 rfl dX11_sign_68 ?_
            refine x_iload_n (pc := 71) B 1 dX11_sign_71 rfl rfl ?_
            refine x_iload_n (pc := 72) B 2 dX11_sign_72 rfl rfl ?_
            refine x_iload_n (pc := 73) B 3 dX11_sign_73 rfl rfl ?_
            refine x_iload (pc := 74) B 4 dX11_sign_74 rfl ?_
            obtain ⟨q9, hq9, h⟩ := bnd h
            refine x_callV (rest := []) (st' := [.int q9.1]) (pc := 76) B oi_7 rfl (C_Book_enter_7 a1 a2 a3 a4 M0 _ hq9) tw_646 tw_643 tw_644 tw_645 tw_101 hd_Book_enter_7 ⟨Nat.le_of_ble_eq_true rfl, Nat.le_of_ble_eq_true rfl⟩ rfl rfl (Nat.le_of_ble_eq_true rfl) rfl dX11_sign_76 ?_
            obtain rfl := Option.some.inj h
            exact x_iret (pc := 79) B hQ dX11_sign_79
          · have h := iff_ hc8 h
            refine x_bipush (v := (-4)) (pc := 61) B dX11_sign_61 rfl ?_
            obtain rfl := Option.some.inj h
            exact x_iret (pc := 63) B hQ dX11_sign_63
        · refine x_icmp_ne (tgt := 46) (pc := 29) B dX11_sign_29 rfl (fun hc6 => ?_) (fun hc6 => ?_)
          · have h := iff_ hc6 h
            have z := JJ () h
            exact z
          · have h := ift hc6 h
            refine x_iload (pc := 32) B 4 dX11_sign_32 rfl ?_
            refine x_iconst (v := 1) (pc := 34) B dX11_sign_34 rfl ?_
            refine x_bipush (v := 10) (pc := 35) B dX11_sign_35 rfl ?_
            refine x_callS (rest := []) (st' := [.int (bI (wthn a4 1 10))]) (pc := 37) B (T_CF_within a4 1 10 M0) tw_559 tw_557 tw_558 tw_98 hd_CF_within ⟨Nat.le_of_ble_eq_true rfl, Nat.le_of_ble_eq_true rfl⟩ rfl rfl (Nat.le_of_ble_eq_true rfl) rfl dX11_sign_37 ?_
            refine x_if_ne_b (tgt := 46) (pc := 40) B dX11_sign_40 rfl (fun hc11 => ?_) (fun hc11 => ?_)
            · have h := ift hc11 h
              have z := JJ () h
              exact z
            · have h := iff_ hc11 h
              refine x_bipush (v := (-2)) (pc := 43) B dX11_sign_43 rfl ?_
              obtain rfl := Option.some.inj h
              exact x_iret (pc := 45) B hQ dX11_sign_45
    · have h := iff_ hc3 h
      refine x_iconst (v := (-1)) (pc := 17) B dX11_sign_17 rfl ?_
      obtain rfl := Option.some.inj h
      exact x_iret (pc := 18) B hQ dX11_sign_18
-- CurrentFarms$Book.isStanding(I)Z [7]
abbrev y_Book_isStanding_7 : MethodName := ⟨"CurrentFarms$Book", "isStanding", "(I)Z"⟩
abbrev cX1_isStanding : ByteArray := prog_3_method_5_code
theorem dX1_isStanding_0 : decode cX1_isStanding 0 = .ok (.aload_n 0, 1) := by decide +kernel
theorem dX1_isStanding_1 : decode cX1_isStanding 1 = .ok (.getfield 15, 3) := by decide +kernel
theorem dX1_isStanding_4 : decode cX1_isStanding 4 = .ok (.iload_n 1, 1) := by decide +kernel
theorem dX1_isStanding_5 : decode cX1_isStanding 5 = .ok (.invokestatic 42, 3) := by decide +kernel
theorem dX1_isStanding_8 : decode cX1_isStanding 8 = .ok (.iconst 5, 1) := by decide +kernel
theorem dX1_isStanding_9 : decode cX1_isStanding 9 = .ok (.if_icmp .eq 18, 3) := by decide +kernel
theorem dX1_isStanding_12 : decode cX1_isStanding 12 = .ok (.aload_n 0, 1) := by decide +kernel
theorem dX1_isStanding_13 : decode cX1_isStanding 13 = .ok (.getfield 24, 3) := by decide +kernel
theorem dX1_isStanding_16 : decode cX1_isStanding 16 = .ok (.iload_n 1, 1) := by decide +kernel
theorem dX1_isStanding_17 : decode cX1_isStanding 17 = .ok (.invokestatic 42, 3) := by decide +kernel
theorem dX1_isStanding_20 : decode cX1_isStanding 20 = .ok (.ifCond .ne 7, 3) := by decide +kernel
theorem dX1_isStanding_23 : decode cX1_isStanding 23 = .ok (.iconst 1, 1) := by decide +kernel
theorem dX1_isStanding_24 : decode cX1_isStanding 24 = .ok (.goto 4, 3) := by decide +kernel
theorem dX1_isStanding_27 : decode cX1_isStanding 27 = .ok (.iconst 0, 1) := by decide +kernel
theorem dX1_isStanding_28 : decode cX1_isStanding 28 = .ok (.ireturn, 1) := by decide +kernel
theorem hd_Book_isStanding_7 : y_Book_isStanding_7.cls ≠ "java/lang/invoke/MethodHandle" ∧ y_Book_isStanding_7.cls ≠ "java/lang/invoke/VarHandle" ∧ (parseMethodDescriptor y_Book_isStanding_7.desc).map (fun d => d.parameters.length) = some 1 := by decide +kernel
def f_Book_isStanding_7 (a1 : Int32) (M0 : Mem) : Option (Bool) :=
  if decide ((atv (M0.1 9) 120 a1) = 5) then (some false) else (if decide ((atv (M0.1 12) 120 a1) = 0) then (some true) else (some false))
set_option maxHeartbeats 4000000 in
set_option maxRecDepth 20000 in
theorem C_Book_isStanding_7 {D : va_G} {ad adK adV : Nat → Nat} {cI cJ : ClassId} {l : Launch} (a1 : Int32) (M0 : Mem) (o : Bool) (h : f_Book_isStanding_7 a1 M0 = some o) : Ct D ad adK adV cI cJ l y_Book_isStanding_7 cX1_isStanding 2 (some .boolean) 1 21 [.ref (ad 7), .int a1] M0 (some (.int (bI o))) M0 := by
  refine x_start (lv := [(0, .ref (ad 7)), (1, .int a1)]) (own := "CurrentFarms$Book") rfl (by decide) (Nat.le_of_ble_eq_true rfl) rfl ?_
  intro p e s m args below meth c Q hQ B
  unfold f_Book_isStanding_7 at h
  refine x_aload_n (pc := 0) B 0 dX1_isStanding_0 rfl rfl ?_
  refine x_get (T := TX1) (pc := 1) B 1 oi_7 rfl uw_1 (by decide) rfl tw_176 rfl dX1_isStanding_1 ?_
  refine x_iload_n (pc := 4) B 1 dX1_isStanding_4 rfl rfl ?_
  refine x_callSN (rest := []) (st' := [.int (atv (M0.1 9) 120 a1)]) (pc := 5) B (T_CF_at 9 120 a1 ai_9 (by decide) M0) tw_575 tw_656 tw_574 tw_98 hd_CF_at ⟨Nat.le_of_ble_eq_true rfl, Nat.le_of_ble_eq_true rfl⟩ rfl rfl (Nat.le_of_ble_eq_true rfl) rfl dX1_isStanding_5 ?_
  refine x_iconst (v := 5) (pc := 8) B dX1_isStanding_8 rfl ?_
  refine x_icmp_eq (tgt := 27) (pc := 9) B dX1_isStanding_9 rfl (fun hc1 => ?_) (fun hc1 => ?_)
  · have h := ift hc1 h
    refine x_iconst (v := 0) (pc := 27) B dX1_isStanding_27 rfl ?_
    obtain rfl := Option.some.inj h
    exact x_zret (v := false) (pc := 28) B hQ dX1_isStanding_28
  · have h := iff_ hc1 h
    refine x_aload_n (pc := 12) B 0 dX1_isStanding_12 rfl rfl ?_
    refine x_get (T := TX1) (pc := 13) B 4 oi_7 rfl uw_1 (by decide) rfl tw_179 rfl dX1_isStanding_13 ?_
    refine x_iload_n (pc := 16) B 1 dX1_isStanding_16 rfl rfl ?_
    refine x_callSN (rest := []) (st' := [.int (atv (M0.1 12) 120 a1)]) (pc := 17) B (T_CF_at 12 120 a1 ai_12 (by decide) M0) tw_575 tw_656 tw_574 tw_98 hd_CF_at ⟨Nat.le_of_ble_eq_true rfl, Nat.le_of_ble_eq_true rfl⟩ rfl rfl (Nat.le_of_ble_eq_true rfl) rfl dX1_isStanding_17 ?_
    refine x_if_ne (tgt := 27) (pc := 20) B dX1_isStanding_20 rfl (fun hc2 => ?_) (fun hc2 => ?_)
    · have h := iff_ hc2 h
      refine x_iconst (v := 0) (pc := 27) B dX1_isStanding_27 rfl ?_
      obtain rfl := Option.some.inj h
      exact x_zret (v := false) (pc := 28) B hQ dX1_isStanding_28
    · have h := ift hc2 h
      refine x_iconst (v := 1) (pc := 23) B dX1_isStanding_23 rfl ?_
      refine x_goto (tgt := 28) (pc := 24) B dX1_isStanding_24 rfl ?_
      obtain rfl := Option.some.inj h
      exact x_zret (v := true) (pc := 28) B hQ dX1_isStanding_28
-- CurrentFarms$Book.cross(I)I [7]
abbrev y_Book_cross_7 : MethodName := ⟨"CurrentFarms$Book", "cross", "(I)I"⟩
abbrev cX1_cross : ByteArray := prog_3_method_4_code
theorem dX1_cross_0 : decode cX1_cross 0 = .ok (.aload_n 0, 1) := by decide +kernel
theorem dX1_cross_1 : decode cX1_cross 1 = .ok (.getfield 24, 3) := by decide +kernel
theorem dX1_cross_4 : decode cX1_cross 4 = .ok (.iload_n 1, 1) := by decide +kernel
theorem dX1_cross_5 : decode cX1_cross 5 = .ok (.aload_n 0, 1) := by decide +kernel
theorem dX1_cross_6 : decode cX1_cross 6 = .ok (.getfield 34, 3) := by decide +kernel
theorem dX1_cross_9 : decode cX1_cross 9 = .ok (.invokestatic 38, 3) := by decide +kernel
theorem dX1_cross_12 : decode cX1_cross 12 = .ok (.aload_n 0, 1) := by decide +kernel
theorem dX1_cross_13 : decode cX1_cross 13 = .ok (.aload_n 0, 1) := by decide +kernel
theorem dX1_cross_14 : decode cX1_cross 14 = .ok (.getfield 9, 3) := by decide +kernel
theorem dX1_cross_17 : decode cX1_cross 17 = .ok (.iload_n 1, 1) := by decide +kernel
theorem dX1_cross_18 : decode cX1_cross 18 = .ok (.invokestatic 42, 3) := by decide +kernel
theorem dX1_cross_21 : decode cX1_cross 21 = .ok (.iconst 5, 1) := by decide +kernel
theorem dX1_cross_22 : decode cX1_cross 22 = .ok (.aload_n 0, 1) := by decide +kernel
theorem dX1_cross_23 : decode cX1_cross 23 = .ok (.getfield 18, 3) := by decide +kernel
theorem dX1_cross_26 : decode cX1_cross 26 = .ok (.iload_n 1, 1) := by decide +kernel
theorem dX1_cross_27 : decode cX1_cross 27 = .ok (.invokestatic 42, 3) := by decide +kernel
theorem dX1_cross_30 : decode cX1_cross 30 = .ok (.iconst 0, 1) := by decide +kernel
theorem dX1_cross_31 : decode cX1_cross 31 = .ok (.invokevirtual 46, 3) := by decide +kernel
theorem dX1_cross_34 : decode cX1_cross 34 = .ok (.ireturn, 1) := by decide +kernel
theorem hd_Book_cross_7 : y_Book_cross_7.cls ≠ "java/lang/invoke/MethodHandle" ∧ y_Book_cross_7.cls ≠ "java/lang/invoke/VarHandle" ∧ (parseMethodDescriptor y_Book_cross_7.desc).map (fun d => d.parameters.length) = some 1 := by decide +kernel
def f_Book_cross_7 (a1 : Int32) (M0 : Mem) : Option (Int32 × Mem) :=
  jv_ (putv M0 12 120 a1 (M0.1 7 5)) fun M1 => (f_Book_enter_7 (atv (M1.1 8) 120 a1) 5 (atv (M1.1 10) 120 a1) 0 M1).bind fun q2 => some (q2.1, q2.2)
set_option maxHeartbeats 4000000 in
set_option maxRecDepth 20000 in
theorem C_Book_cross_7 {D : va_G} {ad adK adV : Nat → Nat} {cI cJ : ClassId} {l : Launch} (a1 : Int32) (M0 : Mem) (o : Int32 × Mem) (h : f_Book_cross_7 a1 M0 = some o) : Ct D ad adK adV cI cJ l y_Book_cross_7 cX1_cross 2 (some .int) 2 46 [.ref (ad 7), .int a1] M0 (some (.int o.1)) o.2 := by
  refine x_start (lv := [(0, .ref (ad 7)), (1, .int a1)]) (own := "CurrentFarms$Book") rfl (by decide) (Nat.le_of_ble_eq_true rfl) rfl ?_
  intro p e s m args below meth c Q hQ B
  unfold f_Book_cross_7 at h
  refine x_aload_n (pc := 0) B 0 dX1_cross_0 rfl rfl ?_
  refine x_get (T := TX1) (pc := 1) B 4 oi_7 rfl uw_1 (by decide) rfl tw_179 rfl dX1_cross_1 ?_
  refine x_iload_n (pc := 4) B 1 dX1_cross_4 rfl rfl ?_
  refine x_aload_n (pc := 5) B 0 dX1_cross_5 rfl rfl ?_
  refine x_get (T := TX1) (pc := 6) B 5 oi_7 rfl uw_1 (by decide) rfl tw_180 rfl dX1_cross_6 ?_
  refine x_callSN (rest := []) (st' := []) (pc := 9) B (T_CF_put 12 120 a1 (M0.1 7 5) ai_12 (by decide) M0) tw_588 tw_647 tw_587 tw_98 hd_CF_put ⟨Nat.le_of_ble_eq_true rfl, Nat.le_of_ble_eq_true rfl⟩ rfl rfl (Nat.le_of_ble_eq_true rfl) rfl dX1_cross_9 ?_
  refine jv_m (P := fun M1 => XX D ad cI cJ p l e (Rm 2 46) s m args below meth c Q 2 M1 12 [(0, .ref (ad 7)), (1, .int a1)] []) h (fun M1 h => ?_)
  refine x_aload_n (pc := 12) B 0 dX1_cross_12 rfl rfl ?_
  refine x_aload_n (pc := 13) B 0 dX1_cross_13 rfl rfl ?_
  refine x_get (T := TX1) (pc := 14) B 0 oi_7 rfl uw_1 (by decide) rfl tw_175 rfl dX1_cross_14 ?_
  refine x_iload_n (pc := 17) B 1 dX1_cross_17 rfl rfl ?_
  refine x_callSN (rest := [.ref (ad 7)]) (st' := [.int (atv (M1.1 8) 120 a1), .ref (ad 7)]) (pc := 18) B (T_CF_at 8 120 a1 ai_8 (by decide) M1) tw_575 tw_656 tw_574 tw_98 hd_CF_at ⟨Nat.le_of_ble_eq_true rfl, Nat.le_of_ble_eq_true rfl⟩ rfl rfl (Nat.le_of_ble_eq_true rfl) rfl dX1_cross_18 ?_
  refine x_iconst (v := 5) (pc := 21) B dX1_cross_21 rfl ?_
  refine x_aload_n (pc := 22) B 0 dX1_cross_22 rfl rfl ?_
  refine x_get (T := TX1) (pc := 23) B 2 oi_7 rfl uw_1 (by decide) rfl tw_177 rfl dX1_cross_23 ?_
  refine x_iload_n (pc := 26) B 1 dX1_cross_26 rfl rfl ?_
  refine x_callSN (rest := [.int 5, .int (atv (M1.1 8) 120 a1), .ref (ad 7)]) (st' := [.int (atv (M1.1 10) 120 a1), .int 5, .int (atv (M1.1 8) 120 a1), .ref (ad 7)]) (pc := 27) B (T_CF_at 10 120 a1 ai_10 (by decide) M1) tw_575 tw_656 tw_574 tw_98 hd_CF_at ⟨Nat.le_of_ble_eq_true rfl, Nat.le_of_ble_eq_true rfl⟩ rfl rfl (Nat.le_of_ble_eq_true rfl) rfl dX1_cross_27 ?_
  refine x_iconst (v := 0) (pc := 30) B dX1_cross_30 rfl ?_
  obtain ⟨q2, hq2, h⟩ := bnd h
  refine x_callV (rest := []) (st' := [.int q2.1]) (pc := 31) B oi_7 rfl (C_Book_enter_7 (atv (M1.1 8) 120 a1) 5 (atv (M1.1 10) 120 a1) 0 M1 _ hq2) tw_646 tw_661 tw_644 tw_645 tw_101 hd_Book_enter_7 ⟨Nat.le_of_ble_eq_true rfl, Nat.le_of_ble_eq_true rfl⟩ rfl rfl (Nat.le_of_ble_eq_true rfl) rfl dX1_cross_31 ?_
  obtain rfl := Option.some.inj h
  exact x_iret (pc := 34) B hQ dX1_cross_34
-- CurrentFarms.strike(I)I [0]
abbrev y_CF_strike_0 : MethodName := ⟨"CurrentFarms", "strike", "(I)I"⟩
abbrev cX11_strike : ByteArray := prog_1_method_8_code
theorem dX11_strike_0 : decode cX11_strike 0 = .ok (.iload_n 1, 1) := by decide +kernel
theorem dX11_strike_1 : decode cX11_strike 1 = .ok (.iconst 0, 1) := by decide +kernel
theorem dX11_strike_2 : decode cX11_strike 2 = .ok (.aload_n 0, 1) := by decide +kernel
theorem dX11_strike_3 : decode cX11_strike 3 = .ok (.getfield 12, 3) := by decide +kernel
theorem dX11_strike_6 : decode cX11_strike 6 = .ok (.getfield 132, 3) := by decide +kernel
theorem dX11_strike_9 : decode cX11_strike 9 = .ok (.getfield 136, 3) := by decide +kernel
theorem dX11_strike_12 : decode cX11_strike 12 = .ok (.iconst 1, 1) := by decide +kernel
theorem dX11_strike_13 : decode cX11_strike 13 = .ok (.isub, 1) := by decide +kernel
theorem dX11_strike_14 : decode cX11_strike 14 = .ok (.invokestatic 72, 3) := by decide +kernel
theorem dX11_strike_17 : decode cX11_strike 17 = .ok (.ifCond .ne 5, 3) := by decide +kernel
theorem dX11_strike_20 : decode cX11_strike 20 = .ok (.iconst (-1), 1) := by decide +kernel
theorem dX11_strike_21 : decode cX11_strike 21 = .ok (.ireturn, 1) := by decide +kernel
theorem dX11_strike_22 : decode cX11_strike 22 = .ok (.aload_n 0, 1) := by decide +kernel
theorem dX11_strike_23 : decode cX11_strike 23 = .ok (.getfield 12, 3) := by decide +kernel
theorem dX11_strike_26 : decode cX11_strike 26 = .ok (.getfield 132, 3) := by decide +kernel
theorem dX11_strike_29 : decode cX11_strike 29 = .ok (.iload_n 1, 1) := by decide +kernel
theorem dX11_strike_30 : decode cX11_strike 30 = .ok (.invokevirtual 143, 3) := by decide +kernel
theorem dX11_strike_33 : decode cX11_strike 33 = .ok (.ifCond .ne 6, 3) := by decide +kernel
theorem dX11_strike_36 : decode cX11_strike 36 = .ok (.bipush (-3), 2) := by decide +kernel
theorem dX11_strike_38 : decode cX11_strike 38 = .ok (.ireturn, 1) := by decide +kernel
theorem dX11_strike_39 : decode cX11_strike 39 = .ok (.aload_n 0, 1) := by decide +kernel
theorem dX11_strike_40 : decode cX11_strike 40 = .ok (.getfield 12, 3) := by decide +kernel
theorem dX11_strike_43 : decode cX11_strike 43 = .ok (.getfield 132, 3) := by decide +kernel
theorem dX11_strike_46 : decode cX11_strike 46 = .ok (.getfield 136, 3) := by decide +kernel
theorem dX11_strike_49 : decode cX11_strike 49 = .ok (.bipush 120, 2) := by decide +kernel
theorem dX11_strike_51 : decode cX11_strike 51 = .ok (.if_icmp .lt 6, 3) := by decide +kernel
theorem dX11_strike_54 : decode cX11_strike 54 = .ok (.bipush (-4), 2) := by decide +kernel
theorem dX11_strike_56 : decode cX11_strike 56 = .ok (.ireturn, 1) := by decide +kernel
theorem dX11_strike_57 : decode cX11_strike 57 = .ok (.aload_n 0, 1) := by decide +kernel
theorem dX11_strike_58 : decode cX11_strike 58 = .ok (.getfield 12, 3) := by decide +kernel
theorem dX11_strike_61 : decode cX11_strike 61 = .ok (.getfield 132, 3) := by decide +kernel
theorem dX11_strike_64 : decode cX11_strike 64 = .ok (.iload_n 1, 1) := by decide +kernel
theorem dX11_strike_65 : decode cX11_strike 65 = .ok (.invokevirtual 146, 3) := by decide +kernel
theorem dX11_strike_68 : decode cX11_strike 68 = .ok (.ireturn, 1) := by decide +kernel
theorem hd_CF_strike_0 : y_CF_strike_0.cls ≠ "java/lang/invoke/MethodHandle" ∧ y_CF_strike_0.cls ≠ "java/lang/invoke/VarHandle" ∧ (parseMethodDescriptor y_CF_strike_0.desc).map (fun d => d.parameters.length) = some 1 := by decide +kernel
def f_CF_strike_0 (a1 : Int32) (M0 : Mem) : Option (Int32 × Mem) :=
  if wthn a1 0 ((M0.1 7 5) - 1) then ((f_Book_isStanding_7 a1 M0).bind fun q2 => if q2 then (if decide ((M0.1 7 5) < 120) then ((f_Book_cross_7 a1 M0).bind fun q5 => some (q5.1, q5.2)) else (some ((-4), M0))) else (some ((-3), M0))) else (some ((-1), M0))
set_option maxHeartbeats 4000000 in
set_option maxRecDepth 20000 in
theorem C_CF_strike_0 {D : va_G} {ad adK adV : Nat → Nat} {cI cJ : ClassId} {l : Launch} (a1 : Int32) (M0 : Mem) (o : Int32 × Mem) (h : f_CF_strike_0 a1 M0 = some o) : Ct D ad adK adV cI cJ l y_CF_strike_0 cX11_strike 2 (some .int) 3 67 [.ref (ad 0), .int a1] M0 (some (.int o.1)) o.2 := by
  refine x_start (lv := [(0, .ref (ad 0)), (1, .int a1)]) (own := "CurrentFarms") rfl (by decide) (Nat.le_of_ble_eq_true rfl) rfl ?_
  intro p e s m args below meth c Q hQ B
  unfold f_CF_strike_0 at h
  refine x_iload_n (pc := 0) B 1 dX11_strike_0 rfl rfl ?_
  refine x_iconst (v := 0) (pc := 1) B dX11_strike_1 rfl ?_
  refine x_aload_n (pc := 2) B 0 dX11_strike_2 rfl rfl ?_
  refine x_get (T := TX11) (pc := 3) B 0 oi_0 rfl uw_11 (by decide) rfl tw_525 rfl dX11_strike_3 ?_
  refine x_get (T := TX8) (pc := 6) B 1 oi_1 rfl uw_8 (by decide) rfl tw_367 rfl dX11_strike_6 ?_
  refine x_get (T := TX1) (pc := 9) B 5 oi_7 rfl uw_1 (by decide) rfl tw_181 rfl dX11_strike_9 ?_
  refine x_iconst (v := 1) (pc := 12) B dX11_strike_12 rfl ?_
  refine x_isub (pc := 13) B dX11_strike_13 ?_
  refine x_callS (rest := []) (st' := [.int (bI (wthn a1 0 ((M0.1 7 5) - 1)))]) (pc := 14) B (T_CF_within a1 0 ((M0.1 7 5) - 1) M0) tw_559 tw_557 tw_558 tw_98 hd_CF_within ⟨Nat.le_of_ble_eq_true rfl, Nat.le_of_ble_eq_true rfl⟩ rfl rfl (Nat.le_of_ble_eq_true rfl) rfl dX11_strike_14 ?_
  refine x_if_ne_b (tgt := 22) (pc := 17) B dX11_strike_17 rfl (fun hc1 => ?_) (fun hc1 => ?_)
  · have h := ift hc1 h
    refine x_aload_n (pc := 22) B 0 dX11_strike_22 rfl rfl ?_
    refine x_get (T := TX11) (pc := 23) B 0 oi_0 rfl uw_11 (by decide) rfl tw_525 rfl dX11_strike_23 ?_
    refine x_get (T := TX8) (pc := 26) B 1 oi_1 rfl uw_8 (by decide) rfl tw_367 rfl dX11_strike_26 ?_
    refine x_iload_n (pc := 29) B 1 dX11_strike_29 rfl rfl ?_
    obtain ⟨q2, hq2, h⟩ := bnd h
    refine x_callV (rest := []) (st' := [.int (bI q2)]) (pc := 30) B oi_7 rfl (C_Book_isStanding_7 a1 M0 _ hq2) tw_655 tw_652 tw_653 tw_654 tw_101 hd_Book_isStanding_7 ⟨Nat.le_of_ble_eq_true rfl, Nat.le_of_ble_eq_true rfl⟩ rfl rfl (Nat.le_of_ble_eq_true rfl) rfl dX11_strike_30 ?_
    refine x_if_ne_b (tgt := 39) (pc := 33) B dX11_strike_33 rfl (fun hc3 => ?_) (fun hc3 => ?_)
    · have h := ift hc3 h
      refine x_aload_n (pc := 39) B 0 dX11_strike_39 rfl rfl ?_
      refine x_get (T := TX11) (pc := 40) B 0 oi_0 rfl uw_11 (by decide) rfl tw_525 rfl dX11_strike_40 ?_
      refine x_get (T := TX8) (pc := 43) B 1 oi_1 rfl uw_8 (by decide) rfl tw_367 rfl dX11_strike_43 ?_
      refine x_get (T := TX1) (pc := 46) B 5 oi_7 rfl uw_1 (by decide) rfl tw_181 rfl dX11_strike_46 ?_
      refine x_bipush (v := 120) (pc := 49) B dX11_strike_49 rfl ?_
      refine x_icmp_lt (tgt := 57) (pc := 51) B dX11_strike_51 rfl (fun hc4 => ?_) (fun hc4 => ?_)
      · have h := ift hc4 h
        refine x_aload_n (pc := 57) B 0 dX11_strike_57 rfl rfl ?_
        refine x_get (T := TX11) (pc := 58) B 0 oi_0 rfl uw_11 (by decide) rfl tw_525 rfl dX11_strike_58 ?_
        refine x_get (T := TX8) (pc := 61) B 1 oi_1 rfl uw_8 (by decide) rfl tw_367 rfl dX11_strike_61 ?_
        refine x_iload_n (pc := 64) B 1 dX11_strike_64 rfl rfl ?_
        obtain ⟨q5, hq5, h⟩ := bnd h
        refine x_callV (rest := []) (st' := [.int q5.1]) (pc := 65) B oi_7 rfl (C_Book_cross_7 a1 M0 _ hq5) tw_660 tw_657 tw_658 tw_659 tw_101 hd_Book_cross_7 ⟨Nat.le_of_ble_eq_true rfl, Nat.le_of_ble_eq_true rfl⟩ rfl rfl (Nat.le_of_ble_eq_true rfl) rfl dX11_strike_65 ?_
        obtain rfl := Option.some.inj h
        exact x_iret (pc := 68) B hQ dX11_strike_68
      · have h := iff_ hc4 h
        refine x_bipush (v := (-4)) (pc := 54) B dX11_strike_54 rfl ?_
        obtain rfl := Option.some.inj h
        exact x_iret (pc := 56) B hQ dX11_strike_56
    · have h := iff_ hc3 h
      refine x_bipush (v := (-3)) (pc := 36) B dX11_strike_36 rfl ?_
      obtain rfl := Option.some.inj h
      exact x_iret (pc := 38) B hQ dX11_strike_38
  · have h := iff_ hc1 h
    refine x_iconst (v := (-1)) (pc := 20) B dX11_strike_20 rfl ?_
    obtain rfl := Option.some.inj h
    exact x_iret (pc := 21) B hQ dX11_strike_21
-- CurrentFarms.isBefore(I)Z [0]
abbrev y_CF_isBefore_0 : MethodName := ⟨"CurrentFarms", "isBefore", "(I)Z"⟩
abbrev cX11_isBefore : ByteArray := prog_1_method_45_code
theorem dX11_isBefore_0 : decode cX11_isBefore 0 = .ok (.iload_n 1, 1) := by decide +kernel
theorem dX11_isBefore_1 : decode cX11_isBefore 1 = .ok (.iconst (-1), 1) := by decide +kernel
theorem dX11_isBefore_2 : decode cX11_isBefore 2 = .ok (.aload_n 0, 1) := by decide +kernel
theorem dX11_isBefore_3 : decode cX11_isBefore 3 = .ok (.getfield 12, 3) := by decide +kernel
theorem dX11_isBefore_6 : decode cX11_isBefore 6 = .ok (.getfield 132, 3) := by decide +kernel
theorem dX11_isBefore_9 : decode cX11_isBefore 9 = .ok (.getfield 136, 3) := by decide +kernel
theorem dX11_isBefore_12 : decode cX11_isBefore 12 = .ok (.invokestatic 72, 3) := by decide +kernel
theorem dX11_isBefore_15 : decode cX11_isBefore 15 = .ok (.ireturn, 1) := by decide +kernel
theorem hd_CF_isBefore_0 : y_CF_isBefore_0.cls ≠ "java/lang/invoke/MethodHandle" ∧ y_CF_isBefore_0.cls ≠ "java/lang/invoke/VarHandle" ∧ (parseMethodDescriptor y_CF_isBefore_0.desc).map (fun d => d.parameters.length) = some 1 := by decide +kernel
def f_CF_isBefore_0 (a1 : Int32) (M0 : Mem) : Option (Bool) :=
  some (wthn a1 (-1) (M0.1 7 5))
set_option maxHeartbeats 4000000 in
set_option maxRecDepth 20000 in
theorem C_CF_isBefore_0 {D : va_G} {ad adK adV : Nat → Nat} {cI cJ : ClassId} {l : Launch} (a1 : Int32) (M0 : Mem) (o : Bool) (h : f_CF_isBefore_0 a1 M0 = some o) : Ct D ad adK adV cI cJ l y_CF_isBefore_0 cX11_isBefore 2 (some .boolean) 1 22 [.ref (ad 0), .int a1] M0 (some (.int (bI o))) M0 := by
  refine x_start (lv := [(0, .ref (ad 0)), (1, .int a1)]) (own := "CurrentFarms") rfl (by decide) (Nat.le_of_ble_eq_true rfl) rfl ?_
  intro p e s m args below meth c Q hQ B
  unfold f_CF_isBefore_0 at h
  refine x_iload_n (pc := 0) B 1 dX11_isBefore_0 rfl rfl ?_
  refine x_iconst (v := (-1)) (pc := 1) B dX11_isBefore_1 rfl ?_
  refine x_aload_n (pc := 2) B 0 dX11_isBefore_2 rfl rfl ?_
  refine x_get (T := TX11) (pc := 3) B 0 oi_0 rfl uw_11 (by decide) rfl tw_525 rfl dX11_isBefore_3 ?_
  refine x_get (T := TX8) (pc := 6) B 1 oi_1 rfl uw_8 (by decide) rfl tw_367 rfl dX11_isBefore_6 ?_
  refine x_get (T := TX1) (pc := 9) B 5 oi_7 rfl uw_1 (by decide) rfl tw_181 rfl dX11_isBefore_9 ?_
  refine x_callS (rest := []) (st' := [.int (bI (wthn a1 (-1) (M0.1 7 5)))]) (pc := 12) B (T_CF_within a1 (-1) (M0.1 7 5) M0) tw_559 tw_557 tw_558 tw_98 hd_CF_within ⟨Nat.le_of_ble_eq_true rfl, Nat.le_of_ble_eq_true rfl⟩ rfl rfl (Nat.le_of_ble_eq_true rfl) rfl dX11_isBefore_12 ?_
  obtain rfl := Option.some.inj h
  exact x_zret (v := wthn a1 (-1) (M0.1 7 5)) (pc := 15) B hQ dX11_isBefore_15
-- CurrentFarms$Book.look(II)V [7]
abbrev y_Book_look_7 : MethodName := ⟨"CurrentFarms$Book", "look", "(II)V"⟩
abbrev cX1_look : ByteArray := prog_3_method_6_code
theorem dX1_look_0 : decode cX1_look 0 = .ok (.iload_n 2, 1) := by decide +kernel
theorem dX1_look_1 : decode cX1_look 1 = .ok (.ifCond .ge 10, 3) := by decide +kernel
theorem dX1_look_4 : decode cX1_look 4 = .ok (.aload_n 0, 1) := by decide +kernel
theorem dX1_look_5 : decode cX1_look 5 = .ok (.getfield 34, 3) := by decide +kernel
theorem dX1_look_8 : decode cX1_look 8 = .ok (.goto 4, 3) := by decide +kernel
theorem dX1_look_11 : decode cX1_look 11 = .ok (.iload_n 2, 1) := by decide +kernel
theorem dX1_look_12 : decode cX1_look 12 = .ok (.istore_n 3, 1) := by decide +kernel
theorem dX1_look_13 : decode cX1_look 13 = .ok (.aload_n 0, 1) := by decide +kernel
theorem dX1_look_14 : decode cX1_look 14 = .ok (.getfield 27, 3) := by decide +kernel
theorem dX1_look_17 : decode cX1_look 17 = .ok (.iconst (-1), 1) := by decide +kernel
theorem dX1_look_18 : decode cX1_look 18 = .ok (.invokestatic 50, 3) := by decide +kernel
theorem dX1_look_21 : decode cX1_look 21 = .ok (.iconst 0, 1) := by decide +kernel
theorem dX1_look_22 : decode cX1_look 22 = .ok (.istore 4, 2) := by decide +kernel
theorem dX1_look_24 : decode cX1_look 24 = .ok (.iload 4, 2) := by decide +kernel
theorem dX1_look_26 : decode cX1_look 26 = .ok (.iload_n 3, 1) := by decide +kernel
theorem dX1_look_27 : decode cX1_look 27 = .ok (.if_icmp .ge 131, 3) := by decide +kernel
theorem dX1_look_30 : decode cX1_look 30 = .ok (.aload_n 0, 1) := by decide +kernel
theorem dX1_look_31 : decode cX1_look 31 = .ok (.getfield 24, 3) := by decide +kernel
theorem dX1_look_34 : decode cX1_look 34 = .ok (.iload 4, 2) := by decide +kernel
theorem dX1_look_36 : decode cX1_look 36 = .ok (.invokestatic 42, 3) := by decide +kernel
theorem dX1_look_39 : decode cX1_look 39 = .ok (.istore 5, 2) := by decide +kernel
theorem dX1_look_41 : decode cX1_look 41 = .ok (.aload_n 0, 1) := by decide +kernel
theorem dX1_look_42 : decode cX1_look 42 = .ok (.getfield 9, 3) := by decide +kernel
theorem dX1_look_45 : decode cX1_look 45 = .ok (.iload 4, 2) := by decide +kernel
theorem dX1_look_47 : decode cX1_look 47 = .ok (.invokestatic 42, 3) := by decide +kernel
theorem dX1_look_50 : decode cX1_look 50 = .ok (.istore 6, 2) := by decide +kernel
theorem dX1_look_52 : decode cX1_look 52 = .ok (.aload_n 0, 1) := by decide +kernel
theorem dX1_look_53 : decode cX1_look 53 = .ok (.getfield 15, 3) := by decide +kernel
theorem dX1_look_56 : decode cX1_look 56 = .ok (.iload 4, 2) := by decide +kernel
theorem dX1_look_58 : decode cX1_look 58 = .ok (.invokestatic 42, 3) := by decide +kernel
theorem dX1_look_61 : decode cX1_look 61 = .ok (.iconst 5, 1) := by decide +kernel
theorem dX1_look_62 : decode cX1_look 62 = .ok (.if_icmp .eq 18, 3) := by decide +kernel
theorem dX1_look_65 : decode cX1_look 65 = .ok (.iload 5, 2) := by decide +kernel
theorem dX1_look_67 : decode cX1_look 67 = .ok (.ifCond .eq 9, 3) := by decide +kernel
theorem dX1_look_70 : decode cX1_look 70 = .ok (.iload 5, 2) := by decide +kernel
theorem dX1_look_72 : decode cX1_look 72 = .ok (.iload_n 3, 1) := by decide +kernel
theorem dX1_look_73 : decode cX1_look 73 = .ok (.if_icmp .lt 7, 3) := by decide +kernel
theorem dX1_look_76 : decode cX1_look 76 = .ok (.iconst 1, 1) := by decide +kernel
theorem dX1_look_77 : decode cX1_look 77 = .ok (.goto 4, 3) := by decide +kernel
theorem dX1_look_80 : decode cX1_look 80 = .ok (.iconst 0, 1) := by decide +kernel
theorem dX1_look_81 : decode cX1_look 81 = .ok (.istore 7, 2) := by decide +kernel
theorem dX1_look_83 : decode cX1_look 83 = .ok (.iload 7, 2) := by decide +kernel
theorem dX1_look_85 : decode cX1_look 85 = .ok (.ifCond .eq 67, 3) := by decide +kernel
theorem dX1_look_88 : decode cX1_look 88 = .ok (.aload_n 0, 1) := by decide +kernel
theorem dX1_look_89 : decode cX1_look 89 = .ok (.getfield 18, 3) := by decide +kernel
theorem dX1_look_92 : decode cX1_look 92 = .ok (.iload 4, 2) := by decide +kernel
theorem dX1_look_94 : decode cX1_look 94 = .ok (.invokestatic 42, 3) := by decide +kernel
theorem dX1_look_97 : decode cX1_look 97 = .ok (.iload_n 1, 1) := by decide +kernel
theorem dX1_look_98 : decode cX1_look 98 = .ok (.if_icmp .le 6, 3) := by decide +kernel
theorem dX1_look_101 : decode cX1_look 101 = .ok (.goto 51, 3) := by decide +kernel
theorem dX1_look_104 : decode cX1_look 104 = .ok (.aload_n 0, 1) := by decide +kernel
theorem dX1_look_105 : decode cX1_look 105 = .ok (.getfield 27, 3) := by decide +kernel
theorem dX1_look_108 : decode cX1_look 108 = .ok (.iload 6, 2) := by decide +kernel
theorem dX1_look_110 : decode cX1_look 110 = .ok (.invokestatic 42, 3) := by decide +kernel
theorem dX1_look_113 : decode cX1_look 113 = .ok (.istore 8, 2) := by decide +kernel
theorem dX1_look_115 : decode cX1_look 115 = .ok (.iload 8, 2) := by decide +kernel
theorem dX1_look_117 : decode cX1_look 117 = .ok (.ifCond .lt 24, 3) := by decide +kernel
theorem dX1_look_120 : decode cX1_look 120 = .ok (.aload_n 0, 1) := by decide +kernel
theorem dX1_look_121 : decode cX1_look 121 = .ok (.getfield 18, 3) := by decide +kernel
theorem dX1_look_124 : decode cX1_look 124 = .ok (.iload 4, 2) := by decide +kernel
theorem dX1_look_126 : decode cX1_look 126 = .ok (.invokestatic 42, 3) := by decide +kernel
theorem dX1_look_129 : decode cX1_look 129 = .ok (.aload_n 0, 1) := by decide +kernel
theorem dX1_look_130 : decode cX1_look 130 = .ok (.getfield 18, 3) := by decide +kernel
theorem dX1_look_133 : decode cX1_look 133 = .ok (.iload 8, 2) := by decide +kernel
theorem dX1_look_135 : decode cX1_look 135 = .ok (.invokestatic 42, 3) := by decide +kernel
theorem dX1_look_138 : decode cX1_look 138 = .ok (.if_icmp .lt 14, 3) := by decide +kernel
theorem dX1_look_141 : decode cX1_look 141 = .ok (.aload_n 0, 1) := by decide +kernel
theorem dX1_look_142 : decode cX1_look 142 = .ok (.getfield 27, 3) := by decide +kernel
theorem dX1_look_145 : decode cX1_look 145 = .ok (.iload 6, 2) := by decide +kernel
theorem dX1_look_147 : decode cX1_look 147 = .ok (.iload 4, 2) := by decide +kernel
theorem dX1_look_149 : decode cX1_look 149 = .ok (.invokestatic 38, 3) := by decide +kernel
theorem dX1_look_152 : decode cX1_look 152 = .ok (.iinc 4 1, 3) := by decide +kernel
theorem dX1_look_155 : decode cX1_look 155 = .ok (.goto (-131), 3) := by decide +kernel
theorem dX1_look_158 : decode cX1_look 158 = .ok (.return_, 1) := by decide +kernel
theorem hd_Book_look_7 : y_Book_look_7.cls ≠ "java/lang/invoke/MethodHandle" ∧ y_Book_look_7.cls ≠ "java/lang/invoke/VarHandle" ∧ (parseMethodDescriptor y_Book_look_7.desc).map (fun d => d.parameters.length) = some 2 := by decide +kernel
def b_Book_look_7_24 (a1 : Int32) (u3 : Int32) (y5 : Int32 × Mem) : Option ((Int32 × Mem) ⊕ (Mem)) :=
  if decide (y5.1 < u3) then (jv_ ((!(decide ((atv (y5.2.1 9) 120 y5.1) = 5)) && ((decide ((atv (y5.2.1 12) 120 y5.1) = 0)) || (!(decide ((atv (y5.2.1 12) 120 y5.1) < u3))))) : Bool) fun u9 => if u9 then (if decide ((atv (y5.2.1 10) 120 y5.1) ≤ a1) then (if decide ((atv (y5.2.1 13) 10 (atv (y5.2.1 8) 120 y5.1)) < 0) then (jv_ (putv y5.2 13 10 (atv (y5.2.1 8) 120 y5.1) y5.1) fun M15 => some (.inl (y5.1 + 1, M15))) else (if decide ((atv (y5.2.1 10) 120 y5.1) < (atv (y5.2.1 10) 120 (atv (y5.2.1 13) 10 (atv (y5.2.1 8) 120 y5.1)))) then (some (.inl (y5.1 + 1, y5.2))) else (jv_ (putv y5.2 13 10 (atv (y5.2.1 8) 120 y5.1) y5.1) fun M14 => some (.inl (y5.1 + 1, M14))))) else (some (.inl (y5.1 + 1, y5.2)))) else (some (.inl (y5.1 + 1, y5.2)))) else (some (.inr y5.2))
def f_Book_look_7 (a1 : Int32) (a2 : Int32) (M0 : Mem) : Option (Mem) :=
  jv_ ((if decide (a2 < 0) then M0.1 7 5 else a2) : Int32) fun u3 => jv_ (wR M0 13 (filv (M0.1 13) 10 (-1))) fun M4 => (itr (b_Book_look_7_24 a1 u3) FU (0, M4)).bind fun q18 => some q18
set_option maxHeartbeats 4000000 in
set_option maxRecDepth 20000 in
theorem C_Book_look_7 {D : va_G} {ad adK adV : Nat → Nat} {cI cJ : ClassId} {l : Launch} (a1 : Int32) (a2 : Int32) (M0 : Mem) (o : Mem) (h : f_Book_look_7 a1 a2 M0 = some o) : Ct D ad adK adV cI cJ l y_Book_look_7 cX1_look 9 none 1 23 [.ref (ad 7), .int a1, .int a2] M0 none o := by
  refine x_start (lv := [(0, .ref (ad 7)), (1, .int a1), (2, .int a2)]) (own := "CurrentFarms$Book") rfl (by decide) (Nat.le_of_ble_eq_true rfl) rfl ?_
  intro p e s m args below meth c Q hQ B
  unfold f_Book_look_7 at h
  refine x_iload_n (pc := 0) B 2 dX1_look_0 rfl rfl ?_
  refine jv_k h (fun (u3 : Int32) => XX D ad cI cJ p l e (Rm 1 23) s m args below meth c Q 9 M0 12 [(0, .ref (ad 7)), (1, .int a1)] [.int u3]) (fun u3 h => ?_) (fun JJ => ?_)
  · refine x_istore_n (lv' := [(3, .int u3), (0, .ref (ad 7)), (1, .int a1)]) (pc := 12) B dX1_look_12 rfl (by decide) rfl ?_
    refine x_aload_n (pc := 13) B 1 dX1_look_13 rfl rfl ?_
    refine x_get (T := TX1) (pc := 14) B 6 oi_7 rfl uw_1 (by decide) rfl tw_182 rfl dX1_look_14 ?_
    refine x_iconst (v := (-1)) (pc := 17) B dX1_look_17 rfl ?_
    refine x_callS (rest := []) (st' := []) (pc := 18) B (T_fill 13 10 (-1) ai_13 (by decide) M0) tw_262 tw_678 tw_261 tw_104 hd_Arrays_fill_53178 ⟨Nat.le_of_ble_eq_true rfl, Nat.le_of_ble_eq_true rfl⟩ rfl rfl (Nat.le_of_ble_eq_true rfl) rfl dX1_look_18 ?_
    refine jv_m (P := fun M4 => XX D ad cI cJ p l e (Rm 1 23) s m args below meth c Q 9 M4 21 [(3, .int u3), (0, .ref (ad 7)), (1, .int a1)] []) h (fun M4 h => ?_)
    refine x_iconst (v := 0) (pc := 21) B dX1_look_21 rfl ?_
    refine x_istore (lv' := [(4, .int 0), (3, .int u3), (0, .ref (ad 7)), (1, .int a1)]) (pc := 22) B dX1_look_22 (by decide) rfl ?_
    refine x_pick (lv' := [(0, .ref (ad 7)), (1, .int a1), (3, .int u3), (4, .int 0)]) [2, 3, 1, 0] rfl ?_
    obtain ⟨q18, hq18, h⟩ := bnd h
    refine x_loop (Head := fun (y5 : Int32 × Mem) => XX D ad cI cJ p l e (Rm 1 23) s m args below meth c Q 9 y5.2 24 [(0, .ref (ad 7)), (1, .int a1), (3, .int u3), (4, .int y5.1)] []) (Ex := fun (q18 : Mem) => XX D ad cI cJ p l e (Rm 1 23) s m args below meth c Q 9 q18 158 [] []) (fun y5 r h hback hexit => ?_) FU _ q18 hq18 ?_
    · unfold b_Book_look_7_24 at h
      refine x_iload (pc := 24) B 3 dX1_look_24 rfl ?_
      refine x_iload_n (pc := 26) B 2 dX1_look_26 rfl rfl ?_
      refine x_icmp_ge (tgt := 158) (pc := 27) B dX1_look_27 rfl (fun hc6 => ?_) (fun hc6 => ?_)
      · have h := iff_ hc6 h
        refine x_pick (lv' := []) [] rfl ?_
        have z := hexit y5.2 (Option.some.inj h).symm
        exact z
      · have h := ift hc6 h
        refine x_aload_n (pc := 30) B 0 dX1_look_30 rfl rfl ?_
        refine x_get (T := TX1) (pc := 31) B 4 oi_7 rfl uw_1 (by decide) rfl tw_179 rfl dX1_look_31 ?_
        refine x_iload (pc := 34) B 3 dX1_look_34 rfl ?_
        refine x_callSN (rest := []) (st' := [.int (atv (y5.2.1 12) 120 y5.1)]) (pc := 36) B (T_CF_at 12 120 y5.1 ai_12 (by decide) y5.2) tw_575 tw_656 tw_574 tw_98 hd_CF_at ⟨Nat.le_of_ble_eq_true rfl, Nat.le_of_ble_eq_true rfl⟩ rfl rfl (Nat.le_of_ble_eq_true rfl) rfl dX1_look_36 ?_
        refine x_istore (lv' := [(5, .int (atv (y5.2.1 12) 120 y5.1)), (0, .ref (ad 7)), (1, .int a1), (3, .int u3), (4, .int y5.1)]) (pc := 39) B dX1_look_39 (by decide) rfl ?_
        refine x_aload_n (pc := 41) B 1 dX1_look_41 rfl rfl ?_
        refine x_get (T := TX1) (pc := 42) B 0 oi_7 rfl uw_1 (by decide) rfl tw_175 rfl dX1_look_42 ?_
        refine x_iload (pc := 45) B 4 dX1_look_45 rfl ?_
        refine x_callSN (rest := []) (st' := [.int (atv (y5.2.1 8) 120 y5.1)]) (pc := 47) B (T_CF_at 8 120 y5.1 ai_8 (by decide) y5.2) tw_575 tw_656 tw_574 tw_98 hd_CF_at ⟨Nat.le_of_ble_eq_true rfl, Nat.le_of_ble_eq_true rfl⟩ rfl rfl (Nat.le_of_ble_eq_true rfl) rfl dX1_look_47 ?_
        refine x_istore (lv' := [(6, .int (atv (y5.2.1 8) 120 y5.1)), (5, .int (atv (y5.2.1 12) 120 y5.1)), (0, .ref (ad 7)), (1, .int a1), (3, .int u3), (4, .int y5.1)]) (pc := 50) B dX1_look_50 (by decide) rfl ?_
        refine x_aload_n (pc := 52) B 2 dX1_look_52 rfl rfl ?_
        refine x_get (T := TX1) (pc := 53) B 1 oi_7 rfl uw_1 (by decide) rfl tw_176 rfl dX1_look_53 ?_
        refine x_iload (pc := 56) B 5 dX1_look_56 rfl ?_
        refine x_callSN (rest := []) (st' := [.int (atv (y5.2.1 9) 120 y5.1)]) (pc := 58) B (T_CF_at 9 120 y5.1 ai_9 (by decide) y5.2) tw_575 tw_656 tw_574 tw_98 hd_CF_at ⟨Nat.le_of_ble_eq_true rfl, Nat.le_of_ble_eq_true rfl⟩ rfl rfl (Nat.le_of_ble_eq_true rfl) rfl dX1_look_58 ?_
        refine x_iconst (v := 5) (pc := 61) B dX1_look_61 rfl ?_
        refine jv_k h (fun (u9 : Bool) => XX D ad cI cJ p l e (Rm 1 23) s m args below meth c Q 9 y5.2 81 [(0, .ref (ad 7)), (1, .int a1), (3, .int u3), (4, .int y5.1), (6, .int (atv (y5.2.1 8) 120 y5.1))] [.int (bI u9)]) (fun u9 h => ?_) (fun JJ => ?_)
        · refine x_istore (lv' := [(7, .int (bI u9)), (0, .ref (ad 7)), (1, .int a1), (3, .int u3), (4, .int y5.1), (6, .int (atv (y5.2.1 8) 120 y5.1))]) (pc := 81) B dX1_look_81 (by decide) rfl ?_
          refine x_iload (pc := 83) B 0 dX1_look_83 rfl ?_
          refine x_if_eq_b (tgt := 152) (pc := 85) B dX1_look_85 rfl (fun hc10 => ?_) (fun hc10 => ?_)
          · have h := iff_ hc10 h
            refine x_iinc (k := 4) (v := y5.1 + 1) (lv' := [(4, .int (y5.1 + 1)), (7, .int (bI u9)), (0, .ref (ad 7)), (1, .int a1), (3, .int u3), (6, .int (atv (y5.2.1 8) 120 y5.1))]) (pc := 152) B dX1_look_152 rfl rfl (by decide) rfl ?_
            refine x_goto (tgt := 24) (pc := 155) B dX1_look_155 rfl ?_
            refine x_pick (lv' := [(0, .ref (ad 7)), (1, .int a1), (3, .int u3), (4, .int (y5.1 + 1))]) [2, 3, 4, 0] rfl ?_
            have z := hback (y5.1 + 1, y5.2) (Option.some.inj h).symm
            exact z
          · have h := ift hc10 h
            refine x_aload_n (pc := 88) B 1 dX1_look_88 rfl rfl ?_
            refine x_get (T := TX1) (pc := 89) B 2 oi_7 rfl uw_1 (by decide) rfl tw_177 rfl dX1_look_89 ?_
            refine x_iload (pc := 92) B 4 dX1_look_92 rfl ?_
            refine x_callSN (rest := []) (st' := [.int (atv (y5.2.1 10) 120 y5.1)]) (pc := 94) B (T_CF_at 10 120 y5.1 ai_10 (by decide) y5.2) tw_575 tw_656 tw_574 tw_98 hd_CF_at ⟨Nat.le_of_ble_eq_true rfl, Nat.le_of_ble_eq_true rfl⟩ rfl rfl (Nat.le_of_ble_eq_true rfl) rfl dX1_look_94 ?_
            refine x_iload_n (pc := 97) B 2 dX1_look_97 rfl rfl ?_
            refine x_icmp_le (tgt := 104) (pc := 98) B dX1_look_98 rfl (fun hc11 => ?_) (fun hc11 => ?_)
            · have h := ift hc11 h
              refine x_aload_n (pc := 104) B 1 dX1_look_104 rfl rfl ?_
              refine x_get (T := TX1) (pc := 105) B 6 oi_7 rfl uw_1 (by decide) rfl tw_182 rfl dX1_look_105 ?_
              refine x_iload (pc := 108) B 5 dX1_look_108 rfl ?_
              refine x_callSN (rest := []) (st' := [.int (atv (y5.2.1 13) 10 (atv (y5.2.1 8) 120 y5.1))]) (pc := 110) B (T_CF_at 13 10 (atv (y5.2.1 8) 120 y5.1) ai_13 (by decide) y5.2) tw_575 tw_656 tw_574 tw_98 hd_CF_at ⟨Nat.le_of_ble_eq_true rfl, Nat.le_of_ble_eq_true rfl⟩ rfl rfl (Nat.le_of_ble_eq_true rfl) rfl dX1_look_110 ?_
              refine x_istore (lv' := [(8, .int (atv (y5.2.1 13) 10 (atv (y5.2.1 8) 120 y5.1))), (7, .int (bI u9)), (0, .ref (ad 7)), (1, .int a1), (3, .int u3), (4, .int y5.1), (6, .int (atv (y5.2.1 8) 120 y5.1))]) (pc := 113) B dX1_look_113 (by decide) rfl ?_
              refine x_iload (pc := 115) B 0 dX1_look_115 rfl ?_
              refine x_if_lt (tgt := 141) (pc := 117) B dX1_look_117 rfl (fun hc12 => ?_) (fun hc12 => ?_)
              · have h := ift hc12 h
                refine x_aload_n (pc := 141) B 2 dX1_look_141 rfl rfl ?_
                refine x_get (T := TX1) (pc := 142) B 6 oi_7 rfl uw_1 (by decide) rfl tw_182 rfl dX1_look_142 ?_
                refine x_iload (pc := 145) B 6 dX1_look_145 rfl ?_
                refine x_iload (pc := 147) B 5 dX1_look_147 rfl ?_
                refine x_callSN (rest := []) (st' := []) (pc := 149) B (T_CF_put 13 10 (atv (y5.2.1 8) 120 y5.1) y5.1 ai_13 (by decide) y5.2) tw_588 tw_647 tw_587 tw_98 hd_CF_put ⟨Nat.le_of_ble_eq_true rfl, Nat.le_of_ble_eq_true rfl⟩ rfl rfl (Nat.le_of_ble_eq_true rfl) rfl dX1_look_149 ?_
                refine jv_m (P := fun M15 => XX D ad cI cJ p l e (Rm 1 23) s m args below meth c Q 9 M15 152 [(8, .int (atv (y5.2.1 13) 10 (atv (y5.2.1 8) 120 y5.1))), (7, .int (bI u9)), (0, .ref (ad 7)), (1, .int a1), (3, .int u3), (4, .int y5.1), (6, .int (atv (y5.2.1 8) 120 y5.1))] []) h (fun M15 h => ?_)
                refine x_iinc (k := 5) (v := y5.1 + 1) (lv' := [(4, .int (y5.1 + 1)), (8, .int (atv (y5.2.1 13) 10 (atv (y5.2.1 8) 120 y5.1))), (7, .int (bI u9)), (0, .ref (ad 7)), (1, .int a1), (3, .int u3), (6, .int (atv (y5.2.1 8) 120 y5.1))]) (pc := 152) B dX1_look_152 rfl rfl (by decide) rfl ?_
                refine x_goto (tgt := 24) (pc := 155) B dX1_look_155 rfl ?_
                refine x_pick (lv' := [(0, .ref (ad 7)), (1, .int a1), (3, .int u3), (4, .int (y5.1 + 1))]) [3, 4, 5, 0] rfl ?_
                have z := hback (y5.1 + 1, M15) (Option.some.inj h).symm
                exact z
              · have h := iff_ hc12 h
                refine x_aload_n (pc := 120) B 2 dX1_look_120 rfl rfl ?_
                refine x_get (T := TX1) (pc := 121) B 2 oi_7 rfl uw_1 (by decide) rfl tw_177 rfl dX1_look_121 ?_
                refine x_iload (pc := 124) B 5 dX1_look_124 rfl ?_
                refine x_callSN (rest := []) (st' := [.int (atv (y5.2.1 10) 120 y5.1)]) (pc := 126) B (T_CF_at 10 120 y5.1 ai_10 (by decide) y5.2) tw_575 tw_656 tw_574 tw_98 hd_CF_at ⟨Nat.le_of_ble_eq_true rfl, Nat.le_of_ble_eq_true rfl⟩ rfl rfl (Nat.le_of_ble_eq_true rfl) rfl dX1_look_126 ?_
                refine x_aload_n (pc := 129) B 2 dX1_look_129 rfl rfl ?_
                refine x_get (T := TX1) (pc := 130) B 2 oi_7 rfl uw_1 (by decide) rfl tw_177 rfl dX1_look_130 ?_
                refine x_iload (pc := 133) B 0 dX1_look_133 rfl ?_
                refine x_callSN (rest := [.int (atv (y5.2.1 10) 120 y5.1)]) (st' := [.int (atv (y5.2.1 10) 120 (atv (y5.2.1 13) 10 (atv (y5.2.1 8) 120 y5.1))), .int (atv (y5.2.1 10) 120 y5.1)]) (pc := 135) B (T_CF_at 10 120 (atv (y5.2.1 13) 10 (atv (y5.2.1 8) 120 y5.1)) ai_10 (by decide) y5.2) tw_575 tw_656 tw_574 tw_98 hd_CF_at ⟨Nat.le_of_ble_eq_true rfl, Nat.le_of_ble_eq_true rfl⟩ rfl rfl (Nat.le_of_ble_eq_true rfl) rfl dX1_look_135 ?_
                refine x_icmp_lt (tgt := 152) (pc := 138) B dX1_look_138 rfl (fun hc13 => ?_) (fun hc13 => ?_)
                · have h := ift hc13 h
                  refine x_iinc (k := 5) (v := y5.1 + 1) (lv' := [(4, .int (y5.1 + 1)), (8, .int (atv (y5.2.1 13) 10 (atv (y5.2.1 8) 120 y5.1))), (7, .int (bI u9)), (0, .ref (ad 7)), (1, .int a1), (3, .int u3), (6, .int (atv (y5.2.1 8) 120 y5.1))]) (pc := 152) B dX1_look_152 rfl rfl (by decide) rfl ?_
                  refine x_goto (tgt := 24) (pc := 155) B dX1_look_155 rfl ?_
                  refine x_pick (lv' := [(0, .ref (ad 7)), (1, .int a1), (3, .int u3), (4, .int (y5.1 + 1))]) [3, 4, 5, 0] rfl ?_
                  have z := hback (y5.1 + 1, y5.2) (Option.some.inj h).symm
                  exact z
                · have h := iff_ hc13 h
                  refine x_aload_n (pc := 141) B 2 dX1_look_141 rfl rfl ?_
                  refine x_get (T := TX1) (pc := 142) B 6 oi_7 rfl uw_1 (by decide) rfl tw_182 rfl dX1_look_142 ?_
                  refine x_iload (pc := 145) B 6 dX1_look_145 rfl ?_
                  refine x_iload (pc := 147) B 5 dX1_look_147 rfl ?_
                  refine x_callSN (rest := []) (st' := []) (pc := 149) B (T_CF_put 13 10 (atv (y5.2.1 8) 120 y5.1) y5.1 ai_13 (by decide) y5.2) tw_588 tw_647 tw_587 tw_98 hd_CF_put ⟨Nat.le_of_ble_eq_true rfl, Nat.le_of_ble_eq_true rfl⟩ rfl rfl (Nat.le_of_ble_eq_true rfl) rfl dX1_look_149 ?_
                  refine jv_m (P := fun M14 => XX D ad cI cJ p l e (Rm 1 23) s m args below meth c Q 9 M14 152 [(8, .int (atv (y5.2.1 13) 10 (atv (y5.2.1 8) 120 y5.1))), (7, .int (bI u9)), (0, .ref (ad 7)), (1, .int a1), (3, .int u3), (4, .int y5.1), (6, .int (atv (y5.2.1 8) 120 y5.1))] []) h (fun M14 h => ?_)
                  refine x_iinc (k := 5) (v := y5.1 + 1) (lv' := [(4, .int (y5.1 + 1)), (8, .int (atv (y5.2.1 13) 10 (atv (y5.2.1 8) 120 y5.1))), (7, .int (bI u9)), (0, .ref (ad 7)), (1, .int a1), (3, .int u3), (6, .int (atv (y5.2.1 8) 120 y5.1))]) (pc := 152) B dX1_look_152 rfl rfl (by decide) rfl ?_
                  refine x_goto (tgt := 24) (pc := 155) B dX1_look_155 rfl ?_
                  refine x_pick (lv' := [(0, .ref (ad 7)), (1, .int a1), (3, .int u3), (4, .int (y5.1 + 1))]) [3, 4, 5, 0] rfl ?_
                  have z := hback (y5.1 + 1, M14) (Option.some.inj h).symm
                  exact z
            · have h := iff_ hc11 h
              refine x_goto (tgt := 152) (pc := 101) B dX1_look_101 rfl ?_
              refine x_iinc (k := 4) (v := y5.1 + 1) (lv' := [(4, .int (y5.1 + 1)), (7, .int (bI u9)), (0, .ref (ad 7)), (1, .int a1), (3, .int u3), (6, .int (atv (y5.2.1 8) 120 y5.1))]) (pc := 152) B dX1_look_152 rfl rfl (by decide) rfl ?_
              refine x_goto (tgt := 24) (pc := 155) B dX1_look_155 rfl ?_
              refine x_pick (lv' := [(0, .ref (ad 7)), (1, .int a1), (3, .int u3), (4, .int (y5.1 + 1))]) [2, 3, 4, 0] rfl ?_
              have z := hback (y5.1 + 1, y5.2) (Option.some.inj h).symm
              exact z
        · refine x_icmp_eq (tgt := 80) (pc := 62) B dX1_look_62 rfl (fun hc7 => ?_) (fun hc7 => ?_)
          · refine x_iconst (v := 0) (pc := 80) B dX1_look_80 rfl ?_
            refine x_pick (lv' := [(0, .ref (ad 7)), (1, .int a1), (3, .int u3), (4, .int y5.1), (6, .int (atv (y5.2.1 8) 120 y5.1))]) [2, 3, 4, 5, 0] rfl ?_
            have z := JJ false (znand_t hc7)
            exact z
          · refine x_iload (pc := 65) B 1 dX1_look_65 rfl ?_
            refine x_if_eq (tgt := 76) (pc := 67) B dX1_look_67 rfl (fun hc16 => ?_) (fun hc16 => ?_)
            · refine x_iconst (v := 1) (pc := 76) B dX1_look_76 rfl ?_
              refine x_goto (tgt := 81) (pc := 77) B dX1_look_77 rfl ?_
              refine x_pick (lv' := [(0, .ref (ad 7)), (1, .int a1), (3, .int u3), (4, .int y5.1), (6, .int (atv (y5.2.1 8) 120 y5.1))]) [2, 3, 4, 5, 0] rfl ?_
              have z := JJ true ((znand_f hc7).trans (zor_t hc16))
              exact z
            · refine x_iload (pc := 70) B 1 dX1_look_70 rfl ?_
              refine x_iload_n (pc := 72) B 4 dX1_look_72 rfl rfl ?_
              refine x_icmp_lt (tgt := 80) (pc := 73) B dX1_look_73 rfl (fun hc17 => ?_) (fun hc17 => ?_)
              · refine x_iconst (v := 0) (pc := 80) B dX1_look_80 rfl ?_
                refine x_pick (lv' := [(0, .ref (ad 7)), (1, .int a1), (3, .int u3), (4, .int y5.1), (6, .int (atv (y5.2.1 8) 120 y5.1))]) [2, 3, 4, 5, 0] rfl ?_
                have z := JJ false ((znand_f hc7).trans ((zor_f hc16).trans (znid_t hc17)))
                exact z
              · refine x_iconst (v := 1) (pc := 76) B dX1_look_76 rfl ?_
                refine x_goto (tgt := 81) (pc := 77) B dX1_look_77 rfl ?_
                refine x_pick (lv' := [(0, .ref (ad 7)), (1, .int a1), (3, .int u3), (4, .int y5.1), (6, .int (atv (y5.2.1 8) 120 y5.1))]) [2, 3, 4, 5, 0] rfl ?_
                have z := JJ true ((znand_f hc7).trans ((zor_f hc16).trans (znid_f hc17)))
                exact z
    · obtain rfl := Option.some.inj h
      exact x_vret (pc := 158) B hQ dX1_look_158
  · refine x_if_ge (tgt := 11) (pc := 1) B dX1_look_1 rfl (fun hc1 => ?_) (fun hc1 => ?_)
    · refine x_iload_n (pc := 11) B 2 dX1_look_11 rfl rfl ?_
      refine x_pick (lv' := [(0, .ref (ad 7)), (1, .int a1)]) [0, 1] rfl ?_
      have z := JJ a2 ((zif_f hc1).trans rfl)
      exact z
    · refine x_aload_n (pc := 4) B 0 dX1_look_4 rfl rfl ?_
      refine x_get (T := TX1) (pc := 5) B 5 oi_7 rfl uw_1 (by decide) rfl tw_180 rfl dX1_look_5 ?_
      refine x_goto (tgt := 12) (pc := 8) B dX1_look_8 rfl ?_
      refine x_pick (lv' := [(0, .ref (ad 7)), (1, .int a1)]) [0, 1] rfl ?_
      have z := JJ (M0.1 7 5) ((zif_t hc1).trans rfl)
      exact z
-- CurrentFarms$Book.decided(I)I [7]
abbrev y_Book_decided_7 : MethodName := ⟨"CurrentFarms$Book", "decided", "(I)I"⟩
abbrev cX1_decided : ByteArray := prog_3_method_7_code
theorem dX1_decided_0 : decode cX1_decided 0 = .ok (.aload_n 0, 1) := by decide +kernel
theorem dX1_decided_1 : decode cX1_decided 1 = .ok (.getfield 27, 3) := by decide +kernel
theorem dX1_decided_4 : decode cX1_decided 4 = .ok (.iload_n 1, 1) := by decide +kernel
theorem dX1_decided_5 : decode cX1_decided 5 = .ok (.invokestatic 42, 3) := by decide +kernel
theorem dX1_decided_8 : decode cX1_decided 8 = .ok (.istore_n 2, 1) := by decide +kernel
theorem dX1_decided_9 : decode cX1_decided 9 = .ok (.iload_n 2, 1) := by decide +kernel
theorem dX1_decided_10 : decode cX1_decided 10 = .ok (.ifCond .ge 7, 3) := by decide +kernel
theorem dX1_decided_13 : decode cX1_decided 13 = .ok (.iconst (-1), 1) := by decide +kernel
theorem dX1_decided_14 : decode cX1_decided 14 = .ok (.goto 11, 3) := by decide +kernel
theorem dX1_decided_17 : decode cX1_decided 17 = .ok (.aload_n 0, 1) := by decide +kernel
theorem dX1_decided_18 : decode cX1_decided 18 = .ok (.getfield 15, 3) := by decide +kernel
theorem dX1_decided_21 : decode cX1_decided 21 = .ok (.iload_n 2, 1) := by decide +kernel
theorem dX1_decided_22 : decode cX1_decided 22 = .ok (.invokestatic 42, 3) := by decide +kernel
theorem dX1_decided_25 : decode cX1_decided 25 = .ok (.ireturn, 1) := by decide +kernel
theorem hd_Book_decided_7 : y_Book_decided_7.cls ≠ "java/lang/invoke/MethodHandle" ∧ y_Book_decided_7.cls ≠ "java/lang/invoke/VarHandle" ∧ (parseMethodDescriptor y_Book_decided_7.desc).map (fun d => d.parameters.length) = some 1 := by decide +kernel
def f_Book_decided_7 (a1 : Int32) (M0 : Mem) : Option (Int32) :=
  if decide ((atv (M0.1 13) 10 a1) < 0) then (some (-1)) else (some (atv (M0.1 9) 120 (atv (M0.1 13) 10 a1)))
set_option maxHeartbeats 4000000 in
set_option maxRecDepth 20000 in
theorem C_Book_decided_7 {D : va_G} {ad adK adV : Nat → Nat} {cI cJ : ClassId} {l : Launch} (a1 : Int32) (M0 : Mem) (o : Int32) (h : f_Book_decided_7 a1 M0 = some o) : Ct D ad adK adV cI cJ l y_Book_decided_7 cX1_decided 3 (some .int) 1 21 [.ref (ad 7), .int a1] M0 (some (.int o)) M0 := by
  refine x_start (lv := [(0, .ref (ad 7)), (1, .int a1)]) (own := "CurrentFarms$Book") rfl (by decide) (Nat.le_of_ble_eq_true rfl) rfl ?_
  intro p e s m args below meth c Q hQ B
  unfold f_Book_decided_7 at h
  refine x_aload_n (pc := 0) B 0 dX1_decided_0 rfl rfl ?_
  refine x_get (T := TX1) (pc := 1) B 6 oi_7 rfl uw_1 (by decide) rfl tw_182 rfl dX1_decided_1 ?_
  refine x_iload_n (pc := 4) B 1 dX1_decided_4 rfl rfl ?_
  refine x_callSN (rest := []) (st' := [.int (atv (M0.1 13) 10 a1)]) (pc := 5) B (T_CF_at 13 10 a1 ai_13 (by decide) M0) tw_575 tw_656 tw_574 tw_98 hd_CF_at ⟨Nat.le_of_ble_eq_true rfl, Nat.le_of_ble_eq_true rfl⟩ rfl rfl (Nat.le_of_ble_eq_true rfl) rfl dX1_decided_5 ?_
  refine x_istore_n (lv' := [(2, .int (atv (M0.1 13) 10 a1)), (0, .ref (ad 7)), (1, .int a1)]) (pc := 8) B dX1_decided_8 rfl (by decide) rfl ?_
  refine x_iload_n (pc := 9) B 0 dX1_decided_9 rfl rfl ?_
  refine x_if_ge (tgt := 17) (pc := 10) B dX1_decided_10 rfl (fun hc1 => ?_) (fun hc1 => ?_)
  · have h := iff_ hc1 h
    refine x_aload_n (pc := 17) B 1 dX1_decided_17 rfl rfl ?_
    refine x_get (T := TX1) (pc := 18) B 1 oi_7 rfl uw_1 (by decide) rfl tw_176 rfl dX1_decided_18 ?_
    refine x_iload_n (pc := 21) B 0 dX1_decided_21 rfl rfl ?_
    refine x_callSN (rest := []) (st' := [.int (atv (M0.1 9) 120 (atv (M0.1 13) 10 a1))]) (pc := 22) B (T_CF_at 9 120 (atv (M0.1 13) 10 a1) ai_9 (by decide) M0) tw_575 tw_656 tw_574 tw_98 hd_CF_at ⟨Nat.le_of_ble_eq_true rfl, Nat.le_of_ble_eq_true rfl⟩ rfl rfl (Nat.le_of_ble_eq_true rfl) rfl dX1_decided_22 ?_
    obtain rfl := Option.some.inj h
    exact x_iret (pc := 25) B hQ dX1_decided_25
  · have h := ift hc1 h
    refine x_iconst (v := (-1)) (pc := 13) B dX1_decided_13 rfl ?_
    refine x_goto (tgt := 25) (pc := 14) B dX1_decided_14 rfl ?_
    obtain rfl := Option.some.inj h
    exact x_iret (pc := 25) B hQ dX1_decided_25
-- CurrentFarms$Book.reached(I)I [7]
abbrev y_Book_reached_7 : MethodName := ⟨"CurrentFarms$Book", "reached", "(I)I"⟩
abbrev cX1_reached : ByteArray := prog_3_method_11_code
theorem dX1_reached_0 : decode cX1_reached 0 = .ok (.iconst 0, 1) := by decide +kernel
theorem dX1_reached_1 : decode cX1_reached 1 = .ok (.istore_n 2, 1) := by decide +kernel
theorem dX1_reached_2 : decode cX1_reached 2 = .ok (.iconst 0, 1) := by decide +kernel
theorem dX1_reached_3 : decode cX1_reached 3 = .ok (.istore_n 3, 1) := by decide +kernel
theorem dX1_reached_4 : decode cX1_reached 4 = .ok (.iload_n 3, 1) := by decide +kernel
theorem dX1_reached_5 : decode cX1_reached 5 = .ok (.bipush 10, 2) := by decide +kernel
theorem dX1_reached_7 : decode cX1_reached 7 = .ok (.if_icmp .ge 68, 3) := by decide +kernel
theorem dX1_reached_10 : decode cX1_reached 10 = .ok (.aload_n 0, 1) := by decide +kernel
theorem dX1_reached_11 : decode cX1_reached 11 = .ok (.getfield 27, 3) := by decide +kernel
theorem dX1_reached_14 : decode cX1_reached 14 = .ok (.iload_n 3, 1) := by decide +kernel
theorem dX1_reached_15 : decode cX1_reached 15 = .ok (.invokestatic 42, 3) := by decide +kernel
theorem dX1_reached_18 : decode cX1_reached 18 = .ok (.istore 4, 2) := by decide +kernel
theorem dX1_reached_20 : decode cX1_reached 20 = .ok (.iload 4, 2) := by decide +kernel
theorem dX1_reached_22 : decode cX1_reached 22 = .ok (.ifCond .lt 20, 3) := by decide +kernel
theorem dX1_reached_25 : decode cX1_reached 25 = .ok (.aload_n 0, 1) := by decide +kernel
theorem dX1_reached_26 : decode cX1_reached 26 = .ok (.getfield 15, 3) := by decide +kernel
theorem dX1_reached_29 : decode cX1_reached 29 = .ok (.iload 4, 2) := by decide +kernel
theorem dX1_reached_31 : decode cX1_reached 31 = .ok (.invokestatic 42, 3) := by decide +kernel
theorem dX1_reached_34 : decode cX1_reached 34 = .ok (.iconst 1, 1) := by decide +kernel
theorem dX1_reached_35 : decode cX1_reached 35 = .ok (.if_icmp .ne 7, 3) := by decide +kernel
theorem dX1_reached_38 : decode cX1_reached 38 = .ok (.iconst 1, 1) := by decide +kernel
theorem dX1_reached_39 : decode cX1_reached 39 = .ok (.goto 4, 3) := by decide +kernel
theorem dX1_reached_42 : decode cX1_reached 42 = .ok (.iconst 0, 1) := by decide +kernel
theorem dX1_reached_43 : decode cX1_reached 43 = .ok (.istore 5, 2) := by decide +kernel
theorem dX1_reached_45 : decode cX1_reached 45 = .ok (.iload 5, 2) := by decide +kernel
theorem dX1_reached_47 : decode cX1_reached 47 = .ok (.ifCond .eq 22, 3) := by decide +kernel
theorem dX1_reached_50 : decode cX1_reached 50 = .ok (.aload_n 0, 1) := by decide +kernel
theorem dX1_reached_51 : decode cX1_reached 51 = .ok (.getfield 21, 3) := by decide +kernel
theorem dX1_reached_54 : decode cX1_reached 54 = .ok (.iload 4, 2) := by decide +kernel
theorem dX1_reached_56 : decode cX1_reached 56 = .ok (.invokestatic 42, 3) := by decide +kernel
theorem dX1_reached_59 : decode cX1_reached 59 = .ok (.iload_n 1, 1) := by decide +kernel
theorem dX1_reached_60 : decode cX1_reached 60 = .ok (.if_icmp .gt 9, 3) := by decide +kernel
theorem dX1_reached_63 : decode cX1_reached 63 = .ok (.iload_n 2, 1) := by decide +kernel
theorem dX1_reached_64 : decode cX1_reached 64 = .ok (.iconst 1, 1) := by decide +kernel
theorem dX1_reached_65 : decode cX1_reached 65 = .ok (.iload_n 3, 1) := by decide +kernel
theorem dX1_reached_66 : decode cX1_reached 66 = .ok (.ishl, 1) := by decide +kernel
theorem dX1_reached_67 : decode cX1_reached 67 = .ok (.ior, 1) := by decide +kernel
theorem dX1_reached_68 : decode cX1_reached 68 = .ok (.istore_n 2, 1) := by decide +kernel
theorem dX1_reached_69 : decode cX1_reached 69 = .ok (.iinc 3 1, 3) := by decide +kernel
theorem dX1_reached_72 : decode cX1_reached 72 = .ok (.goto (-68), 3) := by decide +kernel
theorem dX1_reached_75 : decode cX1_reached 75 = .ok (.iload_n 2, 1) := by decide +kernel
theorem dX1_reached_76 : decode cX1_reached 76 = .ok (.ireturn, 1) := by decide +kernel
theorem hd_Book_reached_7 : y_Book_reached_7.cls ≠ "java/lang/invoke/MethodHandle" ∧ y_Book_reached_7.cls ≠ "java/lang/invoke/VarHandle" ∧ (parseMethodDescriptor y_Book_reached_7.desc).map (fun d => d.parameters.length) = some 1 := by decide +kernel
def b_Book_reached_7_4 (a1 : Int32) (M0 : Mem) (y1 : Int32 × Int32) : Option ((Int32 × Int32) ⊕ (Int32)) :=
  if decide (y1.2 < 10) then (jv_ ((!(decide ((atv (M0.1 13) 10 y1.2) < 0)) && (decide ((atv (M0.1 9) 120 (atv (M0.1 13) 10 y1.2)) = 1))) : Bool) fun u5 => if u5 then (if decide ((atv (M0.1 11) 120 (atv (M0.1 13) 10 y1.2)) ≤ a1) then (some (.inl (y1.1 ||| (1 <<< (y1.2 &&& 31)), y1.2 + 1))) else (some (.inl (y1.1, y1.2 + 1)))) else (some (.inl (y1.1, y1.2 + 1)))) else (some (.inr y1.1))
def f_Book_reached_7 (a1 : Int32) (M0 : Mem) : Option (Int32) :=
  (itr (b_Book_reached_7_4 a1 M0) FU (0, 0)).bind fun q9 => some q9
set_option maxHeartbeats 4000000 in
set_option maxRecDepth 20000 in
theorem C_Book_reached_7 {D : va_G} {ad adK adV : Nat → Nat} {cI cJ : ClassId} {l : Launch} (a1 : Int32) (M0 : Mem) (o : Int32) (h : f_Book_reached_7 a1 M0 = some o) : Ct D ad adK adV cI cJ l y_Book_reached_7 cX1_reached 6 (some .int) 1 21 [.ref (ad 7), .int a1] M0 (some (.int o)) M0 := by
  refine x_start (lv := [(0, .ref (ad 7)), (1, .int a1)]) (own := "CurrentFarms$Book") rfl (by decide) (Nat.le_of_ble_eq_true rfl) rfl ?_
  intro p e s m args below meth c Q hQ B
  unfold f_Book_reached_7 at h
  refine x_iconst (v := 0) (pc := 0) B dX1_reached_0 rfl ?_
  refine x_istore_n (lv' := [(2, .int 0), (0, .ref (ad 7)), (1, .int a1)]) (pc := 1) B dX1_reached_1 rfl (by decide) rfl ?_
  refine x_iconst (v := 0) (pc := 2) B dX1_reached_2 rfl ?_
  refine x_istore_n (lv' := [(3, .int 0), (2, .int 0), (0, .ref (ad 7)), (1, .int a1)]) (pc := 3) B dX1_reached_3 rfl (by decide) rfl ?_
  refine x_pick (lv' := [(0, .ref (ad 7)), (1, .int a1), (2, .int 0), (3, .int 0)]) [2, 3, 1, 0] rfl ?_
  obtain ⟨q9, hq9, h⟩ := bnd h
  refine x_loop (Head := fun (y1 : Int32 × Int32) => XX D ad cI cJ p l e (Rm 1 21) s m args below meth c Q 6 M0 4 [(0, .ref (ad 7)), (1, .int a1), (2, .int y1.1), (3, .int y1.2)] []) (Ex := fun (q9 : Int32) => XX D ad cI cJ p l e (Rm 1 21) s m args below meth c Q 6 M0 75 [(2, .int q9)] []) (fun y1 r h hback hexit => ?_) FU _ q9 hq9 ?_
  · unfold b_Book_reached_7_4 at h
    refine x_iload_n (pc := 4) B 3 dX1_reached_4 rfl rfl ?_
    refine x_bipush (v := 10) (pc := 5) B dX1_reached_5 rfl ?_
    refine x_icmp_ge (tgt := 75) (pc := 7) B dX1_reached_7 rfl (fun hc2 => ?_) (fun hc2 => ?_)
    · have h := iff_ hc2 h
      refine x_pick (lv' := [(2, .int y1.1)]) [2] rfl ?_
      have z := hexit y1.1 (Option.some.inj h).symm
      exact z
    · have h := ift hc2 h
      refine x_aload_n (pc := 10) B 0 dX1_reached_10 rfl rfl ?_
      refine x_get (T := TX1) (pc := 11) B 6 oi_7 rfl uw_1 (by decide) rfl tw_182 rfl dX1_reached_11 ?_
      refine x_iload_n (pc := 14) B 3 dX1_reached_14 rfl rfl ?_
      refine x_callSN (rest := []) (st' := [.int (atv (M0.1 13) 10 y1.2)]) (pc := 15) B (T_CF_at 13 10 y1.2 ai_13 (by decide) M0) tw_575 tw_656 tw_574 tw_98 hd_CF_at ⟨Nat.le_of_ble_eq_true rfl, Nat.le_of_ble_eq_true rfl⟩ rfl rfl (Nat.le_of_ble_eq_true rfl) rfl dX1_reached_15 ?_
      refine x_istore (lv' := [(4, .int (atv (M0.1 13) 10 y1.2)), (0, .ref (ad 7)), (1, .int a1), (2, .int y1.1), (3, .int y1.2)]) (pc := 18) B dX1_reached_18 (by decide) rfl ?_
      refine x_iload (pc := 20) B 0 dX1_reached_20 rfl ?_
      refine jv_k h (fun (u5 : Bool) => XX D ad cI cJ p l e (Rm 1 21) s m args below meth c Q 6 M0 43 [(0, .ref (ad 7)), (1, .int a1), (2, .int y1.1), (3, .int y1.2), (4, .int (atv (M0.1 13) 10 y1.2))] [.int (bI u5)]) (fun u5 h => ?_) (fun JJ => ?_)
      · refine x_istore (lv' := [(5, .int (bI u5)), (0, .ref (ad 7)), (1, .int a1), (2, .int y1.1), (3, .int y1.2), (4, .int (atv (M0.1 13) 10 y1.2))]) (pc := 43) B dX1_reached_43 (by decide) rfl ?_
        refine x_iload (pc := 45) B 0 dX1_reached_45 rfl ?_
        refine x_if_eq_b (tgt := 69) (pc := 47) B dX1_reached_47 rfl (fun hc6 => ?_) (fun hc6 => ?_)
        · have h := iff_ hc6 h
          refine x_iinc (k := 4) (v := y1.2 + 1) (lv' := [(3, .int (y1.2 + 1)), (5, .int (bI u5)), (0, .ref (ad 7)), (1, .int a1), (2, .int y1.1), (4, .int (atv (M0.1 13) 10 y1.2))]) (pc := 69) B dX1_reached_69 rfl rfl (by decide) rfl ?_
          refine x_goto (tgt := 4) (pc := 72) B dX1_reached_72 rfl ?_
          refine x_pick (lv' := [(0, .ref (ad 7)), (1, .int a1), (2, .int y1.1), (3, .int (y1.2 + 1))]) [2, 3, 4, 0] rfl ?_
          have z := hback (y1.1, y1.2 + 1) (Option.some.inj h).symm
          exact z
        · have h := ift hc6 h
          refine x_aload_n (pc := 50) B 1 dX1_reached_50 rfl rfl ?_
          refine x_get (T := TX1) (pc := 51) B 3 oi_7 rfl uw_1 (by decide) rfl tw_178 rfl dX1_reached_51 ?_
          refine x_iload (pc := 54) B 5 dX1_reached_54 rfl ?_
          refine x_callSN (rest := []) (st' := [.int (atv (M0.1 11) 120 (atv (M0.1 13) 10 y1.2))]) (pc := 56) B (T_CF_at 11 120 (atv (M0.1 13) 10 y1.2) ai_11 (by decide) M0) tw_575 tw_656 tw_574 tw_98 hd_CF_at ⟨Nat.le_of_ble_eq_true rfl, Nat.le_of_ble_eq_true rfl⟩ rfl rfl (Nat.le_of_ble_eq_true rfl) rfl dX1_reached_56 ?_
          refine x_iload_n (pc := 59) B 2 dX1_reached_59 rfl rfl ?_
          refine x_icmp_gt (tgt := 69) (pc := 60) B dX1_reached_60 rfl (fun hc7 => ?_) (fun hc7 => ?_)
          · have h := iff_ hc7 h
            refine x_iinc (k := 4) (v := y1.2 + 1) (lv' := [(3, .int (y1.2 + 1)), (5, .int (bI u5)), (0, .ref (ad 7)), (1, .int a1), (2, .int y1.1), (4, .int (atv (M0.1 13) 10 y1.2))]) (pc := 69) B dX1_reached_69 rfl rfl (by decide) rfl ?_
            refine x_goto (tgt := 4) (pc := 72) B dX1_reached_72 rfl ?_
            refine x_pick (lv' := [(0, .ref (ad 7)), (1, .int a1), (2, .int y1.1), (3, .int (y1.2 + 1))]) [2, 3, 4, 0] rfl ?_
            have z := hback (y1.1, y1.2 + 1) (Option.some.inj h).symm
            exact z
          · have h := ift hc7 h
            refine x_iload_n (pc := 63) B 3 dX1_reached_63 rfl rfl ?_
            refine x_iconst (v := 1) (pc := 64) B dX1_reached_64 rfl ?_
            refine x_iload_n (pc := 65) B 4 dX1_reached_65 rfl rfl ?_
            refine x_ishl (pc := 66) B dX1_reached_66 ?_
            refine x_ior (pc := 67) B dX1_reached_67 ?_
            refine x_istore_n (lv' := [(2, .int (y1.1 ||| (1 <<< (y1.2 &&& 31)))), (5, .int (bI u5)), (0, .ref (ad 7)), (1, .int a1), (3, .int y1.2), (4, .int (atv (M0.1 13) 10 y1.2))]) (pc := 68) B dX1_reached_68 rfl (by decide) rfl ?_
            refine x_iinc (k := 4) (v := y1.2 + 1) (lv' := [(3, .int (y1.2 + 1)), (2, .int (y1.1 ||| (1 <<< (y1.2 &&& 31)))), (5, .int (bI u5)), (0, .ref (ad 7)), (1, .int a1), (4, .int (atv (M0.1 13) 10 y1.2))]) (pc := 69) B dX1_reached_69 rfl rfl (by decide) rfl ?_
            refine x_goto (tgt := 4) (pc := 72) B dX1_reached_72 rfl ?_
            refine x_pick (lv' := [(0, .ref (ad 7)), (1, .int a1), (2, .int (y1.1 ||| (1 <<< (y1.2 &&& 31)))), (3, .int (y1.2 + 1))]) [3, 4, 1, 0] rfl ?_
            have z := hback (y1.1 ||| (1 <<< (y1.2 &&& 31)), y1.2 + 1) (Option.some.inj h).symm
            exact z
      · refine x_if_lt (tgt := 42) (pc := 22) B dX1_reached_22 rfl (fun hc3 => ?_) (fun hc3 => ?_)
        · refine x_iconst (v := 0) (pc := 42) B dX1_reached_42 rfl ?_
          refine x_pick (lv' := [(0, .ref (ad 7)), (1, .int a1), (2, .int y1.1), (3, .int y1.2), (4, .int (atv (M0.1 13) 10 y1.2))]) [1, 2, 3, 4, 0] rfl ?_
          have z := JJ false (znand_t hc3)
          exact z
        · refine x_aload_n (pc := 25) B 1 dX1_reached_25 rfl rfl ?_
          refine x_get (T := TX1) (pc := 26) B 1 oi_7 rfl uw_1 (by decide) rfl tw_176 rfl dX1_reached_26 ?_
          refine x_iload (pc := 29) B 0 dX1_reached_29 rfl ?_
          refine x_callSN (rest := []) (st' := [.int (atv (M0.1 9) 120 (atv (M0.1 13) 10 y1.2))]) (pc := 31) B (T_CF_at 9 120 (atv (M0.1 13) 10 y1.2) ai_9 (by decide) M0) tw_575 tw_656 tw_574 tw_98 hd_CF_at ⟨Nat.le_of_ble_eq_true rfl, Nat.le_of_ble_eq_true rfl⟩ rfl rfl (Nat.le_of_ble_eq_true rfl) rfl dX1_reached_31 ?_
          refine x_iconst (v := 1) (pc := 34) B dX1_reached_34 rfl ?_
          refine x_icmp_ne (tgt := 42) (pc := 35) B dX1_reached_35 rfl (fun hc8 => ?_) (fun hc8 => ?_)
          · refine x_iconst (v := 0) (pc := 42) B dX1_reached_42 rfl ?_
            refine x_pick (lv' := [(0, .ref (ad 7)), (1, .int a1), (2, .int y1.1), (3, .int y1.2), (4, .int (atv (M0.1 13) 10 y1.2))]) [1, 2, 3, 4, 0] rfl ?_
            have z := JJ false ((znand_f hc3).trans hc8)
            exact z
          · refine x_iconst (v := 1) (pc := 38) B dX1_reached_38 rfl ?_
            refine x_goto (tgt := 43) (pc := 39) B dX1_reached_39 rfl ?_
            refine x_pick (lv' := [(0, .ref (ad 7)), (1, .int a1), (2, .int y1.1), (3, .int y1.2), (4, .int (atv (M0.1 13) 10 y1.2))]) [1, 2, 3, 4, 0] rfl ?_
            have z := JJ true ((znand_f hc3).trans hc8)
            exact z
  · refine x_iload_n (pc := 75) B 0 dX1_reached_75 rfl rfl ?_
    obtain rfl := Option.some.inj h
    exact x_iret (pc := 76) B hQ dX1_reached_76
-- CurrentFarms$Book.members(II)I [7]
abbrev y_Book_members_7 : MethodName := ⟨"CurrentFarms$Book", "members", "(II)I"⟩
abbrev cX1_members : ByteArray := prog_3_method_10_code
theorem dX1_members_0 : decode cX1_members 0 = .ok (.iload_n 1, 1) := by decide +kernel
theorem dX1_members_1 : decode cX1_members 1 = .ok (.istore_n 3, 1) := by decide +kernel
theorem dX1_members_2 : decode cX1_members 2 = .ok (.iconst 0, 1) := by decide +kernel
theorem dX1_members_3 : decode cX1_members 3 = .ok (.istore 4, 2) := by decide +kernel
theorem dX1_members_5 : decode cX1_members 5 = .ok (.iload 4, 2) := by decide +kernel
theorem dX1_members_7 : decode cX1_members 7 = .ok (.bipush 10, 2) := by decide +kernel
theorem dX1_members_9 : decode cX1_members 9 = .ok (.if_icmp .ge 41, 3) := by decide +kernel
theorem dX1_members_12 : decode cX1_members 12 = .ok (.aload_n 0, 1) := by decide +kernel
theorem dX1_members_13 : decode cX1_members 13 = .ok (.iload 4, 2) := by decide +kernel
theorem dX1_members_15 : decode cX1_members 15 = .ok (.invokevirtual 60, 3) := by decide +kernel
theorem dX1_members_18 : decode cX1_members 18 = .ok (.istore 5, 2) := by decide +kernel
theorem dX1_members_20 : decode cX1_members 20 = .ok (.iload 5, 2) := by decide +kernel
theorem dX1_members_22 : decode cX1_members 22 = .ok (.ifCond .eq 15, 3) := by decide +kernel
theorem dX1_members_25 : decode cX1_members 25 = .ok (.iload 5, 2) := by decide +kernel
theorem dX1_members_27 : decode cX1_members 27 = .ok (.iconst 2, 1) := by decide +kernel
theorem dX1_members_28 : decode cX1_members 28 = .ok (.if_icmp .eq 9, 3) := by decide +kernel
theorem dX1_members_31 : decode cX1_members 31 = .ok (.iload 5, 2) := by decide +kernel
theorem dX1_members_33 : decode cX1_members 33 = .ok (.iconst 3, 1) := by decide +kernel
theorem dX1_members_34 : decode cX1_members 34 = .ok (.if_icmp .ne 10, 3) := by decide +kernel
theorem dX1_members_37 : decode cX1_members 37 = .ok (.iload_n 3, 1) := by decide +kernel
theorem dX1_members_38 : decode cX1_members 38 = .ok (.iconst 1, 1) := by decide +kernel
theorem dX1_members_39 : decode cX1_members 39 = .ok (.iload 4, 2) := by decide +kernel
theorem dX1_members_41 : decode cX1_members 41 = .ok (.ishl, 1) := by decide +kernel
theorem dX1_members_42 : decode cX1_members 42 = .ok (.ior, 1) := by decide +kernel
theorem dX1_members_43 : decode cX1_members 43 = .ok (.istore_n 3, 1) := by decide +kernel
theorem dX1_members_44 : decode cX1_members 44 = .ok (.iinc 4 1, 3) := by decide +kernel
theorem dX1_members_47 : decode cX1_members 47 = .ok (.goto (-42), 3) := by decide +kernel
theorem dX1_members_50 : decode cX1_members 50 = .ok (.iload_n 3, 1) := by decide +kernel
theorem dX1_members_51 : decode cX1_members 51 = .ok (.iload_n 2, 1) := by decide +kernel
theorem dX1_members_52 : decode cX1_members 52 = .ok (.iconst (-1), 1) := by decide +kernel
theorem dX1_members_53 : decode cX1_members 53 = .ok (.ixor, 1) := by decide +kernel
theorem dX1_members_54 : decode cX1_members 54 = .ok (.iand, 1) := by decide +kernel
theorem dX1_members_55 : decode cX1_members 55 = .ok (.istore_n 3, 1) := by decide +kernel
theorem dX1_members_56 : decode cX1_members 56 = .ok (.iconst 0, 1) := by decide +kernel
theorem dX1_members_57 : decode cX1_members 57 = .ok (.istore 4, 2) := by decide +kernel
theorem dX1_members_59 : decode cX1_members 59 = .ok (.iload 4, 2) := by decide +kernel
theorem dX1_members_61 : decode cX1_members 61 = .ok (.bipush 10, 2) := by decide +kernel
theorem dX1_members_63 : decode cX1_members 63 = .ok (.if_icmp .ge 24, 3) := by decide +kernel
theorem dX1_members_66 : decode cX1_members 66 = .ok (.iload_n 3, 1) := by decide +kernel
theorem dX1_members_67 : decode cX1_members 67 = .ok (.aload_n 0, 1) := by decide +kernel
theorem dX1_members_68 : decode cX1_members 68 = .ok (.iload_n 3, 1) := by decide +kernel
theorem dX1_members_69 : decode cX1_members 69 = .ok (.invokestatic 68, 3) := by decide +kernel
theorem dX1_members_72 : decode cX1_members 72 = .ok (.invokevirtual 73, 3) := by decide +kernel
theorem dX1_members_75 : decode cX1_members 75 = .ok (.iload_n 2, 1) := by decide +kernel
theorem dX1_members_76 : decode cX1_members 76 = .ok (.iconst (-1), 1) := by decide +kernel
theorem dX1_members_77 : decode cX1_members 77 = .ok (.ixor, 1) := by decide +kernel
theorem dX1_members_78 : decode cX1_members 78 = .ok (.iand, 1) := by decide +kernel
theorem dX1_members_79 : decode cX1_members 79 = .ok (.ior, 1) := by decide +kernel
theorem dX1_members_80 : decode cX1_members 80 = .ok (.istore_n 3, 1) := by decide +kernel
theorem dX1_members_81 : decode cX1_members 81 = .ok (.iinc 4 1, 3) := by decide +kernel
theorem dX1_members_84 : decode cX1_members 84 = .ok (.goto (-25), 3) := by decide +kernel
theorem dX1_members_87 : decode cX1_members 87 = .ok (.iload_n 3, 1) := by decide +kernel
theorem dX1_members_88 : decode cX1_members 88 = .ok (.ireturn, 1) := by decide +kernel
theorem hd_Book_members_7 : y_Book_members_7.cls ≠ "java/lang/invoke/MethodHandle" ∧ y_Book_members_7.cls ≠ "java/lang/invoke/VarHandle" ∧ (parseMethodDescriptor y_Book_members_7.desc).map (fun d => d.parameters.length) = some 2 := by decide +kernel
def b_Book_members_7_5 (M0 : Mem) (y1 : Int32 × Int32) : Option ((Int32 × Int32) ⊕ (Int32)) :=
  if decide (y1.2 < 10) then ((f_Book_decided_7 y1.2 M0).bind fun q3 => if decide (q3 = 0) then (some (.inl (y1.1 ||| (1 <<< (y1.2 &&& 31)), y1.2 + 1))) else (if decide (q3 = 2) then (some (.inl (y1.1 ||| (1 <<< (y1.2 &&& 31)), y1.2 + 1))) else (if decide (q3 = 3) then (some (.inl (y1.1 ||| (1 <<< (y1.2 &&& 31)), y1.2 + 1))) else (some (.inl (y1.1, y1.2 + 1)))))) else (some (.inr y1.1))
def b_Book_members_7_59 (a2 : Int32) (M0 : Mem) (y8 : Int32 × Int32) : Option ((Int32 × Int32) ⊕ (Int32)) :=
  if decide (y8.2 < 10) then ((f_Book_reached_7 (bcnt y8.1) M0).bind fun q10 => some (.inl (y8.1 ||| (q10 &&& (a2 ^^^ (-1))), y8.2 + 1))) else (some (.inr y8.1))
def f_Book_members_7 (a1 : Int32) (a2 : Int32) (M0 : Mem) : Option (Int32) :=
  (itr (b_Book_members_7_5 M0) FU (a1, 0)).bind fun q7 => (itr (b_Book_members_7_59 a2 M0) FU (q7 &&& (a2 ^^^ (-1)), 0)).bind fun q11 => some q11
set_option maxHeartbeats 4000000 in
set_option maxRecDepth 20000 in
theorem C_Book_members_7 {D : va_G} {ad adK adV : Nat → Nat} {cI cJ : ClassId} {l : Launch} (a1 : Int32) (a2 : Int32) (M0 : Mem) (o : Int32) (h : f_Book_members_7 a1 a2 M0 = some o) : Ct D ad adK adV cI cJ l y_Book_members_7 cX1_members 6 (some .int) 2 46 [.ref (ad 7), .int a1, .int a2] M0 (some (.int o)) M0 := by
  refine x_start (lv := [(0, .ref (ad 7)), (1, .int a1), (2, .int a2)]) (own := "CurrentFarms$Book") rfl (by decide) (Nat.le_of_ble_eq_true rfl) rfl ?_
  intro p e s m args below meth c Q hQ B
  unfold f_Book_members_7 at h
  refine x_iload_n (pc := 0) B 1 dX1_members_0 rfl rfl ?_
  refine x_istore_n (lv' := [(3, .int a1), (0, .ref (ad 7)), (1, .int a1), (2, .int a2)]) (pc := 1) B dX1_members_1 rfl (by decide) rfl ?_
  refine x_iconst (v := 0) (pc := 2) B dX1_members_2 rfl ?_
  refine x_istore (lv' := [(4, .int 0), (3, .int a1), (0, .ref (ad 7)), (1, .int a1), (2, .int a2)]) (pc := 3) B dX1_members_3 (by decide) rfl ?_
  refine x_pick (lv' := [(0, .ref (ad 7)), (2, .int a2), (3, .int a1), (4, .int 0)]) [2, 4, 1, 0] rfl ?_
  obtain ⟨q7, hq7, h⟩ := bnd h
  refine x_loop (Head := fun (y1 : Int32 × Int32) => XX D ad cI cJ p l e (Rm 2 46) s m args below meth c Q 6 M0 5 [(0, .ref (ad 7)), (2, .int a2), (3, .int y1.1), (4, .int y1.2)] []) (Ex := fun (q7 : Int32) => XX D ad cI cJ p l e (Rm 2 46) s m args below meth c Q 6 M0 50 [(0, .ref (ad 7)), (2, .int a2), (3, .int q7)] []) (fun y1 r h hback hexit => ?_) FU _ q7 hq7 ?_
  · unfold b_Book_members_7_5 at h
    refine x_iload (pc := 5) B 3 dX1_members_5 rfl ?_
    refine x_bipush (v := 10) (pc := 7) B dX1_members_7 rfl ?_
    refine x_icmp_ge (tgt := 50) (pc := 9) B dX1_members_9 rfl (fun hc2 => ?_) (fun hc2 => ?_)
    · have h := iff_ hc2 h
      refine x_pick (lv' := [(0, .ref (ad 7)), (2, .int a2), (3, .int y1.1)]) [0, 1, 2] rfl ?_
      have z := hexit y1.1 (Option.some.inj h).symm
      exact z
    · have h := ift hc2 h
      refine x_aload_n (pc := 12) B 0 dX1_members_12 rfl rfl ?_
      refine x_iload (pc := 13) B 3 dX1_members_13 rfl ?_
      obtain ⟨q3, hq3, h⟩ := bnd h
      refine x_callV (rest := []) (st' := [.int q3]) (pc := 15) B oi_7 rfl (C_Book_decided_7 y1.2 M0 _ hq3) tw_682 tw_679 tw_681 tw_6 tw_101 hd_Book_decided_7 ⟨Nat.le_of_ble_eq_true rfl, Nat.le_of_ble_eq_true rfl⟩ rfl rfl (Nat.le_of_ble_eq_true rfl) rfl dX1_members_15 ?_
      refine x_istore (lv' := [(5, .int q3), (0, .ref (ad 7)), (2, .int a2), (3, .int y1.1), (4, .int y1.2)]) (pc := 18) B dX1_members_18 (by decide) rfl ?_
      refine x_iload (pc := 20) B 0 dX1_members_20 rfl ?_
      refine x_if_eq (tgt := 37) (pc := 22) B dX1_members_22 rfl (fun hc4 => ?_) (fun hc4 => ?_)
      · have h := ift hc4 h
        refine x_iload_n (pc := 37) B 3 dX1_members_37 rfl rfl ?_
        refine x_iconst (v := 1) (pc := 38) B dX1_members_38 rfl ?_
        refine x_iload (pc := 39) B 4 dX1_members_39 rfl ?_
        refine x_ishl (pc := 41) B dX1_members_41 ?_
        refine x_ior (pc := 42) B dX1_members_42 ?_
        refine x_istore_n (lv' := [(3, .int (y1.1 ||| (1 <<< (y1.2 &&& 31)))), (5, .int q3), (0, .ref (ad 7)), (2, .int a2), (4, .int y1.2)]) (pc := 43) B dX1_members_43 rfl (by decide) rfl ?_
        refine x_iinc (k := 4) (v := y1.2 + 1) (lv' := [(4, .int (y1.2 + 1)), (3, .int (y1.1 ||| (1 <<< (y1.2 &&& 31)))), (5, .int q3), (0, .ref (ad 7)), (2, .int a2)]) (pc := 44) B dX1_members_44 rfl rfl (by decide) rfl ?_
        refine x_goto (tgt := 5) (pc := 47) B dX1_members_47 rfl ?_
        refine x_pick (lv' := [(0, .ref (ad 7)), (2, .int a2), (3, .int (y1.1 ||| (1 <<< (y1.2 &&& 31)))), (4, .int (y1.2 + 1))]) [3, 4, 1, 0] rfl ?_
        have z := hback (y1.1 ||| (1 <<< (y1.2 &&& 31)), y1.2 + 1) (Option.some.inj h).symm
        exact z
      · have h := iff_ hc4 h
        refine x_iload (pc := 25) B 0 dX1_members_25 rfl ?_
        refine x_iconst (v := 2) (pc := 27) B dX1_members_27 rfl ?_
        refine x_icmp_eq (tgt := 37) (pc := 28) B dX1_members_28 rfl (fun hc5 => ?_) (fun hc5 => ?_)
        · have h := ift hc5 h
          refine x_iload_n (pc := 37) B 3 dX1_members_37 rfl rfl ?_
          refine x_iconst (v := 1) (pc := 38) B dX1_members_38 rfl ?_
          refine x_iload (pc := 39) B 4 dX1_members_39 rfl ?_
          refine x_ishl (pc := 41) B dX1_members_41 ?_
          refine x_ior (pc := 42) B dX1_members_42 ?_
          refine x_istore_n (lv' := [(3, .int (y1.1 ||| (1 <<< (y1.2 &&& 31)))), (5, .int q3), (0, .ref (ad 7)), (2, .int a2), (4, .int y1.2)]) (pc := 43) B dX1_members_43 rfl (by decide) rfl ?_
          refine x_iinc (k := 4) (v := y1.2 + 1) (lv' := [(4, .int (y1.2 + 1)), (3, .int (y1.1 ||| (1 <<< (y1.2 &&& 31)))), (5, .int q3), (0, .ref (ad 7)), (2, .int a2)]) (pc := 44) B dX1_members_44 rfl rfl (by decide) rfl ?_
          refine x_goto (tgt := 5) (pc := 47) B dX1_members_47 rfl ?_
          refine x_pick (lv' := [(0, .ref (ad 7)), (2, .int a2), (3, .int (y1.1 ||| (1 <<< (y1.2 &&& 31)))), (4, .int (y1.2 + 1))]) [3, 4, 1, 0] rfl ?_
          have z := hback (y1.1 ||| (1 <<< (y1.2 &&& 31)), y1.2 + 1) (Option.some.inj h).symm
          exact z
        · have h := iff_ hc5 h
          refine x_iload (pc := 31) B 0 dX1_members_31 rfl ?_
          refine x_iconst (v := 3) (pc := 33) B dX1_members_33 rfl ?_
          refine x_icmp_ne (tgt := 44) (pc := 34) B dX1_members_34 rfl (fun hc6 => ?_) (fun hc6 => ?_)
          · have h := iff_ hc6 h
            refine x_iinc (k := 4) (v := y1.2 + 1) (lv' := [(4, .int (y1.2 + 1)), (5, .int q3), (0, .ref (ad 7)), (2, .int a2), (3, .int y1.1)]) (pc := 44) B dX1_members_44 rfl rfl (by decide) rfl ?_
            refine x_goto (tgt := 5) (pc := 47) B dX1_members_47 rfl ?_
            refine x_pick (lv' := [(0, .ref (ad 7)), (2, .int a2), (3, .int y1.1), (4, .int (y1.2 + 1))]) [2, 3, 4, 0] rfl ?_
            have z := hback (y1.1, y1.2 + 1) (Option.some.inj h).symm
            exact z
          · have h := ift hc6 h
            refine x_iload_n (pc := 37) B 3 dX1_members_37 rfl rfl ?_
            refine x_iconst (v := 1) (pc := 38) B dX1_members_38 rfl ?_
            refine x_iload (pc := 39) B 4 dX1_members_39 rfl ?_
            refine x_ishl (pc := 41) B dX1_members_41 ?_
            refine x_ior (pc := 42) B dX1_members_42 ?_
            refine x_istore_n (lv' := [(3, .int (y1.1 ||| (1 <<< (y1.2 &&& 31)))), (5, .int q3), (0, .ref (ad 7)), (2, .int a2), (4, .int y1.2)]) (pc := 43) B dX1_members_43 rfl (by decide) rfl ?_
            refine x_iinc (k := 4) (v := y1.2 + 1) (lv' := [(4, .int (y1.2 + 1)), (3, .int (y1.1 ||| (1 <<< (y1.2 &&& 31)))), (5, .int q3), (0, .ref (ad 7)), (2, .int a2)]) (pc := 44) B dX1_members_44 rfl rfl (by decide) rfl ?_
            refine x_goto (tgt := 5) (pc := 47) B dX1_members_47 rfl ?_
            refine x_pick (lv' := [(0, .ref (ad 7)), (2, .int a2), (3, .int (y1.1 ||| (1 <<< (y1.2 &&& 31)))), (4, .int (y1.2 + 1))]) [3, 4, 1, 0] rfl ?_
            have z := hback (y1.1 ||| (1 <<< (y1.2 &&& 31)), y1.2 + 1) (Option.some.inj h).symm
            exact z
  · refine x_iload_n (pc := 50) B 2 dX1_members_50 rfl rfl ?_
    refine x_iload_n (pc := 51) B 1 dX1_members_51 rfl rfl ?_
    refine x_iconst (v := (-1)) (pc := 52) B dX1_members_52 rfl ?_
    refine x_ixor (pc := 53) B dX1_members_53 ?_
    refine x_iand (pc := 54) B dX1_members_54 ?_
    refine x_istore_n (lv' := [(3, .int (q7 &&& (a2 ^^^ (-1)))), (0, .ref (ad 7)), (2, .int a2)]) (pc := 55) B dX1_members_55 rfl (by decide) rfl ?_
    refine x_iconst (v := 0) (pc := 56) B dX1_members_56 rfl ?_
    refine x_istore (lv' := [(4, .int 0), (3, .int (q7 &&& (a2 ^^^ (-1)))), (0, .ref (ad 7)), (2, .int a2)]) (pc := 57) B dX1_members_57 (by decide) rfl ?_
    refine x_pick (lv' := [(0, .ref (ad 7)), (2, .int a2), (3, .int (q7 &&& (a2 ^^^ (-1)))), (4, .int 0)]) [2, 3, 1, 0] rfl ?_
    obtain ⟨q11, hq11, h⟩ := bnd h
    refine x_loop (Head := fun (y8 : Int32 × Int32) => XX D ad cI cJ p l e (Rm 2 46) s m args below meth c Q 6 M0 59 [(0, .ref (ad 7)), (2, .int a2), (3, .int y8.1), (4, .int y8.2)] []) (Ex := fun (q11 : Int32) => XX D ad cI cJ p l e (Rm 2 46) s m args below meth c Q 6 M0 87 [(3, .int q11)] []) (fun y8 r h hback hexit => ?_) FU _ q11 hq11 ?_
    · unfold b_Book_members_7_59 at h
      refine x_iload (pc := 59) B 3 dX1_members_59 rfl ?_
      refine x_bipush (v := 10) (pc := 61) B dX1_members_61 rfl ?_
      refine x_icmp_ge (tgt := 87) (pc := 63) B dX1_members_63 rfl (fun hc9 => ?_) (fun hc9 => ?_)
      · have h := iff_ hc9 h
        refine x_pick (lv' := [(3, .int y8.1)]) [2] rfl ?_
        have z := hexit y8.1 (Option.some.inj h).symm
        exact z
      · have h := ift hc9 h
        refine x_iload_n (pc := 66) B 2 dX1_members_66 rfl rfl ?_
        refine x_aload_n (pc := 67) B 0 dX1_members_67 rfl rfl ?_
        refine x_iload_n (pc := 68) B 2 dX1_members_68 rfl rfl ?_
        refine x_callS (rest := [.ref (ad 7), .int y8.1]) (st' := [.int (bcnt y8.1), .ref (ad 7), .int y8.1]) (pc := 69) B (T_bitCount y8.1 M0) tw_689 tw_687 tw_688 tw_113 hd_Integer_bitCount_0f7a4 ⟨Nat.le_of_ble_eq_true rfl, Nat.le_of_ble_eq_true rfl⟩ rfl rfl (Nat.le_of_ble_eq_true rfl) rfl dX1_members_69 ?_
        obtain ⟨q10, hq10, h⟩ := bnd h
        refine x_callV (rest := [.int y8.1]) (st' := [.int q10, .int y8.1]) (pc := 72) B oi_7 rfl (C_Book_reached_7 (bcnt y8.1) M0 _ hq10) tw_696 tw_693 tw_695 tw_8 tw_101 hd_Book_reached_7 ⟨Nat.le_of_ble_eq_true rfl, Nat.le_of_ble_eq_true rfl⟩ rfl rfl (Nat.le_of_ble_eq_true rfl) rfl dX1_members_72 ?_
        refine x_iload_n (pc := 75) B 1 dX1_members_75 rfl rfl ?_
        refine x_iconst (v := (-1)) (pc := 76) B dX1_members_76 rfl ?_
        refine x_ixor (pc := 77) B dX1_members_77 ?_
        refine x_iand (pc := 78) B dX1_members_78 ?_
        refine x_ior (pc := 79) B dX1_members_79 ?_
        refine x_istore_n (lv' := [(3, .int (y8.1 ||| (q10 &&& (a2 ^^^ (-1))))), (0, .ref (ad 7)), (2, .int a2), (4, .int y8.2)]) (pc := 80) B dX1_members_80 rfl (by decide) rfl ?_
        refine x_iinc (k := 3) (v := y8.2 + 1) (lv' := [(4, .int (y8.2 + 1)), (3, .int (y8.1 ||| (q10 &&& (a2 ^^^ (-1))))), (0, .ref (ad 7)), (2, .int a2)]) (pc := 81) B dX1_members_81 rfl rfl (by decide) rfl ?_
        refine x_goto (tgt := 59) (pc := 84) B dX1_members_84 rfl ?_
        refine x_pick (lv' := [(0, .ref (ad 7)), (2, .int a2), (3, .int (y8.1 ||| (q10 &&& (a2 ^^^ (-1))))), (4, .int (y8.2 + 1))]) [2, 3, 1, 0] rfl ?_
        have z := hback (y8.1 ||| (q10 &&& (a2 ^^^ (-1))), y8.2 + 1) (Option.some.inj h).symm
        exact z
    · refine x_iload_n (pc := 87) B 0 dX1_members_87 rfl rfl ?_
      obtain rfl := Option.some.inj h
      exact x_iret (pc := 88) B hQ dX1_members_88
-- CurrentFarms$Book.kindIn(III)I [7]
abbrev y_Book_kindIn_7 : MethodName := ⟨"CurrentFarms$Book", "kindIn", "(III)I"⟩
abbrev cX1_kindIn : ByteArray := prog_3_method_12_code
theorem dX1_kindIn_0 : decode cX1_kindIn 0 = .ok (.aload_n 0, 1) := by decide +kernel
theorem dX1_kindIn_1 : decode cX1_kindIn 1 = .ok (.iload_n 2, 1) := by decide +kernel
theorem dX1_kindIn_2 : decode cX1_kindIn 2 = .ok (.iload_n 3, 1) := by decide +kernel
theorem dX1_kindIn_3 : decode cX1_kindIn 3 = .ok (.invokevirtual 56, 3) := by decide +kernel
theorem dX1_kindIn_6 : decode cX1_kindIn 6 = .ok (.aload_n 0, 1) := by decide +kernel
theorem dX1_kindIn_7 : decode cX1_kindIn 7 = .ok (.iload_n 1, 1) := by decide +kernel
theorem dX1_kindIn_8 : decode cX1_kindIn 8 = .ok (.invokevirtual 60, 3) := by decide +kernel
theorem dX1_kindIn_11 : decode cX1_kindIn 11 = .ok (.tableswitch 62 (-1) 4 #[37, 62, 43, 39, 62, 41], 37) := by decide +kernel
theorem dX1_kindIn_48 : decode cX1_kindIn 48 = .ok (.iconst 0, 1) := by decide +kernel
theorem dX1_kindIn_49 : decode cX1_kindIn 49 = .ok (.ireturn, 1) := by decide +kernel
theorem dX1_kindIn_50 : decode cX1_kindIn 50 = .ok (.iconst 3, 1) := by decide +kernel
theorem dX1_kindIn_51 : decode cX1_kindIn 51 = .ok (.ireturn, 1) := by decide +kernel
theorem dX1_kindIn_52 : decode cX1_kindIn 52 = .ok (.iconst 5, 1) := by decide +kernel
theorem dX1_kindIn_53 : decode cX1_kindIn 53 = .ok (.ireturn, 1) := by decide +kernel
theorem dX1_kindIn_54 : decode cX1_kindIn 54 = .ok (.aload_n 0, 1) := by decide +kernel
theorem dX1_kindIn_55 : decode cX1_kindIn 55 = .ok (.iconst 0, 1) := by decide +kernel
theorem dX1_kindIn_56 : decode cX1_kindIn 56 = .ok (.iconst 0, 1) := by decide +kernel
theorem dX1_kindIn_57 : decode cX1_kindIn 57 = .ok (.invokevirtual 64, 3) := by decide +kernel
theorem dX1_kindIn_60 : decode cX1_kindIn 60 = .ok (.iload_n 1, 1) := by decide +kernel
theorem dX1_kindIn_61 : decode cX1_kindIn 61 = .ok (.invokestatic 76, 3) := by decide +kernel
theorem dX1_kindIn_64 : decode cX1_kindIn 64 = .ok (.ifCond .eq 7, 3) := by decide +kernel
theorem dX1_kindIn_67 : decode cX1_kindIn 67 = .ok (.iconst 1, 1) := by decide +kernel
theorem dX1_kindIn_68 : decode cX1_kindIn 68 = .ok (.goto 4, 3) := by decide +kernel
theorem dX1_kindIn_71 : decode cX1_kindIn 71 = .ok (.iconst 2, 1) := by decide +kernel
theorem dX1_kindIn_72 : decode cX1_kindIn 72 = .ok (.ireturn, 1) := by decide +kernel
theorem dX1_kindIn_73 : decode cX1_kindIn 73 = .ok (.iconst 1, 1) := by decide +kernel
theorem dX1_kindIn_74 : decode cX1_kindIn 74 = .ok (.ireturn, 1) := by decide +kernel
theorem hd_Book_kindIn_7 : y_Book_kindIn_7.cls ≠ "java/lang/invoke/MethodHandle" ∧ y_Book_kindIn_7.cls ≠ "java/lang/invoke/VarHandle" ∧ (parseMethodDescriptor y_Book_kindIn_7.desc).map (fun d => d.parameters.length) = some 3 := by decide +kernel
def f_Book_kindIn_7 (a1 : Int32) (a2 : Int32) (a3 : Int32) (M0 : Mem) : Option (Int32 × Mem) :=
  (f_Book_look_7 a2 a3 M0).bind fun q1 => (f_Book_decided_7 a1 q1).bind fun q2 => if decide (q2 = (-1)) then (some (0, q1)) else (if decide (q2 = 1) then ((f_Book_members_7 0 0 q1).bind fun q5 => if hld q5 a1 then (some (1, q1)) else (some (2, q1))) else (if decide (q2 = 2) then (some (3, q1)) else (if decide (q2 = 4) then (some (5, q1)) else (some (1, q1)))))
set_option maxHeartbeats 4000000 in
set_option maxRecDepth 20000 in
theorem C_Book_kindIn_7 {D : va_G} {ad adK adV : Nat → Nat} {cI cJ : ClassId} {l : Launch} (a1 : Int32) (a2 : Int32) (a3 : Int32) (M0 : Mem) (o : Int32 × Mem) (h : f_Book_kindIn_7 a1 a2 a3 M0 = some o) : Ct D ad adK adV cI cJ l y_Book_kindIn_7 cX1_kindIn 4 (some .int) 3 71 [.ref (ad 7), .int a1, .int a2, .int a3] M0 (some (.int o.1)) o.2 := by
  refine x_start (lv := [(0, .ref (ad 7)), (1, .int a1), (2, .int a2), (3, .int a3)]) (own := "CurrentFarms$Book") rfl (by decide) (Nat.le_of_ble_eq_true rfl) rfl ?_
  intro p e s m args below meth c Q hQ B
  unfold f_Book_kindIn_7 at h
  refine x_aload_n (pc := 0) B 0 dX1_kindIn_0 rfl rfl ?_
  refine x_iload_n (pc := 1) B 2 dX1_kindIn_1 rfl rfl ?_
  refine x_iload_n (pc := 2) B 3 dX1_kindIn_2 rfl rfl ?_
  obtain ⟨q1, hq1, h⟩ := bnd h
  refine x_callV (rest := []) (st' := []) (pc := 3) B oi_7 rfl (C_Book_look_7 a2 a3 M0 _ hq1) tw_677 tw_674 tw_676 tw_5 tw_101 hd_Book_look_7 ⟨Nat.le_of_ble_eq_true rfl, Nat.le_of_ble_eq_true rfl⟩ rfl rfl (Nat.le_of_ble_eq_true rfl) rfl dX1_kindIn_3 ?_
  refine x_aload_n (pc := 6) B 0 dX1_kindIn_6 rfl rfl ?_
  refine x_iload_n (pc := 7) B 1 dX1_kindIn_7 rfl rfl ?_
  obtain ⟨q2, hq2, h⟩ := bnd h
  refine x_callV (rest := []) (st' := [.int q2]) (pc := 8) B oi_7 rfl (C_Book_decided_7 a1 q1 _ hq2) tw_682 tw_679 tw_681 tw_6 tw_101 hd_Book_decided_7 ⟨Nat.le_of_ble_eq_true rfl, Nat.le_of_ble_eq_true rfl⟩ rfl rfl (Nat.le_of_ble_eq_true rfl) rfl dX1_kindIn_8 ?_
  rcases bcase (decide (q2 = (-1))) with hc3 | hc3
  · have h := ift hc3 h
    refine x_tableIn (cv := (-1)) (tgt := 48) (pc := 11) B dX1_kindIn_11 (of_decide_eq_true hc3) (by decide) (by decide) rfl rfl ?_
    refine x_iconst (v := 0) (pc := 48) B dX1_kindIn_48 rfl ?_
    obtain rfl := Option.some.inj h
    exact x_iret (pc := 49) B hQ dX1_kindIn_49
  · have h := iff_ hc3 h
    rcases bcase (decide (q2 = 1)) with hc4 | hc4
    · have h := ift hc4 h
      refine x_tableIn (cv := 1) (tgt := 54) (pc := 11) B dX1_kindIn_11 (of_decide_eq_true hc4) (by decide) (by decide) rfl rfl ?_
      refine x_aload_n (pc := 54) B 0 dX1_kindIn_54 rfl rfl ?_
      refine x_iconst (v := 0) (pc := 55) B dX1_kindIn_55 rfl ?_
      refine x_iconst (v := 0) (pc := 56) B dX1_kindIn_56 rfl ?_
      obtain ⟨q5, hq5, h⟩ := bnd h
      refine x_callV (rest := []) (st' := [.int q5]) (pc := 57) B oi_7 rfl (C_Book_members_7 0 0 q1 _ hq5) tw_686 tw_683 tw_685 tw_7 tw_101 hd_Book_members_7 ⟨Nat.le_of_ble_eq_true rfl, Nat.le_of_ble_eq_true rfl⟩ rfl rfl (Nat.le_of_ble_eq_true rfl) rfl dX1_kindIn_57 ?_
      refine x_iload_n (pc := 60) B 1 dX1_kindIn_60 rfl rfl ?_
      refine x_callSN (rest := []) (st' := [.int (bI (hld q5 a1))]) (pc := 61) B (T_CF_holds q5 a1 q1) tw_699 tw_697 tw_698 tw_98 hd_CF_holds ⟨Nat.le_of_ble_eq_true rfl, Nat.le_of_ble_eq_true rfl⟩ rfl rfl (Nat.le_of_ble_eq_true rfl) rfl dX1_kindIn_61 ?_
      refine x_if_eq_b (tgt := 71) (pc := 64) B dX1_kindIn_64 rfl (fun hc6 => ?_) (fun hc6 => ?_)
      · have h := iff_ hc6 h
        refine x_iconst (v := 2) (pc := 71) B dX1_kindIn_71 rfl ?_
        obtain rfl := Option.some.inj h
        exact x_iret (pc := 72) B hQ dX1_kindIn_72
      · have h := ift hc6 h
        refine x_iconst (v := 1) (pc := 67) B dX1_kindIn_67 rfl ?_
        refine x_goto (tgt := 72) (pc := 68) B dX1_kindIn_68 rfl ?_
        obtain rfl := Option.some.inj h
        exact x_iret (pc := 72) B hQ dX1_kindIn_72
    · have h := iff_ hc4 h
      rcases bcase (decide (q2 = 2)) with hc7 | hc7
      · have h := ift hc7 h
        refine x_tableIn (cv := 2) (tgt := 50) (pc := 11) B dX1_kindIn_11 (of_decide_eq_true hc7) (by decide) (by decide) rfl rfl ?_
        refine x_iconst (v := 3) (pc := 50) B dX1_kindIn_50 rfl ?_
        obtain rfl := Option.some.inj h
        exact x_iret (pc := 51) B hQ dX1_kindIn_51
      · have h := iff_ hc7 h
        rcases bcase (decide (q2 = 4)) with hc8 | hc8
        · have h := ift hc8 h
          refine x_tableIn (cv := 4) (tgt := 52) (pc := 11) B dX1_kindIn_11 (of_decide_eq_true hc8) (by decide) (by decide) rfl rfl ?_
          refine x_iconst (v := 5) (pc := 52) B dX1_kindIn_52 rfl ?_
          obtain rfl := Option.some.inj h
          exact x_iret (pc := 53) B hQ dX1_kindIn_53
        · have h := iff_ hc8 h
          by_cases hg : q2 = 0
          · refine x_tableIn (cv := 0) (tgt := 73) (pc := 11) B dX1_kindIn_11 hg (by decide) (by decide) rfl rfl ?_
            refine x_iconst (v := 1) (pc := 73) B dX1_kindIn_73 rfl ?_
            obtain rfl := Option.some.inj h
            exact x_iret (pc := 74) B hQ dX1_kindIn_74
          have hg9 := hg
          by_cases hg : q2 = 3
          · refine x_tableIn (cv := 3) (tgt := 73) (pc := 11) B dX1_kindIn_11 hg (by decide) (by decide) rfl rfl ?_
            refine x_iconst (v := 1) (pc := 73) B dX1_kindIn_73 rfl ?_
            obtain rfl := Option.some.inj h
            exact x_iret (pc := 74) B hQ dX1_kindIn_74
          have hg10 := hg
          have e0 : ¬ q2.toInt = (-1) := fun q => (of_decide_eq_false hc3) (Int32.toInt_inj.mp (q.trans (by decide : ((-1) : Int) = ((-1) : Int32).toInt)))
          have e1 : ¬ q2.toInt = 1 := fun q => (of_decide_eq_false hc4) (Int32.toInt_inj.mp (q.trans (by decide : (1 : Int) = (1 : Int32).toInt)))
          have e2 : ¬ q2.toInt = 2 := fun q => (of_decide_eq_false hc7) (Int32.toInt_inj.mp (q.trans (by decide : (2 : Int) = (2 : Int32).toInt)))
          have e3 : ¬ q2.toInt = 4 := fun q => (of_decide_eq_false hc8) (Int32.toInt_inj.mp (q.trans (by decide : (4 : Int) = (4 : Int32).toInt)))
          have e4 : ¬ q2.toInt = 0 := fun q => hg9 (Int32.toInt_inj.mp (q.trans (by decide : (0 : Int) = (0 : Int32).toInt)))
          have e5 : ¬ q2.toInt = 3 := fun q => hg10 (Int32.toInt_inj.mp (q.trans (by decide : (3 : Int) = (3 : Int32).toInt)))
          refine x_tableOut (tgt := 73) (pc := 11) B dX1_kindIn_11 (by omega) rfl ?_
          refine x_iconst (v := 1) (pc := 73) B dX1_kindIn_73 rfl ?_
          obtain rfl := Option.some.inj h
          exact x_iret (pc := 74) B hQ dX1_kindIn_74
-- CurrentFarms$Account.startMeter()V [79]
abbrev y_Account_startMeter_79 : MethodName := ⟨"CurrentFarms$Account", "startMeter", "()V"⟩
abbrev cX0_startMeter : ByteArray := prog_2_method_3_code
theorem dX0_startMeter_0 : decode cX0_startMeter 0 = .ok (.aload_n 0, 1) := by decide +kernel
theorem dX0_startMeter_1 : decode cX0_startMeter 1 = .ok (.iconst 0, 1) := by decide +kernel
theorem dX0_startMeter_2 : decode cX0_startMeter 2 = .ok (.putfield 77, 3) := by decide +kernel
theorem dX0_startMeter_5 : decode cX0_startMeter 5 = .ok (.aload_n 0, 1) := by decide +kernel
theorem dX0_startMeter_6 : decode cX0_startMeter 6 = .ok (.iconst 0, 1) := by decide +kernel
theorem dX0_startMeter_7 : decode cX0_startMeter 7 = .ok (.putfield 94, 3) := by decide +kernel
theorem dX0_startMeter_10 : decode cX0_startMeter 10 = .ok (.aload_n 0, 1) := by decide +kernel
theorem dX0_startMeter_11 : decode cX0_startMeter 11 = .ok (.iconst 0, 1) := by decide +kernel
theorem dX0_startMeter_12 : decode cX0_startMeter 12 = .ok (.putfield 81, 3) := by decide +kernel
theorem dX0_startMeter_15 : decode cX0_startMeter 15 = .ok (.aload_n 0, 1) := by decide +kernel
theorem dX0_startMeter_16 : decode cX0_startMeter 16 = .ok (.iconst 0, 1) := by decide +kernel
theorem dX0_startMeter_17 : decode cX0_startMeter 17 = .ok (.putfield 115, 3) := by decide +kernel
theorem dX0_startMeter_20 : decode cX0_startMeter 20 = .ok (.aload_n 0, 1) := by decide +kernel
theorem dX0_startMeter_21 : decode cX0_startMeter 21 = .ok (.iconst (-1), 1) := by decide +kernel
theorem dX0_startMeter_22 : decode cX0_startMeter 22 = .ok (.putfield 118, 3) := by decide +kernel
theorem dX0_startMeter_25 : decode cX0_startMeter 25 = .ok (.aload_n 0, 1) := by decide +kernel
theorem dX0_startMeter_26 : decode cX0_startMeter 26 = .ok (.iconst 0, 1) := by decide +kernel
theorem dX0_startMeter_27 : decode cX0_startMeter 27 = .ok (.putfield 121, 3) := by decide +kernel
theorem dX0_startMeter_30 : decode cX0_startMeter 30 = .ok (.aload_n 0, 1) := by decide +kernel
theorem dX0_startMeter_31 : decode cX0_startMeter 31 = .ok (.iconst 1, 1) := by decide +kernel
theorem dX0_startMeter_32 : decode cX0_startMeter 32 = .ok (.putfield 124, 3) := by decide +kernel
theorem dX0_startMeter_35 : decode cX0_startMeter 35 = .ok (.aload_n 0, 1) := by decide +kernel
theorem dX0_startMeter_36 : decode cX0_startMeter 36 = .ok (.iconst 0, 1) := by decide +kernel
theorem dX0_startMeter_37 : decode cX0_startMeter 37 = .ok (.putfield 127, 3) := by decide +kernel
theorem dX0_startMeter_40 : decode cX0_startMeter 40 = .ok (.aload_n 0, 1) := by decide +kernel
theorem dX0_startMeter_41 : decode cX0_startMeter 41 = .ok (.iconst 0, 1) := by decide +kernel
theorem dX0_startMeter_42 : decode cX0_startMeter 42 = .ok (.putfield 130, 3) := by decide +kernel
theorem dX0_startMeter_45 : decode cX0_startMeter 45 = .ok (.return_, 1) := by decide +kernel
theorem hd_Account_startMeter_79 : y_Account_startMeter_79.cls ≠ "java/lang/invoke/MethodHandle" ∧ y_Account_startMeter_79.cls ≠ "java/lang/invoke/VarHandle" ∧ (parseMethodDescriptor y_Account_startMeter_79.desc).map (fun d => d.parameters.length) = some 0 := by decide +kernel
def f_Account_startMeter_79  (M0 : Mem) : Option (Mem) :=
  jv_ (wI M0 79 2 0) fun M1 => jv_ (wI M1 79 3 0) fun M2 => jv_ (wI M2 79 4 0) fun M3 => jv_ (wI M3 79 5 0) fun M4 => jv_ (wI M4 79 6 (-1)) fun M5 => jv_ (wI M5 79 7 0) fun M6 => jv_ (wI M6 79 8 1) fun M7 => jv_ (wI M7 79 9 0) fun M8 => jv_ (wI M8 79 10 0) fun M9 => some M9
set_option maxHeartbeats 4000000 in
set_option maxRecDepth 20000 in
theorem C_Account_startMeter_79 {D : va_G} {ad adK adV : Nat → Nat} {cI cJ : ClassId} {l : Launch}  (M0 : Mem) (o : Mem) (h : f_Account_startMeter_79  M0 = some o) : Ct D ad adK adV cI cJ l y_Account_startMeter_79 cX0_startMeter 1 none 0 0 [.ref (ad 79)] M0 none o := by
  refine x_start (lv := [(0, .ref (ad 79))]) (own := "CurrentFarms$Account") rfl (by decide) (Nat.le_of_ble_eq_true rfl) rfl ?_
  intro p e s m args below meth c Q hQ B
  unfold f_Account_startMeter_79 at h
  refine x_aload_n (pc := 0) B 0 dX0_startMeter_0 rfl rfl ?_
  refine x_iconst (v := 0) (pc := 1) B dX0_startMeter_1 rfl ?_
  refine x_put (T := TX0) (pc := 2) B 2 oi_79 of_79_2 rfl uw_0 tyX0_ok nmX0 (by decide) rfl tw_430 rfl rfl rfl (Nat.le_of_ble_eq_true rfl) dX0_startMeter_2 ?_
  refine jv_m (P := fun M1 => XX D ad cI cJ p l e (Rm 0 0) s m args below meth c Q 1 M1 5 [(0, .ref (ad 79))] []) h (fun M1 h => ?_)
  refine x_aload_n (pc := 5) B 0 dX0_startMeter_5 rfl rfl ?_
  refine x_iconst (v := 0) (pc := 6) B dX0_startMeter_6 rfl ?_
  refine x_put (T := TX0) (pc := 7) B 3 oi_79 of_79_3 rfl uw_0 tyX0_ok nmX0 (by decide) rfl tw_432 rfl rfl rfl (Nat.le_of_ble_eq_true rfl) dX0_startMeter_7 ?_
  refine jv_m (P := fun M2 => XX D ad cI cJ p l e (Rm 0 0) s m args below meth c Q 1 M2 10 [(0, .ref (ad 79))] []) h (fun M2 h => ?_)
  refine x_aload_n (pc := 10) B 0 dX0_startMeter_10 rfl rfl ?_
  refine x_iconst (v := 0) (pc := 11) B dX0_startMeter_11 rfl ?_
  refine x_put (T := TX0) (pc := 12) B 4 oi_79 of_79_4 rfl uw_0 tyX0_ok nmX0 (by decide) rfl tw_434 rfl rfl rfl (Nat.le_of_ble_eq_true rfl) dX0_startMeter_12 ?_
  refine jv_m (P := fun M3 => XX D ad cI cJ p l e (Rm 0 0) s m args below meth c Q 1 M3 15 [(0, .ref (ad 79))] []) h (fun M3 h => ?_)
  refine x_aload_n (pc := 15) B 0 dX0_startMeter_15 rfl rfl ?_
  refine x_iconst (v := 0) (pc := 16) B dX0_startMeter_16 rfl ?_
  refine x_put (T := TX0) (pc := 17) B 5 oi_79 of_79_5 rfl uw_0 tyX0_ok nmX0 (by decide) rfl tw_436 rfl rfl rfl (Nat.le_of_ble_eq_true rfl) dX0_startMeter_17 ?_
  refine jv_m (P := fun M4 => XX D ad cI cJ p l e (Rm 0 0) s m args below meth c Q 1 M4 20 [(0, .ref (ad 79))] []) h (fun M4 h => ?_)
  refine x_aload_n (pc := 20) B 0 dX0_startMeter_20 rfl rfl ?_
  refine x_iconst (v := (-1)) (pc := 21) B dX0_startMeter_21 rfl ?_
  refine x_put (T := TX0) (pc := 22) B 6 oi_79 of_79_6 rfl uw_0 tyX0_ok nmX0 (by decide) rfl tw_437 rfl rfl rfl (Nat.le_of_ble_eq_true rfl) dX0_startMeter_22 ?_
  refine jv_m (P := fun M5 => XX D ad cI cJ p l e (Rm 0 0) s m args below meth c Q 1 M5 25 [(0, .ref (ad 79))] []) h (fun M5 h => ?_)
  refine x_aload_n (pc := 25) B 0 dX0_startMeter_25 rfl rfl ?_
  refine x_iconst (v := 0) (pc := 26) B dX0_startMeter_26 rfl ?_
  refine x_put (T := TX0) (pc := 27) B 7 oi_79 of_79_7 rfl uw_0 tyX0_ok nmX0 (by decide) rfl tw_438 rfl rfl rfl (Nat.le_of_ble_eq_true rfl) dX0_startMeter_27 ?_
  refine jv_m (P := fun M6 => XX D ad cI cJ p l e (Rm 0 0) s m args below meth c Q 1 M6 30 [(0, .ref (ad 79))] []) h (fun M6 h => ?_)
  refine x_aload_n (pc := 30) B 0 dX0_startMeter_30 rfl rfl ?_
  refine x_iconst (v := 1) (pc := 31) B dX0_startMeter_31 rfl ?_
  refine x_put (T := TX0) (pc := 32) B 8 oi_79 of_79_8 rfl uw_0 tyX0_ok nmX0 (by decide) rfl tw_439 rfl rfl rfl (Nat.le_of_ble_eq_true rfl) dX0_startMeter_32 ?_
  refine jv_m (P := fun M7 => XX D ad cI cJ p l e (Rm 0 0) s m args below meth c Q 1 M7 35 [(0, .ref (ad 79))] []) h (fun M7 h => ?_)
  refine x_aload_n (pc := 35) B 0 dX0_startMeter_35 rfl rfl ?_
  refine x_iconst (v := 0) (pc := 36) B dX0_startMeter_36 rfl ?_
  refine x_put (T := TX0) (pc := 37) B 9 oi_79 of_79_9 rfl uw_0 tyX0_ok nmX0 (by decide) rfl tw_440 rfl rfl rfl (Nat.le_of_ble_eq_true rfl) dX0_startMeter_37 ?_
  refine jv_m (P := fun M8 => XX D ad cI cJ p l e (Rm 0 0) s m args below meth c Q 1 M8 40 [(0, .ref (ad 79))] []) h (fun M8 h => ?_)
  refine x_aload_n (pc := 40) B 0 dX0_startMeter_40 rfl rfl ?_
  refine x_iconst (v := 0) (pc := 41) B dX0_startMeter_41 rfl ?_
  refine x_put (T := TX0) (pc := 42) B 10 oi_79 of_79_10 rfl uw_0 tyX0_ok nmX0 (by decide) rfl tw_441 rfl rfl rfl (Nat.le_of_ble_eq_true rfl) dX0_startMeter_42 ?_
  refine jv_m (P := fun M9 => XX D ad cI cJ p l e (Rm 0 0) s m args below meth c Q 1 M9 45 [(0, .ref (ad 79))] []) h (fun M9 h => ?_)
  obtain rfl := Option.some.inj h
  exact x_vret (pc := 45) B hQ dX0_startMeter_45
-- CurrentFarms$Line.climb(I)I [24]
abbrev y_Line_climb_24 : MethodName := ⟨"CurrentFarms$Line", "climb", "(I)I"⟩
abbrev cX5_climb : ByteArray := prog_7_method_8_code
theorem dX5_climb_0 : decode cX5_climb 0 = .ok (.iconst 0, 1) := by decide +kernel
theorem dX5_climb_1 : decode cX5_climb 1 = .ok (.istore_n 2, 1) := by decide +kernel
theorem dX5_climb_2 : decode cX5_climb 2 = .ok (.aload_n 0, 1) := by decide +kernel
theorem dX5_climb_3 : decode cX5_climb 3 = .ok (.getfield 25, 3) := by decide +kernel
theorem dX5_climb_6 : decode cX5_climb 6 = .ok (.iconst 0, 1) := by decide +kernel
theorem dX5_climb_7 : decode cX5_climb 7 = .ok (.iload_n 1, 1) := by decide +kernel
theorem dX5_climb_8 : decode cX5_climb 8 = .ok (.invokestatic 44, 3) := by decide +kernel
theorem dX5_climb_11 : decode cX5_climb 11 = .ok (.aload_n 0, 1) := by decide +kernel
theorem dX5_climb_12 : decode cX5_climb 12 = .ok (.iload_n 1, 1) := by decide +kernel
theorem dX5_climb_13 : decode cX5_climb 13 = .ok (.invokevirtual 56, 3) := by decide +kernel
theorem dX5_climb_16 : decode cX5_climb 16 = .ok (.istore_n 3, 1) := by decide +kernel
theorem dX5_climb_17 : decode cX5_climb 17 = .ok (.iload_n 3, 1) := by decide +kernel
theorem dX5_climb_18 : decode cX5_climb 18 = .ok (.iconst (-1), 1) := by decide +kernel
theorem dX5_climb_19 : decode cX5_climb 19 = .ok (.if_icmp .eq 32, 3) := by decide +kernel
theorem dX5_climb_22 : decode cX5_climb 22 = .ok (.iload_n 2, 1) := by decide +kernel
theorem dX5_climb_23 : decode cX5_climb 23 = .ok (.aload_n 0, 1) := by decide +kernel
theorem dX5_climb_24 : decode cX5_climb 24 = .ok (.getfield 41, 3) := by decide +kernel
theorem dX5_climb_27 : decode cX5_climb 27 = .ok (.if_icmp .ge 24, 3) := by decide +kernel
theorem dX5_climb_30 : decode cX5_climb 30 = .ok (.iinc 2 1, 3) := by decide +kernel
theorem dX5_climb_33 : decode cX5_climb 33 = .ok (.aload_n 0, 1) := by decide +kernel
theorem dX5_climb_34 : decode cX5_climb 34 = .ok (.getfield 25, 3) := by decide +kernel
theorem dX5_climb_37 : decode cX5_climb 37 = .ok (.iload_n 2, 1) := by decide +kernel
theorem dX5_climb_38 : decode cX5_climb 38 = .ok (.iload_n 3, 1) := by decide +kernel
theorem dX5_climb_39 : decode cX5_climb 39 = .ok (.invokestatic 44, 3) := by decide +kernel
theorem dX5_climb_42 : decode cX5_climb 42 = .ok (.aload_n 0, 1) := by decide +kernel
theorem dX5_climb_43 : decode cX5_climb 43 = .ok (.iload_n 3, 1) := by decide +kernel
theorem dX5_climb_44 : decode cX5_climb 44 = .ok (.invokevirtual 56, 3) := by decide +kernel
theorem dX5_climb_47 : decode cX5_climb 47 = .ok (.istore_n 3, 1) := by decide +kernel
theorem dX5_climb_48 : decode cX5_climb 48 = .ok (.goto (-31), 3) := by decide +kernel
theorem dX5_climb_51 : decode cX5_climb 51 = .ok (.iload_n 2, 1) := by decide +kernel
theorem dX5_climb_52 : decode cX5_climb 52 = .ok (.ireturn, 1) := by decide +kernel
theorem hd_Line_climb_24 : y_Line_climb_24.cls ≠ "java/lang/invoke/MethodHandle" ∧ y_Line_climb_24.cls ≠ "java/lang/invoke/VarHandle" ∧ (parseMethodDescriptor y_Line_climb_24.desc).map (fun d => d.parameters.length) = some 1 := by decide +kernel
def b_Line_climb_24_17  (y3 : Int32 × Int32 × Mem) : Option ((Int32 × Int32 × Mem) ⊕ (Int32 × Mem)) :=
  if decide (y3.2.1 = (-1)) then (some (.inr (y3.1, y3.2.2))) else (if decide (y3.1 < (y3.2.2.1 24 2)) then (jv_ (putv y3.2.2 27 48 (y3.1 + 1) y3.2.1) fun M6 => (f_Line_ahead_24 y3.2.1 M6).bind fun q7 => some (.inl (y3.1 + 1, q7, M6))) else (some (.inr (y3.1, y3.2.2))))
def f_Line_climb_24 (a1 : Int32) (M0 : Mem) : Option (Int32 × Mem) :=
  jv_ (putv M0 27 48 0 a1) fun M1 => (f_Line_ahead_24 a1 M1).bind fun q2 => (itr (b_Line_climb_24_17) FU (0, q2, M1)).bind fun q8 => some (q8.1, q8.2)
set_option maxHeartbeats 4000000 in
set_option maxRecDepth 20000 in
theorem C_Line_climb_24 {D : va_G} {ad adK adV : Nat → Nat} {cI cJ : ClassId} {l : Launch} (a1 : Int32) (M0 : Mem) (o : Int32 × Mem) (h : f_Line_climb_24 a1 M0 = some o) : Ct D ad adK adV cI cJ l y_Line_climb_24 cX5_climb 4 (some .int) 3 63 [.ref (ad 24), .int a1] M0 (some (.int o.1)) o.2 := by
  refine x_start (lv := [(0, .ref (ad 24)), (1, .int a1)]) (own := "CurrentFarms$Line") rfl (by decide) (Nat.le_of_ble_eq_true rfl) rfl ?_
  intro p e s m args below meth c Q hQ B
  unfold f_Line_climb_24 at h
  refine x_iconst (v := 0) (pc := 0) B dX5_climb_0 rfl ?_
  refine x_istore_n (lv' := [(2, .int 0), (0, .ref (ad 24)), (1, .int a1)]) (pc := 1) B dX5_climb_1 rfl (by decide) rfl ?_
  refine x_aload_n (pc := 2) B 1 dX5_climb_2 rfl rfl ?_
  refine x_get (T := TX5) (pc := 3) B 5 oi_24 rfl uw_5 (by decide) rfl tw_274 rfl dX5_climb_3 ?_
  refine x_iconst (v := 0) (pc := 6) B dX5_climb_6 rfl ?_
  refine x_iload_n (pc := 7) B 2 dX5_climb_7 rfl rfl ?_
  refine x_callSN (rest := []) (st' := []) (pc := 8) B (T_CF_put 27 48 0 a1 ai_27 (by decide) M0) tw_588 tw_719 tw_587 tw_98 hd_CF_put ⟨Nat.le_of_ble_eq_true rfl, Nat.le_of_ble_eq_true rfl⟩ rfl rfl (Nat.le_of_ble_eq_true rfl) rfl dX5_climb_8 ?_
  refine jv_m (P := fun M1 => XX D ad cI cJ p l e (Rm 3 63) s m args below meth c Q 4 M1 11 [(2, .int 0), (0, .ref (ad 24)), (1, .int a1)] []) h (fun M1 h => ?_)
  refine x_aload_n (pc := 11) B 1 dX5_climb_11 rfl rfl ?_
  refine x_iload_n (pc := 12) B 2 dX5_climb_12 rfl rfl ?_
  obtain ⟨q2, hq2, h⟩ := bnd h
  refine x_callV (rest := []) (st' := [.int q2]) (pc := 13) B oi_24 rfl (C_Line_ahead_24 a1 M1 _ hq2) tw_571 tw_720 tw_569 tw_570 tw_103 hd_Line_ahead_24 ⟨Nat.le_of_ble_eq_true rfl, Nat.le_of_ble_eq_true rfl⟩ rfl rfl (Nat.le_of_ble_eq_true rfl) rfl dX5_climb_13 ?_
  refine x_istore_n (lv' := [(3, .int q2), (2, .int 0), (0, .ref (ad 24)), (1, .int a1)]) (pc := 16) B dX5_climb_16 rfl (by decide) rfl ?_
  refine x_pick (lv' := [(0, .ref (ad 24)), (2, .int 0), (3, .int q2)]) [2, 1, 0] rfl ?_
  obtain ⟨q8, hq8, h⟩ := bnd h
  refine x_loop (Head := fun (y3 : Int32 × Int32 × Mem) => XX D ad cI cJ p l e (Rm 3 63) s m args below meth c Q 4 y3.2.2 17 [(0, .ref (ad 24)), (2, .int y3.1), (3, .int y3.2.1)] []) (Ex := fun (q8 : Int32 × Mem) => XX D ad cI cJ p l e (Rm 3 63) s m args below meth c Q 4 q8.2 51 [(2, .int q8.1)] []) (fun y3 r h hback hexit => ?_) FU _ q8 hq8 ?_
  · unfold b_Line_climb_24_17 at h
    refine x_iload_n (pc := 17) B 2 dX5_climb_17 rfl rfl ?_
    refine x_iconst (v := (-1)) (pc := 18) B dX5_climb_18 rfl ?_
    refine x_icmp_eq (tgt := 51) (pc := 19) B dX5_climb_19 rfl (fun hc4 => ?_) (fun hc4 => ?_)
    · have h := ift hc4 h
      refine x_pick (lv' := [(2, .int y3.1)]) [1] rfl ?_
      have z := hexit (y3.1, y3.2.2) (Option.some.inj h).symm
      exact z
    · have h := iff_ hc4 h
      refine x_iload_n (pc := 22) B 1 dX5_climb_22 rfl rfl ?_
      refine x_aload_n (pc := 23) B 0 dX5_climb_23 rfl rfl ?_
      refine x_get (T := TX5) (pc := 24) B 2 oi_24 rfl uw_5 (by decide) rfl tw_266 rfl dX5_climb_24 ?_
      refine x_icmp_ge (tgt := 51) (pc := 27) B dX5_climb_27 rfl (fun hc5 => ?_) (fun hc5 => ?_)
      · have h := iff_ hc5 h
        refine x_pick (lv' := [(2, .int y3.1)]) [1] rfl ?_
        have z := hexit (y3.1, y3.2.2) (Option.some.inj h).symm
        exact z
      · have h := ift hc5 h
        refine x_iinc (k := 1) (v := y3.1 + 1) (lv' := [(2, .int (y3.1 + 1)), (0, .ref (ad 24)), (3, .int y3.2.1)]) (pc := 30) B dX5_climb_30 rfl rfl (by decide) rfl ?_
        refine x_aload_n (pc := 33) B 1 dX5_climb_33 rfl rfl ?_
        refine x_get (T := TX5) (pc := 34) B 5 oi_24 rfl uw_5 (by decide) rfl tw_274 rfl dX5_climb_34 ?_
        refine x_iload_n (pc := 37) B 0 dX5_climb_37 rfl rfl ?_
        refine x_iload_n (pc := 38) B 2 dX5_climb_38 rfl rfl ?_
        refine x_callSN (rest := []) (st' := []) (pc := 39) B (T_CF_put 27 48 (y3.1 + 1) y3.2.1 ai_27 (by decide) y3.2.2) tw_588 tw_719 tw_587 tw_98 hd_CF_put ⟨Nat.le_of_ble_eq_true rfl, Nat.le_of_ble_eq_true rfl⟩ rfl rfl (Nat.le_of_ble_eq_true rfl) rfl dX5_climb_39 ?_
        refine jv_m (P := fun M6 => XX D ad cI cJ p l e (Rm 3 63) s m args below meth c Q 4 M6 42 [(2, .int (y3.1 + 1)), (0, .ref (ad 24)), (3, .int y3.2.1)] []) h (fun M6 h => ?_)
        refine x_aload_n (pc := 42) B 1 dX5_climb_42 rfl rfl ?_
        refine x_iload_n (pc := 43) B 2 dX5_climb_43 rfl rfl ?_
        obtain ⟨q7, hq7, h⟩ := bnd h
        refine x_callV (rest := []) (st' := [.int q7]) (pc := 44) B oi_24 rfl (C_Line_ahead_24 y3.2.1 M6 _ hq7) tw_571 tw_720 tw_569 tw_570 tw_103 hd_Line_ahead_24 ⟨Nat.le_of_ble_eq_true rfl, Nat.le_of_ble_eq_true rfl⟩ rfl rfl (Nat.le_of_ble_eq_true rfl) rfl dX5_climb_44 ?_
        refine x_istore_n (lv' := [(3, .int q7), (2, .int (y3.1 + 1)), (0, .ref (ad 24))]) (pc := 47) B dX5_climb_47 rfl (by decide) rfl ?_
        refine x_goto (tgt := 17) (pc := 48) B dX5_climb_48 rfl ?_
        refine x_pick (lv' := [(0, .ref (ad 24)), (2, .int (y3.1 + 1)), (3, .int q7)]) [2, 1, 0] rfl ?_
        have z := hback (y3.1 + 1, q7, M6) (Option.some.inj h).symm
        exact z
  · refine x_iload_n (pc := 51) B 0 dX5_climb_51 rfl rfl ?_
    obtain rfl := Option.some.inj h
    exact x_iret (pc := 52) B hQ dX5_climb_52
-- CurrentFarms$Coins.readOf(II)I [36]
abbrev y_Coins_readOf_36 : MethodName := ⟨"CurrentFarms$Coins", "readOf", "(II)I"⟩
abbrev cX3_readOf : ByteArray := prog_5_method_3_code
theorem dX3_readOf_0 : decode cX3_readOf 0 = .ok (.iload_n 1, 1) := by decide +kernel
theorem dX3_readOf_1 : decode cX3_readOf 1 = .ok (.iload_n 2, 1) := by decide +kernel
theorem dX3_readOf_2 : decode cX3_readOf 2 = .ok (.invokestatic 44, 3) := by decide +kernel
theorem dX3_readOf_5 : decode cX3_readOf 5 = .ok (.istore_n 3, 1) := by decide +kernel
theorem dX3_readOf_6 : decode cX3_readOf 6 = .ok (.iload_n 3, 1) := by decide +kernel
theorem dX3_readOf_7 : decode cX3_readOf 7 = .ok (.ifCond .ge 8, 3) := by decide +kernel
theorem dX3_readOf_10 : decode cX3_readOf 10 = .ok (.bipush (-5), 2) := by decide +kernel
theorem dX3_readOf_12 : decode cX3_readOf 12 = .ok (.goto 11, 3) := by decide +kernel
theorem dX3_readOf_15 : decode cX3_readOf 15 = .ok (.aload_n 0, 1) := by decide +kernel
theorem dX3_readOf_16 : decode cX3_readOf 16 = .ok (.getfield 9, 3) := by decide +kernel
theorem dX3_readOf_19 : decode cX3_readOf 19 = .ok (.iload_n 3, 1) := by decide +kernel
theorem dX3_readOf_20 : decode cX3_readOf 20 = .ok (.invokestatic 48, 3) := by decide +kernel
theorem dX3_readOf_23 : decode cX3_readOf 23 = .ok (.ireturn, 1) := by decide +kernel
theorem hd_Coins_readOf_36 : y_Coins_readOf_36.cls ≠ "java/lang/invoke/MethodHandle" ∧ y_Coins_readOf_36.cls ≠ "java/lang/invoke/VarHandle" ∧ (parseMethodDescriptor y_Coins_readOf_36.desc).map (fun d => d.parameters.length) = some 2 := by decide +kernel
def f_Coins_readOf_36 (a1 : Int32) (a2 : Int32) (M0 : Mem) : Option (Int32) :=
  if decide ((slt a1 a2) < 0) then (some (-5)) else (some (atv (M0.1 37) 1210 (slt a1 a2)))
set_option maxHeartbeats 4000000 in
set_option maxRecDepth 20000 in
theorem C_Coins_readOf_36 {D : va_G} {ad adK adV : Nat → Nat} {cI cJ : ClassId} {l : Launch} (a1 : Int32) (a2 : Int32) (M0 : Mem) (o : Int32) (h : f_Coins_readOf_36 a1 a2 M0 = some o) : Ct D ad adK adV cI cJ l y_Coins_readOf_36 cX3_readOf 4 (some .int) 1 22 [.ref (ad 36), .int a1, .int a2] M0 (some (.int o)) M0 := by
  refine x_start (lv := [(0, .ref (ad 36)), (1, .int a1), (2, .int a2)]) (own := "CurrentFarms$Coins") rfl (by decide) (Nat.le_of_ble_eq_true rfl) rfl ?_
  intro p e s m args below meth c Q hQ B
  unfold f_Coins_readOf_36 at h
  refine x_iload_n (pc := 0) B 1 dX3_readOf_0 rfl rfl ?_
  refine x_iload_n (pc := 1) B 2 dX3_readOf_1 rfl rfl ?_
  refine x_callSN (rest := []) (st' := [.int (slt a1 a2)]) (pc := 2) B (T_CF_slot a1 a2 M0) tw_728 tw_726 tw_727 tw_98 hd_CF_slot ⟨Nat.le_of_ble_eq_true rfl, Nat.le_of_ble_eq_true rfl⟩ rfl rfl (Nat.le_of_ble_eq_true rfl) rfl dX3_readOf_2 ?_
  refine x_istore_n (lv' := [(3, .int (slt a1 a2)), (0, .ref (ad 36)), (1, .int a1), (2, .int a2)]) (pc := 5) B dX3_readOf_5 rfl (by decide) rfl ?_
  refine x_iload_n (pc := 6) B 0 dX3_readOf_6 rfl rfl ?_
  refine x_if_ge (tgt := 15) (pc := 7) B dX3_readOf_7 rfl (fun hc1 => ?_) (fun hc1 => ?_)
  · have h := iff_ hc1 h
    refine x_aload_n (pc := 15) B 1 dX3_readOf_15 rfl rfl ?_
    refine x_get (T := TX3) (pc := 16) B 0 oi_36 rfl uw_3 (by decide) rfl tw_333 rfl dX3_readOf_16 ?_
    refine x_iload_n (pc := 19) B 0 dX3_readOf_19 rfl rfl ?_
    refine x_callSN (rest := []) (st' := [.int (atv (M0.1 37) 1210 (slt a1 a2))]) (pc := 20) B (T_CF_at 37 1210 (slt a1 a2) ai_37 (by decide) M0) tw_575 tw_729 tw_574 tw_98 hd_CF_at ⟨Nat.le_of_ble_eq_true rfl, Nat.le_of_ble_eq_true rfl⟩ rfl rfl (Nat.le_of_ble_eq_true rfl) rfl dX3_readOf_20 ?_
    obtain rfl := Option.some.inj h
    exact x_iret (pc := 23) B hQ dX3_readOf_23
  · have h := ift hc1 h
    refine x_bipush (v := (-5)) (pc := 10) B dX3_readOf_10 rfl ?_
    refine x_goto (tgt := 23) (pc := 12) B dX3_readOf_12 rfl ?_
    obtain rfl := Option.some.inj h
    exact x_iret (pc := 23) B hQ dX3_readOf_23
-- CurrentFarms$Account.metered(II)I [79]
abbrev y_Account_metered_79 : MethodName := ⟨"CurrentFarms$Account", "metered", "(II)I"⟩
abbrev cX0_metered : ByteArray := prog_2_method_4_code
theorem dX0_metered_0 : decode cX0_metered 0 = .ok (.iload_n 1, 1) := by decide +kernel
theorem dX0_metered_1 : decode cX0_metered 1 = .ok (.ifCond .ge 39, 3) := by decide +kernel
theorem dX0_metered_4 : decode cX0_metered 4 = .ok (.aload_n 0, 1) := by decide +kernel
theorem dX0_metered_5 : decode cX0_metered 5 = .ok (.getfield 118, 3) := by decide +kernel
theorem dX0_metered_8 : decode cX0_metered 8 = .ok (.ifCond .ge 8, 3) := by decide +kernel
theorem dX0_metered_11 : decode cX0_metered 11 = .ok (.bipush 10, 2) := by decide +kernel
theorem dX0_metered_13 : decode cX0_metered 13 = .ok (.goto 14, 3) := by decide +kernel
theorem dX0_metered_16 : decode cX0_metered 16 = .ok (.aload_n 0, 1) := by decide +kernel
theorem dX0_metered_17 : decode cX0_metered 17 = .ok (.getfield 121, 3) := by decide +kernel
theorem dX0_metered_20 : decode cX0_metered 20 = .ok (.aload_n 0, 1) := by decide +kernel
theorem dX0_metered_21 : decode cX0_metered 21 = .ok (.getfield 124, 3) := by decide +kernel
theorem dX0_metered_24 : decode cX0_metered 24 = .ok (.invokestatic 133, 3) := by decide +kernel
theorem dX0_metered_27 : decode cX0_metered 27 = .ok (.istore_n 3, 1) := by decide +kernel
theorem dX0_metered_28 : decode cX0_metered 28 = .ok (.aload_n 0, 1) := by decide +kernel
theorem dX0_metered_29 : decode cX0_metered 29 = .ok (.dup, 1) := by decide +kernel
theorem dX0_metered_30 : decode cX0_metered 30 = .ok (.getfield 127, 3) := by decide +kernel
theorem dX0_metered_33 : decode cX0_metered 33 = .ok (.iload_n 3, 1) := by decide +kernel
theorem dX0_metered_34 : decode cX0_metered 34 = .ok (.iadd, 1) := by decide +kernel
theorem dX0_metered_35 : decode cX0_metered 35 = .ok (.putfield 127, 3) := by decide +kernel
theorem dX0_metered_38 : decode cX0_metered 38 = .ok (.iload_n 3, 1) := by decide +kernel
theorem dX0_metered_39 : decode cX0_metered 39 = .ok (.ireturn, 1) := by decide +kernel
theorem dX0_metered_40 : decode cX0_metered 40 = .ok (.iload_n 1, 1) := by decide +kernel
theorem dX0_metered_41 : decode cX0_metered 41 = .ok (.aload_n 0, 1) := by decide +kernel
theorem dX0_metered_42 : decode cX0_metered 42 = .ok (.getfield 115, 3) := by decide +kernel
theorem dX0_metered_45 : decode cX0_metered 45 = .ok (.isub, 1) := by decide +kernel
theorem dX0_metered_46 : decode cX0_metered 46 = .ok (.aload_n 0, 1) := by decide +kernel
theorem dX0_metered_47 : decode cX0_metered 47 = .ok (.getfield 127, 3) := by decide +kernel
theorem dX0_metered_50 : decode cX0_metered 50 = .ok (.isub, 1) := by decide +kernel
theorem dX0_metered_51 : decode cX0_metered 51 = .ok (.aload_n 0, 1) := by decide +kernel
theorem dX0_metered_52 : decode cX0_metered 52 = .ok (.getfield 130, 3) := by decide +kernel
theorem dX0_metered_55 : decode cX0_metered 55 = .ok (.isub, 1) := by decide +kernel
theorem dX0_metered_56 : decode cX0_metered 56 = .ok (.istore_n 3, 1) := by decide +kernel
theorem dX0_metered_57 : decode cX0_metered 57 = .ok (.aload_n 0, 1) := by decide +kernel
theorem dX0_metered_58 : decode cX0_metered 58 = .ok (.iconst 0, 1) := by decide +kernel
theorem dX0_metered_59 : decode cX0_metered 59 = .ok (.iload_n 3, 1) := by decide +kernel
theorem dX0_metered_60 : decode cX0_metered 60 = .ok (.ineg, 1) := by decide +kernel
theorem dX0_metered_61 : decode cX0_metered 61 = .ok (.invokestatic 136, 3) := by decide +kernel
theorem dX0_metered_64 : decode cX0_metered 64 = .ok (.putfield 130, 3) := by decide +kernel
theorem dX0_metered_67 : decode cX0_metered 67 = .ok (.aload_n 0, 1) := by decide +kernel
theorem dX0_metered_68 : decode cX0_metered 68 = .ok (.iconst 0, 1) := by decide +kernel
theorem dX0_metered_69 : decode cX0_metered 69 = .ok (.iload_n 3, 1) := by decide +kernel
theorem dX0_metered_70 : decode cX0_metered 70 = .ok (.invokestatic 136, 3) := by decide +kernel
theorem dX0_metered_73 : decode cX0_metered 73 = .ok (.putfield 121, 3) := by decide +kernel
theorem dX0_metered_76 : decode cX0_metered 76 = .ok (.aload_n 0, 1) := by decide +kernel
theorem dX0_metered_77 : decode cX0_metered 77 = .ok (.aload_n 0, 1) := by decide +kernel
theorem dX0_metered_78 : decode cX0_metered 78 = .ok (.getfield 118, 3) := by decide +kernel
theorem dX0_metered_81 : decode cX0_metered 81 = .ok (.ifCond .ge 7, 3) := by decide +kernel
theorem dX0_metered_84 : decode cX0_metered 84 = .ok (.iconst 1, 1) := by decide +kernel
theorem dX0_metered_85 : decode cX0_metered 85 = .ok (.goto 9, 3) := by decide +kernel
theorem dX0_metered_88 : decode cX0_metered 88 = .ok (.iload_n 2, 1) := by decide +kernel
theorem dX0_metered_89 : decode cX0_metered 89 = .ok (.aload_n 0, 1) := by decide +kernel
theorem dX0_metered_90 : decode cX0_metered 90 = .ok (.getfield 118, 3) := by decide +kernel
theorem dX0_metered_93 : decode cX0_metered 93 = .ok (.isub, 1) := by decide +kernel
theorem dX0_metered_94 : decode cX0_metered 94 = .ok (.putfield 124, 3) := by decide +kernel
theorem dX0_metered_97 : decode cX0_metered 97 = .ok (.aload_n 0, 1) := by decide +kernel
theorem dX0_metered_98 : decode cX0_metered 98 = .ok (.iload_n 2, 1) := by decide +kernel
theorem dX0_metered_99 : decode cX0_metered 99 = .ok (.putfield 118, 3) := by decide +kernel
theorem dX0_metered_102 : decode cX0_metered 102 = .ok (.aload_n 0, 1) := by decide +kernel
theorem dX0_metered_103 : decode cX0_metered 103 = .ok (.iload_n 1, 1) := by decide +kernel
theorem dX0_metered_104 : decode cX0_metered 104 = .ok (.putfield 115, 3) := by decide +kernel
theorem dX0_metered_107 : decode cX0_metered 107 = .ok (.aload_n 0, 1) := by decide +kernel
theorem dX0_metered_108 : decode cX0_metered 108 = .ok (.iconst 0, 1) := by decide +kernel
theorem dX0_metered_109 : decode cX0_metered 109 = .ok (.putfield 127, 3) := by decide +kernel
theorem dX0_metered_112 : decode cX0_metered 112 = .ok (.aload_n 0, 1) := by decide +kernel
theorem dX0_metered_113 : decode cX0_metered 113 = .ok (.getfield 121, 3) := by decide +kernel
theorem dX0_metered_116 : decode cX0_metered 116 = .ok (.ireturn, 1) := by decide +kernel
theorem hd_Account_metered_79 : y_Account_metered_79.cls ≠ "java/lang/invoke/MethodHandle" ∧ y_Account_metered_79.cls ≠ "java/lang/invoke/VarHandle" ∧ (parseMethodDescriptor y_Account_metered_79.desc).map (fun d => d.parameters.length) = some 2 := by decide +kernel
def f_Account_metered_79 (a1 : Int32) (a2 : Int32) (M0 : Mem) : Option (Int32 × Mem) :=
  if decide (a1 < 0) then (jv_ ((if decide ((M0.1 79 6) < 0) then 10 else prt (M0.1 79 7) (M0.1 79 8)) : Int32) fun u4 => jv_ (wI M0 79 9 ((M0.1 79 9) + u4)) fun M5 => some (u4, M5)) else (jv_ (wI M0 79 10 (jmax 0 (-(((a1 - (M0.1 79 5)) - (M0.1 79 9)) - (M0.1 79 10))))) fun M6 => jv_ (wI M6 79 7 (jmax 0 (((a1 - (M0.1 79 5)) - (M0.1 79 9)) - (M0.1 79 10)))) fun M7 => jv_ ((if decide ((M7.1 79 6) < 0) then 1 else a2 - (M7.1 79 6)) : Int32) fun u10 => jv_ (wI M7 79 8 u10) fun M11 => jv_ (wI M11 79 6 a2) fun M12 => jv_ (wI M12 79 5 a1) fun M13 => jv_ (wI M13 79 9 0) fun M14 => some (M14.1 79 7, M14))
set_option maxHeartbeats 4000000 in
set_option maxRecDepth 20000 in
theorem C_Account_metered_79 {D : va_G} {ad adK adV : Nat → Nat} {cI cJ : ClassId} {l : Launch} (a1 : Int32) (a2 : Int32) (M0 : Mem) (o : Int32 × Mem) (h : f_Account_metered_79 a1 a2 M0 = some o) : Ct D ad adK adV cI cJ l y_Account_metered_79 cX0_metered 4 (some .int) 1 21 [.ref (ad 79), .int a1, .int a2] M0 (some (.int o.1)) o.2 := by
  refine x_start (lv := [(0, .ref (ad 79)), (1, .int a1), (2, .int a2)]) (own := "CurrentFarms$Account") rfl (by decide) (Nat.le_of_ble_eq_true rfl) rfl ?_
  intro p e s m args below meth c Q hQ B
  unfold f_Account_metered_79 at h
  refine x_iload_n (pc := 0) B 1 dX0_metered_0 rfl rfl ?_
  refine x_if_ge (tgt := 40) (pc := 1) B dX0_metered_1 rfl (fun hc1 => ?_) (fun hc1 => ?_)
  · have h := iff_ hc1 h
    refine x_iload_n (pc := 40) B 1 dX0_metered_40 rfl rfl ?_
    refine x_aload_n (pc := 41) B 0 dX0_metered_41 rfl rfl ?_
    refine x_get (T := TX0) (pc := 42) B 5 oi_79 rfl uw_0 (by decide) rfl tw_436 rfl dX0_metered_42 ?_
    refine x_isub (pc := 45) B dX0_metered_45 ?_
    refine x_aload_n (pc := 46) B 0 dX0_metered_46 rfl rfl ?_
    refine x_get (T := TX0) (pc := 47) B 9 oi_79 rfl uw_0 (by decide) rfl tw_440 rfl dX0_metered_47 ?_
    refine x_isub (pc := 50) B dX0_metered_50 ?_
    refine x_aload_n (pc := 51) B 0 dX0_metered_51 rfl rfl ?_
    refine x_get (T := TX0) (pc := 52) B 10 oi_79 rfl uw_0 (by decide) rfl tw_441 rfl dX0_metered_52 ?_
    refine x_isub (pc := 55) B dX0_metered_55 ?_
    refine x_istore_n (lv' := [(3, .int (((a1 - (M0.1 79 5)) - (M0.1 79 9)) - (M0.1 79 10))), (0, .ref (ad 79)), (1, .int a1), (2, .int a2)]) (pc := 56) B dX0_metered_56 rfl (by decide) rfl ?_
    refine x_aload_n (pc := 57) B 1 dX0_metered_57 rfl rfl ?_
    refine x_iconst (v := 0) (pc := 58) B dX0_metered_58 rfl ?_
    refine x_iload_n (pc := 59) B 0 dX0_metered_59 rfl rfl ?_
    refine x_ineg (pc := 60) B dX0_metered_60 ?_
    refine x_mmax (pc := 61) B tw_737 tw_608 tw_112 tw_609 (by decide) (Nat.le_of_ble_eq_true rfl) dX0_metered_61 ?_
    refine x_put (T := TX0) (pc := 64) B 10 oi_79 of_79_10 rfl uw_0 tyX0_ok nmX0 (by decide) rfl tw_441 rfl rfl rfl (Nat.le_of_ble_eq_true rfl) dX0_metered_64 ?_
    refine jv_m (P := fun M6 => XX D ad cI cJ p l e (Rm 1 21) s m args below meth c Q 4 M6 67 [(3, .int (((a1 - (M0.1 79 5)) - (M0.1 79 9)) - (M0.1 79 10))), (0, .ref (ad 79)), (1, .int a1), (2, .int a2)] []) h (fun M6 h => ?_)
    refine x_aload_n (pc := 67) B 1 dX0_metered_67 rfl rfl ?_
    refine x_iconst (v := 0) (pc := 68) B dX0_metered_68 rfl ?_
    refine x_iload_n (pc := 69) B 0 dX0_metered_69 rfl rfl ?_
    refine x_mmax (pc := 70) B tw_737 tw_608 tw_112 tw_609 (by decide) (Nat.le_of_ble_eq_true rfl) dX0_metered_70 ?_
    refine x_put (T := TX0) (pc := 73) B 7 oi_79 of_79_7 rfl uw_0 tyX0_ok nmX0 (by decide) rfl tw_438 rfl rfl rfl (Nat.le_of_ble_eq_true rfl) dX0_metered_73 ?_
    refine jv_m (P := fun M7 => XX D ad cI cJ p l e (Rm 1 21) s m args below meth c Q 4 M7 76 [(3, .int (((a1 - (M0.1 79 5)) - (M0.1 79 9)) - (M0.1 79 10))), (0, .ref (ad 79)), (1, .int a1), (2, .int a2)] []) h (fun M7 h => ?_)
    refine x_aload_n (pc := 76) B 1 dX0_metered_76 rfl rfl ?_
    refine x_aload_n (pc := 77) B 1 dX0_metered_77 rfl rfl ?_
    refine x_get (T := TX0) (pc := 78) B 6 oi_79 rfl uw_0 (by decide) rfl tw_437 rfl dX0_metered_78 ?_
    refine jv_k h (fun (u10 : Int32) => XX D ad cI cJ p l e (Rm 1 21) s m args below meth c Q 4 M7 94 [(0, .ref (ad 79)), (1, .int a1), (2, .int a2)] [.int u10, .ref (ad 79)]) (fun u10 h => ?_) (fun JJ => ?_)
    · refine x_put (T := TX0) (pc := 94) B 8 oi_79 of_79_8 rfl uw_0 tyX0_ok nmX0 (by decide) rfl tw_439 rfl rfl rfl (Nat.le_of_ble_eq_true rfl) dX0_metered_94 ?_
      refine jv_m (P := fun M11 => XX D ad cI cJ p l e (Rm 1 21) s m args below meth c Q 4 M11 97 [(0, .ref (ad 79)), (1, .int a1), (2, .int a2)] []) h (fun M11 h => ?_)
      refine x_aload_n (pc := 97) B 0 dX0_metered_97 rfl rfl ?_
      refine x_iload_n (pc := 98) B 2 dX0_metered_98 rfl rfl ?_
      refine x_put (T := TX0) (pc := 99) B 6 oi_79 of_79_6 rfl uw_0 tyX0_ok nmX0 (by decide) rfl tw_437 rfl rfl rfl (Nat.le_of_ble_eq_true rfl) dX0_metered_99 ?_
      refine jv_m (P := fun M12 => XX D ad cI cJ p l e (Rm 1 21) s m args below meth c Q 4 M12 102 [(0, .ref (ad 79)), (1, .int a1), (2, .int a2)] []) h (fun M12 h => ?_)
      refine x_aload_n (pc := 102) B 0 dX0_metered_102 rfl rfl ?_
      refine x_iload_n (pc := 103) B 1 dX0_metered_103 rfl rfl ?_
      refine x_put (T := TX0) (pc := 104) B 5 oi_79 of_79_5 rfl uw_0 tyX0_ok nmX0 (by decide) rfl tw_436 rfl rfl rfl (Nat.le_of_ble_eq_true rfl) dX0_metered_104 ?_
      refine jv_m (P := fun M13 => XX D ad cI cJ p l e (Rm 1 21) s m args below meth c Q 4 M13 107 [(0, .ref (ad 79)), (1, .int a1), (2, .int a2)] []) h (fun M13 h => ?_)
      refine x_aload_n (pc := 107) B 0 dX0_metered_107 rfl rfl ?_
      refine x_iconst (v := 0) (pc := 108) B dX0_metered_108 rfl ?_
      refine x_put (T := TX0) (pc := 109) B 9 oi_79 of_79_9 rfl uw_0 tyX0_ok nmX0 (by decide) rfl tw_440 rfl rfl rfl (Nat.le_of_ble_eq_true rfl) dX0_metered_109 ?_
      refine jv_m (P := fun M14 => XX D ad cI cJ p l e (Rm 1 21) s m args below meth c Q 4 M14 112 [(0, .ref (ad 79)), (1, .int a1), (2, .int a2)] []) h (fun M14 h => ?_)
      refine x_aload_n (pc := 112) B 0 dX0_metered_112 rfl rfl ?_
      refine x_get (T := TX0) (pc := 113) B 7 oi_79 rfl uw_0 (by decide) rfl tw_438 rfl dX0_metered_113 ?_
      obtain rfl := Option.some.inj h
      exact x_iret (pc := 116) B hQ dX0_metered_116
    · refine x_if_ge (tgt := 88) (pc := 81) B dX0_metered_81 rfl (fun hc8 => ?_) (fun hc8 => ?_)
      · refine x_iload_n (pc := 88) B 3 dX0_metered_88 rfl rfl ?_
        refine x_aload_n (pc := 89) B 1 dX0_metered_89 rfl rfl ?_
        refine x_get (T := TX0) (pc := 90) B 6 oi_79 rfl uw_0 (by decide) rfl tw_437 rfl dX0_metered_90 ?_
        refine x_isub (pc := 93) B dX0_metered_93 ?_
        refine x_pick (lv' := [(0, .ref (ad 79)), (1, .int a1), (2, .int a2)]) [1, 2, 3] rfl ?_
        have z := JJ (a2 - (M7.1 79 6)) ((zif_f hc8).trans rfl)
        exact z
      · refine x_iconst (v := 1) (pc := 84) B dX0_metered_84 rfl ?_
        refine x_goto (tgt := 94) (pc := 85) B dX0_metered_85 rfl ?_
        refine x_pick (lv' := [(0, .ref (ad 79)), (1, .int a1), (2, .int a2)]) [1, 2, 3] rfl ?_
        have z := JJ 1 ((zif_t hc8).trans rfl)
        exact z
  · have h := ift hc1 h
    refine x_aload_n (pc := 4) B 0 dX0_metered_4 rfl rfl ?_
    refine x_get (T := TX0) (pc := 5) B 6 oi_79 rfl uw_0 (by decide) rfl tw_437 rfl dX0_metered_5 ?_
    refine jv_k h (fun (u4 : Int32) => XX D ad cI cJ p l e (Rm 1 21) s m args below meth c Q 4 M0 27 [(0, .ref (ad 79))] [.int u4]) (fun u4 h => ?_) (fun JJ => ?_)
    · refine x_istore_n (lv' := [(3, .int u4), (0, .ref (ad 79))]) (pc := 27) B dX0_metered_27 rfl (by decide) rfl ?_
      refine x_aload_n (pc := 28) B 1 dX0_metered_28 rfl rfl ?_
      refine x_dup (pc := 29) B dX0_metered_29 rfl ?_
      refine x_get (T := TX0) (pc := 30) B 9 oi_79 rfl uw_0 (by decide) rfl tw_440 rfl dX0_metered_30 ?_
      refine x_iload_n (pc := 33) B 0 dX0_metered_33 rfl rfl ?_
      refine x_iadd (pc := 34) B dX0_metered_34 ?_
      refine x_put (T := TX0) (pc := 35) B 9 oi_79 of_79_9 rfl uw_0 tyX0_ok nmX0 (by decide) rfl tw_440 rfl rfl rfl (Nat.le_of_ble_eq_true rfl) dX0_metered_35 ?_
      refine jv_m (P := fun M5 => XX D ad cI cJ p l e (Rm 1 21) s m args below meth c Q 4 M5 38 [(3, .int u4), (0, .ref (ad 79))] []) h (fun M5 h => ?_)
      refine x_iload_n (pc := 38) B 0 dX0_metered_38 rfl rfl ?_
      obtain rfl := Option.some.inj h
      exact x_iret (pc := 39) B hQ dX0_metered_39
    · refine x_if_ge (tgt := 16) (pc := 8) B dX0_metered_8 rfl (fun hc2 => ?_) (fun hc2 => ?_)
      · refine x_aload_n (pc := 16) B 0 dX0_metered_16 rfl rfl ?_
        refine x_get (T := TX0) (pc := 17) B 7 oi_79 rfl uw_0 (by decide) rfl tw_438 rfl dX0_metered_17 ?_
        refine x_aload_n (pc := 20) B 0 dX0_metered_20 rfl rfl ?_
        refine x_get (T := TX0) (pc := 21) B 8 oi_79 rfl uw_0 (by decide) rfl tw_439 rfl dX0_metered_21 ?_
        refine x_callSN (rest := []) (st' := [.int (prt (M0.1 79 7) (M0.1 79 8))]) (pc := 24) B (T_CF_parted (M0.1 79 7) (M0.1 79 8) M0) tw_736 tw_734 tw_735 tw_98 hd_CF_parted ⟨Nat.le_of_ble_eq_true rfl, Nat.le_of_ble_eq_true rfl⟩ rfl rfl (Nat.le_of_ble_eq_true rfl) rfl dX0_metered_24 ?_
        refine x_pick (lv' := [(0, .ref (ad 79))]) [0] rfl ?_
        have z := JJ (prt (M0.1 79 7) (M0.1 79 8)) ((zif_f hc2).trans rfl)
        exact z
      · refine x_bipush (v := 10) (pc := 11) B dX0_metered_11 rfl ?_
        refine x_goto (tgt := 27) (pc := 13) B dX0_metered_13 rfl ?_
        refine x_pick (lv' := [(0, .ref (ad 79))]) [0] rfl ?_
        have z := JJ 10 ((zif_t hc2).trans rfl)
        exact z
-- CurrentFarms$Rules.stepped(II)I [14]
abbrev y_Rules_stepped_14 : MethodName := ⟨"CurrentFarms$Rules", "stepped", "(II)I"⟩
abbrev cX7_stepped : ByteArray := prog_9_method_8_code
theorem dX7_stepped_0 : decode cX7_stepped 0 = .ok (.iconst 0, 1) := by decide +kernel
theorem dX7_stepped_1 : decode cX7_stepped 1 = .ok (.aload_n 0, 1) := by decide +kernel
theorem dX7_stepped_2 : decode cX7_stepped 2 = .ok (.getfield 36, 3) := by decide +kernel
theorem dX7_stepped_5 : decode cX7_stepped 5 = .ok (.iload_n 1, 1) := by decide +kernel
theorem dX7_stepped_6 : decode cX7_stepped 6 = .ok (.invokestatic 54, 3) := by decide +kernel
theorem dX7_stepped_9 : decode cX7_stepped 9 = .ok (.invokestatic 75, 3) := by decide +kernel
theorem dX7_stepped_12 : decode cX7_stepped 12 = .ok (.istore_n 3, 1) := by decide +kernel
theorem dX7_stepped_13 : decode cX7_stepped 13 = .ok (.iconst 0, 1) := by decide +kernel
theorem dX7_stepped_14 : decode cX7_stepped 14 = .ok (.istore 4, 2) := by decide +kernel
theorem dX7_stepped_16 : decode cX7_stepped 16 = .ok (.iconst 1, 1) := by decide +kernel
theorem dX7_stepped_17 : decode cX7_stepped 17 = .ok (.istore 5, 2) := by decide +kernel
theorem dX7_stepped_19 : decode cX7_stepped 19 = .ok (.iload 5, 2) := by decide +kernel
theorem dX7_stepped_21 : decode cX7_stepped 21 = .ok (.iload_n 2, 1) := by decide +kernel
theorem dX7_stepped_22 : decode cX7_stepped 22 = .ok (.if_icmp .gt 51, 3) := by decide +kernel
theorem dX7_stepped_25 : decode cX7_stepped 25 = .ok (.iload 5, 2) := by decide +kernel
theorem dX7_stepped_27 : decode cX7_stepped 27 = .ok (.iload_n 2, 1) := by decide +kernel
theorem dX7_stepped_28 : decode cX7_stepped 28 = .ok (.if_icmp .ge 12, 3) := by decide +kernel
theorem dX7_stepped_31 : decode cX7_stepped 31 = .ok (.bipush 10, 2) := by decide +kernel
theorem dX7_stepped_33 : decode cX7_stepped 33 = .ok (.iload_n 3, 1) := by decide +kernel
theorem dX7_stepped_34 : decode cX7_stepped 34 = .ok (.invokestatic 70, 3) := by decide +kernel
theorem dX7_stepped_37 : decode cX7_stepped 37 = .ok (.goto 4, 3) := by decide +kernel
theorem dX7_stepped_40 : decode cX7_stepped 40 = .ok (.iload_n 3, 1) := by decide +kernel
theorem dX7_stepped_41 : decode cX7_stepped 41 = .ok (.istore 6, 2) := by decide +kernel
theorem dX7_stepped_43 : decode cX7_stepped 43 = .ok (.iload 4, 2) := by decide +kernel
theorem dX7_stepped_45 : decode cX7_stepped 45 = .ok (.iload 6, 2) := by decide +kernel
theorem dX7_stepped_47 : decode cX7_stepped 47 = .ok (.aload_n 0, 1) := by decide +kernel
theorem dX7_stepped_48 : decode cX7_stepped 48 = .ok (.getfield 36, 3) := by decide +kernel
theorem dX7_stepped_51 : decode cX7_stepped 51 = .ok (.iload_n 1, 1) := by decide +kernel
theorem dX7_stepped_52 : decode cX7_stepped 52 = .ok (.iload 5, 2) := by decide +kernel
theorem dX7_stepped_54 : decode cX7_stepped 54 = .ok (.iadd, 1) := by decide +kernel
theorem dX7_stepped_55 : decode cX7_stepped 55 = .ok (.invokestatic 54, 3) := by decide +kernel
theorem dX7_stepped_58 : decode cX7_stepped 58 = .ok (.imul, 1) := by decide +kernel
theorem dX7_stepped_59 : decode cX7_stepped 59 = .ok (.iadd, 1) := by decide +kernel
theorem dX7_stepped_60 : decode cX7_stepped 60 = .ok (.istore 4, 2) := by decide +kernel
theorem dX7_stepped_62 : decode cX7_stepped 62 = .ok (.iload_n 3, 1) := by decide +kernel
theorem dX7_stepped_63 : decode cX7_stepped 63 = .ok (.iload 6, 2) := by decide +kernel
theorem dX7_stepped_65 : decode cX7_stepped 65 = .ok (.isub, 1) := by decide +kernel
theorem dX7_stepped_66 : decode cX7_stepped 66 = .ok (.istore_n 3, 1) := by decide +kernel
theorem dX7_stepped_67 : decode cX7_stepped 67 = .ok (.iinc 5 1, 3) := by decide +kernel
theorem dX7_stepped_70 : decode cX7_stepped 70 = .ok (.goto (-51), 3) := by decide +kernel
theorem dX7_stepped_73 : decode cX7_stepped 73 = .ok (.iload 4, 2) := by decide +kernel
theorem dX7_stepped_75 : decode cX7_stepped 75 = .ok (.ireturn, 1) := by decide +kernel
theorem hd_Rules_stepped_14 : y_Rules_stepped_14.cls ≠ "java/lang/invoke/MethodHandle" ∧ y_Rules_stepped_14.cls ≠ "java/lang/invoke/VarHandle" ∧ (parseMethodDescriptor y_Rules_stepped_14.desc).map (fun d => d.parameters.length) = some 2 := by decide +kernel
def b_Rules_stepped_14_19 (a1 : Int32) (a2 : Int32) (M0 : Mem) (y1 : Int32 × Int32 × Int32) : Option ((Int32 × Int32 × Int32) ⊕ (Int32)) :=
  if decide (y1.2.2 ≤ a2) then (jv_ ((if decide (y1.2.2 < a2) then jmin 10 y1.1 else y1.1) : Int32) fun u5 => some (.inl (y1.1 - u5, y1.2.1 + (u5 * (atv (M0.1 23) 60 (a1 + y1.2.2))), y1.2.2 + 1))) else (some (.inr y1.2.1))
def f_Rules_stepped_14 (a1 : Int32) (a2 : Int32) (M0 : Mem) : Option (Int32) :=
  (itr (b_Rules_stepped_14_19 a1 a2 M0) FU (jmax 0 (atv (M0.1 23) 60 a1), 0, 1)).bind fun q6 => some q6
set_option maxHeartbeats 4000000 in
set_option maxRecDepth 20000 in
theorem C_Rules_stepped_14 {D : va_G} {ad adK adV : Nat → Nat} {cI cJ : ClassId} {l : Launch} (a1 : Int32) (a2 : Int32) (M0 : Mem) (o : Int32) (h : f_Rules_stepped_14 a1 a2 M0 = some o) : Ct D ad adK adV cI cJ l y_Rules_stepped_14 cX7_stepped 7 (some .int) 1 21 [.ref (ad 14), .int a1, .int a2] M0 (some (.int o)) M0 := by
  refine x_start (lv := [(0, .ref (ad 14)), (1, .int a1), (2, .int a2)]) (own := "CurrentFarms$Rules") rfl (by decide) (Nat.le_of_ble_eq_true rfl) rfl ?_
  intro p e s m args below meth c Q hQ B
  unfold f_Rules_stepped_14 at h
  refine x_iconst (v := 0) (pc := 0) B dX7_stepped_0 rfl ?_
  refine x_aload_n (pc := 1) B 0 dX7_stepped_1 rfl rfl ?_
  refine x_get (T := TX7) (pc := 2) B 10 oi_14 rfl uw_7 (by decide) rfl tw_226 rfl dX7_stepped_2 ?_
  refine x_iload_n (pc := 5) B 1 dX7_stepped_5 rfl rfl ?_
  refine x_callSN (rest := [.int 0]) (st' := [.int (atv (M0.1 23) 60 a1), .int 0]) (pc := 6) B (T_CF_at 23 60 a1 ai_23 (by decide) M0) tw_575 tw_742 tw_574 tw_98 hd_CF_at ⟨Nat.le_of_ble_eq_true rfl, Nat.le_of_ble_eq_true rfl⟩ rfl rfl (Nat.le_of_ble_eq_true rfl) rfl dX7_stepped_6 ?_
  refine x_mmax (pc := 9) B tw_751 tw_608 tw_112 tw_609 (by decide) (Nat.le_of_ble_eq_true rfl) dX7_stepped_9 ?_
  refine x_istore_n (lv' := [(3, .int (jmax 0 (atv (M0.1 23) 60 a1))), (0, .ref (ad 14)), (1, .int a1), (2, .int a2)]) (pc := 12) B dX7_stepped_12 rfl (by decide) rfl ?_
  refine x_iconst (v := 0) (pc := 13) B dX7_stepped_13 rfl ?_
  refine x_istore (lv' := [(4, .int 0), (3, .int (jmax 0 (atv (M0.1 23) 60 a1))), (0, .ref (ad 14)), (1, .int a1), (2, .int a2)]) (pc := 14) B dX7_stepped_14 (by decide) rfl ?_
  refine x_iconst (v := 1) (pc := 16) B dX7_stepped_16 rfl ?_
  refine x_istore (lv' := [(5, .int 1), (4, .int 0), (3, .int (jmax 0 (atv (M0.1 23) 60 a1))), (0, .ref (ad 14)), (1, .int a1), (2, .int a2)]) (pc := 17) B dX7_stepped_17 (by decide) rfl ?_
  refine x_pick (lv' := [(0, .ref (ad 14)), (1, .int a1), (2, .int a2), (3, .int (jmax 0 (atv (M0.1 23) 60 a1))), (4, .int 0), (5, .int 1)]) [3, 4, 5, 2, 1, 0] rfl ?_
  obtain ⟨q6, hq6, h⟩ := bnd h
  refine x_loop (Head := fun (y1 : Int32 × Int32 × Int32) => XX D ad cI cJ p l e (Rm 1 21) s m args below meth c Q 7 M0 19 [(0, .ref (ad 14)), (1, .int a1), (2, .int a2), (3, .int y1.1), (4, .int y1.2.1), (5, .int y1.2.2)] []) (Ex := fun (q6 : Int32) => XX D ad cI cJ p l e (Rm 1 21) s m args below meth c Q 7 M0 73 [(4, .int q6)] []) (fun y1 r h hback hexit => ?_) FU _ q6 hq6 ?_
  · unfold b_Rules_stepped_14_19 at h
    refine x_iload (pc := 19) B 5 dX7_stepped_19 rfl ?_
    refine x_iload_n (pc := 21) B 2 dX7_stepped_21 rfl rfl ?_
    refine x_icmp_gt (tgt := 73) (pc := 22) B dX7_stepped_22 rfl (fun hc2 => ?_) (fun hc2 => ?_)
    · have h := iff_ hc2 h
      refine x_pick (lv' := [(4, .int y1.2.1)]) [4] rfl ?_
      have z := hexit y1.2.1 (Option.some.inj h).symm
      exact z
    · have h := ift hc2 h
      refine x_iload (pc := 25) B 5 dX7_stepped_25 rfl ?_
      refine x_iload_n (pc := 27) B 2 dX7_stepped_27 rfl rfl ?_
      refine jv_k h (fun (u5 : Int32) => XX D ad cI cJ p l e (Rm 1 21) s m args below meth c Q 7 M0 41 [(0, .ref (ad 14)), (1, .int a1), (2, .int a2), (3, .int y1.1), (4, .int y1.2.1), (5, .int y1.2.2)] [.int u5]) (fun u5 h => ?_) (fun JJ => ?_)
      · refine x_istore (lv' := [(6, .int u5), (0, .ref (ad 14)), (1, .int a1), (2, .int a2), (3, .int y1.1), (4, .int y1.2.1), (5, .int y1.2.2)]) (pc := 41) B dX7_stepped_41 (by decide) rfl ?_
        refine x_iload (pc := 43) B 5 dX7_stepped_43 rfl ?_
        refine x_iload (pc := 45) B 0 dX7_stepped_45 rfl ?_
        refine x_aload_n (pc := 47) B 1 dX7_stepped_47 rfl rfl ?_
        refine x_get (T := TX7) (pc := 48) B 10 oi_14 rfl uw_7 (by decide) rfl tw_226 rfl dX7_stepped_48 ?_
        refine x_iload_n (pc := 51) B 2 dX7_stepped_51 rfl rfl ?_
        refine x_iload (pc := 52) B 6 dX7_stepped_52 rfl ?_
        refine x_iadd (pc := 54) B dX7_stepped_54 ?_
        refine x_callSN (rest := [.int u5, .int y1.2.1]) (st' := [.int (atv (M0.1 23) 60 (a1 + y1.2.2)), .int u5, .int y1.2.1]) (pc := 55) B (T_CF_at 23 60 (a1 + y1.2.2) ai_23 (by decide) M0) tw_575 tw_742 tw_574 tw_98 hd_CF_at ⟨Nat.le_of_ble_eq_true rfl, Nat.le_of_ble_eq_true rfl⟩ rfl rfl (Nat.le_of_ble_eq_true rfl) rfl dX7_stepped_55 ?_
        refine x_imul (pc := 58) B dX7_stepped_58 ?_
        refine x_iadd (pc := 59) B dX7_stepped_59 ?_
        refine x_istore (lv' := [(4, .int (y1.2.1 + (u5 * (atv (M0.1 23) 60 (a1 + y1.2.2))))), (6, .int u5), (0, .ref (ad 14)), (1, .int a1), (2, .int a2), (3, .int y1.1), (5, .int y1.2.2)]) (pc := 60) B dX7_stepped_60 (by decide) rfl ?_
        refine x_iload_n (pc := 62) B 5 dX7_stepped_62 rfl rfl ?_
        refine x_iload (pc := 63) B 1 dX7_stepped_63 rfl ?_
        refine x_isub (pc := 65) B dX7_stepped_65 ?_
        refine x_istore_n (lv' := [(3, .int (y1.1 - u5)), (4, .int (y1.2.1 + (u5 * (atv (M0.1 23) 60 (a1 + y1.2.2))))), (6, .int u5), (0, .ref (ad 14)), (1, .int a1), (2, .int a2), (5, .int y1.2.2)]) (pc := 66) B dX7_stepped_66 rfl (by decide) rfl ?_
        refine x_iinc (k := 6) (v := y1.2.2 + 1) (lv' := [(5, .int (y1.2.2 + 1)), (3, .int (y1.1 - u5)), (4, .int (y1.2.1 + (u5 * (atv (M0.1 23) 60 (a1 + y1.2.2))))), (6, .int u5), (0, .ref (ad 14)), (1, .int a1), (2, .int a2)]) (pc := 67) B dX7_stepped_67 rfl rfl (by decide) rfl ?_
        refine x_goto (tgt := 19) (pc := 70) B dX7_stepped_70 rfl ?_
        refine x_pick (lv' := [(0, .ref (ad 14)), (1, .int a1), (2, .int a2), (3, .int (y1.1 - u5)), (4, .int (y1.2.1 + (u5 * (atv (M0.1 23) 60 (a1 + y1.2.2))))), (5, .int (y1.2.2 + 1))]) [4, 5, 6, 1, 2, 0] rfl ?_
        have z := hback (y1.1 - u5, y1.2.1 + (u5 * (atv (M0.1 23) 60 (a1 + y1.2.2))), y1.2.2 + 1) (Option.some.inj h).symm
        exact z
      · refine x_icmp_ge (tgt := 40) (pc := 28) B dX7_stepped_28 rfl (fun hc3 => ?_) (fun hc3 => ?_)
        · refine x_iload_n (pc := 40) B 3 dX7_stepped_40 rfl rfl ?_
          have z := JJ y1.1 ((zif_f hc3).trans rfl)
          exact z
        · refine x_bipush (v := 10) (pc := 31) B dX7_stepped_31 rfl ?_
          refine x_iload_n (pc := 33) B 3 dX7_stepped_33 rfl rfl ?_
          refine x_mmin (pc := 34) B tw_752 tw_753 tw_112 tw_754 (by decide) (Nat.le_of_ble_eq_true rfl) dX7_stepped_34 ?_
          refine x_goto (tgt := 41) (pc := 37) B dX7_stepped_37 rfl ?_
          have z := JJ (jmin 10 y1.1) ((zif_t hc3).trans rfl)
          exact z
  · refine x_iload (pc := 73) B 0 dX7_stepped_73 rfl ?_
    obtain rfl := Option.some.inj h
    exact x_iret (pc := 75) B hQ dX7_stepped_75
-- CurrentFarms$Rules.joined(III)I []
abbrev y_Rules_joined : MethodName := ⟨"CurrentFarms$Rules", "joined", "(III)I"⟩
abbrev cX7_joined : ByteArray := prog_9_method_7_code
theorem dX7_joined_0 : decode cX7_joined 0 = .ok (.iload_n 0, 1) := by decide +kernel
theorem dX7_joined_1 : decode cX7_joined 1 = .ok (.bipush (-6), 2) := by decide +kernel
theorem dX7_joined_3 : decode cX7_joined 3 = .ok (.if_icmp .ne 7, 3) := by decide +kernel
theorem dX7_joined_6 : decode cX7_joined 6 = .ok (.iload_n 1, 1) := by decide +kernel
theorem dX7_joined_7 : decode cX7_joined 7 = .ok (.iload_n 2, 1) := by decide +kernel
theorem dX7_joined_8 : decode cX7_joined 8 = .ok (.iadd, 1) := by decide +kernel
theorem dX7_joined_9 : decode cX7_joined 9 = .ok (.ireturn, 1) := by decide +kernel
theorem dX7_joined_10 : decode cX7_joined 10 = .ok (.iload_n 0, 1) := by decide +kernel
theorem dX7_joined_11 : decode cX7_joined 11 = .ok (.bipush (-7), 2) := by decide +kernel
theorem dX7_joined_13 : decode cX7_joined 13 = .ok (.if_icmp .ne 7, 3) := by decide +kernel
theorem dX7_joined_16 : decode cX7_joined 16 = .ok (.iload_n 1, 1) := by decide +kernel
theorem dX7_joined_17 : decode cX7_joined 17 = .ok (.iload_n 2, 1) := by decide +kernel
theorem dX7_joined_18 : decode cX7_joined 18 = .ok (.isub, 1) := by decide +kernel
theorem dX7_joined_19 : decode cX7_joined 19 = .ok (.ireturn, 1) := by decide +kernel
theorem dX7_joined_20 : decode cX7_joined 20 = .ok (.iload_n 0, 1) := by decide +kernel
theorem dX7_joined_21 : decode cX7_joined 21 = .ok (.bipush (-8), 2) := by decide +kernel
theorem dX7_joined_23 : decode cX7_joined 23 = .ok (.if_icmp .ne 7, 3) := by decide +kernel
theorem dX7_joined_26 : decode cX7_joined 26 = .ok (.iload_n 1, 1) := by decide +kernel
theorem dX7_joined_27 : decode cX7_joined 27 = .ok (.iload_n 2, 1) := by decide +kernel
theorem dX7_joined_28 : decode cX7_joined 28 = .ok (.imul, 1) := by decide +kernel
theorem dX7_joined_29 : decode cX7_joined 29 = .ok (.ireturn, 1) := by decide +kernel
theorem dX7_joined_30 : decode cX7_joined 30 = .ok (.iload_n 1, 1) := by decide +kernel
theorem dX7_joined_31 : decode cX7_joined 31 = .ok (.iload_n 2, 1) := by decide +kernel
theorem dX7_joined_32 : decode cX7_joined 32 = .ok (.invokestatic 85, 3) := by decide +kernel
theorem dX7_joined_35 : decode cX7_joined 35 = .ok (.ireturn, 1) := by decide +kernel
theorem hd_Rules_joined : y_Rules_joined.cls ≠ "java/lang/invoke/MethodHandle" ∧ y_Rules_joined.cls ≠ "java/lang/invoke/VarHandle" ∧ (parseMethodDescriptor y_Rules_joined.desc).map (fun d => d.parameters.length) = some 3 := by decide +kernel
def f_Rules_joined (a0 : Int32) (a1 : Int32) (a2 : Int32) : Option (Int32) :=
  if decide (a0 = (-6)) then (some (a1 + a2)) else (if decide (a0 = (-7)) then (some (a1 - a2)) else (if decide (a0 = (-8)) then (some (a1 * a2)) else (some (prt a1 a2))))
set_option maxHeartbeats 4000000 in
set_option maxRecDepth 20000 in
theorem C_Rules_joined {D : va_G} {ad adK adV : Nat → Nat} {cI cJ : ClassId} {l : Launch} (a0 : Int32) (a1 : Int32) (a2 : Int32) (M0 : Mem) (o : Int32) (h : f_Rules_joined a0 a1 a2 = some o) : Ct D ad adK adV cI cJ l y_Rules_joined cX7_joined 3 (some .int) 1 21 [.int a0, .int a1, .int a2] M0 (some (.int o)) M0 := by
  refine x_start (lv := [(0, .int a0), (1, .int a1), (2, .int a2)]) (own := "CurrentFarms$Rules") rfl (by decide) (Nat.le_of_ble_eq_true rfl) rfl ?_
  intro p e s m args below meth c Q hQ B
  unfold f_Rules_joined at h
  refine x_iload_n (pc := 0) B 0 dX7_joined_0 rfl rfl ?_
  refine x_bipush (v := (-6)) (pc := 1) B dX7_joined_1 rfl ?_
  refine x_icmp_ne (tgt := 10) (pc := 3) B dX7_joined_3 rfl (fun hc1 => ?_) (fun hc1 => ?_)
  · have h := iff_ hc1 h
    refine x_iload_n (pc := 10) B 0 dX7_joined_10 rfl rfl ?_
    refine x_bipush (v := (-7)) (pc := 11) B dX7_joined_11 rfl ?_
    refine x_icmp_ne (tgt := 20) (pc := 13) B dX7_joined_13 rfl (fun hc2 => ?_) (fun hc2 => ?_)
    · have h := iff_ hc2 h
      refine x_iload_n (pc := 20) B 0 dX7_joined_20 rfl rfl ?_
      refine x_bipush (v := (-8)) (pc := 21) B dX7_joined_21 rfl ?_
      refine x_icmp_ne (tgt := 30) (pc := 23) B dX7_joined_23 rfl (fun hc3 => ?_) (fun hc3 => ?_)
      · have h := iff_ hc3 h
        refine x_iload_n (pc := 30) B 1 dX7_joined_30 rfl rfl ?_
        refine x_iload_n (pc := 31) B 2 dX7_joined_31 rfl rfl ?_
        refine x_callSN (rest := []) (st' := [.int (prt a1 a2)]) (pc := 32) B (T_CF_parted a1 a2 M0) tw_736 tw_759 tw_735 tw_98 hd_CF_parted ⟨Nat.le_of_ble_eq_true rfl, Nat.le_of_ble_eq_true rfl⟩ rfl rfl (Nat.le_of_ble_eq_true rfl) rfl dX7_joined_32 ?_
        obtain rfl := Option.some.inj h
        exact x_iret (pc := 35) B hQ dX7_joined_35
      · have h := ift hc3 h
        refine x_iload_n (pc := 26) B 1 dX7_joined_26 rfl rfl ?_
        refine x_iload_n (pc := 27) B 2 dX7_joined_27 rfl rfl ?_
        refine x_imul (pc := 28) B dX7_joined_28 ?_
        obtain rfl := Option.some.inj h
        exact x_iret (pc := 29) B hQ dX7_joined_29
    · have h := ift hc2 h
      refine x_iload_n (pc := 16) B 1 dX7_joined_16 rfl rfl ?_
      refine x_iload_n (pc := 17) B 2 dX7_joined_17 rfl rfl ?_
      refine x_isub (pc := 18) B dX7_joined_18 ?_
      obtain rfl := Option.some.inj h
      exact x_iret (pc := 19) B hQ dX7_joined_19
  · have h := ift hc1 h
    refine x_iload_n (pc := 6) B 1 dX7_joined_6 rfl rfl ?_
    refine x_iload_n (pc := 7) B 2 dX7_joined_7 rfl rfl ?_
    refine x_iadd (pc := 8) B dX7_joined_8 ?_
    obtain rfl := Option.some.inj h
    exact x_iret (pc := 9) B hQ dX7_joined_9
-- CurrentFarms$Rules.run(II[I)I [14, 80]
abbrev y_Rules_run_14_80 : MethodName := ⟨"CurrentFarms$Rules", "run", "(II[I)I"⟩
abbrev cX7_run : ByteArray := prog_9_method_6_code
theorem dX7_run_0 : decode cX7_run 0 = .ok (.iconst (-1), 1) := by decide +kernel
theorem dX7_run_1 : decode cX7_run 1 = .ok (.istore 4, 2) := by decide +kernel
theorem dX7_run_3 : decode cX7_run 3 = .ok (.iload_n 1, 1) := by decide +kernel
theorem dX7_run_4 : decode cX7_run 4 = .ok (.istore 5, 2) := by decide +kernel
theorem dX7_run_6 : decode cX7_run 6 = .ok (.iload 5, 2) := by decide +kernel
theorem dX7_run_8 : decode cX7_run 8 = .ok (.iload_n 2, 1) := by decide +kernel
theorem dX7_run_9 : decode cX7_run 9 = .ok (.if_icmp .ge 137, 3) := by decide +kernel
theorem dX7_run_12 : decode cX7_run 12 = .ok (.aload_n 0, 1) := by decide +kernel
theorem dX7_run_13 : decode cX7_run 13 = .ok (.getfield 15, 3) := by decide +kernel
theorem dX7_run_16 : decode cX7_run 16 = .ok (.iload 5, 2) := by decide +kernel
theorem dX7_run_18 : decode cX7_run 18 = .ok (.invokestatic 54, 3) := by decide +kernel
theorem dX7_run_21 : decode cX7_run 21 = .ok (.istore 6, 2) := by decide +kernel
theorem dX7_run_23 : decode cX7_run 23 = .ok (.iload 6, 2) := by decide +kernel
theorem dX7_run_25 : decode cX7_run 25 = .ok (.bipush (-10), 2) := by decide +kernel
theorem dX7_run_27 : decode cX7_run 27 = .ok (.if_icmp .ge 36, 3) := by decide +kernel
theorem dX7_run_30 : decode cX7_run 30 = .ok (.iload 4, 2) := by decide +kernel
theorem dX7_run_32 : decode cX7_run 32 = .ok (.bipush (-10), 2) := by decide +kernel
theorem dX7_run_34 : decode cX7_run 34 = .ok (.iload 6, 2) := by decide +kernel
theorem dX7_run_36 : decode cX7_run 36 = .ok (.isub, 1) := by decide +kernel
theorem dX7_run_37 : decode cX7_run 37 = .ok (.isub, 1) := by decide +kernel
theorem dX7_run_38 : decode cX7_run 38 = .ok (.istore 4, 2) := by decide +kernel
theorem dX7_run_40 : decode cX7_run 40 = .ok (.aload_n 0, 1) := by decide +kernel
theorem dX7_run_41 : decode cX7_run 41 = .ok (.getfield 36, 3) := by decide +kernel
theorem dX7_run_44 : decode cX7_run 44 = .ok (.iload 4, 2) := by decide +kernel
theorem dX7_run_46 : decode cX7_run 46 = .ok (.aload_n 0, 1) := by decide +kernel
theorem dX7_run_47 : decode cX7_run 47 = .ok (.iload 4, 2) := by decide +kernel
theorem dX7_run_49 : decode cX7_run 49 = .ok (.bipush (-10), 2) := by decide +kernel
theorem dX7_run_51 : decode cX7_run 51 = .ok (.iload 6, 2) := by decide +kernel
theorem dX7_run_53 : decode cX7_run 53 = .ok (.isub, 1) := by decide +kernel
theorem dX7_run_54 : decode cX7_run 54 = .ok (.invokevirtual 78, 3) := by decide +kernel
theorem dX7_run_57 : decode cX7_run 57 = .ok (.invokestatic 50, 3) := by decide +kernel
theorem dX7_run_60 : decode cX7_run 60 = .ok (.goto 80, 3) := by decide +kernel
theorem dX7_run_63 : decode cX7_run 63 = .ok (.iload 6, 2) := by decide +kernel
theorem dX7_run_65 : decode cX7_run 65 = .ok (.bipush (-6), 2) := by decide +kernel
theorem dX7_run_67 : decode cX7_run 67 = .ok (.if_icmp .gt 43, 3) := by decide +kernel
theorem dX7_run_70 : decode cX7_run 70 = .ok (.iinc 4 (-1), 3) := by decide +kernel
theorem dX7_run_73 : decode cX7_run 73 = .ok (.aload_n 0, 1) := by decide +kernel
theorem dX7_run_74 : decode cX7_run 74 = .ok (.getfield 36, 3) := by decide +kernel
theorem dX7_run_77 : decode cX7_run 77 = .ok (.iload 4, 2) := by decide +kernel
theorem dX7_run_79 : decode cX7_run 79 = .ok (.iload 6, 2) := by decide +kernel
theorem dX7_run_81 : decode cX7_run 81 = .ok (.aload_n 0, 1) := by decide +kernel
theorem dX7_run_82 : decode cX7_run 82 = .ok (.getfield 36, 3) := by decide +kernel
theorem dX7_run_85 : decode cX7_run 85 = .ok (.iload 4, 2) := by decide +kernel
theorem dX7_run_87 : decode cX7_run 87 = .ok (.invokestatic 54, 3) := by decide +kernel
theorem dX7_run_90 : decode cX7_run 90 = .ok (.aload_n 0, 1) := by decide +kernel
theorem dX7_run_91 : decode cX7_run 91 = .ok (.getfield 36, 3) := by decide +kernel
theorem dX7_run_94 : decode cX7_run 94 = .ok (.iload 4, 2) := by decide +kernel
theorem dX7_run_96 : decode cX7_run 96 = .ok (.iconst 1, 1) := by decide +kernel
theorem dX7_run_97 : decode cX7_run 97 = .ok (.iadd, 1) := by decide +kernel
theorem dX7_run_98 : decode cX7_run 98 = .ok (.invokestatic 54, 3) := by decide +kernel
theorem dX7_run_101 : decode cX7_run 101 = .ok (.invokestatic 81, 3) := by decide +kernel
theorem dX7_run_104 : decode cX7_run 104 = .ok (.invokestatic 50, 3) := by decide +kernel
theorem dX7_run_107 : decode cX7_run 107 = .ok (.goto 33, 3) := by decide +kernel
theorem dX7_run_110 : decode cX7_run 110 = .ok (.iinc 4 1, 3) := by decide +kernel
theorem dX7_run_113 : decode cX7_run 113 = .ok (.aload_n 0, 1) := by decide +kernel
theorem dX7_run_114 : decode cX7_run 114 = .ok (.getfield 36, 3) := by decide +kernel
theorem dX7_run_117 : decode cX7_run 117 = .ok (.iload 4, 2) := by decide +kernel
theorem dX7_run_119 : decode cX7_run 119 = .ok (.iload 6, 2) := by decide +kernel
theorem dX7_run_121 : decode cX7_run 121 = .ok (.ifCond .ge 14, 3) := by decide +kernel
theorem dX7_run_124 : decode cX7_run 124 = .ok (.aload_n 3, 1) := by decide +kernel
theorem dX7_run_125 : decode cX7_run 125 = .ok (.iconst (-1), 1) := by decide +kernel
theorem dX7_run_126 : decode cX7_run 126 = .ok (.iload 6, 2) := by decide +kernel
theorem dX7_run_128 : decode cX7_run 128 = .ok (.isub, 1) := by decide +kernel
theorem dX7_run_129 : decode cX7_run 129 = .ok (.invokestatic 54, 3) := by decide +kernel
theorem dX7_run_132 : decode cX7_run 132 = .ok (.goto 5, 3) := by decide +kernel
theorem dX7_run_135 : decode cX7_run 135 = .ok (.iload 6, 2) := by decide +kernel
theorem dX7_run_137 : decode cX7_run 137 = .ok (.invokestatic 50, 3) := by decide +kernel
theorem dX7_run_140 : decode cX7_run 140 = .ok (.iinc 5 1, 3) := by decide +kernel
theorem dX7_run_143 : decode cX7_run 143 = .ok (.goto (-137), 3) := by decide +kernel
theorem dX7_run_146 : decode cX7_run 146 = .ok (.aload_n 0, 1) := by decide +kernel
theorem dX7_run_147 : decode cX7_run 147 = .ok (.getfield 36, 3) := by decide +kernel
theorem dX7_run_150 : decode cX7_run 150 = .ok (.iconst 0, 1) := by decide +kernel
theorem dX7_run_151 : decode cX7_run 151 = .ok (.invokestatic 54, 3) := by decide +kernel
theorem dX7_run_154 : decode cX7_run 154 = .ok (.ireturn, 1) := by decide +kernel
theorem hd_Rules_run_14_80 : y_Rules_run_14_80.cls ≠ "java/lang/invoke/MethodHandle" ∧ y_Rules_run_14_80.cls ≠ "java/lang/invoke/VarHandle" ∧ (parseMethodDescriptor y_Rules_run_14_80.desc).map (fun d => d.parameters.length) = some 3 := by decide +kernel
def b_Rules_run_14_80_6 (a2 : Int32) (y1 : Int32 × Int32 × Mem) : Option ((Int32 × Int32 × Mem) ⊕ (Mem)) :=
  if decide (y1.2.1 < a2) then (if decide ((atv (y1.2.2.1 16) 1080 y1.2.1) < (-10)) then ((f_Rules_stepped_14 (y1.1 - ((-10) - (atv (y1.2.2.1 16) 1080 y1.2.1))) ((-10) - (atv (y1.2.2.1 16) 1080 y1.2.1)) y1.2.2).bind fun q4 => jv_ (putv y1.2.2 23 60 (y1.1 - ((-10) - (atv (y1.2.2.1 16) 1080 y1.2.1))) q4) fun M5 => some (.inl (y1.1 - ((-10) - (atv (y1.2.2.1 16) 1080 y1.2.1)), y1.2.1 + 1, M5))) else (if decide ((atv (y1.2.2.1 16) 1080 y1.2.1) ≤ (-6)) then ((f_Rules_joined (atv (y1.2.2.1 16) 1080 y1.2.1) (atv (y1.2.2.1 23) 60 (y1.1 + (-1))) (atv (y1.2.2.1 23) 60 ((y1.1 + (-1)) + 1))).bind fun q7 => jv_ (putv y1.2.2 23 60 (y1.1 + (-1)) q7) fun M8 => some (.inl (y1.1 + (-1), y1.2.1 + 1, M8))) else (jv_ ((if decide ((atv (y1.2.2.1 16) 1080 y1.2.1) < 0) then atv (y1.2.2.1 80) 5 ((-1) - (atv (y1.2.2.1 16) 1080 y1.2.1)) else atv (y1.2.2.1 16) 1080 y1.2.1) : Int32) fun u11 => jv_ (putv y1.2.2 23 60 (y1.1 + 1) u11) fun M12 => some (.inl (y1.1 + 1, y1.2.1 + 1, M12))))) else (some (.inr y1.2.2))
def f_Rules_run_14_80 (a1 : Int32) (a2 : Int32) (M0 : Mem) : Option (Int32 × Mem) :=
  (itr (b_Rules_run_14_80_6 a2) FU ((-1), a1, M0)).bind fun q13 => some (atv (q13.1 23) 60 0, q13)
set_option maxHeartbeats 4000000 in
set_option maxRecDepth 20000 in
theorem C_Rules_run_14_80 {D : va_G} {ad adK adV : Nat → Nat} {cI cJ : ClassId} {l : Launch} (a1 : Int32) (a2 : Int32) (M0 : Mem) (o : Int32 × Mem) (h : f_Rules_run_14_80 a1 a2 M0 = some o) : Ct D ad adK adV cI cJ l y_Rules_run_14_80 cX7_run 7 (some .int) 2 47 [.ref (ad 14), .int a1, .int a2, .ref (ad 80)] M0 (some (.int o.1)) o.2 := by
  refine x_start (lv := [(0, .ref (ad 14)), (1, .int a1), (2, .int a2), (3, .ref (ad 80))]) (own := "CurrentFarms$Rules") rfl (by decide) (Nat.le_of_ble_eq_true rfl) rfl ?_
  intro p e s m args below meth c Q hQ B
  unfold f_Rules_run_14_80 at h
  refine x_iconst (v := (-1)) (pc := 0) B dX7_run_0 rfl ?_
  refine x_istore (lv' := [(4, .int (-1)), (0, .ref (ad 14)), (1, .int a1), (2, .int a2), (3, .ref (ad 80))]) (pc := 1) B dX7_run_1 (by decide) rfl ?_
  refine x_iload_n (pc := 3) B 2 dX7_run_3 rfl rfl ?_
  refine x_istore (lv' := [(5, .int a1), (4, .int (-1)), (0, .ref (ad 14)), (1, .int a1), (2, .int a2), (3, .ref (ad 80))]) (pc := 4) B dX7_run_4 (by decide) rfl ?_
  refine x_pick (lv' := [(0, .ref (ad 14)), (2, .int a2), (3, .ref (ad 80)), (4, .int (-1)), (5, .int a1)]) [2, 4, 5, 1, 0] rfl ?_
  obtain ⟨q13, hq13, h⟩ := bnd h
  refine x_loop (Head := fun (y1 : Int32 × Int32 × Mem) => XX D ad cI cJ p l e (Rm 2 47) s m args below meth c Q 7 y1.2.2 6 [(0, .ref (ad 14)), (2, .int a2), (3, .ref (ad 80)), (4, .int y1.1), (5, .int y1.2.1)] []) (Ex := fun (q13 : Mem) => XX D ad cI cJ p l e (Rm 2 47) s m args below meth c Q 7 q13 146 [(0, .ref (ad 14))] []) (fun y1 r h hback hexit => ?_) FU _ q13 hq13 ?_
  · unfold b_Rules_run_14_80_6 at h
    refine x_iload (pc := 6) B 4 dX7_run_6 rfl ?_
    refine x_iload_n (pc := 8) B 1 dX7_run_8 rfl rfl ?_
    refine x_icmp_ge (tgt := 146) (pc := 9) B dX7_run_9 rfl (fun hc2 => ?_) (fun hc2 => ?_)
    · have h := iff_ hc2 h
      refine x_pick (lv' := [(0, .ref (ad 14))]) [0] rfl ?_
      have z := hexit y1.2.2 (Option.some.inj h).symm
      exact z
    · have h := ift hc2 h
      refine x_aload_n (pc := 12) B 0 dX7_run_12 rfl rfl ?_
      refine x_get (T := TX7) (pc := 13) B 2 oi_14 rfl uw_7 (by decide) rfl tw_209 rfl dX7_run_13 ?_
      refine x_iload (pc := 16) B 4 dX7_run_16 rfl ?_
      refine x_callSN (rest := []) (st' := [.int (atv (y1.2.2.1 16) 1080 y1.2.1)]) (pc := 18) B (T_CF_at 16 1080 y1.2.1 ai_16 (by decide) y1.2.2) tw_575 tw_742 tw_574 tw_98 hd_CF_at ⟨Nat.le_of_ble_eq_true rfl, Nat.le_of_ble_eq_true rfl⟩ rfl rfl (Nat.le_of_ble_eq_true rfl) rfl dX7_run_18 ?_
      refine x_istore (lv' := [(6, .int (atv (y1.2.2.1 16) 1080 y1.2.1)), (0, .ref (ad 14)), (2, .int a2), (3, .ref (ad 80)), (4, .int y1.1), (5, .int y1.2.1)]) (pc := 21) B dX7_run_21 (by decide) rfl ?_
      refine x_iload (pc := 23) B 0 dX7_run_23 rfl ?_
      refine x_bipush (v := (-10)) (pc := 25) B dX7_run_25 rfl ?_
      refine x_icmp_ge (tgt := 63) (pc := 27) B dX7_run_27 rfl (fun hc3 => ?_) (fun hc3 => ?_)
      · have h := iff_ hc3 h
        refine x_iload (pc := 63) B 0 dX7_run_63 rfl ?_
        refine x_bipush (v := (-6)) (pc := 65) B dX7_run_65 rfl ?_
        refine x_icmp_gt (tgt := 110) (pc := 67) B dX7_run_67 rfl (fun hc6 => ?_) (fun hc6 => ?_)
        · have h := iff_ hc6 h
          refine x_iinc (k := 4) (v := y1.1 + 1) (lv' := [(4, .int (y1.1 + 1)), (6, .int (atv (y1.2.2.1 16) 1080 y1.2.1)), (0, .ref (ad 14)), (2, .int a2), (3, .ref (ad 80)), (5, .int y1.2.1)]) (pc := 110) B dX7_run_110 rfl rfl (by decide) rfl ?_
          refine x_aload_n (pc := 113) B 2 dX7_run_113 rfl rfl ?_
          refine x_get (T := TX7) (pc := 114) B 10 oi_14 rfl uw_7 (by decide) rfl tw_226 rfl dX7_run_114 ?_
          refine x_iload (pc := 117) B 0 dX7_run_117 rfl ?_
          refine x_iload (pc := 119) B 1 dX7_run_119 rfl ?_
          refine jv_k h (fun (u11 : Int32) => XX D ad cI cJ p l e (Rm 2 47) s m args below meth c Q 7 y1.2.2 137 [(0, .ref (ad 14)), (2, .int a2), (3, .ref (ad 80)), (4, .int (y1.1 + 1)), (5, .int y1.2.1)] [.int u11, .int (y1.1 + 1), .ref (ad 23)]) (fun u11 h => ?_) (fun JJ => ?_)
          · refine x_callSN (rest := []) (st' := []) (pc := 137) B (T_CF_put 23 60 (y1.1 + 1) u11 ai_23 (by decide) y1.2.2) tw_588 tw_755 tw_587 tw_98 hd_CF_put ⟨Nat.le_of_ble_eq_true rfl, Nat.le_of_ble_eq_true rfl⟩ rfl rfl (Nat.le_of_ble_eq_true rfl) rfl dX7_run_137 ?_
            refine jv_m (P := fun M12 => XX D ad cI cJ p l e (Rm 2 47) s m args below meth c Q 7 M12 140 [(0, .ref (ad 14)), (2, .int a2), (3, .ref (ad 80)), (4, .int (y1.1 + 1)), (5, .int y1.2.1)] []) h (fun M12 h => ?_)
            refine x_iinc (k := 4) (v := y1.2.1 + 1) (lv' := [(5, .int (y1.2.1 + 1)), (0, .ref (ad 14)), (2, .int a2), (3, .ref (ad 80)), (4, .int (y1.1 + 1))]) (pc := 140) B dX7_run_140 rfl rfl (by decide) rfl ?_
            refine x_goto (tgt := 6) (pc := 143) B dX7_run_143 rfl ?_
            refine x_pick (lv' := [(0, .ref (ad 14)), (2, .int a2), (3, .ref (ad 80)), (4, .int (y1.1 + 1)), (5, .int (y1.2.1 + 1))]) [1, 2, 3, 4, 0] rfl ?_
            have z := hback (y1.1 + 1, y1.2.1 + 1, M12) (Option.some.inj h).symm
            exact z
          · refine x_if_ge (tgt := 135) (pc := 121) B dX7_run_121 rfl (fun hc9 => ?_) (fun hc9 => ?_)
            · refine x_iload (pc := 135) B 1 dX7_run_135 rfl ?_
              refine x_pick (lv' := [(0, .ref (ad 14)), (2, .int a2), (3, .ref (ad 80)), (4, .int (y1.1 + 1)), (5, .int y1.2.1)]) [2, 3, 4, 0, 5] rfl ?_
              have z := JJ (atv (y1.2.2.1 16) 1080 y1.2.1) ((zif_f hc9).trans rfl)
              exact z
            · refine x_aload_n (pc := 124) B 4 dX7_run_124 rfl rfl ?_
              refine x_iconst (v := (-1)) (pc := 125) B dX7_run_125 rfl ?_
              refine x_iload (pc := 126) B 1 dX7_run_126 rfl ?_
              refine x_isub (pc := 128) B dX7_run_128 ?_
              refine x_callSN (rest := [.int (y1.1 + 1), .ref (ad 23)]) (st' := [.int (atv (y1.2.2.1 80) 5 ((-1) - (atv (y1.2.2.1 16) 1080 y1.2.1))), .int (y1.1 + 1), .ref (ad 23)]) (pc := 129) B (T_CF_at 80 5 ((-1) - (atv (y1.2.2.1 16) 1080 y1.2.1)) ai_80 (by decide) y1.2.2) tw_575 tw_742 tw_574 tw_98 hd_CF_at ⟨Nat.le_of_ble_eq_true rfl, Nat.le_of_ble_eq_true rfl⟩ rfl rfl (Nat.le_of_ble_eq_true rfl) rfl dX7_run_129 ?_
              refine x_goto (tgt := 137) (pc := 132) B dX7_run_132 rfl ?_
              refine x_pick (lv' := [(0, .ref (ad 14)), (2, .int a2), (3, .ref (ad 80)), (4, .int (y1.1 + 1)), (5, .int y1.2.1)]) [2, 3, 4, 0, 5] rfl ?_
              have z := JJ (atv (y1.2.2.1 80) 5 ((-1) - (atv (y1.2.2.1 16) 1080 y1.2.1))) ((zif_t hc9).trans rfl)
              exact z
        · have h := ift hc6 h
          refine x_iinc (k := 4) (v := y1.1 + (-1)) (lv' := [(4, .int (y1.1 + (-1))), (6, .int (atv (y1.2.2.1 16) 1080 y1.2.1)), (0, .ref (ad 14)), (2, .int a2), (3, .ref (ad 80)), (5, .int y1.2.1)]) (pc := 70) B dX7_run_70 rfl rfl (by decide) rfl ?_
          refine x_aload_n (pc := 73) B 2 dX7_run_73 rfl rfl ?_
          refine x_get (T := TX7) (pc := 74) B 10 oi_14 rfl uw_7 (by decide) rfl tw_226 rfl dX7_run_74 ?_
          refine x_iload (pc := 77) B 0 dX7_run_77 rfl ?_
          refine x_iload (pc := 79) B 1 dX7_run_79 rfl ?_
          refine x_aload_n (pc := 81) B 2 dX7_run_81 rfl rfl ?_
          refine x_get (T := TX7) (pc := 82) B 10 oi_14 rfl uw_7 (by decide) rfl tw_226 rfl dX7_run_82 ?_
          refine x_iload (pc := 85) B 0 dX7_run_85 rfl ?_
          refine x_callSN (rest := [.int (atv (y1.2.2.1 16) 1080 y1.2.1), .int (y1.1 + (-1)), .ref (ad 23)]) (st' := [.int (atv (y1.2.2.1 23) 60 (y1.1 + (-1))), .int (atv (y1.2.2.1 16) 1080 y1.2.1), .int (y1.1 + (-1)), .ref (ad 23)]) (pc := 87) B (T_CF_at 23 60 (y1.1 + (-1)) ai_23 (by decide) y1.2.2) tw_575 tw_742 tw_574 tw_98 hd_CF_at ⟨Nat.le_of_ble_eq_true rfl, Nat.le_of_ble_eq_true rfl⟩ rfl rfl (Nat.le_of_ble_eq_true rfl) rfl dX7_run_87 ?_
          refine x_aload_n (pc := 90) B 2 dX7_run_90 rfl rfl ?_
          refine x_get (T := TX7) (pc := 91) B 10 oi_14 rfl uw_7 (by decide) rfl tw_226 rfl dX7_run_91 ?_
          refine x_iload (pc := 94) B 0 dX7_run_94 rfl ?_
          refine x_iconst (v := 1) (pc := 96) B dX7_run_96 rfl ?_
          refine x_iadd (pc := 97) B dX7_run_97 ?_
          refine x_callSN (rest := [.int (atv (y1.2.2.1 23) 60 (y1.1 + (-1))), .int (atv (y1.2.2.1 16) 1080 y1.2.1), .int (y1.1 + (-1)), .ref (ad 23)]) (st' := [.int (atv (y1.2.2.1 23) 60 ((y1.1 + (-1)) + 1)), .int (atv (y1.2.2.1 23) 60 (y1.1 + (-1))), .int (atv (y1.2.2.1 16) 1080 y1.2.1), .int (y1.1 + (-1)), .ref (ad 23)]) (pc := 98) B (T_CF_at 23 60 ((y1.1 + (-1)) + 1) ai_23 (by decide) y1.2.2) tw_575 tw_742 tw_574 tw_98 hd_CF_at ⟨Nat.le_of_ble_eq_true rfl, Nat.le_of_ble_eq_true rfl⟩ rfl rfl (Nat.le_of_ble_eq_true rfl) rfl dX7_run_98 ?_
          obtain ⟨q7, hq7, h⟩ := bnd h
          refine x_callS (rest := [.int (y1.1 + (-1)), .ref (ad 23)]) (st' := [.int q7, .int (y1.1 + (-1)), .ref (ad 23)]) (pc := 101) B (C_Rules_joined (atv (y1.2.2.1 16) 1080 y1.2.1) (atv (y1.2.2.1 23) 60 (y1.1 + (-1))) (atv (y1.2.2.1 23) 60 ((y1.1 + (-1)) + 1)) y1.2.2 _ hq7) tw_758 tw_756 tw_757 tw_102 hd_Rules_joined ⟨Nat.le_of_ble_eq_true rfl, Nat.le_of_ble_eq_true rfl⟩ rfl rfl (Nat.le_of_ble_eq_true rfl) rfl dX7_run_101 ?_
          refine x_callSN (rest := []) (st' := []) (pc := 104) B (T_CF_put 23 60 (y1.1 + (-1)) q7 ai_23 (by decide) y1.2.2) tw_588 tw_755 tw_587 tw_98 hd_CF_put ⟨Nat.le_of_ble_eq_true rfl, Nat.le_of_ble_eq_true rfl⟩ rfl rfl (Nat.le_of_ble_eq_true rfl) rfl dX7_run_104 ?_
          refine jv_m (P := fun M8 => XX D ad cI cJ p l e (Rm 2 47) s m args below meth c Q 7 M8 107 [(4, .int (y1.1 + (-1))), (6, .int (atv (y1.2.2.1 16) 1080 y1.2.1)), (0, .ref (ad 14)), (2, .int a2), (3, .ref (ad 80)), (5, .int y1.2.1)] []) h (fun M8 h => ?_)
          refine x_goto (tgt := 140) (pc := 107) B dX7_run_107 rfl ?_
          refine x_iinc (k := 5) (v := y1.2.1 + 1) (lv' := [(5, .int (y1.2.1 + 1)), (4, .int (y1.1 + (-1))), (6, .int (atv (y1.2.2.1 16) 1080 y1.2.1)), (0, .ref (ad 14)), (2, .int a2), (3, .ref (ad 80))]) (pc := 140) B dX7_run_140 rfl rfl (by decide) rfl ?_
          refine x_goto (tgt := 6) (pc := 143) B dX7_run_143 rfl ?_
          refine x_pick (lv' := [(0, .ref (ad 14)), (2, .int a2), (3, .ref (ad 80)), (4, .int (y1.1 + (-1))), (5, .int (y1.2.1 + 1))]) [3, 4, 5, 1, 0] rfl ?_
          have z := hback (y1.1 + (-1), y1.2.1 + 1, M8) (Option.some.inj h).symm
          exact z
      · have h := ift hc3 h
        refine x_iload (pc := 30) B 4 dX7_run_30 rfl ?_
        refine x_bipush (v := (-10)) (pc := 32) B dX7_run_32 rfl ?_
        refine x_iload (pc := 34) B 0 dX7_run_34 rfl ?_
        refine x_isub (pc := 36) B dX7_run_36 ?_
        refine x_isub (pc := 37) B dX7_run_37 ?_
        refine x_istore (lv' := [(4, .int (y1.1 - ((-10) - (atv (y1.2.2.1 16) 1080 y1.2.1)))), (6, .int (atv (y1.2.2.1 16) 1080 y1.2.1)), (0, .ref (ad 14)), (2, .int a2), (3, .ref (ad 80)), (5, .int y1.2.1)]) (pc := 38) B dX7_run_38 (by decide) rfl ?_
        refine x_aload_n (pc := 40) B 2 dX7_run_40 rfl rfl ?_
        refine x_get (T := TX7) (pc := 41) B 10 oi_14 rfl uw_7 (by decide) rfl tw_226 rfl dX7_run_41 ?_
        refine x_iload (pc := 44) B 0 dX7_run_44 rfl ?_
        refine x_aload_n (pc := 46) B 2 dX7_run_46 rfl rfl ?_
        refine x_iload (pc := 47) B 0 dX7_run_47 rfl ?_
        refine x_bipush (v := (-10)) (pc := 49) B dX7_run_49 rfl ?_
        refine x_iload (pc := 51) B 1 dX7_run_51 rfl ?_
        refine x_isub (pc := 53) B dX7_run_53 ?_
        obtain ⟨q4, hq4, h⟩ := bnd h
        refine x_callV (rest := [.int (y1.1 - ((-10) - (atv (y1.2.2.1 16) 1080 y1.2.1))), .ref (ad 23)]) (st' := [.int q4, .int (y1.1 - ((-10) - (atv (y1.2.2.1 16) 1080 y1.2.1))), .ref (ad 23)]) (pc := 54) B oi_14 rfl (C_Rules_stepped_14 (y1.1 - ((-10) - (atv (y1.2.2.1 16) 1080 y1.2.1))) ((-10) - (atv (y1.2.2.1 16) 1080 y1.2.1)) y1.2.2 _ hq4) tw_750 tw_747 tw_749 tw_13 tw_102 hd_Rules_stepped_14 ⟨Nat.le_of_ble_eq_true rfl, Nat.le_of_ble_eq_true rfl⟩ rfl rfl (Nat.le_of_ble_eq_true rfl) rfl dX7_run_54 ?_
        refine x_callSN (rest := []) (st' := []) (pc := 57) B (T_CF_put 23 60 (y1.1 - ((-10) - (atv (y1.2.2.1 16) 1080 y1.2.1))) q4 ai_23 (by decide) y1.2.2) tw_588 tw_755 tw_587 tw_98 hd_CF_put ⟨Nat.le_of_ble_eq_true rfl, Nat.le_of_ble_eq_true rfl⟩ rfl rfl (Nat.le_of_ble_eq_true rfl) rfl dX7_run_57 ?_
        refine jv_m (P := fun M5 => XX D ad cI cJ p l e (Rm 2 47) s m args below meth c Q 7 M5 60 [(4, .int (y1.1 - ((-10) - (atv (y1.2.2.1 16) 1080 y1.2.1)))), (6, .int (atv (y1.2.2.1 16) 1080 y1.2.1)), (0, .ref (ad 14)), (2, .int a2), (3, .ref (ad 80)), (5, .int y1.2.1)] []) h (fun M5 h => ?_)
        refine x_goto (tgt := 140) (pc := 60) B dX7_run_60 rfl ?_
        refine x_iinc (k := 5) (v := y1.2.1 + 1) (lv' := [(5, .int (y1.2.1 + 1)), (4, .int (y1.1 - ((-10) - (atv (y1.2.2.1 16) 1080 y1.2.1)))), (6, .int (atv (y1.2.2.1 16) 1080 y1.2.1)), (0, .ref (ad 14)), (2, .int a2), (3, .ref (ad 80))]) (pc := 140) B dX7_run_140 rfl rfl (by decide) rfl ?_
        refine x_goto (tgt := 6) (pc := 143) B dX7_run_143 rfl ?_
        refine x_pick (lv' := [(0, .ref (ad 14)), (2, .int a2), (3, .ref (ad 80)), (4, .int (y1.1 - ((-10) - (atv (y1.2.2.1 16) 1080 y1.2.1)))), (5, .int (y1.2.1 + 1))]) [3, 4, 5, 1, 0] rfl ?_
        have z := hback (y1.1 - ((-10) - (atv (y1.2.2.1 16) 1080 y1.2.1)), y1.2.1 + 1, M5) (Option.some.inj h).symm
        exact z
  · refine x_aload_n (pc := 146) B 0 dX7_run_146 rfl rfl ?_
    refine x_get (T := TX7) (pc := 147) B 10 oi_14 rfl uw_7 (by decide) rfl tw_226 rfl dX7_run_147 ?_
    refine x_iconst (v := 0) (pc := 150) B dX7_run_150 rfl ?_
    refine x_callSN (rest := []) (st' := [.int (atv (q13.1 23) 60 0)]) (pc := 151) B (T_CF_at 23 60 0 ai_23 (by decide) q13) tw_575 tw_742 tw_574 tw_98 hd_CF_at ⟨Nat.le_of_ble_eq_true rfl, Nat.le_of_ble_eq_true rfl⟩ rfl rfl (Nat.le_of_ble_eq_true rfl) rfl dX7_run_151 ?_
    obtain rfl := Option.some.inj h
    exact x_iret (pc := 154) B hQ dX7_run_154
