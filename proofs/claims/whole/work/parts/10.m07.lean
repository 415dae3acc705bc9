-- CurrentFarmsModel.number()I [94]
abbrev y_Mo_number_94 : MethodName := ⟨"CurrentFarmsModel", "number", "()I"⟩
abbrev cX12_number : ByteArray := prog_14_method_36_code
theorem dX12_number_0 : decode cX12_number 0 = .ok (.iconst 0, 1) := by decide +kernel
theorem dX12_number_1 : decode cX12_number 1 = .ok (.istore_n 1, 1) := by decide +kernel
theorem dX12_number_2 : decode cX12_number 2 = .ok (.iconst 0, 1) := by decide +kernel
theorem dX12_number_3 : decode cX12_number 3 = .ok (.istore_n 2, 1) := by decide +kernel
theorem dX12_number_4 : decode cX12_number 4 = .ok (.iload_n 2, 1) := by decide +kernel
theorem dX12_number_5 : decode cX12_number 5 = .ok (.iconst 4, 1) := by decide +kernel
theorem dX12_number_6 : decode cX12_number 6 = .ok (.if_icmp .ge 54, 3) := by decide +kernel
theorem dX12_number_9 : decode cX12_number 9 = .ok (.aload_n 0, 1) := by decide +kernel
theorem dX12_number_10 : decode cX12_number 10 = .ok (.invokevirtual 159, 3) := by decide +kernel
theorem dX12_number_13 : decode cX12_number 13 = .ok (.bipush 48, 2) := by decide +kernel
theorem dX12_number_15 : decode cX12_number 15 = .ok (.bipush 57, 2) := by decide +kernel
theorem dX12_number_17 : decode cX12_number 17 = .ok (.invokestatic 84, 3) := by decide +kernel
theorem dX12_number_20 : decode cX12_number 20 = .ok (.ifCond .eq 40, 3) := by decide +kernel
theorem dX12_number_23 : decode cX12_number 23 = .ok (.iload_n 2, 1) := by decide +kernel
theorem dX12_number_24 : decode cX12_number 24 = .ok (.ifCond .eq 7, 3) := by decide +kernel
theorem dX12_number_27 : decode cX12_number 27 = .ok (.iload_n 1, 1) := by decide +kernel
theorem dX12_number_28 : decode cX12_number 28 = .ok (.ifCond .le 32, 3) := by decide +kernel
theorem dX12_number_31 : decode cX12_number 31 = .ok (.bipush 10, 2) := by decide +kernel
theorem dX12_number_33 : decode cX12_number 33 = .ok (.iload_n 1, 1) := by decide +kernel
theorem dX12_number_34 : decode cX12_number 34 = .ok (.imul, 1) := by decide +kernel
theorem dX12_number_35 : decode cX12_number 35 = .ok (.aload_n 0, 1) := by decide +kernel
theorem dX12_number_36 : decode cX12_number 36 = .ok (.invokevirtual 159, 3) := by decide +kernel
theorem dX12_number_39 : decode cX12_number 39 = .ok (.iadd, 1) := by decide +kernel
theorem dX12_number_40 : decode cX12_number 40 = .ok (.bipush 48, 2) := by decide +kernel
theorem dX12_number_42 : decode cX12_number 42 = .ok (.isub, 1) := by decide +kernel
theorem dX12_number_43 : decode cX12_number 43 = .ok (.istore_n 1, 1) := by decide +kernel
theorem dX12_number_44 : decode cX12_number 44 = .ok (.aload_n 0, 1) := by decide +kernel
theorem dX12_number_45 : decode cX12_number 45 = .ok (.dup, 1) := by decide +kernel
theorem dX12_number_46 : decode cX12_number 46 = .ok (.getfield 149, 3) := by decide +kernel
theorem dX12_number_49 : decode cX12_number 49 = .ok (.iconst 1, 1) := by decide +kernel
theorem dX12_number_50 : decode cX12_number 50 = .ok (.iadd, 1) := by decide +kernel
theorem dX12_number_51 : decode cX12_number 51 = .ok (.putfield 149, 3) := by decide +kernel
theorem dX12_number_54 : decode cX12_number 54 = .ok (.iinc 2 1, 3) := by decide +kernel
theorem dX12_number_57 : decode cX12_number 57 = .ok (.goto (-53), 3) := by decide +kernel
theorem dX12_number_60 : decode cX12_number 60 = .ok (.iload_n 1, 1) := by decide +kernel
theorem dX12_number_61 : decode cX12_number 61 = .ok (.ireturn, 1) := by decide +kernel
theorem hd_Mo_number_94 : y_Mo_number_94.cls ≠ "java/lang/invoke/MethodHandle" ∧ y_Mo_number_94.cls ≠ "java/lang/invoke/VarHandle" ∧ (parseMethodDescriptor y_Mo_number_94.desc).map (fun d => d.parameters.length) = some 0 := by decide +kernel
def b_Mo_number_94_4  (y1 : Int32 × Int32 × Mem) : Option ((Int32 × Int32 × Mem) ⊕ (Int32 × Mem)) :=
  if decide (y1.2.1 < 4) then ((f_Mo_here_94 y1.2.2).bind fun q3 => (f_Mo_in q3 48 57).bind fun q4 => if q4 then (jn_ (fun (u7 : Unit) => (f_Mo_here_94 y1.2.2).bind fun q8 => jv_ (wI y1.2.2 94 7 ((y1.2.2.1 94 7) + 1)) fun M9 => some (.inl (((10 * y1.1) + q8) - 48, y1.2.1 + 1, M9))) fun k10 => if decide (y1.2.1 = 0) then (k10 ()) else (if decide (y1.1 ≤ 0) then (some (.inr (y1.1, y1.2.2))) else (k10 ()))) else (some (.inr (y1.1, y1.2.2)))) else (some (.inr (y1.1, y1.2.2)))
def f_Mo_number_94  (M0 : Mem) : Option (Int32 × Mem) :=
  (itr (b_Mo_number_94_4) FU (0, 0, M0)).bind fun q12 => some (q12.1, q12.2)
set_option maxHeartbeats 4000000 in
set_option maxRecDepth 20000 in
theorem C_Mo_number_94 {D : va_G} {ad adK adV : Nat → Nat} {cI cJ : ClassId} {l : Launch}  (M0 : Mem) (o : Int32 × Mem) (h : f_Mo_number_94  M0 = some o) : Ct D ad adK adV cI cJ l y_Mo_number_94 cX12_number 3 (some .int) 1 22 [.ref (ad 94)] M0 (some (.int o.1)) o.2 := by
  refine x_start (lv := [(0, .ref (ad 94))]) (own := "CurrentFarmsModel") rfl (by decide) (Nat.le_of_ble_eq_true rfl) rfl ?_
  intro p e s m args below meth c Q hQ B
  unfold f_Mo_number_94 at h
  refine x_iconst (v := 0) (pc := 0) B dX12_number_0 rfl ?_
  refine x_istore_n (lv' := [(1, .int 0), (0, .ref (ad 94))]) (pc := 1) B dX12_number_1 rfl (by decide) rfl ?_
  refine x_iconst (v := 0) (pc := 2) B dX12_number_2 rfl ?_
  refine x_istore_n (lv' := [(2, .int 0), (1, .int 0), (0, .ref (ad 94))]) (pc := 3) B dX12_number_3 rfl (by decide) rfl ?_
  refine x_pick (lv' := [(0, .ref (ad 94)), (1, .int 0), (2, .int 0)]) [2, 1, 0] rfl ?_
  obtain ⟨q12, hq12, h⟩ := bnd h
  refine x_loop (Head := fun (y1 : Int32 × Int32 × Mem) => XX D ad cI cJ p l e (Rm 1 22) s m args below meth c Q 3 y1.2.2 4 [(0, .ref (ad 94)), (1, .int y1.1), (2, .int y1.2.1)] []) (Ex := fun (q12 : Int32 × Mem) => XX D ad cI cJ p l e (Rm 1 22) s m args below meth c Q 3 q12.2 60 [(1, .int q12.1)] []) (fun y1 r h hback hexit => ?_) FU _ q12 hq12 ?_
  · unfold b_Mo_number_94_4 at h
    refine x_iload_n (pc := 4) B 2 dX12_number_4 rfl rfl ?_
    refine x_iconst (v := 4) (pc := 5) B dX12_number_5 rfl ?_
    refine x_icmp_ge (tgt := 60) (pc := 6) B dX12_number_6 rfl (fun hc2 => ?_) (fun hc2 => ?_)
    · have h := iff_ hc2 h
      refine x_pick (lv' := [(1, .int y1.1)]) [1] rfl ?_
      have z := hexit (y1.1, y1.2.2) (Option.some.inj h).symm
      exact z
    · have h := ift hc2 h
      refine x_aload_n (pc := 9) B 0 dX12_number_9 rfl rfl ?_
      obtain ⟨q3, hq3, h⟩ := bnd h
      refine x_callV (rest := []) (st' := [.int q3]) (pc := 10) B oi_94 rfl (C_Mo_here_94  y1.2.2 _ hq3) tw_1539 tw_1536 tw_1538 tw_66 tw_111 hd_Mo_here_94 ⟨Nat.le_of_ble_eq_true rfl, Nat.le_of_ble_eq_true rfl⟩ rfl rfl (Nat.le_of_ble_eq_true rfl) rfl dX12_number_10 ?_
      refine x_bipush (v := 48) (pc := 13) B dX12_number_13 rfl ?_
      refine x_bipush (v := 57) (pc := 15) B dX12_number_15 rfl ?_
      obtain ⟨q4, hq4, h⟩ := bnd h
      refine x_callS (rest := []) (st' := [.int (bI q4)]) (pc := 17) B (C_Mo_in q3 48 57 y1.2.2 _ hq4) tw_1406 tw_1404 tw_1405 tw_111 hd_Mo_in ⟨Nat.le_of_ble_eq_true rfl, Nat.le_of_ble_eq_true rfl⟩ rfl rfl (Nat.le_of_ble_eq_true rfl) rfl dX12_number_17 ?_
      refine x_if_eq_b (tgt := 60) (pc := 20) B dX12_number_20 rfl (fun hc5 => ?_) (fun hc5 => ?_)
      · have h := iff_ hc5 h
        refine x_pick (lv' := [(1, .int y1.1)]) [1] rfl ?_
        have z := hexit (y1.1, y1.2.2) (Option.some.inj h).symm
        exact z
      · have h := ift hc5 h
        refine x_iload_n (pc := 23) B 2 dX12_number_23 rfl rfl ?_
        refine jn_k h (fun (u7 : Unit) => XX D ad cI cJ p l e (Rm 1 22) s m args below meth c Q 3 y1.2.2 31 [(0, .ref (ad 94)), (1, .int y1.1), (2, .int y1.2.1)] []) (fun u7 h => ?_) (fun k10 h JJ => ?_)
        · refine x_bipush (v := 10) (pc := 31) B dX12_number_31 rfl ?_
          refine x_iload_n (pc := 33) B 1 dX12_number_33 rfl rfl ?_
          refine x_imul (pc := 34) B dX12_number_34 ?_
          refine x_aload_n (pc := 35) B 0 dX12_number_35 rfl rfl ?_
          obtain ⟨q8, hq8, h⟩ := bnd h
          refine x_callV (rest := [.int (10 * y1.1)]) (st' := [.int q8, .int (10 * y1.1)]) (pc := 36) B oi_94 rfl (C_Mo_here_94  y1.2.2 _ hq8) tw_1539 tw_1536 tw_1538 tw_66 tw_111 hd_Mo_here_94 ⟨Nat.le_of_ble_eq_true rfl, Nat.le_of_ble_eq_true rfl⟩ rfl rfl (Nat.le_of_ble_eq_true rfl) rfl dX12_number_36 ?_
          refine x_iadd (pc := 39) B dX12_number_39 ?_
          refine x_bipush (v := 48) (pc := 40) B dX12_number_40 rfl ?_
          refine x_isub (pc := 42) B dX12_number_42 ?_
          refine x_istore_n (lv' := [(1, .int (((10 * y1.1) + q8) - 48)), (0, .ref (ad 94)), (2, .int y1.2.1)]) (pc := 43) B dX12_number_43 rfl (by decide) rfl ?_
          refine x_aload_n (pc := 44) B 1 dX12_number_44 rfl rfl ?_
          refine x_dup (pc := 45) B dX12_number_45 rfl ?_
          refine x_get (T := TX12) (pc := 46) B 7 oi_94 rfl uw_12 (by decide) rfl tw_1306 rfl dX12_number_46 ?_
          refine x_iconst (v := 1) (pc := 49) B dX12_number_49 rfl ?_
          refine x_iadd (pc := 50) B dX12_number_50 ?_
          refine x_put (T := TX12) (pc := 51) B 7 oi_94 of_94_7 rfl uw_12 tyX12_ok nmX12 (by decide) rfl tw_1306 rfl rfl rfl (Nat.le_of_ble_eq_true rfl) dX12_number_51 ?_
          refine jv_m (P := fun M9 => XX D ad cI cJ p l e (Rm 1 22) s m args below meth c Q 3 M9 54 [(1, .int (((10 * y1.1) + q8) - 48)), (0, .ref (ad 94)), (2, .int y1.2.1)] []) h (fun M9 h => ?_)
          refine x_iinc (k := 2) (v := y1.2.1 + 1) (lv' := [(2, .int (y1.2.1 + 1)), (1, .int (((10 * y1.1) + q8) - 48)), (0, .ref (ad 94))]) (pc := 54) B dX12_number_54 rfl rfl (by decide) rfl ?_
          refine x_goto (tgt := 4) (pc := 57) B dX12_number_57 rfl ?_
          refine x_pick (lv' := [(0, .ref (ad 94)), (1, .int (((10 * y1.1) + q8) - 48)), (2, .int (y1.2.1 + 1))]) [2, 1, 0] rfl ?_
          have z := hback (((10 * y1.1) + q8) - 48, y1.2.1 + 1, M9) (Option.some.inj h).symm
          exact z
        · refine x_if_eq (tgt := 31) (pc := 24) B dX12_number_24 rfl (fun hc6 => ?_) (fun hc6 => ?_)
          · have h := ift hc6 h
            have z := JJ () h
            exact z
          · have h := iff_ hc6 h
            refine x_iload_n (pc := 27) B 1 dX12_number_27 rfl rfl ?_
            refine x_if_le (tgt := 60) (pc := 28) B dX12_number_28 rfl (fun hc11 => ?_) (fun hc11 => ?_)
            · have h := ift hc11 h
              refine x_pick (lv' := [(1, .int y1.1)]) [1] rfl ?_
              have z := hexit (y1.1, y1.2.2) (Option.some.inj h).symm
              exact z
            · have h := iff_ hc11 h
              have z := JJ () h
              exact z
  · refine x_iload_n (pc := 60) B 0 dX12_number_60 rfl rfl ?_
    obtain rfl := Option.some.inj h
    exact x_iret (pc := 61) B hQ dX12_number_61
-- CurrentFarmsModel.must(I)V [94]
abbrev y_Mo_must_94 : MethodName := ⟨"CurrentFarmsModel", "must", "(I)V"⟩
abbrev cX12_must : ByteArray := prog_14_method_33_code
theorem dX12_must_0 : decode cX12_must 0 = .ok (.aload_n 0, 1) := by decide +kernel
theorem dX12_must_1 : decode cX12_must 1 = .ok (.aload_n 0, 1) := by decide +kernel
theorem dX12_must_2 : decode cX12_must 2 = .ok (.getfield 155, 3) := by decide +kernel
theorem dX12_must_5 : decode cX12_must 5 = .ok (.ifCond .ne 11, 3) := by decide +kernel
theorem dX12_must_8 : decode cX12_must 8 = .ok (.aload_n 0, 1) := by decide +kernel
theorem dX12_must_9 : decode cX12_must 9 = .ok (.invokevirtual 159, 3) := by decide +kernel
theorem dX12_must_12 : decode cX12_must 12 = .ok (.iload_n 1, 1) := by decide +kernel
theorem dX12_must_13 : decode cX12_must 13 = .ok (.if_icmp .eq 7, 3) := by decide +kernel
theorem dX12_must_16 : decode cX12_must 16 = .ok (.iconst 1, 1) := by decide +kernel
theorem dX12_must_17 : decode cX12_must 17 = .ok (.goto 4, 3) := by decide +kernel
theorem dX12_must_20 : decode cX12_must 20 = .ok (.iconst 0, 1) := by decide +kernel
theorem dX12_must_21 : decode cX12_must 21 = .ok (.putfield 155, 3) := by decide +kernel
theorem dX12_must_24 : decode cX12_must 24 = .ok (.aload_n 0, 1) := by decide +kernel
theorem dX12_must_25 : decode cX12_must 25 = .ok (.dup, 1) := by decide +kernel
theorem dX12_must_26 : decode cX12_must 26 = .ok (.getfield 149, 3) := by decide +kernel
theorem dX12_must_29 : decode cX12_must 29 = .ok (.aload_n 0, 1) := by decide +kernel
theorem dX12_must_30 : decode cX12_must 30 = .ok (.getfield 155, 3) := by decide +kernel
theorem dX12_must_33 : decode cX12_must 33 = .ok (.ifCond .eq 7, 3) := by decide +kernel
theorem dX12_must_36 : decode cX12_must 36 = .ok (.iconst 0, 1) := by decide +kernel
theorem dX12_must_37 : decode cX12_must 37 = .ok (.goto 4, 3) := by decide +kernel
theorem dX12_must_40 : decode cX12_must 40 = .ok (.iconst 1, 1) := by decide +kernel
theorem dX12_must_41 : decode cX12_must 41 = .ok (.iadd, 1) := by decide +kernel
theorem dX12_must_42 : decode cX12_must 42 = .ok (.putfield 149, 3) := by decide +kernel
theorem dX12_must_45 : decode cX12_must 45 = .ok (.return_, 1) := by decide +kernel
theorem hd_Mo_must_94 : y_Mo_must_94.cls ≠ "java/lang/invoke/MethodHandle" ∧ y_Mo_must_94.cls ≠ "java/lang/invoke/VarHandle" ∧ (parseMethodDescriptor y_Mo_must_94.desc).map (fun d => d.parameters.length) = some 1 := by decide +kernel
def f_Mo_must_94 (a1 : Int32) (M0 : Mem) : Option (Mem) :=
  if isb (M0.1 94 8) then jn_ (fun (u4 : Bool) => jv_ (wI M0 94 8 (bI u4)) fun M5 => if isb (M5.1 94 8) then if decide (M5.1 94 8 = 1) then (jv_ (wI M5 94 7 ((M5.1 94 7) + 0)) fun M8 => some M8) else (jv_ (wI M5 94 7 ((M5.1 94 7) + 1)) fun M9 => some M9) else none) fun k10 => if decide (M0.1 94 8 = 1) then (k10 true) else ((f_Mo_here_94 M0).bind fun q11 => if decide (q11 = a1) then (k10 false) else (k10 true)) else none
set_option maxHeartbeats 4000000 in
set_option maxRecDepth 20000 in
theorem C_Mo_must_94 {D : va_G} {ad adK adV : Nat → Nat} {cI cJ : ClassId} {l : Launch} (a1 : Int32) (M0 : Mem) (o : Mem) (h : f_Mo_must_94 a1 M0 = some o) : Ct D ad adK adV cI cJ l y_Mo_must_94 cX12_must 2 none 1 20 [.ref (ad 94), .int a1] M0 none o := by
  refine x_start (lv := [(0, .ref (ad 94)), (1, .int a1)]) (own := "CurrentFarmsModel") rfl (by decide) (Nat.le_of_ble_eq_true rfl) rfl ?_
  intro p e s m args below meth c Q hQ B
  unfold f_Mo_must_94 at h
  refine x_aload_n (pc := 0) B 0 dX12_must_0 rfl rfl ?_
  refine x_aload_n (pc := 1) B 0 dX12_must_1 rfl rfl ?_
  obtain ⟨hk1, h⟩ := ifn h
  refine x_getZ (T := TX12) (pc := 2) B 8 oi_94 rfl uw_12 (by decide) rfl tw_1307 rfl hk1 dX12_must_2 ?_
  refine jn_k h (fun (u4 : Bool) => XX D ad cI cJ p l e (Rm 1 20) s m args below meth c Q 2 M0 21 [(0, .ref (ad 94))] [.int (bI u4), .ref (ad 94)]) (fun u4 h => ?_) (fun k10 h JJ => ?_)
  · refine x_put (T := TX12) (pc := 21) B 8 oi_94 of_94_8 rfl uw_12 tyX12_ok nmX12 (by decide) rfl tw_1307 rfl (nrw_b _) (fts_b _) (Nat.le_of_ble_eq_true rfl) dX12_must_21 ?_
    refine jv_m (P := fun M5 => XX D ad cI cJ p l e (Rm 1 20) s m args below meth c Q 2 M5 24 [(0, .ref (ad 94))] []) h (fun M5 h => ?_)
    refine x_aload_n (pc := 24) B 0 dX12_must_24 rfl rfl ?_
    refine x_dup (pc := 25) B dX12_must_25 rfl ?_
    refine x_get (T := TX12) (pc := 26) B 7 oi_94 rfl uw_12 (by decide) rfl tw_1306 rfl dX12_must_26 ?_
    refine x_aload_n (pc := 29) B 0 dX12_must_29 rfl rfl ?_
    obtain ⟨hk6, h⟩ := ifn h
    refine x_getZ (T := TX12) (pc := 30) B 8 oi_94 rfl uw_12 (by decide) rfl tw_1307 rfl hk6 dX12_must_30 ?_
    refine x_if_eq_b (tgt := 40) (pc := 33) B dX12_must_33 rfl (fun hc7 => ?_) (fun hc7 => ?_)
    · have h := iff_ hc7 h
      refine x_iconst (v := 1) (pc := 40) B dX12_must_40 rfl ?_
      refine x_iadd (pc := 41) B dX12_must_41 ?_
      refine x_put (T := TX12) (pc := 42) B 7 oi_94 of_94_7 rfl uw_12 tyX12_ok nmX12 (by decide) rfl tw_1306 rfl rfl rfl (Nat.le_of_ble_eq_true rfl) dX12_must_42 ?_
      refine jv_m (P := fun M9 => XX D ad cI cJ p l e (Rm 1 20) s m args below meth c Q 2 M9 45 [(0, .ref (ad 94))] []) h (fun M9 h => ?_)
      obtain rfl := Option.some.inj h
      exact x_vret (pc := 45) B hQ dX12_must_45
    · have h := ift hc7 h
      refine x_iconst (v := 0) (pc := 36) B dX12_must_36 rfl ?_
      refine x_goto (tgt := 41) (pc := 37) B dX12_must_37 rfl ?_
      refine x_iadd (pc := 41) B dX12_must_41 ?_
      refine x_put (T := TX12) (pc := 42) B 7 oi_94 of_94_7 rfl uw_12 tyX12_ok nmX12 (by decide) rfl tw_1306 rfl rfl rfl (Nat.le_of_ble_eq_true rfl) dX12_must_42 ?_
      refine jv_m (P := fun M8 => XX D ad cI cJ p l e (Rm 1 20) s m args below meth c Q 2 M8 45 [(0, .ref (ad 94))] []) h (fun M8 h => ?_)
      obtain rfl := Option.some.inj h
      exact x_vret (pc := 45) B hQ dX12_must_45
  · refine x_if_ne_b (tgt := 16) (pc := 5) B dX12_must_5 rfl (fun hc2 => ?_) (fun hc2 => ?_)
    · have h := ift hc2 h
      refine x_iconst (v := 1) (pc := 16) B dX12_must_16 rfl ?_
      refine x_goto (tgt := 21) (pc := 17) B dX12_must_17 rfl ?_
      refine x_pick (lv' := [(0, .ref (ad 94))]) [0] rfl ?_
      have z := JJ true h
      exact z
    · have h := iff_ hc2 h
      refine x_aload_n (pc := 8) B 0 dX12_must_8 rfl rfl ?_
      obtain ⟨q11, hq11, h⟩ := bnd h
      refine x_callV (rest := [.ref (ad 94)]) (st' := [.int q11, .ref (ad 94)]) (pc := 9) B oi_94 rfl (C_Mo_here_94  M0 _ hq11) tw_1539 tw_1536 tw_1538 tw_66 tw_111 hd_Mo_here_94 ⟨Nat.le_of_ble_eq_true rfl, Nat.le_of_ble_eq_true rfl⟩ rfl rfl (Nat.le_of_ble_eq_true rfl) rfl dX12_must_9 ?_
      refine x_iload_n (pc := 12) B 1 dX12_must_12 rfl rfl ?_
      refine x_icmp_eq (tgt := 20) (pc := 13) B dX12_must_13 rfl (fun hc12 => ?_) (fun hc12 => ?_)
      · have h := ift hc12 h
        refine x_iconst (v := 0) (pc := 20) B dX12_must_20 rfl ?_
        refine x_pick (lv' := [(0, .ref (ad 94))]) [0] rfl ?_
        have z := JJ false h
        exact z
      · have h := iff_ hc12 h
        refine x_iconst (v := 1) (pc := 16) B dX12_must_16 rfl ?_
        refine x_goto (tgt := 21) (pc := 17) B dX12_must_17 rfl ?_
        refine x_pick (lv' := [(0, .ref (ad 94))]) [0] rfl ?_
        have z := JJ true h
        exact z
-- CurrentFarmsModel.spells(Ljava/lang/String;)V [94]
abbrev y_Mo_spells_94 : MethodName := ⟨"CurrentFarmsModel", "spells", "(Ljava/lang/String;)V"⟩
abbrev cX12_spells : ByteArray := prog_14_method_34_code
theorem dX12_spells_0 : decode cX12_spells 0 = .ok (.iconst 0, 1) := by decide +kernel
theorem dX12_spells_1 : decode cX12_spells 1 = .ok (.istore_n 2, 1) := by decide +kernel
theorem dX12_spells_2 : decode cX12_spells 2 = .ok (.iload_n 2, 1) := by decide +kernel
theorem dX12_spells_3 : decode cX12_spells 3 = .ok (.aload_n 1, 1) := by decide +kernel
theorem dX12_spells_4 : decode cX12_spells 4 = .ok (.invokevirtual 162, 3) := by decide +kernel
theorem dX12_spells_7 : decode cX12_spells 7 = .ok (.if_icmp .ge 18, 3) := by decide +kernel
theorem dX12_spells_10 : decode cX12_spells 10 = .ok (.aload_n 0, 1) := by decide +kernel
theorem dX12_spells_11 : decode cX12_spells 11 = .ok (.aload_n 1, 1) := by decide +kernel
theorem dX12_spells_12 : decode cX12_spells 12 = .ok (.iload_n 2, 1) := by decide +kernel
theorem dX12_spells_13 : decode cX12_spells 13 = .ok (.invokevirtual 167, 3) := by decide +kernel
theorem dX12_spells_16 : decode cX12_spells 16 = .ok (.invokevirtual 171, 3) := by decide +kernel
theorem dX12_spells_19 : decode cX12_spells 19 = .ok (.iinc 2 1, 3) := by decide +kernel
theorem dX12_spells_22 : decode cX12_spells 22 = .ok (.goto (-20), 3) := by decide +kernel
theorem dX12_spells_25 : decode cX12_spells 25 = .ok (.return_, 1) := by decide +kernel
theorem hd_Mo_spells_94 : y_Mo_spells_94.cls ≠ "java/lang/invoke/MethodHandle" ∧ y_Mo_spells_94.cls ≠ "java/lang/invoke/VarHandle" ∧ (parseMethodDescriptor y_Mo_spells_94.desc).map (fun d => d.parameters.length) = some 1 := by decide +kernel
def b_Mo_spells_94_2 (a1 : Nat) (y1 : Int32 × Mem) : Option ((Int32 × Mem) ⊕ (Mem)) :=
  if decide (a1 < 26) then if decide (y1.1 < (slen a1)) then (if decide (a1 < 26) then if inb y1.1 (sr_len.getD a1 0) then (f_Mo_must_94 (schr a1 y1.1) y1.2).bind fun q6 => some (.inl (y1.1 + 1, q6)) else none else none) else (some (.inr y1.2)) else none
def f_Mo_spells_94 (a1 : Nat) (M0 : Mem) : Option (Mem) :=
  (itr (b_Mo_spells_94_2 a1) FU (0, M0)).bind fun q7 => some q7
set_option maxHeartbeats 4000000 in
set_option maxRecDepth 20000 in
theorem C_Mo_spells_94 {D : va_G} {ad adK adV : Nat → Nat} {cI cJ : ClassId} {l : Launch} (a1 : Nat) (M0 : Mem) (o : Mem) (h : f_Mo_spells_94 a1 M0 = some o) : Ct D ad adK adV cI cJ l y_Mo_spells_94 cX12_spells 3 none 4 85 [.ref (ad 94), .ref (adK a1)] M0 none o := by
  refine x_start (lv := [(0, .ref (ad 94)), (1, .ref (adK a1))]) (own := "CurrentFarmsModel") rfl (by decide) (Nat.le_of_ble_eq_true rfl) rfl ?_
  intro p e s m args below meth c Q hQ B
  unfold f_Mo_spells_94 at h
  refine x_iconst (v := 0) (pc := 0) B dX12_spells_0 rfl ?_
  refine x_istore_n (lv' := [(2, .int 0), (0, .ref (ad 94)), (1, .ref (adK a1))]) (pc := 1) B dX12_spells_1 rfl (by decide) rfl ?_
  refine x_pick (lv' := [(0, .ref (ad 94)), (1, .ref (adK a1)), (2, .int 0)]) [1, 2, 0] rfl ?_
  obtain ⟨q7, hq7, h⟩ := bnd h
  refine x_loop (Head := fun (y1 : Int32 × Mem) => XX D ad cI cJ p l e (Rm 4 85) s m args below meth c Q 3 y1.2 2 [(0, .ref (ad 94)), (1, .ref (adK a1)), (2, .int y1.1)] []) (Ex := fun (q7 : Mem) => XX D ad cI cJ p l e (Rm 4 85) s m args below meth c Q 3 q7 25 [] []) (fun y1 r h hback hexit => ?_) FU _ q7 hq7 ?_
  · unfold b_Mo_spells_94_2 at h
    refine x_iload_n (pc := 2) B 2 dX12_spells_2 rfl rfl ?_
    refine x_aload_n (pc := 3) B 1 dX12_spells_3 rfl rfl ?_
    obtain ⟨hk2, h⟩ := ifn h
    refine x_callVS (rest := [.int y1.1]) (st' := [.int (slen a1), .int y1.1]) (pc := 4) B (of_decide_eq_true hk2) (T_length a1 (of_decide_eq_true hk2) y1.2) tw_890 tw_1561 tw_888 tw_889 tw_114 hd_J0_length_8abf5 ⟨Nat.le_of_ble_eq_true rfl, Nat.le_of_ble_eq_true rfl⟩ rfl rfl (Nat.le_of_ble_eq_true rfl) rfl dX12_spells_4 ?_
    refine x_icmp_ge (tgt := 25) (pc := 7) B dX12_spells_7 rfl (fun hc3 => ?_) (fun hc3 => ?_)
    · have h := iff_ hc3 h
      refine x_pick (lv' := []) [] rfl ?_
      have z := hexit y1.2 (Option.some.inj h).symm
      exact z
    · have h := ift hc3 h
      refine x_aload_n (pc := 10) B 0 dX12_spells_10 rfl rfl ?_
      refine x_aload_n (pc := 11) B 1 dX12_spells_11 rfl rfl ?_
      refine x_iload_n (pc := 12) B 2 dX12_spells_12 rfl rfl ?_
      obtain ⟨hk4, h⟩ := ifn h
      obtain ⟨hk5, h⟩ := ifn h
      refine x_callVS (rest := [.ref (ad 94)]) (st' := [.int (schr a1 y1.1), .ref (ad 94)]) (pc := 13) B (of_decide_eq_true hk4) (T_charAt a1 y1.1 (of_decide_eq_true hk4) hk5 y1.2) tw_846 tw_1562 tw_844 tw_845 tw_114 hd_J0_charAt_5068e ⟨Nat.le_of_ble_eq_true rfl, Nat.le_of_ble_eq_true rfl⟩ rfl rfl (Nat.le_of_ble_eq_true rfl) rfl dX12_spells_13 ?_
      obtain ⟨q6, hq6, h⟩ := bnd h
      refine x_callV (rest := []) (st' := []) (pc := 16) B oi_94 rfl (C_Mo_must_94 (schr a1 y1.1) y1.2 _ hq6) tw_1547 tw_1544 tw_1546 tw_68 tw_111 hd_Mo_must_94 ⟨Nat.le_of_ble_eq_true rfl, Nat.le_of_ble_eq_true rfl⟩ rfl rfl (Nat.le_of_ble_eq_true rfl) rfl dX12_spells_16 ?_
      refine x_iinc (k := 2) (v := y1.1 + 1) (lv' := [(2, .int (y1.1 + 1)), (0, .ref (ad 94)), (1, .ref (adK a1))]) (pc := 19) B dX12_spells_19 rfl rfl (by decide) rfl ?_
      refine x_goto (tgt := 2) (pc := 22) B dX12_spells_22 rfl ?_
      refine x_pick (lv' := [(0, .ref (ad 94)), (1, .ref (adK a1)), (2, .int (y1.1 + 1))]) [1, 2, 0] rfl ?_
      have z := hback (y1.1 + 1, q6) (Option.some.inj h).symm
      exact z
  · obtain rfl := Option.some.inj h
    exact x_vret (pc := 25) B hQ dX12_spells_25
-- CurrentFarmsModel.name(ILjava/lang/String;)I [94]
abbrev y_Mo_name_94 : MethodName := ⟨"CurrentFarmsModel", "name", "(ILjava/lang/String;)I"⟩
abbrev cX12_name : ByteArray := prog_14_method_35_code
theorem dX12_name_0 : decode cX12_name 0 = .ok (.aload_n 0, 1) := by decide +kernel
theorem dX12_name_1 : decode cX12_name 1 = .ok (.aload_n 2, 1) := by decide +kernel
theorem dX12_name_2 : decode cX12_name 2 = .ok (.invokevirtual 175, 3) := by decide +kernel
theorem dX12_name_5 : decode cX12_name 5 = .ok (.aload_n 0, 1) := by decide +kernel
theorem dX12_name_6 : decode cX12_name 6 = .ok (.getfield 22, 3) := by decide +kernel
theorem dX12_name_9 : decode cX12_name 9 = .ok (.iload_n 1, 1) := by decide +kernel
theorem dX12_name_10 : decode cX12_name 10 = .ok (.iaload, 1) := by decide +kernel
theorem dX12_name_11 : decode cX12_name 11 = .ok (.ireturn, 1) := by decide +kernel
theorem hd_Mo_name_94 : y_Mo_name_94.cls ≠ "java/lang/invoke/MethodHandle" ∧ y_Mo_name_94.cls ≠ "java/lang/invoke/VarHandle" ∧ (parseMethodDescriptor y_Mo_name_94.desc).map (fun d => d.parameters.length) = some 2 := by decide +kernel
def f_Mo_name_94 (a1 : Int32) (a2 : Nat) (M0 : Mem) : Option (Int32 × Mem) :=
  (f_Mo_spells_94 a2 M0).bind fun q1 => if inb a1 5 then some (q1.1 99 a1.toNatClampNeg, q1) else none
set_option maxHeartbeats 4000000 in
set_option maxRecDepth 20000 in
theorem C_Mo_name_94 {D : va_G} {ad adK adV : Nat → Nat} {cI cJ : ClassId} {l : Launch} (a1 : Int32) (a2 : Nat) (M0 : Mem) (o : Int32 × Mem) (h : f_Mo_name_94 a1 a2 M0 = some o) : Ct D ad adK adV cI cJ l y_Mo_name_94 cX12_name 3 (some .int) 5 107 [.ref (ad 94), .int a1, .ref (adK a2)] M0 (some (.int o.1)) o.2 := by
  refine x_start (lv := [(0, .ref (ad 94)), (1, .int a1), (2, .ref (adK a2))]) (own := "CurrentFarmsModel") rfl (by decide) (Nat.le_of_ble_eq_true rfl) rfl ?_
  intro p e s m args below meth c Q hQ B
  unfold f_Mo_name_94 at h
  refine x_aload_n (pc := 0) B 0 dX12_name_0 rfl rfl ?_
  refine x_aload_n (pc := 1) B 2 dX12_name_1 rfl rfl ?_
  obtain ⟨q1, hq1, h⟩ := bnd h
  refine x_callV (rest := []) (st' := []) (pc := 2) B oi_94 rfl (C_Mo_spells_94 a2 M0 _ hq1) tw_1560 tw_1557 tw_1559 tw_71 tw_111 hd_Mo_spells_94 ⟨Nat.le_of_ble_eq_true rfl, Nat.le_of_ble_eq_true rfl⟩ rfl rfl (Nat.le_of_ble_eq_true rfl) rfl dX12_name_2 ?_
  refine x_aload_n (pc := 5) B 0 dX12_name_5 rfl rfl ?_
  refine x_get (T := TX12) (pc := 6) B 9 oi_94 rfl uw_12 (by decide) rfl tw_1308 rfl dX12_name_6 ?_
  refine x_iload_n (pc := 9) B 1 dX12_name_9 rfl rfl ?_
  obtain ⟨hk2, h⟩ := ifn h
  refine x_iald (pc := 10) B ai_99 hk2 dX12_name_10 ?_
  obtain rfl := Option.some.inj h
  exact x_iret (pc := 11) B hQ dX12_name_11
abbrev y_Mo_sum_94 : MethodName := ⟨"CurrentFarmsModel", "sum", "()I"⟩
abbrev cX12_sum : ByteArray := prog_14_method_40_code
theorem dX12_sum_0 : decode cX12_sum 0 = .ok (.aload_n 0, 1) := by decide +kernel
theorem dX12_sum_1 : decode cX12_sum 1 = .ok (.invokevirtual 205, 3) := by decide +kernel
theorem dX12_sum_4 : decode cX12_sum 4 = .ok (.istore_n 1, 1) := by decide +kernel
theorem dX12_sum_5 : decode cX12_sum 5 = .ok (.aload_n 0, 1) := by decide +kernel
theorem dX12_sum_6 : decode cX12_sum 6 = .ok (.getfield 155, 3) := by decide +kernel
theorem dX12_sum_9 : decode cX12_sum 9 = .ok (.ifCond .ne 68, 3) := by decide +kernel
theorem dX12_sum_12 : decode cX12_sum 12 = .ok (.aload_n 0, 1) := by decide +kernel
theorem dX12_sum_13 : decode cX12_sum 13 = .ok (.invokevirtual 159, 3) := by decide +kernel
theorem dX12_sum_16 : decode cX12_sum 16 = .ok (.bipush 43, 2) := by decide +kernel
theorem dX12_sum_18 : decode cX12_sum 18 = .ok (.if_icmp .eq 12, 3) := by decide +kernel
theorem dX12_sum_21 : decode cX12_sum 21 = .ok (.aload_n 0, 1) := by decide +kernel
theorem dX12_sum_22 : decode cX12_sum 22 = .ok (.invokevirtual 159, 3) := by decide +kernel
theorem dX12_sum_25 : decode cX12_sum 25 = .ok (.bipush 45, 2) := by decide +kernel
theorem dX12_sum_27 : decode cX12_sum 27 = .ok (.if_icmp .ne 50, 3) := by decide +kernel
theorem dX12_sum_30 : decode cX12_sum 30 = .ok (.aload_n 0, 1) := by decide +kernel
theorem dX12_sum_31 : decode cX12_sum 31 = .ok (.invokevirtual 159, 3) := by decide +kernel
theorem dX12_sum_34 : decode cX12_sum 34 = .ok (.bipush 43, 2) := by decide +kernel
theorem dX12_sum_36 : decode cX12_sum 36 = .ok (.if_icmp .ne 7, 3) := by decide +kernel
theorem dX12_sum_39 : decode cX12_sum 39 = .ok (.iconst 1, 1) := by decide +kernel
theorem dX12_sum_40 : decode cX12_sum 40 = .ok (.goto 4, 3) := by decide +kernel
theorem dX12_sum_43 : decode cX12_sum 43 = .ok (.iconst 0, 1) := by decide +kernel
theorem dX12_sum_44 : decode cX12_sum 44 = .ok (.istore_n 2, 1) := by decide +kernel
theorem dX12_sum_45 : decode cX12_sum 45 = .ok (.aload_n 0, 1) := by decide +kernel
theorem dX12_sum_46 : decode cX12_sum 46 = .ok (.dup, 1) := by decide +kernel
theorem dX12_sum_47 : decode cX12_sum 47 = .ok (.getfield 149, 3) := by decide +kernel
theorem dX12_sum_50 : decode cX12_sum 50 = .ok (.iconst 1, 1) := by decide +kernel
theorem dX12_sum_51 : decode cX12_sum 51 = .ok (.iadd, 1) := by decide +kernel
theorem dX12_sum_52 : decode cX12_sum 52 = .ok (.putfield 149, 3) := by decide +kernel
theorem dX12_sum_55 : decode cX12_sum 55 = .ok (.aload_n 0, 1) := by decide +kernel
theorem dX12_sum_56 : decode cX12_sum 56 = .ok (.invokevirtual 205, 3) := by decide +kernel
theorem dX12_sum_59 : decode cX12_sum 59 = .ok (.istore_n 3, 1) := by decide +kernel
theorem dX12_sum_60 : decode cX12_sum 60 = .ok (.iload_n 2, 1) := by decide +kernel
theorem dX12_sum_61 : decode cX12_sum 61 = .ok (.ifCond .eq 9, 3) := by decide +kernel
theorem dX12_sum_64 : decode cX12_sum 64 = .ok (.iload_n 1, 1) := by decide +kernel
theorem dX12_sum_65 : decode cX12_sum 65 = .ok (.iload_n 3, 1) := by decide +kernel
theorem dX12_sum_66 : decode cX12_sum 66 = .ok (.iadd, 1) := by decide +kernel
theorem dX12_sum_67 : decode cX12_sum 67 = .ok (.goto 6, 3) := by decide +kernel
theorem dX12_sum_70 : decode cX12_sum 70 = .ok (.iload_n 1, 1) := by decide +kernel
theorem dX12_sum_71 : decode cX12_sum 71 = .ok (.iload_n 3, 1) := by decide +kernel
theorem dX12_sum_72 : decode cX12_sum 72 = .ok (.isub, 1) := by decide +kernel
theorem dX12_sum_73 : decode cX12_sum 73 = .ok (.istore_n 1, 1) := by decide +kernel
theorem dX12_sum_74 : decode cX12_sum 74 = .ok (.goto (-69), 3) := by decide +kernel
theorem dX12_sum_77 : decode cX12_sum 77 = .ok (.iload_n 1, 1) := by decide +kernel
theorem dX12_sum_78 : decode cX12_sum 78 = .ok (.ireturn, 1) := by decide +kernel
theorem hd_Mo_sum_94 : y_Mo_sum_94.cls ≠ "java/lang/invoke/MethodHandle" ∧ y_Mo_sum_94.cls ≠ "java/lang/invoke/VarHandle" ∧ (parseMethodDescriptor y_Mo_sum_94.desc).map (fun d => d.parameters.length) = some 0 := by decide +kernel
abbrev y_Mo_term_94 : MethodName := ⟨"CurrentFarmsModel", "term", "()I"⟩
abbrev cX12_term : ByteArray := prog_14_method_39_code
theorem dX12_term_0 : decode cX12_term 0 = .ok (.aload_n 0, 1) := by decide +kernel
theorem dX12_term_1 : decode cX12_term 1 = .ok (.invokevirtual 202, 3) := by decide +kernel
theorem dX12_term_4 : decode cX12_term 4 = .ok (.istore_n 1, 1) := by decide +kernel
theorem dX12_term_5 : decode cX12_term 5 = .ok (.aload_n 0, 1) := by decide +kernel
theorem dX12_term_6 : decode cX12_term 6 = .ok (.getfield 155, 3) := by decide +kernel
theorem dX12_term_9 : decode cX12_term 9 = .ok (.ifCond .ne 76, 3) := by decide +kernel
theorem dX12_term_12 : decode cX12_term 12 = .ok (.aload_n 0, 1) := by decide +kernel
theorem dX12_term_13 : decode cX12_term 13 = .ok (.invokevirtual 159, 3) := by decide +kernel
theorem dX12_term_16 : decode cX12_term 16 = .ok (.bipush 42, 2) := by decide +kernel
theorem dX12_term_18 : decode cX12_term 18 = .ok (.if_icmp .eq 12, 3) := by decide +kernel
theorem dX12_term_21 : decode cX12_term 21 = .ok (.aload_n 0, 1) := by decide +kernel
theorem dX12_term_22 : decode cX12_term 22 = .ok (.invokevirtual 159, 3) := by decide +kernel
theorem dX12_term_25 : decode cX12_term 25 = .ok (.bipush 47, 2) := by decide +kernel
theorem dX12_term_27 : decode cX12_term 27 = .ok (.if_icmp .ne 58, 3) := by decide +kernel
theorem dX12_term_30 : decode cX12_term 30 = .ok (.aload_n 0, 1) := by decide +kernel
theorem dX12_term_31 : decode cX12_term 31 = .ok (.invokevirtual 159, 3) := by decide +kernel
theorem dX12_term_34 : decode cX12_term 34 = .ok (.bipush 42, 2) := by decide +kernel
theorem dX12_term_36 : decode cX12_term 36 = .ok (.if_icmp .ne 7, 3) := by decide +kernel
theorem dX12_term_39 : decode cX12_term 39 = .ok (.iconst 1, 1) := by decide +kernel
theorem dX12_term_40 : decode cX12_term 40 = .ok (.goto 4, 3) := by decide +kernel
theorem dX12_term_43 : decode cX12_term 43 = .ok (.iconst 0, 1) := by decide +kernel
theorem dX12_term_44 : decode cX12_term 44 = .ok (.istore_n 2, 1) := by decide +kernel
theorem dX12_term_45 : decode cX12_term 45 = .ok (.aload_n 0, 1) := by decide +kernel
theorem dX12_term_46 : decode cX12_term 46 = .ok (.dup, 1) := by decide +kernel
theorem dX12_term_47 : decode cX12_term 47 = .ok (.getfield 149, 3) := by decide +kernel
theorem dX12_term_50 : decode cX12_term 50 = .ok (.iconst 1, 1) := by decide +kernel
theorem dX12_term_51 : decode cX12_term 51 = .ok (.iadd, 1) := by decide +kernel
theorem dX12_term_52 : decode cX12_term 52 = .ok (.putfield 149, 3) := by decide +kernel
theorem dX12_term_55 : decode cX12_term 55 = .ok (.aload_n 0, 1) := by decide +kernel
theorem dX12_term_56 : decode cX12_term 56 = .ok (.invokevirtual 202, 3) := by decide +kernel
theorem dX12_term_59 : decode cX12_term 59 = .ok (.istore_n 3, 1) := by decide +kernel
theorem dX12_term_60 : decode cX12_term 60 = .ok (.iload_n 2, 1) := by decide +kernel
theorem dX12_term_61 : decode cX12_term 61 = .ok (.ifCond .eq 9, 3) := by decide +kernel
theorem dX12_term_64 : decode cX12_term 64 = .ok (.iload_n 1, 1) := by decide +kernel
theorem dX12_term_65 : decode cX12_term 65 = .ok (.iload_n 3, 1) := by decide +kernel
theorem dX12_term_66 : decode cX12_term 66 = .ok (.imul, 1) := by decide +kernel
theorem dX12_term_67 : decode cX12_term 67 = .ok (.goto 14, 3) := by decide +kernel
theorem dX12_term_70 : decode cX12_term 70 = .ok (.iload_n 3, 1) := by decide +kernel
theorem dX12_term_71 : decode cX12_term 71 = .ok (.ifCond .ne 7, 3) := by decide +kernel
theorem dX12_term_74 : decode cX12_term 74 = .ok (.iconst 0, 1) := by decide +kernel
theorem dX12_term_75 : decode cX12_term 75 = .ok (.goto 6, 3) := by decide +kernel
theorem dX12_term_78 : decode cX12_term 78 = .ok (.iload_n 1, 1) := by decide +kernel
theorem dX12_term_79 : decode cX12_term 79 = .ok (.iload_n 3, 1) := by decide +kernel
theorem dX12_term_80 : decode cX12_term 80 = .ok (.idiv, 1) := by decide +kernel
theorem dX12_term_81 : decode cX12_term 81 = .ok (.istore_n 1, 1) := by decide +kernel
theorem dX12_term_82 : decode cX12_term 82 = .ok (.goto (-77), 3) := by decide +kernel
theorem dX12_term_85 : decode cX12_term 85 = .ok (.iload_n 1, 1) := by decide +kernel
theorem dX12_term_86 : decode cX12_term 86 = .ok (.ireturn, 1) := by decide +kernel
theorem hd_Mo_term_94 : y_Mo_term_94.cls ≠ "java/lang/invoke/MethodHandle" ∧ y_Mo_term_94.cls ≠ "java/lang/invoke/VarHandle" ∧ (parseMethodDescriptor y_Mo_term_94.desc).map (fun d => d.parameters.length) = some 0 := by decide +kernel
abbrev y_Mo_one_94 : MethodName := ⟨"CurrentFarmsModel", "one", "()I"⟩
abbrev cX12_one : ByteArray := prog_14_method_38_code
theorem dX12_one_0 : decode cX12_one 0 = .ok (.aload_n 0, 1) := by decide +kernel
theorem dX12_one_1 : decode cX12_one 1 = .ok (.getfield 155, 3) := by decide +kernel
theorem dX12_one_4 : decode cX12_one 4 = .ok (.ifCond .eq 5, 3) := by decide +kernel
theorem dX12_one_7 : decode cX12_one 7 = .ok (.iconst 0, 1) := by decide +kernel
theorem dX12_one_8 : decode cX12_one 8 = .ok (.ireturn, 1) := by decide +kernel
theorem dX12_one_9 : decode cX12_one 9 = .ok (.aload_n 0, 1) := by decide +kernel
theorem dX12_one_10 : decode cX12_one 10 = .ok (.invokevirtual 159, 3) := by decide +kernel
theorem dX12_one_13 : decode cX12_one 13 = .ok (.istore_n 1, 1) := by decide +kernel
theorem dX12_one_14 : decode cX12_one 14 = .ok (.iload_n 1, 1) := by decide +kernel
theorem dX12_one_15 : decode cX12_one 15 = .ok (.bipush 48, 2) := by decide +kernel
theorem dX12_one_17 : decode cX12_one 17 = .ok (.bipush 57, 2) := by decide +kernel
theorem dX12_one_19 : decode cX12_one 19 = .ok (.invokestatic 84, 3) := by decide +kernel
theorem dX12_one_22 : decode cX12_one 22 = .ok (.ifCond .eq 8, 3) := by decide +kernel
theorem dX12_one_25 : decode cX12_one 25 = .ok (.aload_n 0, 1) := by decide +kernel
theorem dX12_one_26 : decode cX12_one 26 = .ok (.invokevirtual 182, 3) := by decide +kernel
theorem dX12_one_29 : decode cX12_one 29 = .ok (.ireturn, 1) := by decide +kernel
theorem dX12_one_30 : decode cX12_one 30 = .ok (.iload_n 1, 1) := by decide +kernel
theorem dX12_one_31 : decode cX12_one 31 = .ok (.lookupswitch 143 #[(40, 65), (91, 88), (107, 119), (108, 111), (109, 135), (111, 127), (117, 103)], 65) := by decide +kernel
theorem dX12_one_96 : decode cX12_one 96 = .ok (.aload_n 0, 1) := by decide +kernel
theorem dX12_one_97 : decode cX12_one 97 = .ok (.dup, 1) := by decide +kernel
theorem dX12_one_98 : decode cX12_one 98 = .ok (.getfield 149, 3) := by decide +kernel
theorem dX12_one_101 : decode cX12_one 101 = .ok (.iconst 1, 1) := by decide +kernel
theorem dX12_one_102 : decode cX12_one 102 = .ok (.iadd, 1) := by decide +kernel
theorem dX12_one_103 : decode cX12_one 103 = .ok (.putfield 149, 3) := by decide +kernel
theorem dX12_one_106 : decode cX12_one 106 = .ok (.aload_n 0, 1) := by decide +kernel
theorem dX12_one_107 : decode cX12_one 107 = .ok (.invokevirtual 179, 3) := by decide +kernel
theorem dX12_one_110 : decode cX12_one 110 = .ok (.istore_n 2, 1) := by decide +kernel
theorem dX12_one_111 : decode cX12_one 111 = .ok (.aload_n 0, 1) := by decide +kernel
theorem dX12_one_112 : decode cX12_one 112 = .ok (.bipush 41, 2) := by decide +kernel
theorem dX12_one_114 : decode cX12_one 114 = .ok (.invokevirtual 171, 3) := by decide +kernel
theorem dX12_one_117 : decode cX12_one 117 = .ok (.iload_n 2, 1) := by decide +kernel
theorem dX12_one_118 : decode cX12_one 118 = .ok (.ireturn, 1) := by decide +kernel
theorem dX12_one_119 : decode cX12_one 119 = .ok (.aload_n 0, 1) := by decide +kernel
theorem dX12_one_120 : decode cX12_one 120 = .ok (.dup, 1) := by decide +kernel
theorem dX12_one_121 : decode cX12_one 121 = .ok (.getfield 149, 3) := by decide +kernel
theorem dX12_one_124 : decode cX12_one 124 = .ok (.iconst 1, 1) := by decide +kernel
theorem dX12_one_125 : decode cX12_one 125 = .ok (.iadd, 1) := by decide +kernel
theorem dX12_one_126 : decode cX12_one 126 = .ok (.putfield 149, 3) := by decide +kernel
theorem dX12_one_129 : decode cX12_one 129 = .ok (.aload_n 0, 1) := by decide +kernel
theorem dX12_one_130 : decode cX12_one 130 = .ok (.invokevirtual 185, 3) := by decide +kernel
theorem dX12_one_133 : decode cX12_one 133 = .ok (.ireturn, 1) := by decide +kernel
theorem dX12_one_134 : decode cX12_one 134 = .ok (.aload_n 0, 1) := by decide +kernel
theorem dX12_one_135 : decode cX12_one 135 = .ok (.iconst 0, 1) := by decide +kernel
theorem dX12_one_136 : decode cX12_one 136 = .ok (.ldc 188, 2) := by decide +kernel
theorem dX12_one_138 : decode cX12_one 138 = .ok (.invokevirtual 190, 3) := by decide +kernel
theorem dX12_one_141 : decode cX12_one 141 = .ok (.ireturn, 1) := by decide +kernel
theorem dX12_one_142 : decode cX12_one 142 = .ok (.aload_n 0, 1) := by decide +kernel
theorem dX12_one_143 : decode cX12_one 143 = .ok (.iconst 1, 1) := by decide +kernel
theorem dX12_one_144 : decode cX12_one 144 = .ok (.ldc 194, 2) := by decide +kernel
theorem dX12_one_146 : decode cX12_one 146 = .ok (.invokevirtual 190, 3) := by decide +kernel
theorem dX12_one_149 : decode cX12_one 149 = .ok (.ireturn, 1) := by decide +kernel
theorem dX12_one_150 : decode cX12_one 150 = .ok (.aload_n 0, 1) := by decide +kernel
theorem dX12_one_151 : decode cX12_one 151 = .ok (.iconst 2, 1) := by decide +kernel
theorem dX12_one_152 : decode cX12_one 152 = .ok (.ldc 196, 2) := by decide +kernel
theorem dX12_one_154 : decode cX12_one 154 = .ok (.invokevirtual 190, 3) := by decide +kernel
theorem dX12_one_157 : decode cX12_one 157 = .ok (.ireturn, 1) := by decide +kernel
theorem dX12_one_158 : decode cX12_one 158 = .ok (.aload_n 0, 1) := by decide +kernel
theorem dX12_one_159 : decode cX12_one 159 = .ok (.iconst 3, 1) := by decide +kernel
theorem dX12_one_160 : decode cX12_one 160 = .ok (.ldc 198, 2) := by decide +kernel
theorem dX12_one_162 : decode cX12_one 162 = .ok (.invokevirtual 190, 3) := by decide +kernel
theorem dX12_one_165 : decode cX12_one 165 = .ok (.ireturn, 1) := by decide +kernel
theorem dX12_one_166 : decode cX12_one 166 = .ok (.aload_n 0, 1) := by decide +kernel
theorem dX12_one_167 : decode cX12_one 167 = .ok (.iconst 4, 1) := by decide +kernel
theorem dX12_one_168 : decode cX12_one 168 = .ok (.ldc 200, 2) := by decide +kernel
theorem dX12_one_170 : decode cX12_one 170 = .ok (.invokevirtual 190, 3) := by decide +kernel
theorem dX12_one_173 : decode cX12_one 173 = .ok (.ireturn, 1) := by decide +kernel
theorem dX12_one_174 : decode cX12_one 174 = .ok (.aload_n 0, 1) := by decide +kernel
theorem dX12_one_175 : decode cX12_one 175 = .ok (.iconst 1, 1) := by decide +kernel
theorem dX12_one_176 : decode cX12_one 176 = .ok (.putfield 155, 3) := by decide +kernel
theorem dX12_one_179 : decode cX12_one 179 = .ok (.iconst 0, 1) := by decide +kernel
theorem dX12_one_180 : decode cX12_one 180 = .ok (.ireturn, 1) := by decide +kernel
theorem hd_Mo_one_94 : y_Mo_one_94.cls ≠ "java/lang/invoke/MethodHandle" ∧ y_Mo_one_94.cls ≠ "java/lang/invoke/VarHandle" ∧ (parseMethodDescriptor y_Mo_one_94.desc).map (fun d => d.parameters.length) = some 0 := by decide +kernel
abbrev y_Mo_steps_94 : MethodName := ⟨"CurrentFarmsModel", "steps", "()I"⟩
abbrev cX12_steps : ByteArray := prog_14_method_37_code
theorem dX12_steps_0 : decode cX12_steps 0 = .ok (.aload_n 0, 1) := by decide +kernel
theorem dX12_steps_1 : decode cX12_steps 1 = .ok (.invokevirtual 179, 3) := by decide +kernel
theorem dX12_steps_4 : decode cX12_steps 4 = .ok (.istore_n 1, 1) := by decide +kernel
theorem dX12_steps_5 : decode cX12_steps 5 = .ok (.aload_n 0, 1) := by decide +kernel
theorem dX12_steps_6 : decode cX12_steps 6 = .ok (.bipush 58, 2) := by decide +kernel
theorem dX12_steps_8 : decode cX12_steps 8 = .ok (.invokevirtual 171, 3) := by decide +kernel
theorem dX12_steps_11 : decode cX12_steps 11 = .ok (.iconst 0, 1) := by decide +kernel
theorem dX12_steps_12 : decode cX12_steps 12 = .ok (.istore_n 2, 1) := by decide +kernel
theorem dX12_steps_13 : decode cX12_steps 13 = .ok (.iload_n 1, 1) := by decide +kernel
theorem dX12_steps_14 : decode cX12_steps 14 = .ok (.ifCond .ge 7, 3) := by decide +kernel
theorem dX12_steps_17 : decode cX12_steps 17 = .ok (.iconst 0, 1) := by decide +kernel
theorem dX12_steps_18 : decode cX12_steps 18 = .ok (.goto 4, 3) := by decide +kernel
theorem dX12_steps_21 : decode cX12_steps 21 = .ok (.iload_n 1, 1) := by decide +kernel
theorem dX12_steps_22 : decode cX12_steps 22 = .ok (.istore_n 3, 1) := by decide +kernel
theorem dX12_steps_23 : decode cX12_steps 23 = .ok (.iconst 0, 1) := by decide +kernel
theorem dX12_steps_24 : decode cX12_steps 24 = .ok (.istore 4, 2) := by decide +kernel
theorem dX12_steps_26 : decode cX12_steps 26 = .ok (.iconst 0, 1) := by decide +kernel
theorem dX12_steps_27 : decode cX12_steps 27 = .ok (.istore 5, 2) := by decide +kernel
theorem dX12_steps_29 : decode cX12_steps 29 = .ok (.iconst 1, 1) := by decide +kernel
theorem dX12_steps_30 : decode cX12_steps 30 = .ok (.istore 6, 2) := by decide +kernel
theorem dX12_steps_32 : decode cX12_steps 32 = .ok (.iload 6, 2) := by decide +kernel
theorem dX12_steps_34 : decode cX12_steps 34 = .ok (.ifCond .eq 99, 3) := by decide +kernel
theorem dX12_steps_37 : decode cX12_steps 37 = .ok (.aload_n 0, 1) := by decide +kernel
theorem dX12_steps_38 : decode cX12_steps 38 = .ok (.invokevirtual 179, 3) := by decide +kernel
theorem dX12_steps_41 : decode cX12_steps 41 = .ok (.istore 7, 2) := by decide +kernel
theorem dX12_steps_43 : decode cX12_steps 43 = .ok (.iload 5, 2) := by decide +kernel
theorem dX12_steps_45 : decode cX12_steps 45 = .ok (.ifCond .le 30, 3) := by decide +kernel
theorem dX12_steps_48 : decode cX12_steps 48 = .ok (.iload_n 3, 1) := by decide +kernel
theorem dX12_steps_49 : decode cX12_steps 49 = .ok (.bipush 10, 2) := by decide +kernel
theorem dX12_steps_51 : decode cX12_steps 51 = .ok (.if_icmp .ge 7, 3) := by decide +kernel
theorem dX12_steps_54 : decode cX12_steps 54 = .ok (.iload_n 3, 1) := by decide +kernel
theorem dX12_steps_55 : decode cX12_steps 55 = .ok (.goto 5, 3) := by decide +kernel
theorem dX12_steps_58 : decode cX12_steps 58 = .ok (.bipush 10, 2) := by decide +kernel
theorem dX12_steps_60 : decode cX12_steps 60 = .ok (.istore 8, 2) := by decide +kernel
theorem dX12_steps_62 : decode cX12_steps 62 = .ok (.iload_n 2, 1) := by decide +kernel
theorem dX12_steps_63 : decode cX12_steps 63 = .ok (.iload 8, 2) := by decide +kernel
theorem dX12_steps_65 : decode cX12_steps 65 = .ok (.iload 4, 2) := by decide +kernel
theorem dX12_steps_67 : decode cX12_steps 67 = .ok (.imul, 1) := by decide +kernel
theorem dX12_steps_68 : decode cX12_steps 68 = .ok (.iadd, 1) := by decide +kernel
theorem dX12_steps_69 : decode cX12_steps 69 = .ok (.istore_n 2, 1) := by decide +kernel
theorem dX12_steps_70 : decode cX12_steps 70 = .ok (.iload_n 3, 1) := by decide +kernel
theorem dX12_steps_71 : decode cX12_steps 71 = .ok (.iload 8, 2) := by decide +kernel
theorem dX12_steps_73 : decode cX12_steps 73 = .ok (.isub, 1) := by decide +kernel
theorem dX12_steps_74 : decode cX12_steps 74 = .ok (.istore_n 3, 1) := by decide +kernel
theorem dX12_steps_75 : decode cX12_steps 75 = .ok (.iload 7, 2) := by decide +kernel
theorem dX12_steps_77 : decode cX12_steps 77 = .ok (.istore 4, 2) := by decide +kernel
theorem dX12_steps_79 : decode cX12_steps 79 = .ok (.iinc 5 1, 3) := by decide +kernel
theorem dX12_steps_82 : decode cX12_steps 82 = .ok (.aload_n 0, 1) := by decide +kernel
theorem dX12_steps_83 : decode cX12_steps 83 = .ok (.getfield 155, 3) := by decide +kernel
theorem dX12_steps_86 : decode cX12_steps 86 = .ok (.ifCond .ne 22, 3) := by decide +kernel
theorem dX12_steps_89 : decode cX12_steps 89 = .ok (.iload 5, 2) := by decide +kernel
theorem dX12_steps_91 : decode cX12_steps 91 = .ok (.iconst 4, 1) := by decide +kernel
theorem dX12_steps_92 : decode cX12_steps 92 = .ok (.if_icmp .ge 16, 3) := by decide +kernel
theorem dX12_steps_95 : decode cX12_steps 95 = .ok (.aload_n 0, 1) := by decide +kernel
theorem dX12_steps_96 : decode cX12_steps 96 = .ok (.invokevirtual 159, 3) := by decide +kernel
theorem dX12_steps_99 : decode cX12_steps 99 = .ok (.bipush 44, 2) := by decide +kernel
theorem dX12_steps_101 : decode cX12_steps 101 = .ok (.if_icmp .ne 7, 3) := by decide +kernel
theorem dX12_steps_104 : decode cX12_steps 104 = .ok (.iconst 1, 1) := by decide +kernel
theorem dX12_steps_105 : decode cX12_steps 105 = .ok (.goto 4, 3) := by decide +kernel
theorem dX12_steps_108 : decode cX12_steps 108 = .ok (.iconst 0, 1) := by decide +kernel
theorem dX12_steps_109 : decode cX12_steps 109 = .ok (.istore 6, 2) := by decide +kernel
theorem dX12_steps_111 : decode cX12_steps 111 = .ok (.aload_n 0, 1) := by decide +kernel
theorem dX12_steps_112 : decode cX12_steps 112 = .ok (.dup, 1) := by decide +kernel
theorem dX12_steps_113 : decode cX12_steps 113 = .ok (.getfield 149, 3) := by decide +kernel
theorem dX12_steps_116 : decode cX12_steps 116 = .ok (.iload 6, 2) := by decide +kernel
theorem dX12_steps_118 : decode cX12_steps 118 = .ok (.ifCond .eq 7, 3) := by decide +kernel
theorem dX12_steps_121 : decode cX12_steps 121 = .ok (.iconst 1, 1) := by decide +kernel
theorem dX12_steps_122 : decode cX12_steps 122 = .ok (.goto 4, 3) := by decide +kernel
theorem dX12_steps_125 : decode cX12_steps 125 = .ok (.iconst 0, 1) := by decide +kernel
theorem dX12_steps_126 : decode cX12_steps 126 = .ok (.iadd, 1) := by decide +kernel
theorem dX12_steps_127 : decode cX12_steps 127 = .ok (.putfield 149, 3) := by decide +kernel
theorem dX12_steps_130 : decode cX12_steps 130 = .ok (.goto (-98), 3) := by decide +kernel
theorem dX12_steps_133 : decode cX12_steps 133 = .ok (.aload_n 0, 1) := by decide +kernel
theorem dX12_steps_134 : decode cX12_steps 134 = .ok (.bipush 93, 2) := by decide +kernel
theorem dX12_steps_136 : decode cX12_steps 136 = .ok (.invokevirtual 171, 3) := by decide +kernel
theorem dX12_steps_139 : decode cX12_steps 139 = .ok (.iload_n 2, 1) := by decide +kernel
theorem dX12_steps_140 : decode cX12_steps 140 = .ok (.iload_n 3, 1) := by decide +kernel
theorem dX12_steps_141 : decode cX12_steps 141 = .ok (.iload 4, 2) := by decide +kernel
theorem dX12_steps_143 : decode cX12_steps 143 = .ok (.imul, 1) := by decide +kernel
theorem dX12_steps_144 : decode cX12_steps 144 = .ok (.iadd, 1) := by decide +kernel
theorem dX12_steps_145 : decode cX12_steps 145 = .ok (.ireturn, 1) := by decide +kernel
theorem hd_Mo_steps_94 : y_Mo_steps_94.cls ≠ "java/lang/invoke/MethodHandle" ∧ y_Mo_steps_94.cls ≠ "java/lang/invoke/VarHandle" ∧ (parseMethodDescriptor y_Mo_steps_94.desc).map (fun d => d.parameters.length) = some 0 := by decide +kernel
def b_Mo_sum_94_5 (rec : Nat → Mem → Option (Int32 × Mem))  (y2 : Int32 × Mem) : Option ((Int32 × Mem) ⊕ (Int32 × Mem)) :=
  if isb (y2.2.1 94 8) then if decide (y2.2.1 94 8 = 1) then (some (.inr (y2.1, y2.2))) else ((f_Mo_here_94 y2.2).bind fun q5 => jn_ (fun (u7 : Unit) => (f_Mo_here_94 y2.2).bind fun q8 => jv_ ((decide (q8 = 43)) : Bool) fun u11 => jv_ (wI y2.2 94 7 ((y2.2.1 94 7) + 1)) fun M12 => (rec 1 M12).bind fun q13 => if u11 then (some (.inl (y2.1 + q13.1, q13.2))) else (some (.inl (y2.1 - q13.1, q13.2)))) fun k15 => if decide (q5 = 43) then (k15 ()) else ((f_Mo_here_94 y2.2).bind fun q16 => if decide (q16 = 45) then (k15 ()) else (some (.inr (y2.1, y2.2))))) else none
def F_Mo_sum_94 (rec : Nat → Mem → Option (Int32 × Mem))  (M0 : Mem) : Option (Int32 × Mem) :=
  (rec 1 M0).bind fun q1 => (itr (b_Mo_sum_94_5 rec) FU (q1.1, q1.2)).bind fun q18 => some (q18.1, q18.2)
set_option maxHeartbeats 4000000 in
set_option maxRecDepth 20000 in
theorem S_Mo_sum_94 {D : va_G} {ad adK adV : Nat → Nat} {cI cJ : ClassId} {l : Launch} (rec : Nat → Mem → Option (Int32 × Mem)) (fr0 lo0 : Nat) (hf : 6 ≤ fr0) (hl : 129 ≤ lo0) (hrec0 : ∀ (M : Mem) (o : Int32 × Mem), rec 0  M = some o → Ct D ad adK adV cI cJ l y_Mo_sum_94 cX12_sum 4 (some .int) fr0 lo0 [.ref (ad 94)] M (some (.int o.1)) o.2) (hrec1 : ∀ (M : Mem) (o : Int32 × Mem), rec 1  M = some o → Ct D ad adK adV cI cJ l y_Mo_term_94 cX12_term 4 (some .int) fr0 lo0 [.ref (ad 94)] M (some (.int o.1)) o.2) (hrec2 : ∀ (M : Mem) (o : Int32 × Mem), rec 2  M = some o → Ct D ad adK adV cI cJ l y_Mo_one_94 cX12_one 3 (some .int) fr0 lo0 [.ref (ad 94)] M (some (.int o.1)) o.2) (hrec3 : ∀ (M : Mem) (o : Int32 × Mem), rec 3  M = some o → Ct D ad adK adV cI cJ l y_Mo_steps_94 cX12_steps 9 (some .int) fr0 lo0 [.ref (ad 94)] M (some (.int o.1)) o.2)  (M0 : Mem) (o : Int32 × Mem) (h : F_Mo_sum_94 rec  M0 = some o) : Ct D ad adK adV cI cJ l y_Mo_sum_94 cX12_sum 4 (some .int) (fr0 + 1) (lo0 + 28) [.ref (ad 94)] M0 (some (.int o.1)) o.2 := by
  refine x_start (lv := [(0, .ref (ad 94))]) (own := "CurrentFarmsModel") rfl (by decide) (Nat.le_of_ble_eq_true rfl) rfl ?_
  intro p e s m args below meth c Q hQ B
  unfold F_Mo_sum_94 at h
  refine x_aload_n (pc := 0) B 0 dX12_sum_0 rfl rfl ?_
  obtain ⟨q1, hq1, h⟩ := bnd h
  refine x_callV (rest := []) (st' := [.int q1.1]) (pc := 1) B oi_94 rfl (hrec1 M0 _ hq1) tw_1531 tw_1528 tw_1530 tw_64 tw_111 hd_Mo_term_94 (by constructor <;> (dsimp only [Rm]; omega)) rfl rfl (Nat.le_of_ble_eq_true rfl) rfl dX12_sum_1 ?_
  refine x_istore_n (lv' := [(1, .int q1.1), (0, .ref (ad 94))]) (pc := 4) B dX12_sum_4 rfl (by decide) rfl ?_
  refine x_pick (lv' := [(0, .ref (ad 94)), (1, .int q1.1)]) [1, 0] rfl ?_
  obtain ⟨q18, hq18, h⟩ := bnd h
  refine x_loop (Head := fun (y2 : Int32 × Mem) => XX D ad cI cJ p l e (Rm (fr0 + 1) (lo0 + 28)) s m args below meth c Q 4 y2.2 5 [(0, .ref (ad 94)), (1, .int y2.1)] []) (Ex := fun (q18 : Int32 × Mem) => XX D ad cI cJ p l e (Rm (fr0 + 1) (lo0 + 28)) s m args below meth c Q 4 q18.2 77 [(1, .int q18.1)] []) (fun y2 r h hback hexit => ?_) FU _ q18 hq18 ?_
  · unfold b_Mo_sum_94_5 at h
    refine x_aload_n (pc := 5) B 0 dX12_sum_5 rfl rfl ?_
    obtain ⟨hk3, h⟩ := ifn h
    refine x_getZ (T := TX12) (pc := 6) B 8 oi_94 rfl uw_12 (by decide) rfl tw_1307 rfl hk3 dX12_sum_6 ?_
    refine x_if_ne_b (tgt := 77) (pc := 9) B dX12_sum_9 rfl (fun hc4 => ?_) (fun hc4 => ?_)
    · have h := ift hc4 h
      refine x_pick (lv' := [(1, .int y2.1)]) [1] rfl ?_
      have z := hexit (y2.1, y2.2) (Option.some.inj h).symm
      exact z
    · have h := iff_ hc4 h
      refine x_aload_n (pc := 12) B 0 dX12_sum_12 rfl rfl ?_
      obtain ⟨q5, hq5, h⟩ := bnd h
      refine x_callV (rest := []) (st' := [.int q5]) (pc := 13) B oi_94 rfl (C_Mo_here_94  y2.2 _ hq5) tw_1539 tw_1536 tw_1538 tw_66 tw_111 hd_Mo_here_94 (by constructor <;> (dsimp only [Rm]; omega)) rfl rfl (Nat.le_of_ble_eq_true rfl) rfl dX12_sum_13 ?_
      refine x_bipush (v := 43) (pc := 16) B dX12_sum_16 rfl ?_
      refine jn_k h (fun (u7 : Unit) => XX D ad cI cJ p l e (Rm (fr0 + 1) (lo0 + 28)) s m args below meth c Q 4 y2.2 30 [(0, .ref (ad 94)), (1, .int y2.1)] []) (fun u7 h => ?_) (fun k15 h JJ => ?_)
      · refine x_aload_n (pc := 30) B 0 dX12_sum_30 rfl rfl ?_
        obtain ⟨q8, hq8, h⟩ := bnd h
        refine x_callV (rest := []) (st' := [.int q8]) (pc := 31) B oi_94 rfl (C_Mo_here_94  y2.2 _ hq8) tw_1539 tw_1536 tw_1538 tw_66 tw_111 hd_Mo_here_94 (by constructor <;> (dsimp only [Rm]; omega)) rfl rfl (Nat.le_of_ble_eq_true rfl) rfl dX12_sum_31 ?_
        refine x_bipush (v := 43) (pc := 34) B dX12_sum_34 rfl ?_
        refine jv_k h (fun (u11 : Bool) => XX D ad cI cJ p l e (Rm (fr0 + 1) (lo0 + 28)) s m args below meth c Q 4 y2.2 44 [(0, .ref (ad 94)), (1, .int y2.1)] [.int (bI u11)]) (fun u11 h => ?_) (fun JJ => ?_)
        · refine x_istore_n (lv' := [(2, .int (bI u11)), (0, .ref (ad 94)), (1, .int y2.1)]) (pc := 44) B dX12_sum_44 rfl (by decide) rfl ?_
          refine x_aload_n (pc := 45) B 1 dX12_sum_45 rfl rfl ?_
          refine x_dup (pc := 46) B dX12_sum_46 rfl ?_
          refine x_get (T := TX12) (pc := 47) B 7 oi_94 rfl uw_12 (by decide) rfl tw_1306 rfl dX12_sum_47 ?_
          refine x_iconst (v := 1) (pc := 50) B dX12_sum_50 rfl ?_
          refine x_iadd (pc := 51) B dX12_sum_51 ?_
          refine x_put (T := TX12) (pc := 52) B 7 oi_94 of_94_7 rfl uw_12 tyX12_ok nmX12 (by decide) rfl tw_1306 rfl rfl rfl (Nat.le_of_ble_eq_true rfl) dX12_sum_52 ?_
          refine jv_m (P := fun M12 => XX D ad cI cJ p l e (Rm (fr0 + 1) (lo0 + 28)) s m args below meth c Q 4 M12 55 [(2, .int (bI u11)), (0, .ref (ad 94)), (1, .int y2.1)] []) h (fun M12 h => ?_)
          refine x_aload_n (pc := 55) B 1 dX12_sum_55 rfl rfl ?_
          obtain ⟨q13, hq13, h⟩ := bnd h
          refine x_callV (rest := []) (st' := [.int q13.1]) (pc := 56) B oi_94 rfl (hrec1 M12 _ hq13) tw_1531 tw_1528 tw_1530 tw_64 tw_111 hd_Mo_term_94 (by constructor <;> (dsimp only [Rm]; omega)) rfl rfl (Nat.le_of_ble_eq_true rfl) rfl dX12_sum_56 ?_
          refine x_istore_n (lv' := [(3, .int q13.1), (2, .int (bI u11)), (0, .ref (ad 94)), (1, .int y2.1)]) (pc := 59) B dX12_sum_59 rfl (by decide) rfl ?_
          refine x_iload_n (pc := 60) B 1 dX12_sum_60 rfl rfl ?_
          refine x_if_eq_b (tgt := 70) (pc := 61) B dX12_sum_61 rfl (fun hc14 => ?_) (fun hc14 => ?_)
          · have h := iff_ hc14 h
            refine x_iload_n (pc := 70) B 3 dX12_sum_70 rfl rfl ?_
            refine x_iload_n (pc := 71) B 0 dX12_sum_71 rfl rfl ?_
            refine x_isub (pc := 72) B dX12_sum_72 ?_
            refine x_istore_n (lv' := [(1, .int (y2.1 - q13.1)), (3, .int q13.1), (2, .int (bI u11)), (0, .ref (ad 94))]) (pc := 73) B dX12_sum_73 rfl (by decide) rfl ?_
            refine x_goto (tgt := 5) (pc := 74) B dX12_sum_74 rfl ?_
            refine x_pick (lv' := [(0, .ref (ad 94)), (1, .int (y2.1 - q13.1))]) [3, 0] rfl ?_
            have z := hback (y2.1 - q13.1, q13.2) (Option.some.inj h).symm
            exact z
          · have h := ift hc14 h
            refine x_iload_n (pc := 64) B 3 dX12_sum_64 rfl rfl ?_
            refine x_iload_n (pc := 65) B 0 dX12_sum_65 rfl rfl ?_
            refine x_iadd (pc := 66) B dX12_sum_66 ?_
            refine x_goto (tgt := 73) (pc := 67) B dX12_sum_67 rfl ?_
            refine x_istore_n (lv' := [(1, .int (y2.1 + q13.1)), (3, .int q13.1), (2, .int (bI u11)), (0, .ref (ad 94))]) (pc := 73) B dX12_sum_73 rfl (by decide) rfl ?_
            refine x_goto (tgt := 5) (pc := 74) B dX12_sum_74 rfl ?_
            refine x_pick (lv' := [(0, .ref (ad 94)), (1, .int (y2.1 + q13.1))]) [3, 0] rfl ?_
            have z := hback (y2.1 + q13.1, q13.2) (Option.some.inj h).symm
            exact z
        · refine x_icmp_ne (tgt := 43) (pc := 36) B dX12_sum_36 rfl (fun hc9 => ?_) (fun hc9 => ?_)
          · refine x_iconst (v := 0) (pc := 43) B dX12_sum_43 rfl ?_
            have z := JJ false hc9
            exact z
          · refine x_iconst (v := 1) (pc := 39) B dX12_sum_39 rfl ?_
            refine x_goto (tgt := 44) (pc := 40) B dX12_sum_40 rfl ?_
            have z := JJ true hc9
            exact z
      · refine x_icmp_eq (tgt := 30) (pc := 18) B dX12_sum_18 rfl (fun hc6 => ?_) (fun hc6 => ?_)
        · have h := ift hc6 h
          have z := JJ () h
          exact z
        · have h := iff_ hc6 h
          refine x_aload_n (pc := 21) B 0 dX12_sum_21 rfl rfl ?_
          obtain ⟨q16, hq16, h⟩ := bnd h
          refine x_callV (rest := []) (st' := [.int q16]) (pc := 22) B oi_94 rfl (C_Mo_here_94  y2.2 _ hq16) tw_1539 tw_1536 tw_1538 tw_66 tw_111 hd_Mo_here_94 (by constructor <;> (dsimp only [Rm]; omega)) rfl rfl (Nat.le_of_ble_eq_true rfl) rfl dX12_sum_22 ?_
          refine x_bipush (v := 45) (pc := 25) B dX12_sum_25 rfl ?_
          refine x_icmp_ne (tgt := 77) (pc := 27) B dX12_sum_27 rfl (fun hc17 => ?_) (fun hc17 => ?_)
          · have h := iff_ hc17 h
            refine x_pick (lv' := [(1, .int y2.1)]) [1] rfl ?_
            have z := hexit (y2.1, y2.2) (Option.some.inj h).symm
            exact z
          · have h := ift hc17 h
            have z := JJ () h
            exact z
  · refine x_iload_n (pc := 77) B 0 dX12_sum_77 rfl rfl ?_
    obtain rfl := Option.some.inj h
    exact x_iret (pc := 78) B hQ dX12_sum_78
def b_Mo_term_94_5 (rec : Nat → Mem → Option (Int32 × Mem))  (y2 : Int32 × Mem) : Option ((Int32 × Mem) ⊕ (Int32 × Mem)) :=
  if isb (y2.2.1 94 8) then if decide (y2.2.1 94 8 = 1) then (some (.inr (y2.1, y2.2))) else ((f_Mo_here_94 y2.2).bind fun q5 => jn_ (fun (u7 : Unit) => (f_Mo_here_94 y2.2).bind fun q8 => jv_ ((decide (q8 = 42)) : Bool) fun u11 => jv_ (wI y2.2 94 7 ((y2.2.1 94 7) + 1)) fun M12 => (rec 2 M12).bind fun q13 => if u11 then (some (.inl (y2.1 * q13.1, q13.2))) else (if decide (q13.1 = 0) then (some (.inl (0, q13.2))) else (if !decide (q13.1 = 0) then some (.inl (y2.1 / q13.1, q13.2)) else none))) fun k17 => if decide (q5 = 42) then (k17 ()) else ((f_Mo_here_94 y2.2).bind fun q18 => if decide (q18 = 47) then (k17 ()) else (some (.inr (y2.1, y2.2))))) else none
def F_Mo_term_94 (rec : Nat → Mem → Option (Int32 × Mem))  (M0 : Mem) : Option (Int32 × Mem) :=
  (rec 2 M0).bind fun q1 => (itr (b_Mo_term_94_5 rec) FU (q1.1, q1.2)).bind fun q20 => some (q20.1, q20.2)
set_option maxHeartbeats 4000000 in
set_option maxRecDepth 20000 in
theorem S_Mo_term_94 {D : va_G} {ad adK adV : Nat → Nat} {cI cJ : ClassId} {l : Launch} (rec : Nat → Mem → Option (Int32 × Mem)) (fr0 lo0 : Nat) (hf : 6 ≤ fr0) (hl : 129 ≤ lo0) (hrec0 : ∀ (M : Mem) (o : Int32 × Mem), rec 0  M = some o → Ct D ad adK adV cI cJ l y_Mo_sum_94 cX12_sum 4 (some .int) fr0 lo0 [.ref (ad 94)] M (some (.int o.1)) o.2) (hrec1 : ∀ (M : Mem) (o : Int32 × Mem), rec 1  M = some o → Ct D ad adK adV cI cJ l y_Mo_term_94 cX12_term 4 (some .int) fr0 lo0 [.ref (ad 94)] M (some (.int o.1)) o.2) (hrec2 : ∀ (M : Mem) (o : Int32 × Mem), rec 2  M = some o → Ct D ad adK adV cI cJ l y_Mo_one_94 cX12_one 3 (some .int) fr0 lo0 [.ref (ad 94)] M (some (.int o.1)) o.2) (hrec3 : ∀ (M : Mem) (o : Int32 × Mem), rec 3  M = some o → Ct D ad adK adV cI cJ l y_Mo_steps_94 cX12_steps 9 (some .int) fr0 lo0 [.ref (ad 94)] M (some (.int o.1)) o.2)  (M0 : Mem) (o : Int32 × Mem) (h : F_Mo_term_94 rec  M0 = some o) : Ct D ad adK adV cI cJ l y_Mo_term_94 cX12_term 4 (some .int) (fr0 + 1) (lo0 + 28) [.ref (ad 94)] M0 (some (.int o.1)) o.2 := by
  refine x_start (lv := [(0, .ref (ad 94))]) (own := "CurrentFarmsModel") rfl (by decide) (Nat.le_of_ble_eq_true rfl) rfl ?_
  intro p e s m args below meth c Q hQ B
  unfold F_Mo_term_94 at h
  refine x_aload_n (pc := 0) B 0 dX12_term_0 rfl rfl ?_
  obtain ⟨q1, hq1, h⟩ := bnd h
  refine x_callV (rest := []) (st' := [.int q1.1]) (pc := 1) B oi_94 rfl (hrec2 M0 _ hq1) tw_1535 tw_1532 tw_1534 tw_65 tw_111 hd_Mo_one_94 (by constructor <;> (dsimp only [Rm]; omega)) rfl rfl (Nat.le_of_ble_eq_true rfl) rfl dX12_term_1 ?_
  refine x_istore_n (lv' := [(1, .int q1.1), (0, .ref (ad 94))]) (pc := 4) B dX12_term_4 rfl (by decide) rfl ?_
  refine x_pick (lv' := [(0, .ref (ad 94)), (1, .int q1.1)]) [1, 0] rfl ?_
  obtain ⟨q20, hq20, h⟩ := bnd h
  refine x_loop (Head := fun (y2 : Int32 × Mem) => XX D ad cI cJ p l e (Rm (fr0 + 1) (lo0 + 28)) s m args below meth c Q 4 y2.2 5 [(0, .ref (ad 94)), (1, .int y2.1)] []) (Ex := fun (q20 : Int32 × Mem) => XX D ad cI cJ p l e (Rm (fr0 + 1) (lo0 + 28)) s m args below meth c Q 4 q20.2 85 [(1, .int q20.1)] []) (fun y2 r h hback hexit => ?_) FU _ q20 hq20 ?_
  · unfold b_Mo_term_94_5 at h
    refine x_aload_n (pc := 5) B 0 dX12_term_5 rfl rfl ?_
    obtain ⟨hk3, h⟩ := ifn h
    refine x_getZ (T := TX12) (pc := 6) B 8 oi_94 rfl uw_12 (by decide) rfl tw_1307 rfl hk3 dX12_term_6 ?_
    refine x_if_ne_b (tgt := 85) (pc := 9) B dX12_term_9 rfl (fun hc4 => ?_) (fun hc4 => ?_)
    · have h := ift hc4 h
      refine x_pick (lv' := [(1, .int y2.1)]) [1] rfl ?_
      have z := hexit (y2.1, y2.2) (Option.some.inj h).symm
      exact z
    · have h := iff_ hc4 h
      refine x_aload_n (pc := 12) B 0 dX12_term_12 rfl rfl ?_
      obtain ⟨q5, hq5, h⟩ := bnd h
      refine x_callV (rest := []) (st' := [.int q5]) (pc := 13) B oi_94 rfl (C_Mo_here_94  y2.2 _ hq5) tw_1539 tw_1536 tw_1538 tw_66 tw_111 hd_Mo_here_94 (by constructor <;> (dsimp only [Rm]; omega)) rfl rfl (Nat.le_of_ble_eq_true rfl) rfl dX12_term_13 ?_
      refine x_bipush (v := 42) (pc := 16) B dX12_term_16 rfl ?_
      refine jn_k h (fun (u7 : Unit) => XX D ad cI cJ p l e (Rm (fr0 + 1) (lo0 + 28)) s m args below meth c Q 4 y2.2 30 [(0, .ref (ad 94)), (1, .int y2.1)] []) (fun u7 h => ?_) (fun k17 h JJ => ?_)
      · refine x_aload_n (pc := 30) B 0 dX12_term_30 rfl rfl ?_
        obtain ⟨q8, hq8, h⟩ := bnd h
        refine x_callV (rest := []) (st' := [.int q8]) (pc := 31) B oi_94 rfl (C_Mo_here_94  y2.2 _ hq8) tw_1539 tw_1536 tw_1538 tw_66 tw_111 hd_Mo_here_94 (by constructor <;> (dsimp only [Rm]; omega)) rfl rfl (Nat.le_of_ble_eq_true rfl) rfl dX12_term_31 ?_
        refine x_bipush (v := 42) (pc := 34) B dX12_term_34 rfl ?_
        refine jv_k h (fun (u11 : Bool) => XX D ad cI cJ p l e (Rm (fr0 + 1) (lo0 + 28)) s m args below meth c Q 4 y2.2 44 [(0, .ref (ad 94)), (1, .int y2.1)] [.int (bI u11)]) (fun u11 h => ?_) (fun JJ => ?_)
        · refine x_istore_n (lv' := [(2, .int (bI u11)), (0, .ref (ad 94)), (1, .int y2.1)]) (pc := 44) B dX12_term_44 rfl (by decide) rfl ?_
          refine x_aload_n (pc := 45) B 1 dX12_term_45 rfl rfl ?_
          refine x_dup (pc := 46) B dX12_term_46 rfl ?_
          refine x_get (T := TX12) (pc := 47) B 7 oi_94 rfl uw_12 (by decide) rfl tw_1306 rfl dX12_term_47 ?_
          refine x_iconst (v := 1) (pc := 50) B dX12_term_50 rfl ?_
          refine x_iadd (pc := 51) B dX12_term_51 ?_
          refine x_put (T := TX12) (pc := 52) B 7 oi_94 of_94_7 rfl uw_12 tyX12_ok nmX12 (by decide) rfl tw_1306 rfl rfl rfl (Nat.le_of_ble_eq_true rfl) dX12_term_52 ?_
          refine jv_m (P := fun M12 => XX D ad cI cJ p l e (Rm (fr0 + 1) (lo0 + 28)) s m args below meth c Q 4 M12 55 [(2, .int (bI u11)), (0, .ref (ad 94)), (1, .int y2.1)] []) h (fun M12 h => ?_)
          refine x_aload_n (pc := 55) B 1 dX12_term_55 rfl rfl ?_
          obtain ⟨q13, hq13, h⟩ := bnd h
          refine x_callV (rest := []) (st' := [.int q13.1]) (pc := 56) B oi_94 rfl (hrec2 M12 _ hq13) tw_1535 tw_1532 tw_1534 tw_65 tw_111 hd_Mo_one_94 (by constructor <;> (dsimp only [Rm]; omega)) rfl rfl (Nat.le_of_ble_eq_true rfl) rfl dX12_term_56 ?_
          refine x_istore_n (lv' := [(3, .int q13.1), (2, .int (bI u11)), (0, .ref (ad 94)), (1, .int y2.1)]) (pc := 59) B dX12_term_59 rfl (by decide) rfl ?_
          refine x_iload_n (pc := 60) B 1 dX12_term_60 rfl rfl ?_
          refine x_if_eq_b (tgt := 70) (pc := 61) B dX12_term_61 rfl (fun hc14 => ?_) (fun hc14 => ?_)
          · have h := iff_ hc14 h
            refine x_iload_n (pc := 70) B 0 dX12_term_70 rfl rfl ?_
            refine x_if_ne (tgt := 78) (pc := 71) B dX12_term_71 rfl (fun hc15 => ?_) (fun hc15 => ?_)
            · have h := iff_ hc15 h
              refine x_iload_n (pc := 78) B 3 dX12_term_78 rfl rfl ?_
              refine x_iload_n (pc := 79) B 0 dX12_term_79 rfl rfl ?_
              obtain ⟨hk16, h⟩ := ifn h
              refine x_idiv (pc := 80) B dX12_term_80 (nz hk16) ?_
              refine x_istore_n (lv' := [(1, .int (y2.1 / q13.1)), (3, .int q13.1), (2, .int (bI u11)), (0, .ref (ad 94))]) (pc := 81) B dX12_term_81 rfl (by decide) rfl ?_
              refine x_goto (tgt := 5) (pc := 82) B dX12_term_82 rfl ?_
              refine x_pick (lv' := [(0, .ref (ad 94)), (1, .int (y2.1 / q13.1))]) [3, 0] rfl ?_
              have z := hback (y2.1 / q13.1, q13.2) (Option.some.inj h).symm
              exact z
            · have h := ift hc15 h
              refine x_iconst (v := 0) (pc := 74) B dX12_term_74 rfl ?_
              refine x_goto (tgt := 81) (pc := 75) B dX12_term_75 rfl ?_
              refine x_istore_n (lv' := [(1, .int 0), (3, .int q13.1), (2, .int (bI u11)), (0, .ref (ad 94))]) (pc := 81) B dX12_term_81 rfl (by decide) rfl ?_
              refine x_goto (tgt := 5) (pc := 82) B dX12_term_82 rfl ?_
              refine x_pick (lv' := [(0, .ref (ad 94)), (1, .int 0)]) [3, 0] rfl ?_
              have z := hback (0, q13.2) (Option.some.inj h).symm
              exact z
          · have h := ift hc14 h
            refine x_iload_n (pc := 64) B 3 dX12_term_64 rfl rfl ?_
            refine x_iload_n (pc := 65) B 0 dX12_term_65 rfl rfl ?_
            refine x_imul (pc := 66) B dX12_term_66 ?_
            refine x_goto (tgt := 81) (pc := 67) B dX12_term_67 rfl ?_
            refine x_istore_n (lv' := [(1, .int (y2.1 * q13.1)), (3, .int q13.1), (2, .int (bI u11)), (0, .ref (ad 94))]) (pc := 81) B dX12_term_81 rfl (by decide) rfl ?_
            refine x_goto (tgt := 5) (pc := 82) B dX12_term_82 rfl ?_
            refine x_pick (lv' := [(0, .ref (ad 94)), (1, .int (y2.1 * q13.1))]) [3, 0] rfl ?_
            have z := hback (y2.1 * q13.1, q13.2) (Option.some.inj h).symm
            exact z
        · refine x_icmp_ne (tgt := 43) (pc := 36) B dX12_term_36 rfl (fun hc9 => ?_) (fun hc9 => ?_)
          · refine x_iconst (v := 0) (pc := 43) B dX12_term_43 rfl ?_
            have z := JJ false hc9
            exact z
          · refine x_iconst (v := 1) (pc := 39) B dX12_term_39 rfl ?_
            refine x_goto (tgt := 44) (pc := 40) B dX12_term_40 rfl ?_
            have z := JJ true hc9
            exact z
      · refine x_icmp_eq (tgt := 30) (pc := 18) B dX12_term_18 rfl (fun hc6 => ?_) (fun hc6 => ?_)
        · have h := ift hc6 h
          have z := JJ () h
          exact z
        · have h := iff_ hc6 h
          refine x_aload_n (pc := 21) B 0 dX12_term_21 rfl rfl ?_
          obtain ⟨q18, hq18, h⟩ := bnd h
          refine x_callV (rest := []) (st' := [.int q18]) (pc := 22) B oi_94 rfl (C_Mo_here_94  y2.2 _ hq18) tw_1539 tw_1536 tw_1538 tw_66 tw_111 hd_Mo_here_94 (by constructor <;> (dsimp only [Rm]; omega)) rfl rfl (Nat.le_of_ble_eq_true rfl) rfl dX12_term_22 ?_
          refine x_bipush (v := 47) (pc := 25) B dX12_term_25 rfl ?_
          refine x_icmp_ne (tgt := 85) (pc := 27) B dX12_term_27 rfl (fun hc19 => ?_) (fun hc19 => ?_)
          · have h := iff_ hc19 h
            refine x_pick (lv' := [(1, .int y2.1)]) [1] rfl ?_
            have z := hexit (y2.1, y2.2) (Option.some.inj h).symm
            exact z
          · have h := ift hc19 h
            have z := JJ () h
            exact z
  · refine x_iload_n (pc := 85) B 0 dX12_term_85 rfl rfl ?_
    obtain rfl := Option.some.inj h
    exact x_iret (pc := 86) B hQ dX12_term_86
def F_Mo_one_94 (rec : Nat → Mem → Option (Int32 × Mem))  (M0 : Mem) : Option (Int32 × Mem) :=
  if isb (M0.1 94 8) then if decide (M0.1 94 8 = 1) then (some (0, M0)) else ((f_Mo_here_94 M0).bind fun q3 => (f_Mo_in q3 48 57).bind fun q4 => if q4 then ((f_Mo_number_94 M0).bind fun q6 => some (q6.1, q6.2)) else (if decide (q3 = 40) then (jv_ (wI M0 94 7 ((M0.1 94 7) + 1)) fun M8 => (rec 0 M8).bind fun q9 => (f_Mo_must_94 41 q9.2).bind fun q10 => some (q9.1, q10)) else (if decide (q3 = 91) then (jv_ (wI M0 94 7 ((M0.1 94 7) + 1)) fun M12 => (rec 3 M12).bind fun q13 => some (q13.1, q13.2)) else (if decide (q3 = 107) then ((f_Mo_name_94 2 16 M0).bind fun q15 => some (q15.1, q15.2)) else (if decide (q3 = 108) then ((f_Mo_name_94 1 15 M0).bind fun q17 => some (q17.1, q17.2)) else (if decide (q3 = 109) then ((f_Mo_name_94 4 18 M0).bind fun q19 => some (q19.1, q19.2)) else (if decide (q3 = 111) then ((f_Mo_name_94 3 17 M0).bind fun q21 => some (q21.1, q21.2)) else (if decide (q3 = 117) then ((f_Mo_name_94 0 14 M0).bind fun q23 => some (q23.1, q23.2)) else (jv_ (wI M0 94 8 1) fun M24 => some (0, M24)))))))))) else none
set_option maxHeartbeats 4000000 in
set_option maxRecDepth 20000 in
theorem S_Mo_one_94 {D : va_G} {ad adK adV : Nat → Nat} {cI cJ : ClassId} {l : Launch} (rec : Nat → Mem → Option (Int32 × Mem)) (fr0 lo0 : Nat) (hf : 6 ≤ fr0) (hl : 129 ≤ lo0) (hrec0 : ∀ (M : Mem) (o : Int32 × Mem), rec 0  M = some o → Ct D ad adK adV cI cJ l y_Mo_sum_94 cX12_sum 4 (some .int) fr0 lo0 [.ref (ad 94)] M (some (.int o.1)) o.2) (hrec1 : ∀ (M : Mem) (o : Int32 × Mem), rec 1  M = some o → Ct D ad adK adV cI cJ l y_Mo_term_94 cX12_term 4 (some .int) fr0 lo0 [.ref (ad 94)] M (some (.int o.1)) o.2) (hrec2 : ∀ (M : Mem) (o : Int32 × Mem), rec 2  M = some o → Ct D ad adK adV cI cJ l y_Mo_one_94 cX12_one 3 (some .int) fr0 lo0 [.ref (ad 94)] M (some (.int o.1)) o.2) (hrec3 : ∀ (M : Mem) (o : Int32 × Mem), rec 3  M = some o → Ct D ad adK adV cI cJ l y_Mo_steps_94 cX12_steps 9 (some .int) fr0 lo0 [.ref (ad 94)] M (some (.int o.1)) o.2)  (M0 : Mem) (o : Int32 × Mem) (h : F_Mo_one_94 rec  M0 = some o) : Ct D ad adK adV cI cJ l y_Mo_one_94 cX12_one 3 (some .int) (fr0 + 1) (lo0 + 28) [.ref (ad 94)] M0 (some (.int o.1)) o.2 := by
  refine x_start (lv := [(0, .ref (ad 94))]) (own := "CurrentFarmsModel") rfl (by decide) (Nat.le_of_ble_eq_true rfl) rfl ?_
  intro p e s m args below meth c Q hQ B
  unfold F_Mo_one_94 at h
  refine x_aload_n (pc := 0) B 0 dX12_one_0 rfl rfl ?_
  obtain ⟨hk1, h⟩ := ifn h
  refine x_getZ (T := TX12) (pc := 1) B 8 oi_94 rfl uw_12 (by decide) rfl tw_1307 rfl hk1 dX12_one_1 ?_
  refine x_if_eq_b (tgt := 9) (pc := 4) B dX12_one_4 rfl (fun hc2 => ?_) (fun hc2 => ?_)
  · have h := iff_ hc2 h
    refine x_aload_n (pc := 9) B 0 dX12_one_9 rfl rfl ?_
    obtain ⟨q3, hq3, h⟩ := bnd h
    refine x_callV (rest := []) (st' := [.int q3]) (pc := 10) B oi_94 rfl (C_Mo_here_94  M0 _ hq3) tw_1539 tw_1536 tw_1538 tw_66 tw_111 hd_Mo_here_94 (by constructor <;> (dsimp only [Rm]; omega)) rfl rfl (Nat.le_of_ble_eq_true rfl) rfl dX12_one_10 ?_
    refine x_istore_n (lv' := [(1, .int q3), (0, .ref (ad 94))]) (pc := 13) B dX12_one_13 rfl (by decide) rfl ?_
    refine x_iload_n (pc := 14) B 0 dX12_one_14 rfl rfl ?_
    refine x_bipush (v := 48) (pc := 15) B dX12_one_15 rfl ?_
    refine x_bipush (v := 57) (pc := 17) B dX12_one_17 rfl ?_
    obtain ⟨q4, hq4, h⟩ := bnd h
    refine x_callS (rest := []) (st' := [.int (bI q4)]) (pc := 19) B (C_Mo_in q3 48 57 M0 _ hq4) tw_1406 tw_1404 tw_1405 tw_111 hd_Mo_in (by constructor <;> (dsimp only [Rm]; omega)) rfl rfl (Nat.le_of_ble_eq_true rfl) rfl dX12_one_19 ?_
    refine x_if_eq_b (tgt := 30) (pc := 22) B dX12_one_22 rfl (fun hc5 => ?_) (fun hc5 => ?_)
    · have h := iff_ hc5 h
      refine x_iload_n (pc := 30) B 0 dX12_one_30 rfl rfl ?_
      rcases bcase (decide (q3 = 40)) with hc7 | hc7
      · have h := ift hc7 h
        refine x_lookup (off := 65) (tgt := 96) (pc := 31) B dX12_one_31 (by decide) (by rw [of_decide_eq_true hc7]; rfl) rfl ?_
        refine x_aload_n (pc := 96) B 1 dX12_one_96 rfl rfl ?_
        refine x_dup (pc := 97) B dX12_one_97 rfl ?_
        refine x_get (T := TX12) (pc := 98) B 7 oi_94 rfl uw_12 (by decide) rfl tw_1306 rfl dX12_one_98 ?_
        refine x_iconst (v := 1) (pc := 101) B dX12_one_101 rfl ?_
        refine x_iadd (pc := 102) B dX12_one_102 ?_
        refine x_put (T := TX12) (pc := 103) B 7 oi_94 of_94_7 rfl uw_12 tyX12_ok nmX12 (by decide) rfl tw_1306 rfl rfl rfl (Nat.le_of_ble_eq_true rfl) dX12_one_103 ?_
        refine jv_m (P := fun M8 => XX D ad cI cJ p l e (Rm (fr0 + 1) (lo0 + 28)) s m args below meth c Q 3 M8 106 [(1, .int q3), (0, .ref (ad 94))] []) h (fun M8 h => ?_)
        refine x_aload_n (pc := 106) B 1 dX12_one_106 rfl rfl ?_
        obtain ⟨q9, hq9, h⟩ := bnd h
        refine x_callV (rest := []) (st' := [.int q9.1]) (pc := 107) B oi_94 rfl (hrec0 M8 _ hq9) tw_1527 tw_1524 tw_1526 tw_63 tw_111 hd_Mo_sum_94 (by constructor <;> (dsimp only [Rm]; omega)) rfl rfl (Nat.le_of_ble_eq_true rfl) rfl dX12_one_107 ?_
        refine x_istore_n (lv' := [(2, .int q9.1), (1, .int q3), (0, .ref (ad 94))]) (pc := 110) B dX12_one_110 rfl (by decide) rfl ?_
        refine x_aload_n (pc := 111) B 2 dX12_one_111 rfl rfl ?_
        refine x_bipush (v := 41) (pc := 112) B dX12_one_112 rfl ?_
        obtain ⟨q10, hq10, h⟩ := bnd h
        refine x_callV (rest := []) (st' := []) (pc := 114) B oi_94 rfl (C_Mo_must_94 41 q9.2 _ hq10) tw_1547 tw_1544 tw_1546 tw_68 tw_111 hd_Mo_must_94 (by constructor <;> (dsimp only [Rm]; omega)) rfl rfl (Nat.le_of_ble_eq_true rfl) rfl dX12_one_114 ?_
        refine x_iload_n (pc := 117) B 0 dX12_one_117 rfl rfl ?_
        obtain rfl := Option.some.inj h
        exact x_iret (pc := 118) B hQ dX12_one_118
      · have h := iff_ hc7 h
        rcases bcase (decide (q3 = 91)) with hc11 | hc11
        · have h := ift hc11 h
          refine x_lookup (off := 88) (tgt := 119) (pc := 31) B dX12_one_31 (by decide) (by rw [of_decide_eq_true hc11]; rfl) rfl ?_
          refine x_aload_n (pc := 119) B 1 dX12_one_119 rfl rfl ?_
          refine x_dup (pc := 120) B dX12_one_120 rfl ?_
          refine x_get (T := TX12) (pc := 121) B 7 oi_94 rfl uw_12 (by decide) rfl tw_1306 rfl dX12_one_121 ?_
          refine x_iconst (v := 1) (pc := 124) B dX12_one_124 rfl ?_
          refine x_iadd (pc := 125) B dX12_one_125 ?_
          refine x_put (T := TX12) (pc := 126) B 7 oi_94 of_94_7 rfl uw_12 tyX12_ok nmX12 (by decide) rfl tw_1306 rfl rfl rfl (Nat.le_of_ble_eq_true rfl) dX12_one_126 ?_
          refine jv_m (P := fun M12 => XX D ad cI cJ p l e (Rm (fr0 + 1) (lo0 + 28)) s m args below meth c Q 3 M12 129 [(1, .int q3), (0, .ref (ad 94))] []) h (fun M12 h => ?_)
          refine x_aload_n (pc := 129) B 1 dX12_one_129 rfl rfl ?_
          obtain ⟨q13, hq13, h⟩ := bnd h
          refine x_callV (rest := []) (st' := [.int q13.1]) (pc := 130) B oi_94 rfl (hrec3 M12 _ hq13) tw_1551 tw_1548 tw_1550 tw_69 tw_111 hd_Mo_steps_94 (by constructor <;> (dsimp only [Rm]; omega)) rfl rfl (Nat.le_of_ble_eq_true rfl) rfl dX12_one_130 ?_
          obtain rfl := Option.some.inj h
          exact x_iret (pc := 133) B hQ dX12_one_133
        · have h := iff_ hc11 h
          rcases bcase (decide (q3 = 107)) with hc14 | hc14
          · have h := ift hc14 h
            refine x_lookup (off := 119) (tgt := 150) (pc := 31) B dX12_one_31 (by decide) (by rw [of_decide_eq_true hc14]; rfl) rfl ?_
            refine x_aload_n (pc := 150) B 1 dX12_one_150 rfl rfl ?_
            refine x_iconst (v := 2) (pc := 151) B dX12_one_151 rfl ?_
            refine x_ldcS (i := 16) (pc := 152) B (by decide) rfl rfl dX12_one_152 ?_
            obtain ⟨q15, hq15, h⟩ := bnd h
            refine x_callV (rest := []) (st' := [.int q15.1]) (pc := 154) B oi_94 rfl (C_Mo_name_94 2 16 M0 _ hq15) tw_1556 tw_1553 tw_1555 tw_70 tw_111 hd_Mo_name_94 (by constructor <;> (dsimp only [Rm]; omega)) rfl rfl (Nat.le_of_ble_eq_true rfl) rfl dX12_one_154 ?_
            obtain rfl := Option.some.inj h
            exact x_iret (pc := 157) B hQ dX12_one_157
          · have h := iff_ hc14 h
            rcases bcase (decide (q3 = 108)) with hc16 | hc16
            · have h := ift hc16 h
              refine x_lookup (off := 111) (tgt := 142) (pc := 31) B dX12_one_31 (by decide) (by rw [of_decide_eq_true hc16]; rfl) rfl ?_
              refine x_aload_n (pc := 142) B 1 dX12_one_142 rfl rfl ?_
              refine x_iconst (v := 1) (pc := 143) B dX12_one_143 rfl ?_
              refine x_ldcS (i := 15) (pc := 144) B (by decide) rfl rfl dX12_one_144 ?_
              obtain ⟨q17, hq17, h⟩ := bnd h
              refine x_callV (rest := []) (st' := [.int q17.1]) (pc := 146) B oi_94 rfl (C_Mo_name_94 1 15 M0 _ hq17) tw_1556 tw_1553 tw_1555 tw_70 tw_111 hd_Mo_name_94 (by constructor <;> (dsimp only [Rm]; omega)) rfl rfl (Nat.le_of_ble_eq_true rfl) rfl dX12_one_146 ?_
              obtain rfl := Option.some.inj h
              exact x_iret (pc := 149) B hQ dX12_one_149
            · have h := iff_ hc16 h
              rcases bcase (decide (q3 = 109)) with hc18 | hc18
              · have h := ift hc18 h
                refine x_lookup (off := 135) (tgt := 166) (pc := 31) B dX12_one_31 (by decide) (by rw [of_decide_eq_true hc18]; rfl) rfl ?_
                refine x_aload_n (pc := 166) B 1 dX12_one_166 rfl rfl ?_
                refine x_iconst (v := 4) (pc := 167) B dX12_one_167 rfl ?_
                refine x_ldcS (i := 18) (pc := 168) B (by decide) rfl rfl dX12_one_168 ?_
                obtain ⟨q19, hq19, h⟩ := bnd h
                refine x_callV (rest := []) (st' := [.int q19.1]) (pc := 170) B oi_94 rfl (C_Mo_name_94 4 18 M0 _ hq19) tw_1556 tw_1553 tw_1555 tw_70 tw_111 hd_Mo_name_94 (by constructor <;> (dsimp only [Rm]; omega)) rfl rfl (Nat.le_of_ble_eq_true rfl) rfl dX12_one_170 ?_
                obtain rfl := Option.some.inj h
                exact x_iret (pc := 173) B hQ dX12_one_173
              · have h := iff_ hc18 h
                rcases bcase (decide (q3 = 111)) with hc20 | hc20
                · have h := ift hc20 h
                  refine x_lookup (off := 127) (tgt := 158) (pc := 31) B dX12_one_31 (by decide) (by rw [of_decide_eq_true hc20]; rfl) rfl ?_
                  refine x_aload_n (pc := 158) B 1 dX12_one_158 rfl rfl ?_
                  refine x_iconst (v := 3) (pc := 159) B dX12_one_159 rfl ?_
                  refine x_ldcS (i := 17) (pc := 160) B (by decide) rfl rfl dX12_one_160 ?_
                  obtain ⟨q21, hq21, h⟩ := bnd h
                  refine x_callV (rest := []) (st' := [.int q21.1]) (pc := 162) B oi_94 rfl (C_Mo_name_94 3 17 M0 _ hq21) tw_1556 tw_1553 tw_1555 tw_70 tw_111 hd_Mo_name_94 (by constructor <;> (dsimp only [Rm]; omega)) rfl rfl (Nat.le_of_ble_eq_true rfl) rfl dX12_one_162 ?_
                  obtain rfl := Option.some.inj h
                  exact x_iret (pc := 165) B hQ dX12_one_165
                · have h := iff_ hc20 h
                  rcases bcase (decide (q3 = 117)) with hc22 | hc22
                  · have h := ift hc22 h
                    refine x_lookup (off := 103) (tgt := 134) (pc := 31) B dX12_one_31 (by decide) (by rw [of_decide_eq_true hc22]; rfl) rfl ?_
                    refine x_aload_n (pc := 134) B 1 dX12_one_134 rfl rfl ?_
                    refine x_iconst (v := 0) (pc := 135) B dX12_one_135 rfl ?_
                    refine x_ldcS (i := 14) (pc := 136) B (by decide) rfl rfl dX12_one_136 ?_
                    obtain ⟨q23, hq23, h⟩ := bnd h
                    refine x_callV (rest := []) (st' := [.int q23.1]) (pc := 138) B oi_94 rfl (C_Mo_name_94 0 14 M0 _ hq23) tw_1556 tw_1553 tw_1555 tw_70 tw_111 hd_Mo_name_94 (by constructor <;> (dsimp only [Rm]; omega)) rfl rfl (Nat.le_of_ble_eq_true rfl) rfl dX12_one_138 ?_
                    obtain rfl := Option.some.inj h
                    exact x_iret (pc := 141) B hQ dX12_one_141
                  · have h := iff_ hc22 h
                    have e0 : ¬ 40 = q3.toInt := fun q => (of_decide_eq_false hc7) (Int32.toInt_inj.mp (q.symm.trans (by decide : (40 : Int) = (40 : Int32).toInt)))
                    have e1 : ¬ 91 = q3.toInt := fun q => (of_decide_eq_false hc11) (Int32.toInt_inj.mp (q.symm.trans (by decide : (91 : Int) = (91 : Int32).toInt)))
                    have e2 : ¬ 107 = q3.toInt := fun q => (of_decide_eq_false hc14) (Int32.toInt_inj.mp (q.symm.trans (by decide : (107 : Int) = (107 : Int32).toInt)))
                    have e3 : ¬ 108 = q3.toInt := fun q => (of_decide_eq_false hc16) (Int32.toInt_inj.mp (q.symm.trans (by decide : (108 : Int) = (108 : Int32).toInt)))
                    have e4 : ¬ 109 = q3.toInt := fun q => (of_decide_eq_false hc18) (Int32.toInt_inj.mp (q.symm.trans (by decide : (109 : Int) = (109 : Int32).toInt)))
                    have e5 : ¬ 111 = q3.toInt := fun q => (of_decide_eq_false hc20) (Int32.toInt_inj.mp (q.symm.trans (by decide : (111 : Int) = (111 : Int32).toInt)))
                    have e6 : ¬ 117 = q3.toInt := fun q => (of_decide_eq_false hc22) (Int32.toInt_inj.mp (q.symm.trans (by decide : (117 : Int) = (117 : Int32).toInt)))
                    refine x_lookup (off := 143) (tgt := 174) (pc := 31) B dX12_one_31 (by decide) (by simp [Op.lookupswitch.offset, List.find?, e0, e1, e2, e3, e4, e5, e6]) rfl ?_
                    refine x_aload_n (pc := 174) B 1 dX12_one_174 rfl rfl ?_
                    refine x_iconst (v := 1) (pc := 175) B dX12_one_175 rfl ?_
                    refine x_put (T := TX12) (pc := 176) B 8 oi_94 of_94_8 rfl uw_12 tyX12_ok nmX12 (by decide) rfl tw_1307 rfl rfl rfl (Nat.le_of_ble_eq_true rfl) dX12_one_176 ?_
                    refine jv_m (P := fun M24 => XX D ad cI cJ p l e (Rm (fr0 + 1) (lo0 + 28)) s m args below meth c Q 3 M24 179 [(1, .int q3), (0, .ref (ad 94))] []) h (fun M24 h => ?_)
                    refine x_iconst (v := 0) (pc := 179) B dX12_one_179 rfl ?_
                    obtain rfl := Option.some.inj h
                    exact x_iret (pc := 180) B hQ dX12_one_180
    · have h := ift hc5 h
      refine x_aload_n (pc := 25) B 1 dX12_one_25 rfl rfl ?_
      obtain ⟨q6, hq6, h⟩ := bnd h
      refine x_callV (rest := []) (st' := [.int q6.1]) (pc := 26) B oi_94 rfl (C_Mo_number_94  M0 _ hq6) tw_1543 tw_1540 tw_1542 tw_67 tw_111 hd_Mo_number_94 (by constructor <;> (dsimp only [Rm]; omega)) rfl rfl (Nat.le_of_ble_eq_true rfl) rfl dX12_one_26 ?_
      obtain rfl := Option.some.inj h
      exact x_iret (pc := 29) B hQ dX12_one_29
  · have h := ift hc2 h
    refine x_iconst (v := 0) (pc := 7) B dX12_one_7 rfl ?_
    obtain rfl := Option.some.inj h
    exact x_iret (pc := 8) B hQ dX12_one_8
def b_Mo_steps_94_32 (rec : Nat → Mem → Option (Int32 × Mem))  (y6 : Int32 × Int32 × Int32 × Int32 × Bool × Mem) : Option ((Int32 × Int32 × Int32 × Int32 × Bool × Mem) ⊕ (Int32 × Int32 × Int32 × Mem)) :=
  if y6.2.2.2.2.1 then ((rec 0 y6.2.2.2.2.2).bind fun q8 => jv_ ((if decide (y6.2.2.2.1 ≤ 0) then (y6.1, y6.2.1) else (if decide (y6.2.1 < 10) then (y6.1 + (y6.2.1 * y6.2.2.1), y6.2.1 - y6.2.1) else (y6.1 + (10 * y6.2.2.1), y6.2.1 - 10))) : Int32 × Int32) fun u12 => if isb (q8.2.1 94 8) then jn_ (fun (u16 : Bool) => if u16 then (jv_ (wI q8.2 94 7 ((q8.2.1 94 7) + 1)) fun M18 => some (.inl (u12.1, u12.2, q8.1, y6.2.2.2.1 + 1, u16, M18))) else (jv_ (wI q8.2 94 7 ((q8.2.1 94 7) + 0)) fun M19 => some (.inl (u12.1, u12.2, q8.1, y6.2.2.2.1 + 1, u16, M19)))) fun k20 => if decide (q8.2.1 94 8 = 1) then (k20 false) else (if decide ((y6.2.2.2.1 + 1) < 4) then ((f_Mo_here_94 q8.2).bind fun q22 => if decide (q22 = 44) then (k20 true) else (k20 false)) else (k20 false)) else none) else (some (.inr (y6.1, y6.2.1, y6.2.2.1, y6.2.2.2.2.2)))
def F_Mo_steps_94 (rec : Nat → Mem → Option (Int32 × Mem))  (M0 : Mem) : Option (Int32 × Mem) :=
  (rec 0 M0).bind fun q1 => (f_Mo_must_94 58 q1.2).bind fun q2 => jv_ ((if decide (q1.1 < 0) then 0 else q1.1) : Int32) fun u5 => (itr (b_Mo_steps_94_32 rec) FU (0, u5, 0, 0, true, q2)).bind fun q25 => (f_Mo_must_94 93 q25.2.2.2).bind fun q26 => some (q25.1 + (q25.2.1 * q25.2.2.1), q26)
set_option maxHeartbeats 4000000 in
set_option maxRecDepth 20000 in
theorem S_Mo_steps_94 {D : va_G} {ad adK adV : Nat → Nat} {cI cJ : ClassId} {l : Launch} (rec : Nat → Mem → Option (Int32 × Mem)) (fr0 lo0 : Nat) (hf : 6 ≤ fr0) (hl : 129 ≤ lo0) (hrec0 : ∀ (M : Mem) (o : Int32 × Mem), rec 0  M = some o → Ct D ad adK adV cI cJ l y_Mo_sum_94 cX12_sum 4 (some .int) fr0 lo0 [.ref (ad 94)] M (some (.int o.1)) o.2) (hrec1 : ∀ (M : Mem) (o : Int32 × Mem), rec 1  M = some o → Ct D ad adK adV cI cJ l y_Mo_term_94 cX12_term 4 (some .int) fr0 lo0 [.ref (ad 94)] M (some (.int o.1)) o.2) (hrec2 : ∀ (M : Mem) (o : Int32 × Mem), rec 2  M = some o → Ct D ad adK adV cI cJ l y_Mo_one_94 cX12_one 3 (some .int) fr0 lo0 [.ref (ad 94)] M (some (.int o.1)) o.2) (hrec3 : ∀ (M : Mem) (o : Int32 × Mem), rec 3  M = some o → Ct D ad adK adV cI cJ l y_Mo_steps_94 cX12_steps 9 (some .int) fr0 lo0 [.ref (ad 94)] M (some (.int o.1)) o.2)  (M0 : Mem) (o : Int32 × Mem) (h : F_Mo_steps_94 rec  M0 = some o) : Ct D ad adK adV cI cJ l y_Mo_steps_94 cX12_steps 9 (some .int) (fr0 + 1) (lo0 + 28) [.ref (ad 94)] M0 (some (.int o.1)) o.2 := by
  refine x_start (lv := [(0, .ref (ad 94))]) (own := "CurrentFarmsModel") rfl (by decide) (Nat.le_of_ble_eq_true rfl) rfl ?_
  intro p e s m args below meth c Q hQ B
  unfold F_Mo_steps_94 at h
  refine x_aload_n (pc := 0) B 0 dX12_steps_0 rfl rfl ?_
  obtain ⟨q1, hq1, h⟩ := bnd h
  refine x_callV (rest := []) (st' := [.int q1.1]) (pc := 1) B oi_94 rfl (hrec0 M0 _ hq1) tw_1527 tw_1524 tw_1526 tw_63 tw_111 hd_Mo_sum_94 (by constructor <;> (dsimp only [Rm]; omega)) rfl rfl (Nat.le_of_ble_eq_true rfl) rfl dX12_steps_1 ?_
  refine x_istore_n (lv' := [(1, .int q1.1), (0, .ref (ad 94))]) (pc := 4) B dX12_steps_4 rfl (by decide) rfl ?_
  refine x_aload_n (pc := 5) B 1 dX12_steps_5 rfl rfl ?_
  refine x_bipush (v := 58) (pc := 6) B dX12_steps_6 rfl ?_
  obtain ⟨q2, hq2, h⟩ := bnd h
  refine x_callV (rest := []) (st' := []) (pc := 8) B oi_94 rfl (C_Mo_must_94 58 q1.2 _ hq2) tw_1547 tw_1544 tw_1546 tw_68 tw_111 hd_Mo_must_94 (by constructor <;> (dsimp only [Rm]; omega)) rfl rfl (Nat.le_of_ble_eq_true rfl) rfl dX12_steps_8 ?_
  refine x_iconst (v := 0) (pc := 11) B dX12_steps_11 rfl ?_
  refine x_istore_n (lv' := [(2, .int 0), (1, .int q1.1), (0, .ref (ad 94))]) (pc := 12) B dX12_steps_12 rfl (by decide) rfl ?_
  refine x_iload_n (pc := 13) B 1 dX12_steps_13 rfl rfl ?_
  refine jv_k h (fun (u5 : Int32) => XX D ad cI cJ p l e (Rm (fr0 + 1) (lo0 + 28)) s m args below meth c Q 9 q2 22 [(0, .ref (ad 94)), (2, .int 0)] [.int u5]) (fun u5 h => ?_) (fun JJ => ?_)
  · refine x_istore_n (lv' := [(3, .int u5), (0, .ref (ad 94)), (2, .int 0)]) (pc := 22) B dX12_steps_22 rfl (by decide) rfl ?_
    refine x_iconst (v := 0) (pc := 23) B dX12_steps_23 rfl ?_
    refine x_istore (lv' := [(4, .int 0), (3, .int u5), (0, .ref (ad 94)), (2, .int 0)]) (pc := 24) B dX12_steps_24 (by decide) rfl ?_
    refine x_iconst (v := 0) (pc := 26) B dX12_steps_26 rfl ?_
    refine x_istore (lv' := [(5, .int 0), (4, .int 0), (3, .int u5), (0, .ref (ad 94)), (2, .int 0)]) (pc := 27) B dX12_steps_27 (by decide) rfl ?_
    refine x_iconst (v := 1) (pc := 29) B dX12_steps_29 rfl ?_
    refine x_istore (lv' := [(6, .int 1), (5, .int 0), (4, .int 0), (3, .int u5), (0, .ref (ad 94)), (2, .int 0)]) (pc := 30) B dX12_steps_30 (by decide) rfl ?_
    refine x_pick (lv' := [(0, .ref (ad 94)), (2, .int 0), (3, .int u5), (4, .int 0), (5, .int 0), (6, .int 1)]) [4, 5, 3, 2, 1, 0] rfl ?_
    obtain ⟨q25, hq25, h⟩ := bnd h
    refine x_loop (Head := fun (y6 : Int32 × Int32 × Int32 × Int32 × Bool × Mem) => XX D ad cI cJ p l e (Rm (fr0 + 1) (lo0 + 28)) s m args below meth c Q 9 y6.2.2.2.2.2 32 [(0, .ref (ad 94)), (2, .int y6.1), (3, .int y6.2.1), (4, .int y6.2.2.1), (5, .int y6.2.2.2.1), (6, .int (bI y6.2.2.2.2.1))] []) (Ex := fun (q25 : Int32 × Int32 × Int32 × Mem) => XX D ad cI cJ p l e (Rm (fr0 + 1) (lo0 + 28)) s m args below meth c Q 9 q25.2.2.2 133 [(0, .ref (ad 94)), (2, .int q25.1), (3, .int q25.2.1), (4, .int q25.2.2.1)] []) (fun y6 r h hback hexit => ?_) FU _ q25 hq25 ?_
    · unfold b_Mo_steps_94_32 at h
      refine x_iload (pc := 32) B 5 dX12_steps_32 rfl ?_
      refine x_if_eq_b (tgt := 133) (pc := 34) B dX12_steps_34 rfl (fun hc7 => ?_) (fun hc7 => ?_)
      · have h := iff_ hc7 h
        refine x_pick (lv' := [(0, .ref (ad 94)), (2, .int y6.1), (3, .int y6.2.1), (4, .int y6.2.2.1)]) [0, 1, 2, 3] rfl ?_
        have z := hexit (y6.1, y6.2.1, y6.2.2.1, y6.2.2.2.2.2) (Option.some.inj h).symm
        exact z
      · have h := ift hc7 h
        refine x_aload_n (pc := 37) B 0 dX12_steps_37 rfl rfl ?_
        obtain ⟨q8, hq8, h⟩ := bnd h
        refine x_callV (rest := []) (st' := [.int q8.1]) (pc := 38) B oi_94 rfl (hrec0 y6.2.2.2.2.2 _ hq8) tw_1527 tw_1524 tw_1526 tw_63 tw_111 hd_Mo_sum_94 (by constructor <;> (dsimp only [Rm]; omega)) rfl rfl (Nat.le_of_ble_eq_true rfl) rfl dX12_steps_38 ?_
        refine x_istore (lv' := [(7, .int q8.1), (0, .ref (ad 94)), (2, .int y6.1), (3, .int y6.2.1), (4, .int y6.2.2.1), (5, .int y6.2.2.2.1), (6, .int (bI y6.2.2.2.2.1))]) (pc := 41) B dX12_steps_41 (by decide) rfl ?_
        refine x_iload (pc := 43) B 5 dX12_steps_43 rfl ?_
        refine jv_k h (fun (u12 : Int32 × Int32) => XX D ad cI cJ p l e (Rm (fr0 + 1) (lo0 + 28)) s m args below meth c Q 9 q8.2 75 [(0, .ref (ad 94)), (2, .int u12.1), (3, .int u12.2), (5, .int y6.2.2.2.1), (7, .int q8.1)] []) (fun u12 h => ?_) (fun JJ => ?_)
        · refine x_iload (pc := 75) B 4 dX12_steps_75 rfl ?_
          refine x_istore (lv' := [(4, .int q8.1), (0, .ref (ad 94)), (2, .int u12.1), (3, .int u12.2), (5, .int y6.2.2.2.1), (7, .int q8.1)]) (pc := 77) B dX12_steps_77 (by decide) rfl ?_
          refine x_iinc (k := 4) (v := y6.2.2.2.1 + 1) (lv' := [(5, .int (y6.2.2.2.1 + 1)), (4, .int q8.1), (0, .ref (ad 94)), (2, .int u12.1), (3, .int u12.2), (7, .int q8.1)]) (pc := 79) B dX12_steps_79 rfl rfl (by decide) rfl ?_
          refine x_aload_n (pc := 82) B 2 dX12_steps_82 rfl rfl ?_
          obtain ⟨hk13, h⟩ := ifn h
          refine x_getZ (T := TX12) (pc := 83) B 8 oi_94 rfl uw_12 (by decide) rfl tw_1307 rfl hk13 dX12_steps_83 ?_
          refine jn_k h (fun (u16 : Bool) => XX D ad cI cJ p l e (Rm (fr0 + 1) (lo0 + 28)) s m args below meth c Q 9 q8.2 109 [(0, .ref (ad 94)), (2, .int u12.1), (3, .int u12.2), (4, .int q8.1), (5, .int (y6.2.2.2.1 + 1))] [.int (bI u16)]) (fun u16 h => ?_) (fun k20 h JJ => ?_)
          · refine x_istore (lv' := [(6, .int (bI u16)), (0, .ref (ad 94)), (2, .int u12.1), (3, .int u12.2), (4, .int q8.1), (5, .int (y6.2.2.2.1 + 1))]) (pc := 109) B dX12_steps_109 (by decide) rfl ?_
            refine x_aload_n (pc := 111) B 1 dX12_steps_111 rfl rfl ?_
            refine x_dup (pc := 112) B dX12_steps_112 rfl ?_
            refine x_get (T := TX12) (pc := 113) B 7 oi_94 rfl uw_12 (by decide) rfl tw_1306 rfl dX12_steps_113 ?_
            refine x_iload (pc := 116) B 0 dX12_steps_116 rfl ?_
            refine x_if_eq_b (tgt := 125) (pc := 118) B dX12_steps_118 rfl (fun hc17 => ?_) (fun hc17 => ?_)
            · have h := iff_ hc17 h
              refine x_iconst (v := 0) (pc := 125) B dX12_steps_125 rfl ?_
              refine x_iadd (pc := 126) B dX12_steps_126 ?_
              refine x_put (T := TX12) (pc := 127) B 7 oi_94 of_94_7 rfl uw_12 tyX12_ok nmX12 (by decide) rfl tw_1306 rfl rfl rfl (Nat.le_of_ble_eq_true rfl) dX12_steps_127 ?_
              refine jv_m (P := fun M19 => XX D ad cI cJ p l e (Rm (fr0 + 1) (lo0 + 28)) s m args below meth c Q 9 M19 130 [(6, .int (bI u16)), (0, .ref (ad 94)), (2, .int u12.1), (3, .int u12.2), (4, .int q8.1), (5, .int (y6.2.2.2.1 + 1))] []) h (fun M19 h => ?_)
              refine x_goto (tgt := 32) (pc := 130) B dX12_steps_130 rfl ?_
              refine x_pick (lv' := [(0, .ref (ad 94)), (2, .int u12.1), (3, .int u12.2), (4, .int q8.1), (5, .int (y6.2.2.2.1 + 1)), (6, .int (bI u16))]) [1, 2, 3, 4, 5, 0] rfl ?_
              have z := hback (u12.1, u12.2, q8.1, y6.2.2.2.1 + 1, u16, M19) (Option.some.inj h).symm
              exact z
            · have h := ift hc17 h
              refine x_iconst (v := 1) (pc := 121) B dX12_steps_121 rfl ?_
              refine x_goto (tgt := 126) (pc := 122) B dX12_steps_122 rfl ?_
              refine x_iadd (pc := 126) B dX12_steps_126 ?_
              refine x_put (T := TX12) (pc := 127) B 7 oi_94 of_94_7 rfl uw_12 tyX12_ok nmX12 (by decide) rfl tw_1306 rfl rfl rfl (Nat.le_of_ble_eq_true rfl) dX12_steps_127 ?_
              refine jv_m (P := fun M18 => XX D ad cI cJ p l e (Rm (fr0 + 1) (lo0 + 28)) s m args below meth c Q 9 M18 130 [(6, .int (bI u16)), (0, .ref (ad 94)), (2, .int u12.1), (3, .int u12.2), (4, .int q8.1), (5, .int (y6.2.2.2.1 + 1))] []) h (fun M18 h => ?_)
              refine x_goto (tgt := 32) (pc := 130) B dX12_steps_130 rfl ?_
              refine x_pick (lv' := [(0, .ref (ad 94)), (2, .int u12.1), (3, .int u12.2), (4, .int q8.1), (5, .int (y6.2.2.2.1 + 1)), (6, .int (bI u16))]) [1, 2, 3, 4, 5, 0] rfl ?_
              have z := hback (u12.1, u12.2, q8.1, y6.2.2.2.1 + 1, u16, M18) (Option.some.inj h).symm
              exact z
          · refine x_if_ne_b (tgt := 108) (pc := 86) B dX12_steps_86 rfl (fun hc14 => ?_) (fun hc14 => ?_)
            · have h := ift hc14 h
              refine x_iconst (v := 0) (pc := 108) B dX12_steps_108 rfl ?_
              refine x_pick (lv' := [(0, .ref (ad 94)), (2, .int u12.1), (3, .int u12.2), (4, .int q8.1), (5, .int (y6.2.2.2.1 + 1))]) [2, 3, 4, 1, 0] rfl ?_
              have z := JJ false h
              exact z
            · have h := iff_ hc14 h
              refine x_iload (pc := 89) B 0 dX12_steps_89 rfl ?_
              refine x_iconst (v := 4) (pc := 91) B dX12_steps_91 rfl ?_
              refine x_icmp_ge (tgt := 108) (pc := 92) B dX12_steps_92 rfl (fun hc21 => ?_) (fun hc21 => ?_)
              · have h := iff_ hc21 h
                refine x_iconst (v := 0) (pc := 108) B dX12_steps_108 rfl ?_
                refine x_pick (lv' := [(0, .ref (ad 94)), (2, .int u12.1), (3, .int u12.2), (4, .int q8.1), (5, .int (y6.2.2.2.1 + 1))]) [2, 3, 4, 1, 0] rfl ?_
                have z := JJ false h
                exact z
              · have h := ift hc21 h
                refine x_aload_n (pc := 95) B 2 dX12_steps_95 rfl rfl ?_
                obtain ⟨q22, hq22, h⟩ := bnd h
                refine x_callV (rest := []) (st' := [.int q22]) (pc := 96) B oi_94 rfl (C_Mo_here_94  q8.2 _ hq22) tw_1539 tw_1536 tw_1538 tw_66 tw_111 hd_Mo_here_94 (by constructor <;> (dsimp only [Rm]; omega)) rfl rfl (Nat.le_of_ble_eq_true rfl) rfl dX12_steps_96 ?_
                refine x_bipush (v := 44) (pc := 99) B dX12_steps_99 rfl ?_
                refine x_icmp_ne (tgt := 108) (pc := 101) B dX12_steps_101 rfl (fun hc23 => ?_) (fun hc23 => ?_)
                · have h := iff_ hc23 h
                  refine x_iconst (v := 0) (pc := 108) B dX12_steps_108 rfl ?_
                  refine x_pick (lv' := [(0, .ref (ad 94)), (2, .int u12.1), (3, .int u12.2), (4, .int q8.1), (5, .int (y6.2.2.2.1 + 1))]) [2, 3, 4, 1, 0] rfl ?_
                  have z := JJ false h
                  exact z
                · have h := ift hc23 h
                  refine x_iconst (v := 1) (pc := 104) B dX12_steps_104 rfl ?_
                  refine x_goto (tgt := 109) (pc := 105) B dX12_steps_105 rfl ?_
                  refine x_pick (lv' := [(0, .ref (ad 94)), (2, .int u12.1), (3, .int u12.2), (4, .int q8.1), (5, .int (y6.2.2.2.1 + 1))]) [2, 3, 4, 1, 0] rfl ?_
                  have z := JJ true h
                  exact z
        · refine x_if_le (tgt := 75) (pc := 45) B dX12_steps_45 rfl (fun hc9 => ?_) (fun hc9 => ?_)
          · refine x_pick (lv' := [(0, .ref (ad 94)), (2, .int y6.1), (3, .int y6.2.1), (5, .int y6.2.2.2.1), (7, .int q8.1)]) [1, 2, 3, 5, 0] rfl ?_
            have z := JJ (y6.1, y6.2.1) ((zif_t hc9).trans rfl)
            exact z
          · refine x_iload_n (pc := 48) B 3 dX12_steps_48 rfl rfl ?_
            refine x_bipush (v := 10) (pc := 49) B dX12_steps_49 rfl ?_
            refine x_icmp_ge (tgt := 58) (pc := 51) B dX12_steps_51 rfl (fun hc24 => ?_) (fun hc24 => ?_)
            · refine x_bipush (v := 10) (pc := 58) B dX12_steps_58 rfl ?_
              refine x_istore (lv' := [(8, .int 10), (7, .int q8.1), (0, .ref (ad 94)), (2, .int y6.1), (3, .int y6.2.1), (4, .int y6.2.2.1), (5, .int y6.2.2.2.1), (6, .int (bI y6.2.2.2.2.1))]) (pc := 60) B dX12_steps_60 (by decide) rfl ?_
              refine x_iload_n (pc := 62) B 3 dX12_steps_62 rfl rfl ?_
              refine x_iload (pc := 63) B 0 dX12_steps_63 rfl ?_
              refine x_iload (pc := 65) B 5 dX12_steps_65 rfl ?_
              refine x_imul (pc := 67) B dX12_steps_67 ?_
              refine x_iadd (pc := 68) B dX12_steps_68 ?_
              refine x_istore_n (lv' := [(2, .int (y6.1 + (10 * y6.2.2.1))), (8, .int 10), (7, .int q8.1), (0, .ref (ad 94)), (3, .int y6.2.1), (4, .int y6.2.2.1), (5, .int y6.2.2.2.1), (6, .int (bI y6.2.2.2.2.1))]) (pc := 69) B dX12_steps_69 rfl (by decide) rfl ?_
              refine x_iload_n (pc := 70) B 4 dX12_steps_70 rfl rfl ?_
              refine x_iload (pc := 71) B 1 dX12_steps_71 rfl ?_
              refine x_isub (pc := 73) B dX12_steps_73 ?_
              refine x_istore_n (lv' := [(3, .int (y6.2.1 - 10)), (2, .int (y6.1 + (10 * y6.2.2.1))), (8, .int 10), (7, .int q8.1), (0, .ref (ad 94)), (4, .int y6.2.2.1), (5, .int y6.2.2.2.1), (6, .int (bI y6.2.2.2.2.1))]) (pc := 74) B dX12_steps_74 rfl (by decide) rfl ?_
              refine x_pick (lv' := [(0, .ref (ad 94)), (2, .int (y6.1 + (10 * y6.2.2.1))), (3, .int (y6.2.1 - 10)), (5, .int y6.2.2.2.1), (7, .int q8.1)]) [4, 1, 0, 6, 3] rfl ?_
              have z := JJ (y6.1 + (10 * y6.2.2.1), y6.2.1 - 10) ((zif_f hc9).trans ((zif_f hc24).trans rfl))
              exact z
            · refine x_iload_n (pc := 54) B 3 dX12_steps_54 rfl rfl ?_
              refine x_goto (tgt := 60) (pc := 55) B dX12_steps_55 rfl ?_
              refine x_istore (lv' := [(8, .int y6.2.1), (7, .int q8.1), (0, .ref (ad 94)), (2, .int y6.1), (3, .int y6.2.1), (4, .int y6.2.2.1), (5, .int y6.2.2.2.1), (6, .int (bI y6.2.2.2.2.1))]) (pc := 60) B dX12_steps_60 (by decide) rfl ?_
              refine x_iload_n (pc := 62) B 3 dX12_steps_62 rfl rfl ?_
              refine x_iload (pc := 63) B 0 dX12_steps_63 rfl ?_
              refine x_iload (pc := 65) B 5 dX12_steps_65 rfl ?_
              refine x_imul (pc := 67) B dX12_steps_67 ?_
              refine x_iadd (pc := 68) B dX12_steps_68 ?_
              refine x_istore_n (lv' := [(2, .int (y6.1 + (y6.2.1 * y6.2.2.1))), (8, .int y6.2.1), (7, .int q8.1), (0, .ref (ad 94)), (3, .int y6.2.1), (4, .int y6.2.2.1), (5, .int y6.2.2.2.1), (6, .int (bI y6.2.2.2.2.1))]) (pc := 69) B dX12_steps_69 rfl (by decide) rfl ?_
              refine x_iload_n (pc := 70) B 4 dX12_steps_70 rfl rfl ?_
              refine x_iload (pc := 71) B 1 dX12_steps_71 rfl ?_
              refine x_isub (pc := 73) B dX12_steps_73 ?_
              refine x_istore_n (lv' := [(3, .int (y6.2.1 - y6.2.1)), (2, .int (y6.1 + (y6.2.1 * y6.2.2.1))), (8, .int y6.2.1), (7, .int q8.1), (0, .ref (ad 94)), (4, .int y6.2.2.1), (5, .int y6.2.2.2.1), (6, .int (bI y6.2.2.2.2.1))]) (pc := 74) B dX12_steps_74 rfl (by decide) rfl ?_
              refine x_pick (lv' := [(0, .ref (ad 94)), (2, .int (y6.1 + (y6.2.1 * y6.2.2.1))), (3, .int (y6.2.1 - y6.2.1)), (5, .int y6.2.2.2.1), (7, .int q8.1)]) [4, 1, 0, 6, 3] rfl ?_
              have z := JJ (y6.1 + (y6.2.1 * y6.2.2.1), y6.2.1 - y6.2.1) ((zif_f hc9).trans ((zif_t hc24).trans rfl))
              exact z
    · refine x_aload_n (pc := 133) B 0 dX12_steps_133 rfl rfl ?_
      refine x_bipush (v := 93) (pc := 134) B dX12_steps_134 rfl ?_
      obtain ⟨q26, hq26, h⟩ := bnd h
      refine x_callV (rest := []) (st' := []) (pc := 136) B oi_94 rfl (C_Mo_must_94 93 q25.2.2.2 _ hq26) tw_1547 tw_1544 tw_1546 tw_68 tw_111 hd_Mo_must_94 (by constructor <;> (dsimp only [Rm]; omega)) rfl rfl (Nat.le_of_ble_eq_true rfl) rfl dX12_steps_136 ?_
      refine x_iload_n (pc := 139) B 1 dX12_steps_139 rfl rfl ?_
      refine x_iload_n (pc := 140) B 2 dX12_steps_140 rfl rfl ?_
      refine x_iload (pc := 141) B 3 dX12_steps_141 rfl ?_
      refine x_imul (pc := 143) B dX12_steps_143 ?_
      refine x_iadd (pc := 144) B dX12_steps_144 ?_
      obtain rfl := Option.some.inj h
      exact x_iret (pc := 145) B hQ dX12_steps_145
  · refine x_if_ge (tgt := 21) (pc := 14) B dX12_steps_14 rfl (fun hc3 => ?_) (fun hc3 => ?_)
    · refine x_iload_n (pc := 21) B 1 dX12_steps_21 rfl rfl ?_
      refine x_pick (lv' := [(0, .ref (ad 94)), (2, .int 0)]) [2, 0] rfl ?_
      have z := JJ q1.1 ((zif_f hc3).trans rfl)
      exact z
    · refine x_iconst (v := 0) (pc := 17) B dX12_steps_17 rfl ?_
      refine x_goto (tgt := 22) (pc := 18) B dX12_steps_18 rfl ?_
      refine x_pick (lv' := [(0, .ref (ad 94)), (2, .int 0)]) [2, 0] rfl ?_
      have z := JJ 0 ((zif_t hc3).trans rfl)
      exact z
def f_parse : Nat → Nat → Mem → Option (Int32 × Mem)
  | 0, _, _ => none
  | d + 1, t, M => if t = 0 then F_Mo_sum_94 (f_parse d)  M else if t = 1 then F_Mo_term_94 (f_parse d)  M else if t = 2 then F_Mo_one_94 (f_parse d)  M else F_Mo_steps_94 (f_parse d)  M
theorem C_parse {D : va_G} {ad adK adV : Nat → Nat} {cI cJ : ClassId} {l : Launch} : ∀ d : Nat, (∀ (M : Mem) (o : Int32 × Mem), f_parse d 0  M = some o → Ct D ad adK adV cI cJ l y_Mo_sum_94 cX12_sum 4 (some .int) (6 + d) (129 + 28 * d) [.ref (ad 94)] M (some (.int o.1)) o.2) ∧ (∀ (M : Mem) (o : Int32 × Mem), f_parse d 1  M = some o → Ct D ad adK adV cI cJ l y_Mo_term_94 cX12_term 4 (some .int) (6 + d) (129 + 28 * d) [.ref (ad 94)] M (some (.int o.1)) o.2) ∧ (∀ (M : Mem) (o : Int32 × Mem), f_parse d 2  M = some o → Ct D ad adK adV cI cJ l y_Mo_one_94 cX12_one 3 (some .int) (6 + d) (129 + 28 * d) [.ref (ad 94)] M (some (.int o.1)) o.2) ∧ (∀ (M : Mem) (o : Int32 × Mem), f_parse d 3  M = some o → Ct D ad adK adV cI cJ l y_Mo_steps_94 cX12_steps 9 (some .int) (6 + d) (129 + 28 * d) [.ref (ad 94)] M (some (.int o.1)) o.2)
  | 0 => by
    refine ⟨?_, ?_, ?_, ?_⟩ <;> (intros; rename_i h; cases h)
  | d + 1 => by
    have ih := @C_parse D ad adK adV cI cJ l d
    refine ⟨?_, ?_, ?_, ?_⟩
    · intro  M o h
      exact S_Mo_sum_94 (f_parse d) (6 + d) (129 + 28 * d) (by omega) (by omega) ih.1 ih.2.1 ih.2.2.1 ih.2.2.2  M o h
    · intro  M o h
      exact S_Mo_term_94 (f_parse d) (6 + d) (129 + 28 * d) (by omega) (by omega) ih.1 ih.2.1 ih.2.2.1 ih.2.2.2  M o h
    · intro  M o h
      exact S_Mo_one_94 (f_parse d) (6 + d) (129 + 28 * d) (by omega) (by omega) ih.1 ih.2.1 ih.2.2.1 ih.2.2.2  M o h
    · intro  M o h
      exact S_Mo_steps_94 (f_parse d) (6 + d) (129 + 28 * d) (by omega) (by omega) ih.1 ih.2.1 ih.2.2.1 ih.2.2.2  M o h
-- CurrentFarmsModel.worth(II)I [94]
abbrev y_Mo_worth_94 : MethodName := ⟨"CurrentFarmsModel", "worth", "(II)I"⟩
abbrev cX12_worth : ByteArray := prog_14_method_45_code
theorem dX12_worth_0 : decode cX12_worth 0 = .ok (.aload_n 0, 1) := by decide +kernel
theorem dX12_worth_1 : decode cX12_worth 1 = .ok (.iload_n 1, 1) := by decide +kernel
theorem dX12_worth_2 : decode cX12_worth 2 = .ok (.putfield 152, 3) := by decide +kernel
theorem dX12_worth_5 : decode cX12_worth 5 = .ok (.aload_n 0, 1) := by decide +kernel
theorem dX12_worth_6 : decode cX12_worth 6 = .ok (.iload_n 2, 1) := by decide +kernel
theorem dX12_worth_7 : decode cX12_worth 7 = .ok (.putfield 149, 3) := by decide +kernel
theorem dX12_worth_10 : decode cX12_worth 10 = .ok (.aload_n 0, 1) := by decide +kernel
theorem dX12_worth_11 : decode cX12_worth 11 = .ok (.iconst 0, 1) := by decide +kernel
theorem dX12_worth_12 : decode cX12_worth 12 = .ok (.putfield 155, 3) := by decide +kernel
theorem dX12_worth_15 : decode cX12_worth 15 = .ok (.aload_n 0, 1) := by decide +kernel
theorem dX12_worth_16 : decode cX12_worth 16 = .ok (.invokevirtual 179, 3) := by decide +kernel
theorem dX12_worth_19 : decode cX12_worth 19 = .ok (.ireturn, 1) := by decide +kernel
theorem hd_Mo_worth_94 : y_Mo_worth_94.cls ≠ "java/lang/invoke/MethodHandle" ∧ y_Mo_worth_94.cls ≠ "java/lang/invoke/VarHandle" ∧ (parseMethodDescriptor y_Mo_worth_94.desc).map (fun d => d.parameters.length) = some 2 := by decide +kernel
def f_Mo_worth_94 (a1 : Int32) (a2 : Int32) (M0 : Mem) : Option (Int32 × Mem) :=
  jv_ (wI M0 94 6 a1) fun M1 => jv_ (wI M1 94 7 a2) fun M2 => jv_ (wI M2 94 8 0) fun M3 => (f_parse 500 0 M3).bind fun q4 => some (q4.1, q4.2)
set_option maxHeartbeats 4000000 in
set_option maxRecDepth 20000 in
theorem C_Mo_worth_94 {D : va_G} {ad adK adV : Nat → Nat} {cI cJ : ClassId} {l : Launch} (a1 : Int32) (a2 : Int32) (M0 : Mem) (o : Int32 × Mem) (h : f_Mo_worth_94 a1 a2 M0 = some o) : Ct D ad adK adV cI cJ l y_Mo_worth_94 cX12_worth 3 (some .int) 507 14152 [.ref (ad 94), .int a1, .int a2] M0 (some (.int o.1)) o.2 := by
  refine x_start (lv := [(0, .ref (ad 94)), (1, .int a1), (2, .int a2)]) (own := "CurrentFarmsModel") rfl (by decide) (Nat.le_of_ble_eq_true rfl) rfl ?_
  intro p e s m args below meth c Q hQ B
  unfold f_Mo_worth_94 at h
  refine x_aload_n (pc := 0) B 0 dX12_worth_0 rfl rfl ?_
  refine x_iload_n (pc := 1) B 1 dX12_worth_1 rfl rfl ?_
  refine x_put (T := TX12) (pc := 2) B 6 oi_94 of_94_6 rfl uw_12 tyX12_ok nmX12 (by decide) rfl tw_1305 rfl rfl rfl (Nat.le_of_ble_eq_true rfl) dX12_worth_2 ?_
  refine jv_m (P := fun M1 => XX D ad cI cJ p l e (Rm 507 14152) s m args below meth c Q 3 M1 5 [(0, .ref (ad 94)), (1, .int a1), (2, .int a2)] []) h (fun M1 h => ?_)
  refine x_aload_n (pc := 5) B 0 dX12_worth_5 rfl rfl ?_
  refine x_iload_n (pc := 6) B 2 dX12_worth_6 rfl rfl ?_
  refine x_put (T := TX12) (pc := 7) B 7 oi_94 of_94_7 rfl uw_12 tyX12_ok nmX12 (by decide) rfl tw_1306 rfl rfl rfl (Nat.le_of_ble_eq_true rfl) dX12_worth_7 ?_
  refine jv_m (P := fun M2 => XX D ad cI cJ p l e (Rm 507 14152) s m args below meth c Q 3 M2 10 [(0, .ref (ad 94)), (1, .int a1), (2, .int a2)] []) h (fun M2 h => ?_)
  refine x_aload_n (pc := 10) B 0 dX12_worth_10 rfl rfl ?_
  refine x_iconst (v := 0) (pc := 11) B dX12_worth_11 rfl ?_
  refine x_put (T := TX12) (pc := 12) B 8 oi_94 of_94_8 rfl uw_12 tyX12_ok nmX12 (by decide) rfl tw_1307 rfl rfl rfl (Nat.le_of_ble_eq_true rfl) dX12_worth_12 ?_
  refine jv_m (P := fun M3 => XX D ad cI cJ p l e (Rm 507 14152) s m args below meth c Q 3 M3 15 [(0, .ref (ad 94)), (1, .int a1), (2, .int a2)] []) h (fun M3 h => ?_)
  refine x_aload_n (pc := 15) B 0 dX12_worth_15 rfl rfl ?_
  obtain ⟨q4, hq4, h⟩ := bnd h
  refine x_callV (rest := []) (st' := [.int q4.1]) (pc := 16) B oi_94 rfl ((C_parse 500).1 M3 _ hq4) tw_1527 tw_1524 tw_1526 tw_63 tw_111 hd_Mo_sum_94 ⟨Nat.le_of_ble_eq_true rfl, Nat.le_of_ble_eq_true rfl⟩ rfl rfl (Nat.le_of_ble_eq_true rfl) rfl dX12_worth_16 ?_
  obtain rfl := Option.some.inj h
  exact x_iret (pc := 19) B hQ dX12_worth_19
-- CurrentFarmsModel.holds(I)Z [94]
abbrev y_Mo_holds_94 : MethodName := ⟨"CurrentFarmsModel", "holds", "(I)Z"⟩
abbrev cX12_holds : ByteArray := prog_14_method_46_code
theorem dX12_holds_0 : decode cX12_holds 0 = .ok (.aload_n 0, 1) := by decide +kernel
theorem dX12_holds_1 : decode cX12_holds 1 = .ok (.getfield 7, 3) := by decide +kernel
theorem dX12_holds_4 : decode cX12_holds 4 = .ok (.sipush 2060, 3) := by decide +kernel
theorem dX12_holds_7 : decode cX12_holds 7 = .ok (.iload_n 1, 1) := by decide +kernel
theorem dX12_holds_8 : decode cX12_holds 8 = .ok (.iadd, 1) := by decide +kernel
theorem dX12_holds_9 : decode cX12_holds 9 = .ok (.iaload, 1) := by decide +kernel
theorem dX12_holds_10 : decode cX12_holds 10 = .ok (.iconst (-1), 1) := by decide +kernel
theorem dX12_holds_11 : decode cX12_holds 11 = .ok (.if_icmp .eq 24, 3) := by decide +kernel
theorem dX12_holds_14 : decode cX12_holds 14 = .ok (.aload_n 0, 1) := by decide +kernel
theorem dX12_holds_15 : decode cX12_holds 15 = .ok (.iload_n 1, 1) := by decide +kernel
theorem dX12_holds_16 : decode cX12_holds 16 = .ok (.bipush 8, 2) := by decide +kernel
theorem dX12_holds_18 : decode cX12_holds 18 = .ok (.idiv, 1) := by decide +kernel
theorem dX12_holds_19 : decode cX12_holds 19 = .ok (.aload_n 0, 1) := by decide +kernel
theorem dX12_holds_20 : decode cX12_holds 20 = .ok (.getfield 7, 3) := by decide +kernel
theorem dX12_holds_23 : decode cX12_holds 23 = .ok (.sipush 2060, 3) := by decide +kernel
theorem dX12_holds_26 : decode cX12_holds 26 = .ok (.iload_n 1, 1) := by decide +kernel
theorem dX12_holds_27 : decode cX12_holds 27 = .ok (.iadd, 1) := by decide +kernel
theorem dX12_holds_28 : decode cX12_holds 28 = .ok (.iaload, 1) := by decide +kernel
theorem dX12_holds_29 : decode cX12_holds 29 = .ok (.invokevirtual 231, 3) := by decide +kernel
theorem dX12_holds_32 : decode cX12_holds 32 = .ok (.ifCond .gt 7, 3) := by decide +kernel
theorem dX12_holds_35 : decode cX12_holds 35 = .ok (.iconst 1, 1) := by decide +kernel
theorem dX12_holds_36 : decode cX12_holds 36 = .ok (.goto 4, 3) := by decide +kernel
theorem dX12_holds_39 : decode cX12_holds 39 = .ok (.iconst 0, 1) := by decide +kernel
theorem dX12_holds_40 : decode cX12_holds 40 = .ok (.ireturn, 1) := by decide +kernel
theorem hd_Mo_holds_94 : y_Mo_holds_94.cls ≠ "java/lang/invoke/MethodHandle" ∧ y_Mo_holds_94.cls ≠ "java/lang/invoke/VarHandle" ∧ (parseMethodDescriptor y_Mo_holds_94.desc).map (fun d => d.parameters.length) = some 1 := by decide +kernel
def f_Mo_holds_94 (a1 : Int32) (M0 : Mem) : Option (Bool × Mem) :=
  if inb (2060 + a1) 4700 then if decide ((M0.1 95 (2060 + a1).toNatClampNeg) = (-1)) then (some (true, M0)) else (if inb (2060 + a1) 4700 then (f_Mo_worth_94 (a1 / 8) (M0.1 95 (2060 + a1).toNatClampNeg) M0).bind fun q4 => if decide (q4.1 ≤ 0) then (some (true, q4.2)) else (some (false, q4.2)) else none) else none
set_option maxHeartbeats 4000000 in
set_option maxRecDepth 20000 in
theorem C_Mo_holds_94 {D : va_G} {ad adK adV : Nat → Nat} {cI cJ : ClassId} {l : Launch} (a1 : Int32) (M0 : Mem) (o : Bool × Mem) (h : f_Mo_holds_94 a1 M0 = some o) : Ct D ad adK adV cI cJ l y_Mo_holds_94 cX12_holds 2 (some .boolean) 508 14174 [.ref (ad 94), .int a1] M0 (some (.int (bI o.1))) o.2 := by
  refine x_start (lv := [(0, .ref (ad 94)), (1, .int a1)]) (own := "CurrentFarmsModel") rfl (by decide) (Nat.le_of_ble_eq_true rfl) rfl ?_
  intro p e s m args below meth c Q hQ B
  unfold f_Mo_holds_94 at h
  refine x_aload_n (pc := 0) B 0 dX12_holds_0 rfl rfl ?_
  refine x_get (T := TX12) (pc := 1) B 1 oi_94 rfl uw_12 (by decide) rfl tw_1300 rfl dX12_holds_1 ?_
  refine x_sipush (v := 2060) (pc := 4) B dX12_holds_4 rfl ?_
  refine x_iload_n (pc := 7) B 1 dX12_holds_7 rfl rfl ?_
  refine x_iadd (pc := 8) B dX12_holds_8 ?_
  obtain ⟨hk1, h⟩ := ifn h
  refine x_iald (pc := 9) B ai_95 hk1 dX12_holds_9 ?_
  refine x_iconst (v := (-1)) (pc := 10) B dX12_holds_10 rfl ?_
  refine x_icmp_eq (tgt := 35) (pc := 11) B dX12_holds_11 rfl (fun hc2 => ?_) (fun hc2 => ?_)
  · have h := ift hc2 h
    refine x_iconst (v := 1) (pc := 35) B dX12_holds_35 rfl ?_
    refine x_goto (tgt := 40) (pc := 36) B dX12_holds_36 rfl ?_
    obtain rfl := Option.some.inj h
    exact x_zret (v := true) (pc := 40) B hQ dX12_holds_40
  · have h := iff_ hc2 h
    refine x_aload_n (pc := 14) B 0 dX12_holds_14 rfl rfl ?_
    refine x_iload_n (pc := 15) B 1 dX12_holds_15 rfl rfl ?_
    refine x_bipush (v := 8) (pc := 16) B dX12_holds_16 rfl ?_
    refine x_idiv (pc := 18) B dX12_holds_18 (by decide) ?_
    refine x_aload_n (pc := 19) B 0 dX12_holds_19 rfl rfl ?_
    refine x_get (T := TX12) (pc := 20) B 1 oi_94 rfl uw_12 (by decide) rfl tw_1300 rfl dX12_holds_20 ?_
    refine x_sipush (v := 2060) (pc := 23) B dX12_holds_23 rfl ?_
    refine x_iload_n (pc := 26) B 1 dX12_holds_26 rfl rfl ?_
    refine x_iadd (pc := 27) B dX12_holds_27 ?_
    obtain ⟨hk3, h⟩ := ifn h
    refine x_iald (pc := 28) B ai_95 hk3 dX12_holds_28 ?_
    obtain ⟨q4, hq4, h⟩ := bnd h
    refine x_callV (rest := []) (st' := [.int q4.1]) (pc := 29) B oi_94 rfl (C_Mo_worth_94 (a1 / 8) (M0.1 95 (2060 + a1).toNatClampNeg) M0 _ hq4) tw_1523 tw_1520 tw_1522 tw_62 tw_111 hd_Mo_worth_94 ⟨Nat.le_of_ble_eq_true rfl, Nat.le_of_ble_eq_true rfl⟩ rfl rfl (Nat.le_of_ble_eq_true rfl) rfl dX12_holds_29 ?_
    refine x_if_gt (tgt := 39) (pc := 32) B dX12_holds_32 rfl (fun hc5 => ?_) (fun hc5 => ?_)
    · have h := iff_ hc5 h
      refine x_iconst (v := 0) (pc := 39) B dX12_holds_39 rfl ?_
      obtain rfl := Option.some.inj h
      exact x_zret (v := false) (pc := 40) B hQ dX12_holds_40
    · have h := ift hc5 h
      refine x_iconst (v := 1) (pc := 35) B dX12_holds_35 rfl ?_
      refine x_goto (tgt := 40) (pc := 36) B dX12_holds_36 rfl ?_
      obtain rfl := Option.some.inj h
      exact x_zret (v := true) (pc := 40) B hQ dX12_holds_40
-- CurrentFarmsModel.clauseOf(II)I [94]
abbrev y_Mo_clauseOf_94 : MethodName := ⟨"CurrentFarmsModel", "clauseOf", "(II)I"⟩
abbrev cX12_clauseOf : ByteArray := prog_14_method_47_code
theorem dX12_clauseOf_0 : decode cX12_clauseOf 0 = .ok (.iconst (-1), 1) := by decide +kernel
theorem dX12_clauseOf_1 : decode cX12_clauseOf 1 = .ok (.istore_n 3, 1) := by decide +kernel
theorem dX12_clauseOf_2 : decode cX12_clauseOf 2 = .ok (.iconst 0, 1) := by decide +kernel
theorem dX12_clauseOf_3 : decode cX12_clauseOf 3 = .ok (.istore 4, 2) := by decide +kernel
theorem dX12_clauseOf_5 : decode cX12_clauseOf 5 = .ok (.iload 4, 2) := by decide +kernel
theorem dX12_clauseOf_7 : decode cX12_clauseOf 7 = .ok (.aload_n 0, 1) := by decide +kernel
theorem dX12_clauseOf_8 : decode cX12_clauseOf 8 = .ok (.getfield 7, 3) := by decide +kernel
theorem dX12_clauseOf_11 : decode cX12_clauseOf 11 = .ok (.iconst 3, 1) := by decide +kernel
theorem dX12_clauseOf_12 : decode cX12_clauseOf 12 = .ok (.iaload, 1) := by decide +kernel
theorem dX12_clauseOf_13 : decode cX12_clauseOf 13 = .ok (.if_icmp .ge 142, 3) := by decide +kernel
theorem dX12_clauseOf_16 : decode cX12_clauseOf 16 = .ok (.iconst 0, 1) := by decide +kernel
theorem dX12_clauseOf_17 : decode cX12_clauseOf 17 = .ok (.istore 5, 2) := by decide +kernel
theorem dX12_clauseOf_19 : decode cX12_clauseOf 19 = .ok (.iload 5, 2) := by decide +kernel
theorem dX12_clauseOf_21 : decode cX12_clauseOf 21 = .ok (.aload_n 0, 1) := by decide +kernel
theorem dX12_clauseOf_22 : decode cX12_clauseOf 22 = .ok (.getfield 7, 3) := by decide +kernel
theorem dX12_clauseOf_25 : decode cX12_clauseOf 25 = .ok (.sipush 1890, 3) := by decide +kernel
theorem dX12_clauseOf_28 : decode cX12_clauseOf 28 = .ok (.iload 4, 2) := by decide +kernel
theorem dX12_clauseOf_30 : decode cX12_clauseOf 30 = .ok (.iadd, 1) := by decide +kernel
theorem dX12_clauseOf_31 : decode cX12_clauseOf 31 = .ok (.iaload, 1) := by decide +kernel
theorem dX12_clauseOf_32 : decode cX12_clauseOf 32 = .ok (.if_icmp .ge 117, 3) := by decide +kernel
theorem dX12_clauseOf_35 : decode cX12_clauseOf 35 = .ok (.aload_n 0, 1) := by decide +kernel
theorem dX12_clauseOf_36 : decode cX12_clauseOf 36 = .ok (.getfield 7, 3) := by decide +kernel
theorem dX12_clauseOf_39 : decode cX12_clauseOf 39 = .ok (.sipush 790, 3) := by decide +kernel
theorem dX12_clauseOf_42 : decode cX12_clauseOf 42 = .ok (.iload 4, 2) := by decide +kernel
theorem dX12_clauseOf_44 : decode cX12_clauseOf 44 = .ok (.iadd, 1) := by decide +kernel
theorem dX12_clauseOf_45 : decode cX12_clauseOf 45 = .ok (.iaload, 1) := by decide +kernel
theorem dX12_clauseOf_46 : decode cX12_clauseOf 46 = .ok (.iload_n 2, 1) := by decide +kernel
theorem dX12_clauseOf_47 : decode cX12_clauseOf 47 = .ok (.if_icmp .gt 102, 3) := by decide +kernel
theorem dX12_clauseOf_50 : decode cX12_clauseOf 50 = .ok (.aload_n 0, 1) := by decide +kernel
theorem dX12_clauseOf_51 : decode cX12_clauseOf 51 = .ok (.getfield 7, 3) := by decide +kernel
theorem dX12_clauseOf_54 : decode cX12_clauseOf 54 = .ok (.sipush 1900, 3) := by decide +kernel
theorem dX12_clauseOf_57 : decode cX12_clauseOf 57 = .ok (.bipush 8, 2) := by decide +kernel
theorem dX12_clauseOf_59 : decode cX12_clauseOf 59 = .ok (.iload 4, 2) := by decide +kernel
theorem dX12_clauseOf_61 : decode cX12_clauseOf 61 = .ok (.imul, 1) := by decide +kernel
theorem dX12_clauseOf_62 : decode cX12_clauseOf 62 = .ok (.iadd, 1) := by decide +kernel
theorem dX12_clauseOf_63 : decode cX12_clauseOf 63 = .ok (.iload 5, 2) := by decide +kernel
theorem dX12_clauseOf_65 : decode cX12_clauseOf 65 = .ok (.iadd, 1) := by decide +kernel
theorem dX12_clauseOf_66 : decode cX12_clauseOf 66 = .ok (.iaload, 1) := by decide +kernel
theorem dX12_clauseOf_67 : decode cX12_clauseOf 67 = .ok (.iload_n 1, 1) := by decide +kernel
theorem dX12_clauseOf_68 : decode cX12_clauseOf 68 = .ok (.if_icmp .ne 39, 3) := by decide +kernel
theorem dX12_clauseOf_71 : decode cX12_clauseOf 71 = .ok (.iload_n 3, 1) := by decide +kernel
theorem dX12_clauseOf_72 : decode cX12_clauseOf 72 = .ok (.iconst (-1), 1) := by decide +kernel
theorem dX12_clauseOf_73 : decode cX12_clauseOf 73 = .ok (.if_icmp .eq 30, 3) := by decide +kernel
theorem dX12_clauseOf_76 : decode cX12_clauseOf 76 = .ok (.aload_n 0, 1) := by decide +kernel
theorem dX12_clauseOf_77 : decode cX12_clauseOf 77 = .ok (.getfield 7, 3) := by decide +kernel
theorem dX12_clauseOf_80 : decode cX12_clauseOf 80 = .ok (.sipush 790, 3) := by decide +kernel
theorem dX12_clauseOf_83 : decode cX12_clauseOf 83 = .ok (.iload 4, 2) := by decide +kernel
theorem dX12_clauseOf_85 : decode cX12_clauseOf 85 = .ok (.iadd, 1) := by decide +kernel
theorem dX12_clauseOf_86 : decode cX12_clauseOf 86 = .ok (.iaload, 1) := by decide +kernel
theorem dX12_clauseOf_87 : decode cX12_clauseOf 87 = .ok (.aload_n 0, 1) := by decide +kernel
theorem dX12_clauseOf_88 : decode cX12_clauseOf 88 = .ok (.getfield 7, 3) := by decide +kernel
theorem dX12_clauseOf_91 : decode cX12_clauseOf 91 = .ok (.sipush 790, 3) := by decide +kernel
theorem dX12_clauseOf_94 : decode cX12_clauseOf 94 = .ok (.iload_n 3, 1) := by decide +kernel
theorem dX12_clauseOf_95 : decode cX12_clauseOf 95 = .ok (.bipush 8, 2) := by decide +kernel
theorem dX12_clauseOf_97 : decode cX12_clauseOf 97 = .ok (.idiv, 1) := by decide +kernel
theorem dX12_clauseOf_98 : decode cX12_clauseOf 98 = .ok (.iadd, 1) := by decide +kernel
theorem dX12_clauseOf_99 : decode cX12_clauseOf 99 = .ok (.iaload, 1) := by decide +kernel
theorem dX12_clauseOf_100 : decode cX12_clauseOf 100 = .ok (.if_icmp .lt 7, 3) := by decide +kernel
theorem dX12_clauseOf_103 : decode cX12_clauseOf 103 = .ok (.iconst 1, 1) := by decide +kernel
theorem dX12_clauseOf_104 : decode cX12_clauseOf 104 = .ok (.goto 4, 3) := by decide +kernel
theorem dX12_clauseOf_107 : decode cX12_clauseOf 107 = .ok (.iconst 0, 1) := by decide +kernel
theorem dX12_clauseOf_108 : decode cX12_clauseOf 108 = .ok (.istore 6, 2) := by decide +kernel
theorem dX12_clauseOf_110 : decode cX12_clauseOf 110 = .ok (.iload 6, 2) := by decide +kernel
theorem dX12_clauseOf_112 : decode cX12_clauseOf 112 = .ok (.ifCond .eq 29, 3) := by decide +kernel
theorem dX12_clauseOf_115 : decode cX12_clauseOf 115 = .ok (.aload_n 0, 1) := by decide +kernel
theorem dX12_clauseOf_116 : decode cX12_clauseOf 116 = .ok (.bipush 8, 2) := by decide +kernel
theorem dX12_clauseOf_118 : decode cX12_clauseOf 118 = .ok (.iload 4, 2) := by decide +kernel
theorem dX12_clauseOf_120 : decode cX12_clauseOf 120 = .ok (.imul, 1) := by decide +kernel
theorem dX12_clauseOf_121 : decode cX12_clauseOf 121 = .ok (.iload 5, 2) := by decide +kernel
theorem dX12_clauseOf_123 : decode cX12_clauseOf 123 = .ok (.iadd, 1) := by decide +kernel
theorem dX12_clauseOf_124 : decode cX12_clauseOf 124 = .ok (.invokevirtual 234, 3) := by decide +kernel
theorem dX12_clauseOf_127 : decode cX12_clauseOf 127 = .ok (.ifCond .eq 14, 3) := by decide +kernel
theorem dX12_clauseOf_130 : decode cX12_clauseOf 130 = .ok (.bipush 8, 2) := by decide +kernel
theorem dX12_clauseOf_132 : decode cX12_clauseOf 132 = .ok (.iload 4, 2) := by decide +kernel
theorem dX12_clauseOf_134 : decode cX12_clauseOf 134 = .ok (.imul, 1) := by decide +kernel
theorem dX12_clauseOf_135 : decode cX12_clauseOf 135 = .ok (.iload 5, 2) := by decide +kernel
theorem dX12_clauseOf_137 : decode cX12_clauseOf 137 = .ok (.iadd, 1) := by decide +kernel
theorem dX12_clauseOf_138 : decode cX12_clauseOf 138 = .ok (.goto 4, 3) := by decide +kernel
theorem dX12_clauseOf_141 : decode cX12_clauseOf 141 = .ok (.iload_n 3, 1) := by decide +kernel
theorem dX12_clauseOf_142 : decode cX12_clauseOf 142 = .ok (.istore_n 3, 1) := by decide +kernel
theorem dX12_clauseOf_143 : decode cX12_clauseOf 143 = .ok (.iinc 5 1, 3) := by decide +kernel
theorem dX12_clauseOf_146 : decode cX12_clauseOf 146 = .ok (.goto (-127), 3) := by decide +kernel
theorem dX12_clauseOf_149 : decode cX12_clauseOf 149 = .ok (.iinc 4 1, 3) := by decide +kernel
theorem dX12_clauseOf_152 : decode cX12_clauseOf 152 = .ok (.goto (-147), 3) := by decide +kernel
theorem dX12_clauseOf_155 : decode cX12_clauseOf 155 = .ok (.iload_n 3, 1) := by decide +kernel
theorem dX12_clauseOf_156 : decode cX12_clauseOf 156 = .ok (.ireturn, 1) := by decide +kernel
theorem hd_Mo_clauseOf_94 : y_Mo_clauseOf_94.cls ≠ "java/lang/invoke/MethodHandle" ∧ y_Mo_clauseOf_94.cls ≠ "java/lang/invoke/VarHandle" ∧ (parseMethodDescriptor y_Mo_clauseOf_94.desc).map (fun d => d.parameters.length) = some 2 := by decide +kernel
def b_Mo_clauseOf_94_19 (a1 : Int32) (a2 : Int32) (y1 : Int32 × Int32 × Mem) (y3 : Int32 × Int32 × Mem) : Option ((Int32 × Int32 × Mem) ⊕ (Int32 × Mem)) :=
  if inb (1890 + y1.2.1) 4700 then if decide (y3.2.1 < (y3.2.2.1 95 (1890 + y1.2.1).toNatClampNeg)) then (if inb (790 + y1.2.1) 4700 then if decide ((y3.2.2.1 95 (790 + y1.2.1).toNatClampNeg) ≤ a2) then (if inb ((1900 + (8 * y1.2.1)) + y3.2.1) 4700 then jn_ (fun (u11 : Bool) => if u11 then ((f_Mo_holds_94 ((8 * y1.2.1) + y3.2.1) y3.2.2).bind fun q13 => if q13.1 then (some (.inl ((8 * y1.2.1) + y3.2.1, y3.2.1 + 1, q13.2))) else (some (.inl (y3.1, y3.2.1 + 1, q13.2)))) else (some (.inl (y3.1, y3.2.1 + 1, y3.2.2)))) fun k15 => if decide ((y3.2.2.1 95 ((1900 + (8 * y1.2.1)) + y3.2.1).toNatClampNeg) = a1) then (if decide (y3.1 = (-1)) then (k15 true) else (if inb (790 + y1.2.1) 4700 then if inb (790 + (y3.1 / 8)) 4700 then if decide ((y3.2.2.1 95 (790 + y1.2.1).toNatClampNeg) < (y3.2.2.1 95 (790 + (y3.1 / 8)).toNatClampNeg)) then (k15 false) else (k15 true) else none else none)) else (k15 false) else none) else (some (.inr (y3.1, y3.2.2))) else none) else (some (.inr (y3.1, y3.2.2))) else none
def b_Mo_clauseOf_94_5 (a1 : Int32) (a2 : Int32) (y1 : Int32 × Int32 × Mem) : Option ((Int32 × Int32 × Mem) ⊕ (Int32 × Mem)) :=
  if decide (y1.2.1 < (y1.2.2.1 95 3)) then ((itr (b_Mo_clauseOf_94_19 a1 a2 y1) FU (y1.1, 0, y1.2.2)).bind fun q20 => some (.inl (q20.1, y1.2.1 + 1, q20.2))) else (some (.inr (y1.1, y1.2.2)))
def f_Mo_clauseOf_94 (a1 : Int32) (a2 : Int32) (M0 : Mem) : Option (Int32 × Mem) :=
  (itr (b_Mo_clauseOf_94_5 a1 a2) FU ((-1), 0, M0)).bind fun q21 => some (q21.1, q21.2)
set_option maxHeartbeats 4000000 in
set_option maxRecDepth 20000 in
theorem C_Mo_clauseOf_94 {D : va_G} {ad adK adV : Nat → Nat} {cI cJ : ClassId} {l : Launch} (a1 : Int32) (a2 : Int32) (M0 : Mem) (o : Int32 × Mem) (h : f_Mo_clauseOf_94 a1 a2 M0 = some o) : Ct D ad adK adV cI cJ l y_Mo_clauseOf_94 cX12_clauseOf 7 (some .int) 509 14195 [.ref (ad 94), .int a1, .int a2] M0 (some (.int o.1)) o.2 := by
  refine x_start (lv := [(0, .ref (ad 94)), (1, .int a1), (2, .int a2)]) (own := "CurrentFarmsModel") rfl (by decide) (Nat.le_of_ble_eq_true rfl) rfl ?_
  intro p e s m args below meth c Q hQ B
  unfold f_Mo_clauseOf_94 at h
  refine x_iconst (v := (-1)) (pc := 0) B dX12_clauseOf_0 rfl ?_
  refine x_istore_n (lv' := [(3, .int (-1)), (0, .ref (ad 94)), (1, .int a1), (2, .int a2)]) (pc := 1) B dX12_clauseOf_1 rfl (by decide) rfl ?_
  refine x_iconst (v := 0) (pc := 2) B dX12_clauseOf_2 rfl ?_
  refine x_istore (lv' := [(4, .int 0), (3, .int (-1)), (0, .ref (ad 94)), (1, .int a1), (2, .int a2)]) (pc := 3) B dX12_clauseOf_3 (by decide) rfl ?_
  refine x_pick (lv' := [(0, .ref (ad 94)), (1, .int a1), (2, .int a2), (3, .int (-1)), (4, .int 0)]) [2, 3, 4, 1, 0] rfl ?_
  obtain ⟨q21, hq21, h⟩ := bnd h
  refine x_loop (Head := fun (y1 : Int32 × Int32 × Mem) => XX D ad cI cJ p l e (Rm 509 14195) s m args below meth c Q 7 y1.2.2 5 [(0, .ref (ad 94)), (1, .int a1), (2, .int a2), (3, .int y1.1), (4, .int y1.2.1)] []) (Ex := fun (q21 : Int32 × Mem) => XX D ad cI cJ p l e (Rm 509 14195) s m args below meth c Q 7 q21.2 155 [(3, .int q21.1)] []) (fun y1 r h hback hexit => ?_) FU _ q21 hq21 ?_
  · unfold b_Mo_clauseOf_94_5 at h
    refine x_iload (pc := 5) B 4 dX12_clauseOf_5 rfl ?_
    refine x_aload_n (pc := 7) B 0 dX12_clauseOf_7 rfl rfl ?_
    refine x_get (T := TX12) (pc := 8) B 1 oi_94 rfl uw_12 (by decide) rfl tw_1300 rfl dX12_clauseOf_8 ?_
    refine x_iconst (v := 3) (pc := 11) B dX12_clauseOf_11 rfl ?_
    refine x_iald_c (j := 3) (pc := 12) B ai_95 (by decide) rfl dX12_clauseOf_12 ?_
    refine x_icmp_ge (tgt := 155) (pc := 13) B dX12_clauseOf_13 rfl (fun hc2 => ?_) (fun hc2 => ?_)
    · have h := iff_ hc2 h
      refine x_pick (lv' := [(3, .int y1.1)]) [3] rfl ?_
      have z := hexit (y1.1, y1.2.2) (Option.some.inj h).symm
      exact z
    · have h := ift hc2 h
      refine x_iconst (v := 0) (pc := 16) B dX12_clauseOf_16 rfl ?_
      refine x_istore (lv' := [(5, .int 0), (0, .ref (ad 94)), (1, .int a1), (2, .int a2), (3, .int y1.1), (4, .int y1.2.1)]) (pc := 17) B dX12_clauseOf_17 (by decide) rfl ?_
      refine x_pick (lv' := [(0, .ref (ad 94)), (1, .int a1), (2, .int a2), (3, .int y1.1), (4, .int y1.2.1), (5, .int 0)]) [1, 2, 3, 4, 5, 0] rfl ?_
      obtain ⟨q20, hq20, h⟩ := bnd h
      refine x_loop (Head := fun (y3 : Int32 × Int32 × Mem) => XX D ad cI cJ p l e (Rm 509 14195) s m args below meth c Q 7 y3.2.2 19 [(0, .ref (ad 94)), (1, .int a1), (2, .int a2), (3, .int y3.1), (4, .int y1.2.1), (5, .int y3.2.1)] []) (Ex := fun (q20 : Int32 × Mem) => XX D ad cI cJ p l e (Rm 509 14195) s m args below meth c Q 7 q20.2 149 [(0, .ref (ad 94)), (1, .int a1), (2, .int a2), (3, .int q20.1), (4, .int y1.2.1)] []) (fun y3 r h hback hexit => ?_) FU _ q20 hq20 ?_
      · unfold b_Mo_clauseOf_94_19 at h
        refine x_iload (pc := 19) B 5 dX12_clauseOf_19 rfl ?_
        refine x_aload_n (pc := 21) B 0 dX12_clauseOf_21 rfl rfl ?_
        refine x_get (T := TX12) (pc := 22) B 1 oi_94 rfl uw_12 (by decide) rfl tw_1300 rfl dX12_clauseOf_22 ?_
        refine x_sipush (v := 1890) (pc := 25) B dX12_clauseOf_25 rfl ?_
        refine x_iload (pc := 28) B 4 dX12_clauseOf_28 rfl ?_
        refine x_iadd (pc := 30) B dX12_clauseOf_30 ?_
        obtain ⟨hk4, h⟩ := ifn h
        refine x_iald (pc := 31) B ai_95 hk4 dX12_clauseOf_31 ?_
        refine x_icmp_ge (tgt := 149) (pc := 32) B dX12_clauseOf_32 rfl (fun hc5 => ?_) (fun hc5 => ?_)
        · have h := iff_ hc5 h
          refine x_pick (lv' := [(0, .ref (ad 94)), (1, .int a1), (2, .int a2), (3, .int y3.1), (4, .int y1.2.1)]) [0, 1, 2, 3, 4] rfl ?_
          have z := hexit (y3.1, y3.2.2) (Option.some.inj h).symm
          exact z
        · have h := ift hc5 h
          refine x_aload_n (pc := 35) B 0 dX12_clauseOf_35 rfl rfl ?_
          refine x_get (T := TX12) (pc := 36) B 1 oi_94 rfl uw_12 (by decide) rfl tw_1300 rfl dX12_clauseOf_36 ?_
          refine x_sipush (v := 790) (pc := 39) B dX12_clauseOf_39 rfl ?_
          refine x_iload (pc := 42) B 4 dX12_clauseOf_42 rfl ?_
          refine x_iadd (pc := 44) B dX12_clauseOf_44 ?_
          obtain ⟨hk6, h⟩ := ifn h
          refine x_iald (pc := 45) B ai_95 hk6 dX12_clauseOf_45 ?_
          refine x_iload_n (pc := 46) B 2 dX12_clauseOf_46 rfl rfl ?_
          refine x_icmp_gt (tgt := 149) (pc := 47) B dX12_clauseOf_47 rfl (fun hc7 => ?_) (fun hc7 => ?_)
          · have h := iff_ hc7 h
            refine x_pick (lv' := [(0, .ref (ad 94)), (1, .int a1), (2, .int a2), (3, .int y3.1), (4, .int y1.2.1)]) [0, 1, 2, 3, 4] rfl ?_
            have z := hexit (y3.1, y3.2.2) (Option.some.inj h).symm
            exact z
          · have h := ift hc7 h
            refine x_aload_n (pc := 50) B 0 dX12_clauseOf_50 rfl rfl ?_
            refine x_get (T := TX12) (pc := 51) B 1 oi_94 rfl uw_12 (by decide) rfl tw_1300 rfl dX12_clauseOf_51 ?_
            refine x_sipush (v := 1900) (pc := 54) B dX12_clauseOf_54 rfl ?_
            refine x_bipush (v := 8) (pc := 57) B dX12_clauseOf_57 rfl ?_
            refine x_iload (pc := 59) B 4 dX12_clauseOf_59 rfl ?_
            refine x_imul (pc := 61) B dX12_clauseOf_61 ?_
            refine x_iadd (pc := 62) B dX12_clauseOf_62 ?_
            refine x_iload (pc := 63) B 5 dX12_clauseOf_63 rfl ?_
            refine x_iadd (pc := 65) B dX12_clauseOf_65 ?_
            obtain ⟨hk8, h⟩ := ifn h
            refine x_iald (pc := 66) B ai_95 hk8 dX12_clauseOf_66 ?_
            refine x_iload_n (pc := 67) B 1 dX12_clauseOf_67 rfl rfl ?_
            refine jn_k h (fun (u11 : Bool) => XX D ad cI cJ p l e (Rm 509 14195) s m args below meth c Q 7 y3.2.2 108 [(0, .ref (ad 94)), (1, .int a1), (2, .int a2), (3, .int y3.1), (4, .int y1.2.1), (5, .int y3.2.1)] [.int (bI u11)]) (fun u11 h => ?_) (fun k15 h JJ => ?_)
            · refine x_istore (lv' := [(6, .int (bI u11)), (0, .ref (ad 94)), (1, .int a1), (2, .int a2), (3, .int y3.1), (4, .int y1.2.1), (5, .int y3.2.1)]) (pc := 108) B dX12_clauseOf_108 (by decide) rfl ?_
              refine x_iload (pc := 110) B 0 dX12_clauseOf_110 rfl ?_
              refine x_if_eq_b (tgt := 141) (pc := 112) B dX12_clauseOf_112 rfl (fun hc12 => ?_) (fun hc12 => ?_)
              · have h := iff_ hc12 h
                refine x_iload_n (pc := 141) B 4 dX12_clauseOf_141 rfl rfl ?_
                refine x_istore_n (lv' := [(3, .int y3.1), (6, .int (bI u11)), (0, .ref (ad 94)), (1, .int a1), (2, .int a2), (4, .int y1.2.1), (5, .int y3.2.1)]) (pc := 142) B dX12_clauseOf_142 rfl (by decide) rfl ?_
                refine x_iinc (k := 6) (v := y3.2.1 + 1) (lv' := [(5, .int (y3.2.1 + 1)), (3, .int y3.1), (6, .int (bI u11)), (0, .ref (ad 94)), (1, .int a1), (2, .int a2), (4, .int y1.2.1)]) (pc := 143) B dX12_clauseOf_143 rfl rfl (by decide) rfl ?_
                refine x_goto (tgt := 19) (pc := 146) B dX12_clauseOf_146 rfl ?_
                refine x_pick (lv' := [(0, .ref (ad 94)), (1, .int a1), (2, .int a2), (3, .int y3.1), (4, .int y1.2.1), (5, .int (y3.2.1 + 1))]) [3, 4, 5, 1, 6, 0] rfl ?_
                have z := hback (y3.1, y3.2.1 + 1, y3.2.2) (Option.some.inj h).symm
                exact z
              · have h := ift hc12 h
                refine x_aload_n (pc := 115) B 1 dX12_clauseOf_115 rfl rfl ?_
                refine x_bipush (v := 8) (pc := 116) B dX12_clauseOf_116 rfl ?_
                refine x_iload (pc := 118) B 5 dX12_clauseOf_118 rfl ?_
                refine x_imul (pc := 120) B dX12_clauseOf_120 ?_
                refine x_iload (pc := 121) B 6 dX12_clauseOf_121 rfl ?_
                refine x_iadd (pc := 123) B dX12_clauseOf_123 ?_
                obtain ⟨q13, hq13, h⟩ := bnd h
                refine x_callV (rest := []) (st' := [.int (bI q13.1)]) (pc := 124) B oi_94 rfl (C_Mo_holds_94 ((8 * y1.2.1) + y3.2.1) y3.2.2 _ hq13) tw_1519 tw_1516 tw_1518 tw_61 tw_111 hd_Mo_holds_94 ⟨Nat.le_of_ble_eq_true rfl, Nat.le_of_ble_eq_true rfl⟩ rfl rfl (Nat.le_of_ble_eq_true rfl) rfl dX12_clauseOf_124 ?_
                refine x_if_eq_b (tgt := 141) (pc := 127) B dX12_clauseOf_127 rfl (fun hc14 => ?_) (fun hc14 => ?_)
                · have h := iff_ hc14 h
                  refine x_iload_n (pc := 141) B 4 dX12_clauseOf_141 rfl rfl ?_
                  refine x_istore_n (lv' := [(3, .int y3.1), (6, .int (bI u11)), (0, .ref (ad 94)), (1, .int a1), (2, .int a2), (4, .int y1.2.1), (5, .int y3.2.1)]) (pc := 142) B dX12_clauseOf_142 rfl (by decide) rfl ?_
                  refine x_iinc (k := 6) (v := y3.2.1 + 1) (lv' := [(5, .int (y3.2.1 + 1)), (3, .int y3.1), (6, .int (bI u11)), (0, .ref (ad 94)), (1, .int a1), (2, .int a2), (4, .int y1.2.1)]) (pc := 143) B dX12_clauseOf_143 rfl rfl (by decide) rfl ?_
                  refine x_goto (tgt := 19) (pc := 146) B dX12_clauseOf_146 rfl ?_
                  refine x_pick (lv' := [(0, .ref (ad 94)), (1, .int a1), (2, .int a2), (3, .int y3.1), (4, .int y1.2.1), (5, .int (y3.2.1 + 1))]) [3, 4, 5, 1, 6, 0] rfl ?_
                  have z := hback (y3.1, y3.2.1 + 1, q13.2) (Option.some.inj h).symm
                  exact z
                · have h := ift hc14 h
                  refine x_bipush (v := 8) (pc := 130) B dX12_clauseOf_130 rfl ?_
                  refine x_iload (pc := 132) B 5 dX12_clauseOf_132 rfl ?_
                  refine x_imul (pc := 134) B dX12_clauseOf_134 ?_
                  refine x_iload (pc := 135) B 6 dX12_clauseOf_135 rfl ?_
                  refine x_iadd (pc := 137) B dX12_clauseOf_137 ?_
                  refine x_goto (tgt := 142) (pc := 138) B dX12_clauseOf_138 rfl ?_
                  refine x_istore_n (lv' := [(3, .int ((8 * y1.2.1) + y3.2.1)), (6, .int (bI u11)), (0, .ref (ad 94)), (1, .int a1), (2, .int a2), (4, .int y1.2.1), (5, .int y3.2.1)]) (pc := 142) B dX12_clauseOf_142 rfl (by decide) rfl ?_
                  refine x_iinc (k := 6) (v := y3.2.1 + 1) (lv' := [(5, .int (y3.2.1 + 1)), (3, .int ((8 * y1.2.1) + y3.2.1)), (6, .int (bI u11)), (0, .ref (ad 94)), (1, .int a1), (2, .int a2), (4, .int y1.2.1)]) (pc := 143) B dX12_clauseOf_143 rfl rfl (by decide) rfl ?_
                  refine x_goto (tgt := 19) (pc := 146) B dX12_clauseOf_146 rfl ?_
                  refine x_pick (lv' := [(0, .ref (ad 94)), (1, .int a1), (2, .int a2), (3, .int ((8 * y1.2.1) + y3.2.1)), (4, .int y1.2.1), (5, .int (y3.2.1 + 1))]) [3, 4, 5, 1, 6, 0] rfl ?_
                  have z := hback ((8 * y1.2.1) + y3.2.1, y3.2.1 + 1, q13.2) (Option.some.inj h).symm
                  exact z
            · refine x_icmp_ne (tgt := 107) (pc := 68) B dX12_clauseOf_68 rfl (fun hc9 => ?_) (fun hc9 => ?_)
              · have h := iff_ hc9 h
                refine x_iconst (v := 0) (pc := 107) B dX12_clauseOf_107 rfl ?_
                have z := JJ false h
                exact z
              · have h := ift hc9 h
                refine x_iload_n (pc := 71) B 3 dX12_clauseOf_71 rfl rfl ?_
                refine x_iconst (v := (-1)) (pc := 72) B dX12_clauseOf_72 rfl ?_
                refine x_icmp_eq (tgt := 103) (pc := 73) B dX12_clauseOf_73 rfl (fun hc16 => ?_) (fun hc16 => ?_)
                · have h := ift hc16 h
                  refine x_iconst (v := 1) (pc := 103) B dX12_clauseOf_103 rfl ?_
                  refine x_goto (tgt := 108) (pc := 104) B dX12_clauseOf_104 rfl ?_
                  have z := JJ true h
                  exact z
                · have h := iff_ hc16 h
                  refine x_aload_n (pc := 76) B 0 dX12_clauseOf_76 rfl rfl ?_
                  refine x_get (T := TX12) (pc := 77) B 1 oi_94 rfl uw_12 (by decide) rfl tw_1300 rfl dX12_clauseOf_77 ?_
                  refine x_sipush (v := 790) (pc := 80) B dX12_clauseOf_80 rfl ?_
                  refine x_iload (pc := 83) B 4 dX12_clauseOf_83 rfl ?_
                  refine x_iadd (pc := 85) B dX12_clauseOf_85 ?_
                  obtain ⟨hk17, h⟩ := ifn h
                  refine x_iald (pc := 86) B ai_95 hk17 dX12_clauseOf_86 ?_
                  refine x_aload_n (pc := 87) B 0 dX12_clauseOf_87 rfl rfl ?_
                  refine x_get (T := TX12) (pc := 88) B 1 oi_94 rfl uw_12 (by decide) rfl tw_1300 rfl dX12_clauseOf_88 ?_
                  refine x_sipush (v := 790) (pc := 91) B dX12_clauseOf_91 rfl ?_
                  refine x_iload_n (pc := 94) B 3 dX12_clauseOf_94 rfl rfl ?_
                  refine x_bipush (v := 8) (pc := 95) B dX12_clauseOf_95 rfl ?_
                  refine x_idiv (pc := 97) B dX12_clauseOf_97 (by decide) ?_
                  refine x_iadd (pc := 98) B dX12_clauseOf_98 ?_
                  obtain ⟨hk18, h⟩ := ifn h
                  refine x_iald (pc := 99) B ai_95 hk18 dX12_clauseOf_99 ?_
                  refine x_icmp_lt (tgt := 107) (pc := 100) B dX12_clauseOf_100 rfl (fun hc19 => ?_) (fun hc19 => ?_)
                  · have h := ift hc19 h
                    refine x_iconst (v := 0) (pc := 107) B dX12_clauseOf_107 rfl ?_
                    have z := JJ false h
                    exact z
                  · have h := iff_ hc19 h
                    refine x_iconst (v := 1) (pc := 103) B dX12_clauseOf_103 rfl ?_
                    refine x_goto (tgt := 108) (pc := 104) B dX12_clauseOf_104 rfl ?_
                    have z := JJ true h
                    exact z
      · refine x_iinc (k := 4) (v := y1.2.1 + 1) (lv' := [(4, .int (y1.2.1 + 1)), (0, .ref (ad 94)), (1, .int a1), (2, .int a2), (3, .int q20.1)]) (pc := 149) B dX12_clauseOf_149 rfl rfl (by decide) rfl ?_
        refine x_goto (tgt := 5) (pc := 152) B dX12_clauseOf_152 rfl ?_
        refine x_pick (lv' := [(0, .ref (ad 94)), (1, .int a1), (2, .int a2), (3, .int q20.1), (4, .int (y1.2.1 + 1))]) [1, 2, 3, 4, 0] rfl ?_
        have z := hback (q20.1, y1.2.1 + 1, q20.2) (Option.some.inj h).symm
        exact z
  · refine x_iload_n (pc := 155) B 0 dX12_clauseOf_155 rfl rfl ?_
    obtain rfl := Option.some.inj h
    exact x_iret (pc := 156) B hQ dX12_clauseOf_156
-- CurrentFarmsModel.ruleBy(II)I [94]
abbrev y_Mo_ruleBy_94 : MethodName := ⟨"CurrentFarmsModel", "ruleBy", "(II)I"⟩
abbrev cX12_ruleBy : ByteArray := prog_14_method_49_code
theorem dX12_ruleBy_0 : decode cX12_ruleBy 0 = .ok (.aload_n 0, 1) := by decide +kernel
theorem dX12_ruleBy_1 : decode cX12_ruleBy 1 = .ok (.iload_n 1, 1) := by decide +kernel
theorem dX12_ruleBy_2 : decode cX12_ruleBy 2 = .ok (.iload_n 2, 1) := by decide +kernel
theorem dX12_ruleBy_3 : decode cX12_ruleBy 3 = .ok (.invokevirtual 240, 3) := by decide +kernel
theorem dX12_ruleBy_6 : decode cX12_ruleBy 6 = .ok (.istore_n 3, 1) := by decide +kernel
theorem dX12_ruleBy_7 : decode cX12_ruleBy 7 = .ok (.iload_n 3, 1) := by decide +kernel
theorem dX12_ruleBy_8 : decode cX12_ruleBy 8 = .ok (.iconst (-1), 1) := by decide +kernel
theorem dX12_ruleBy_9 : decode cX12_ruleBy 9 = .ok (.if_icmp .eq 47, 3) := by decide +kernel
theorem dX12_ruleBy_12 : decode cX12_ruleBy 12 = .ok (.aload_n 0, 1) := by decide +kernel
theorem dX12_ruleBy_13 : decode cX12_ruleBy 13 = .ok (.iload_n 3, 1) := by decide +kernel
theorem dX12_ruleBy_14 : decode cX12_ruleBy 14 = .ok (.bipush 8, 2) := by decide +kernel
theorem dX12_ruleBy_16 : decode cX12_ruleBy 16 = .ok (.idiv, 1) := by decide +kernel
theorem dX12_ruleBy_17 : decode cX12_ruleBy 17 = .ok (.aload_n 0, 1) := by decide +kernel
theorem dX12_ruleBy_18 : decode cX12_ruleBy 18 = .ok (.getfield 7, 3) := by decide +kernel
theorem dX12_ruleBy_21 : decode cX12_ruleBy 21 = .ok (.sipush 1980, 3) := by decide +kernel
theorem dX12_ruleBy_24 : decode cX12_ruleBy 24 = .ok (.iload_n 3, 1) := by decide +kernel
theorem dX12_ruleBy_25 : decode cX12_ruleBy 25 = .ok (.iadd, 1) := by decide +kernel
theorem dX12_ruleBy_26 : decode cX12_ruleBy 26 = .ok (.iaload, 1) := by decide +kernel
theorem dX12_ruleBy_27 : decode cX12_ruleBy 27 = .ok (.invokevirtual 231, 3) := by decide +kernel
theorem dX12_ruleBy_30 : decode cX12_ruleBy 30 = .ok (.istore 4, 2) := by decide +kernel
theorem dX12_ruleBy_32 : decode cX12_ruleBy 32 = .ok (.iload 4, 2) := by decide +kernel
theorem dX12_ruleBy_34 : decode cX12_ruleBy 34 = .ok (.ifCond .ge 7, 3) := by decide +kernel
theorem dX12_ruleBy_37 : decode cX12_ruleBy 37 = .ok (.iconst 0, 1) := by decide +kernel
theorem dX12_ruleBy_38 : decode cX12_ruleBy 38 = .ok (.goto 17, 3) := by decide +kernel
theorem dX12_ruleBy_41 : decode cX12_ruleBy 41 = .ok (.iload 4, 2) := by decide +kernel
theorem dX12_ruleBy_43 : decode cX12_ruleBy 43 = .ok (.ldc 243, 2) := by decide +kernel
theorem dX12_ruleBy_45 : decode cX12_ruleBy 45 = .ok (.if_icmp .le 8, 3) := by decide +kernel
theorem dX12_ruleBy_48 : decode cX12_ruleBy 48 = .ok (.ldc 243, 2) := by decide +kernel
theorem dX12_ruleBy_50 : decode cX12_ruleBy 50 = .ok (.goto 5, 3) := by decide +kernel
theorem dX12_ruleBy_53 : decode cX12_ruleBy 53 = .ok (.iload 4, 2) := by decide +kernel
theorem dX12_ruleBy_55 : decode cX12_ruleBy 55 = .ok (.ireturn, 1) := by decide +kernel
theorem dX12_ruleBy_56 : decode cX12_ruleBy 56 = .ok (.iload_n 1, 1) := by decide +kernel
theorem dX12_ruleBy_57 : decode cX12_ruleBy 57 = .ok (.tableswitch 47 0 3 #[31, 33, 42, 44], 31) := by decide +kernel
theorem dX12_ruleBy_88 : decode cX12_ruleBy 88 = .ok (.iconst 3, 1) := by decide +kernel
theorem dX12_ruleBy_89 : decode cX12_ruleBy 89 = .ok (.ireturn, 1) := by decide +kernel
theorem dX12_ruleBy_90 : decode cX12_ruleBy 90 = .ok (.iconst 2, 1) := by decide +kernel
theorem dX12_ruleBy_91 : decode cX12_ruleBy 91 = .ok (.aload_n 0, 1) := by decide +kernel
theorem dX12_ruleBy_92 : decode cX12_ruleBy 92 = .ok (.getfield 22, 3) := by decide +kernel
theorem dX12_ruleBy_95 : decode cX12_ruleBy 95 = .ok (.iconst 0, 1) := by decide +kernel
theorem dX12_ruleBy_96 : decode cX12_ruleBy 96 = .ok (.iaload, 1) := by decide +kernel
theorem dX12_ruleBy_97 : decode cX12_ruleBy 97 = .ok (.imul, 1) := by decide +kernel
theorem dX12_ruleBy_98 : decode cX12_ruleBy 98 = .ok (.ireturn, 1) := by decide +kernel
theorem dX12_ruleBy_99 : decode cX12_ruleBy 99 = .ok (.iconst 5, 1) := by decide +kernel
theorem dX12_ruleBy_100 : decode cX12_ruleBy 100 = .ok (.ireturn, 1) := by decide +kernel
theorem dX12_ruleBy_101 : decode cX12_ruleBy 101 = .ok (.bipush 10, 2) := by decide +kernel
theorem dX12_ruleBy_103 : decode cX12_ruleBy 103 = .ok (.ireturn, 1) := by decide +kernel
theorem dX12_ruleBy_104 : decode cX12_ruleBy 104 = .ok (.iconst 0, 1) := by decide +kernel
theorem dX12_ruleBy_105 : decode cX12_ruleBy 105 = .ok (.ireturn, 1) := by decide +kernel
theorem hd_Mo_ruleBy_94 : y_Mo_ruleBy_94.cls ≠ "java/lang/invoke/MethodHandle" ∧ y_Mo_ruleBy_94.cls ≠ "java/lang/invoke/VarHandle" ∧ (parseMethodDescriptor y_Mo_ruleBy_94.desc).map (fun d => d.parameters.length) = some 2 := by decide +kernel
def f_Mo_ruleBy_94 (a1 : Int32) (a2 : Int32) (M0 : Mem) : Option (Int32 × Mem) :=
  (f_Mo_clauseOf_94 a1 a2 M0).bind fun q1 => if decide (q1.1 = (-1)) then (if decide (a1 = 0) then (some (3, q1.2)) else (if decide (a1 = 1) then (some (2 * (q1.2.1 99 0), q1.2)) else (if decide (a1 = 2) then (some (5, q1.2)) else (if decide (a1 = 3) then (some (10, q1.2)) else (some (0, q1.2)))))) else (if inb (1980 + q1.1) 4700 then (f_Mo_worth_94 (q1.1 / 8) (q1.2.1 95 (1980 + q1.1).toNatClampNeg) q1.2).bind fun q4 => if decide (q4.1 < 0) then (some (0, q4.2)) else (if decide (q4.1 ≤ 99999) then (some (q4.1, q4.2)) else (some (99999, q4.2))) else none)
set_option maxHeartbeats 4000000 in
set_option maxRecDepth 20000 in
theorem C_Mo_ruleBy_94 {D : va_G} {ad adK adV : Nat → Nat} {cI cJ : ClassId} {l : Launch} (a1 : Int32) (a2 : Int32) (M0 : Mem) (o : Int32 × Mem) (h : f_Mo_ruleBy_94 a1 a2 M0 = some o) : Ct D ad adK adV cI cJ l y_Mo_ruleBy_94 cX12_ruleBy 5 (some .int) 510 14221 [.ref (ad 94), .int a1, .int a2] M0 (some (.int o.1)) o.2 := by
  refine x_start (lv := [(0, .ref (ad 94)), (1, .int a1), (2, .int a2)]) (own := "CurrentFarmsModel") rfl (by decide) (Nat.le_of_ble_eq_true rfl) rfl ?_
  intro p e s m args below meth c Q hQ B
  unfold f_Mo_ruleBy_94 at h
  refine x_aload_n (pc := 0) B 0 dX12_ruleBy_0 rfl rfl ?_
  refine x_iload_n (pc := 1) B 1 dX12_ruleBy_1 rfl rfl ?_
  refine x_iload_n (pc := 2) B 2 dX12_ruleBy_2 rfl rfl ?_
  obtain ⟨q1, hq1, h⟩ := bnd h
  refine x_callV (rest := []) (st' := [.int q1.1]) (pc := 3) B oi_94 rfl (C_Mo_clauseOf_94 a1 a2 M0 _ hq1) tw_1515 tw_1512 tw_1514 tw_60 tw_111 hd_Mo_clauseOf_94 ⟨Nat.le_of_ble_eq_true rfl, Nat.le_of_ble_eq_true rfl⟩ rfl rfl (Nat.le_of_ble_eq_true rfl) rfl dX12_ruleBy_3 ?_
  refine x_istore_n (lv' := [(3, .int q1.1), (0, .ref (ad 94)), (1, .int a1), (2, .int a2)]) (pc := 6) B dX12_ruleBy_6 rfl (by decide) rfl ?_
  refine x_iload_n (pc := 7) B 0 dX12_ruleBy_7 rfl rfl ?_
  refine x_iconst (v := (-1)) (pc := 8) B dX12_ruleBy_8 rfl ?_
  refine x_icmp_eq (tgt := 56) (pc := 9) B dX12_ruleBy_9 rfl (fun hc2 => ?_) (fun hc2 => ?_)
  · have h := ift hc2 h
    refine x_iload_n (pc := 56) B 2 dX12_ruleBy_56 rfl rfl ?_
    rcases bcase (decide (a1 = 0)) with hc7 | hc7
    · have h := ift hc7 h
      refine x_tableIn (cv := 0) (tgt := 88) (pc := 57) B dX12_ruleBy_57 (of_decide_eq_true hc7) (by decide) (by decide) rfl rfl ?_
      refine x_iconst (v := 3) (pc := 88) B dX12_ruleBy_88 rfl ?_
      obtain rfl := Option.some.inj h
      exact x_iret (pc := 89) B hQ dX12_ruleBy_89
    · have h := iff_ hc7 h
      rcases bcase (decide (a1 = 1)) with hc8 | hc8
      · have h := ift hc8 h
        refine x_tableIn (cv := 1) (tgt := 90) (pc := 57) B dX12_ruleBy_57 (of_decide_eq_true hc8) (by decide) (by decide) rfl rfl ?_
        refine x_iconst (v := 2) (pc := 90) B dX12_ruleBy_90 rfl ?_
        refine x_aload_n (pc := 91) B 1 dX12_ruleBy_91 rfl rfl ?_
        refine x_get (T := TX12) (pc := 92) B 9 oi_94 rfl uw_12 (by decide) rfl tw_1308 rfl dX12_ruleBy_92 ?_
        refine x_iconst (v := 0) (pc := 95) B dX12_ruleBy_95 rfl ?_
        refine x_iald_c (j := 0) (pc := 96) B ai_99 (by decide) rfl dX12_ruleBy_96 ?_
        refine x_imul (pc := 97) B dX12_ruleBy_97 ?_
        obtain rfl := Option.some.inj h
        exact x_iret (pc := 98) B hQ dX12_ruleBy_98
      · have h := iff_ hc8 h
        rcases bcase (decide (a1 = 2)) with hc9 | hc9
        · have h := ift hc9 h
          refine x_tableIn (cv := 2) (tgt := 99) (pc := 57) B dX12_ruleBy_57 (of_decide_eq_true hc9) (by decide) (by decide) rfl rfl ?_
          refine x_iconst (v := 5) (pc := 99) B dX12_ruleBy_99 rfl ?_
          obtain rfl := Option.some.inj h
          exact x_iret (pc := 100) B hQ dX12_ruleBy_100
        · have h := iff_ hc9 h
          rcases bcase (decide (a1 = 3)) with hc10 | hc10
          · have h := ift hc10 h
            refine x_tableIn (cv := 3) (tgt := 101) (pc := 57) B dX12_ruleBy_57 (of_decide_eq_true hc10) (by decide) (by decide) rfl rfl ?_
            refine x_bipush (v := 10) (pc := 101) B dX12_ruleBy_101 rfl ?_
            obtain rfl := Option.some.inj h
            exact x_iret (pc := 103) B hQ dX12_ruleBy_103
          · have h := iff_ hc10 h
            have e0 : ¬ a1.toInt = 0 := fun q => (of_decide_eq_false hc7) (Int32.toInt_inj.mp (q.trans (by decide : (0 : Int) = (0 : Int32).toInt)))
            have e1 : ¬ a1.toInt = 1 := fun q => (of_decide_eq_false hc8) (Int32.toInt_inj.mp (q.trans (by decide : (1 : Int) = (1 : Int32).toInt)))
            have e2 : ¬ a1.toInt = 2 := fun q => (of_decide_eq_false hc9) (Int32.toInt_inj.mp (q.trans (by decide : (2 : Int) = (2 : Int32).toInt)))
            have e3 : ¬ a1.toInt = 3 := fun q => (of_decide_eq_false hc10) (Int32.toInt_inj.mp (q.trans (by decide : (3 : Int) = (3 : Int32).toInt)))
            refine x_tableOut (tgt := 104) (pc := 57) B dX12_ruleBy_57 (by omega) rfl ?_
            refine x_iconst (v := 0) (pc := 104) B dX12_ruleBy_104 rfl ?_
            obtain rfl := Option.some.inj h
            exact x_iret (pc := 105) B hQ dX12_ruleBy_105
  · have h := iff_ hc2 h
    refine x_aload_n (pc := 12) B 1 dX12_ruleBy_12 rfl rfl ?_
    refine x_iload_n (pc := 13) B 0 dX12_ruleBy_13 rfl rfl ?_
    refine x_bipush (v := 8) (pc := 14) B dX12_ruleBy_14 rfl ?_
    refine x_idiv (pc := 16) B dX12_ruleBy_16 (by decide) ?_
    refine x_aload_n (pc := 17) B 1 dX12_ruleBy_17 rfl rfl ?_
    refine x_get (T := TX12) (pc := 18) B 1 oi_94 rfl uw_12 (by decide) rfl tw_1300 rfl dX12_ruleBy_18 ?_
    refine x_sipush (v := 1980) (pc := 21) B dX12_ruleBy_21 rfl ?_
    refine x_iload_n (pc := 24) B 0 dX12_ruleBy_24 rfl rfl ?_
    refine x_iadd (pc := 25) B dX12_ruleBy_25 ?_
    obtain ⟨hk3, h⟩ := ifn h
    refine x_iald (pc := 26) B ai_95 hk3 dX12_ruleBy_26 ?_
    obtain ⟨q4, hq4, h⟩ := bnd h
    refine x_callV (rest := []) (st' := [.int q4.1]) (pc := 27) B oi_94 rfl (C_Mo_worth_94 (q1.1 / 8) (q1.2.1 95 (1980 + q1.1).toNatClampNeg) q1.2 _ hq4) tw_1523 tw_1520 tw_1522 tw_62 tw_111 hd_Mo_worth_94 ⟨Nat.le_of_ble_eq_true rfl, Nat.le_of_ble_eq_true rfl⟩ rfl rfl (Nat.le_of_ble_eq_true rfl) rfl dX12_ruleBy_27 ?_
    refine x_istore (lv' := [(4, .int q4.1), (3, .int q1.1), (0, .ref (ad 94)), (1, .int a1), (2, .int a2)]) (pc := 30) B dX12_ruleBy_30 (by decide) rfl ?_
    refine x_iload (pc := 32) B 0 dX12_ruleBy_32 rfl ?_
    refine x_if_ge (tgt := 41) (pc := 34) B dX12_ruleBy_34 rfl (fun hc5 => ?_) (fun hc5 => ?_)
    · have h := iff_ hc5 h
      refine x_iload (pc := 41) B 0 dX12_ruleBy_41 rfl ?_
      refine x_ldc (v := 99999) (pc := 43) B tw_1567 dX12_ruleBy_43 ?_
      refine x_icmp_le (tgt := 53) (pc := 45) B dX12_ruleBy_45 rfl (fun hc6 => ?_) (fun hc6 => ?_)
      · have h := ift hc6 h
        refine x_iload (pc := 53) B 0 dX12_ruleBy_53 rfl ?_
        obtain rfl := Option.some.inj h
        exact x_iret (pc := 55) B hQ dX12_ruleBy_55
      · have h := iff_ hc6 h
        refine x_ldc (v := 99999) (pc := 48) B tw_1567 dX12_ruleBy_48 ?_
        refine x_goto (tgt := 55) (pc := 50) B dX12_ruleBy_50 rfl ?_
        obtain rfl := Option.some.inj h
        exact x_iret (pc := 55) B hQ dX12_ruleBy_55
    · have h := ift hc5 h
      refine x_iconst (v := 0) (pc := 37) B dX12_ruleBy_37 rfl ?_
      refine x_goto (tgt := 55) (pc := 38) B dX12_ruleBy_38 rfl ?_
      obtain rfl := Option.some.inj h
      exact x_iret (pc := 55) B hQ dX12_ruleBy_55
-- CurrentFarmsModel.billOf(III)I [94]
abbrev y_Mo_billOf_94 : MethodName := ⟨"CurrentFarmsModel", "billOf", "(III)I"⟩
abbrev cX12_billOf : ByteArray := prog_14_method_82_code
theorem dX12_billOf_0 : decode cX12_billOf 0 = .ok (.aload_n 0, 1) := by decide +kernel
theorem dX12_billOf_1 : decode cX12_billOf 1 = .ok (.iload_n 1, 1) := by decide +kernel
theorem dX12_billOf_2 : decode cX12_billOf 2 = .ok (.iload_n 2, 1) := by decide +kernel
theorem dX12_billOf_3 : decode cX12_billOf 3 = .ok (.invokevirtual 285, 3) := by decide +kernel
theorem dX12_billOf_6 : decode cX12_billOf 6 = .ok (.ifCond .ne 5, 3) := by decide +kernel
theorem dX12_billOf_9 : decode cX12_billOf 9 = .ok (.iconst 0, 1) := by decide +kernel
theorem dX12_billOf_10 : decode cX12_billOf 10 = .ok (.ireturn, 1) := by decide +kernel
theorem dX12_billOf_11 : decode cX12_billOf 11 = .ok (.aload_n 0, 1) := by decide +kernel
theorem dX12_billOf_12 : decode cX12_billOf 12 = .ok (.iload_n 1, 1) := by decide +kernel
theorem dX12_billOf_13 : decode cX12_billOf 13 = .ok (.iload_n 2, 1) := by decide +kernel
theorem dX12_billOf_14 : decode cX12_billOf 14 = .ok (.aload_n 0, 1) := by decide +kernel
theorem dX12_billOf_15 : decode cX12_billOf 15 = .ok (.iload_n 1, 1) := by decide +kernel
theorem dX12_billOf_16 : decode cX12_billOf 16 = .ok (.iload_n 2, 1) := by decide +kernel
theorem dX12_billOf_17 : decode cX12_billOf 17 = .ok (.invokevirtual 316, 3) := by decide +kernel
theorem dX12_billOf_20 : decode cX12_billOf 20 = .ok (.iload_n 3, 1) := by decide +kernel
theorem dX12_billOf_21 : decode cX12_billOf 21 = .ok (.invokevirtual 244, 3) := by decide +kernel
theorem dX12_billOf_24 : decode cX12_billOf 24 = .ok (.aload_n 0, 1) := by decide +kernel
theorem dX12_billOf_25 : decode cX12_billOf 25 = .ok (.iconst 1, 1) := by decide +kernel
theorem dX12_billOf_26 : decode cX12_billOf 26 = .ok (.iload_n 2, 1) := by decide +kernel
theorem dX12_billOf_27 : decode cX12_billOf 27 = .ok (.invokevirtual 246, 3) := by decide +kernel
theorem dX12_billOf_30 : decode cX12_billOf 30 = .ok (.aload_n 0, 1) := by decide +kernel
theorem dX12_billOf_31 : decode cX12_billOf 31 = .ok (.iconst 2, 1) := by decide +kernel
theorem dX12_billOf_32 : decode cX12_billOf 32 = .ok (.iload_n 2, 1) := by decide +kernel
theorem dX12_billOf_33 : decode cX12_billOf 33 = .ok (.invokevirtual 246, 3) := by decide +kernel
theorem dX12_billOf_36 : decode cX12_billOf 36 = .ok (.iadd, 1) := by decide +kernel
theorem dX12_billOf_37 : decode cX12_billOf 37 = .ok (.ireturn, 1) := by decide +kernel
theorem hd_Mo_billOf_94 : y_Mo_billOf_94.cls ≠ "java/lang/invoke/MethodHandle" ∧ y_Mo_billOf_94.cls ≠ "java/lang/invoke/VarHandle" ∧ (parseMethodDescriptor y_Mo_billOf_94.desc).map (fun d => d.parameters.length) = some 3 := by decide +kernel
def f_Mo_billOf_94 (a1 : Int32) (a2 : Int32) (a3 : Int32) (M0 : Mem) : Option (Int32 × Mem) :=
  (f_Mo_isServed_94 a1 a2 M0).bind fun q1 => if q1 then ((f_Mo_unitsIn_94 a1 a2 M0).bind fun q3 => (f_Mo_names_94 a1 a2 q3.1 a3 q3.2).bind fun q4 => (f_Mo_ruleBy_94 1 a2 q4).bind fun q5 => (f_Mo_ruleBy_94 2 a2 q5.2).bind fun q6 => some (q5.1 + q6.1, q6.2)) else (some (0, M0))
set_option maxHeartbeats 4000000 in
set_option maxRecDepth 20000 in
theorem C_Mo_billOf_94 {D : va_G} {ad adK adV : Nat → Nat} {cI cJ : ClassId} {l : Launch} (a1 : Int32) (a2 : Int32) (a3 : Int32) (M0 : Mem) (o : Int32 × Mem) (h : f_Mo_billOf_94 a1 a2 a3 M0 = some o) : Ct D ad adK adV cI cJ l y_Mo_billOf_94 cX12_billOf 4 (some .int) 511 14245 [.ref (ad 94), .int a1, .int a2, .int a3] M0 (some (.int o.1)) o.2 := by
  refine x_start (lv := [(0, .ref (ad 94)), (1, .int a1), (2, .int a2), (3, .int a3)]) (own := "CurrentFarmsModel") rfl (by decide) (Nat.le_of_ble_eq_true rfl) rfl ?_
  intro p e s m args below meth c Q hQ B
  unfold f_Mo_billOf_94 at h
  refine x_aload_n (pc := 0) B 0 dX12_billOf_0 rfl rfl ?_
  refine x_iload_n (pc := 1) B 1 dX12_billOf_1 rfl rfl ?_
  refine x_iload_n (pc := 2) B 2 dX12_billOf_2 rfl rfl ?_
  obtain ⟨q1, hq1, h⟩ := bnd h
  refine x_callV (rest := []) (st' := [.int (bI q1)]) (pc := 3) B oi_94 rfl (C_Mo_isServed_94 a1 a2 M0 _ hq1) tw_1491 tw_1488 tw_1490 tw_54 tw_111 hd_Mo_isServed_94 ⟨Nat.le_of_ble_eq_true rfl, Nat.le_of_ble_eq_true rfl⟩ rfl rfl (Nat.le_of_ble_eq_true rfl) rfl dX12_billOf_3 ?_
  refine x_if_ne_b (tgt := 11) (pc := 6) B dX12_billOf_6 rfl (fun hc2 => ?_) (fun hc2 => ?_)
  · have h := ift hc2 h
    refine x_aload_n (pc := 11) B 0 dX12_billOf_11 rfl rfl ?_
    refine x_iload_n (pc := 12) B 1 dX12_billOf_12 rfl rfl ?_
    refine x_iload_n (pc := 13) B 2 dX12_billOf_13 rfl rfl ?_
    refine x_aload_n (pc := 14) B 0 dX12_billOf_14 rfl rfl ?_
    refine x_iload_n (pc := 15) B 1 dX12_billOf_15 rfl rfl ?_
    refine x_iload_n (pc := 16) B 2 dX12_billOf_16 rfl rfl ?_
    obtain ⟨q3, hq3, h⟩ := bnd h
    refine x_callV (rest := [.int a2, .int a1, .ref (ad 94)]) (st' := [.int q3.1, .int a2, .int a1, .ref (ad 94)]) (pc := 17) B oi_94 rfl (C_Mo_unitsIn_94 a1 a2 M0 _ hq3) tw_1495 tw_1492 tw_1494 tw_55 tw_111 hd_Mo_unitsIn_94 ⟨Nat.le_of_ble_eq_true rfl, Nat.le_of_ble_eq_true rfl⟩ rfl rfl (Nat.le_of_ble_eq_true rfl) rfl dX12_billOf_17 ?_
    refine x_iload_n (pc := 20) B 3 dX12_billOf_20 rfl rfl ?_
    obtain ⟨q4, hq4, h⟩ := bnd h
    refine x_callV (rest := []) (st' := []) (pc := 21) B oi_94 rfl (C_Mo_names_94 a1 a2 q3.1 a3 q3.2 _ hq4) tw_1503 tw_1500 tw_1502 tw_57 tw_111 hd_Mo_names_94 ⟨Nat.le_of_ble_eq_true rfl, Nat.le_of_ble_eq_true rfl⟩ rfl rfl (Nat.le_of_ble_eq_true rfl) rfl dX12_billOf_21 ?_
    refine x_aload_n (pc := 24) B 0 dX12_billOf_24 rfl rfl ?_
    refine x_iconst (v := 1) (pc := 25) B dX12_billOf_25 rfl ?_
    refine x_iload_n (pc := 26) B 2 dX12_billOf_26 rfl rfl ?_
    obtain ⟨q5, hq5, h⟩ := bnd h
    refine x_callV (rest := []) (st' := [.int q5.1]) (pc := 27) B oi_94 rfl (C_Mo_ruleBy_94 1 a2 q4 _ hq5) tw_1511 tw_1508 tw_1510 tw_59 tw_111 hd_Mo_ruleBy_94 ⟨Nat.le_of_ble_eq_true rfl, Nat.le_of_ble_eq_true rfl⟩ rfl rfl (Nat.le_of_ble_eq_true rfl) rfl dX12_billOf_27 ?_
    refine x_aload_n (pc := 30) B 0 dX12_billOf_30 rfl rfl ?_
    refine x_iconst (v := 2) (pc := 31) B dX12_billOf_31 rfl ?_
    refine x_iload_n (pc := 32) B 2 dX12_billOf_32 rfl rfl ?_
    obtain ⟨q6, hq6, h⟩ := bnd h
    refine x_callV (rest := [.int q5.1]) (st' := [.int q6.1, .int q5.1]) (pc := 33) B oi_94 rfl (C_Mo_ruleBy_94 2 a2 q5.2 _ hq6) tw_1511 tw_1508 tw_1510 tw_59 tw_111 hd_Mo_ruleBy_94 ⟨Nat.le_of_ble_eq_true rfl, Nat.le_of_ble_eq_true rfl⟩ rfl rfl (Nat.le_of_ble_eq_true rfl) rfl dX12_billOf_33 ?_
    refine x_iadd (pc := 36) B dX12_billOf_36 ?_
    obtain rfl := Option.some.inj h
    exact x_iret (pc := 37) B hQ dX12_billOf_37
  · have h := iff_ hc2 h
    refine x_iconst (v := 0) (pc := 9) B dX12_billOf_9 rfl ?_
    obtain rfl := Option.some.inj h
    exact x_iret (pc := 10) B hQ dX12_billOf_10
-- CurrentFarmsModel.arrears(II)I [94]
abbrev y_Mo_arrears_94 : MethodName := ⟨"CurrentFarmsModel", "arrears", "(II)I"⟩
abbrev cX12_arrears : ByteArray := prog_14_method_83_code
theorem dX12_arrears_0 : decode cX12_arrears 0 = .ok (.aload_n 0, 1) := by decide +kernel
theorem dX12_arrears_1 : decode cX12_arrears 1 = .ok (.getfield 63, 3) := by decide +kernel
theorem dX12_arrears_4 : decode cX12_arrears 4 = .ok (.iload_n 1, 1) := by decide +kernel
theorem dX12_arrears_5 : decode cX12_arrears 5 = .ok (.iaload, 1) := by decide +kernel
theorem dX12_arrears_6 : decode cX12_arrears 6 = .ok (.aload_n 0, 1) := by decide +kernel
theorem dX12_arrears_7 : decode cX12_arrears 7 = .ok (.getfield 50, 3) := by decide +kernel
theorem dX12_arrears_10 : decode cX12_arrears 10 = .ok (.if_icmp .eq 142, 3) := by decide +kernel
theorem dX12_arrears_13 : decode cX12_arrears 13 = .ok (.aload_n 0, 1) := by decide +kernel
theorem dX12_arrears_14 : decode cX12_arrears 14 = .ok (.getfield 63, 3) := by decide +kernel
theorem dX12_arrears_17 : decode cX12_arrears 17 = .ok (.iload_n 1, 1) := by decide +kernel
theorem dX12_arrears_18 : decode cX12_arrears 18 = .ok (.aload_n 0, 1) := by decide +kernel
theorem dX12_arrears_19 : decode cX12_arrears 19 = .ok (.getfield 50, 3) := by decide +kernel
theorem dX12_arrears_22 : decode cX12_arrears 22 = .ok (.iastore, 1) := by decide +kernel
theorem dX12_arrears_23 : decode cX12_arrears 23 = .ok (.lconst 0, 1) := by decide +kernel
theorem dX12_arrears_24 : decode cX12_arrears 24 = .ok (.lstore_n 3, 1) := by decide +kernel
theorem dX12_arrears_25 : decode cX12_arrears 25 = .ok (.iconst 0, 1) := by decide +kernel
theorem dX12_arrears_26 : decode cX12_arrears 26 = .ok (.istore 5, 2) := by decide +kernel
theorem dX12_arrears_28 : decode cX12_arrears 28 = .ok (.iload 5, 2) := by decide +kernel
theorem dX12_arrears_30 : decode cX12_arrears 30 = .ok (.bipush 120, 2) := by decide +kernel
theorem dX12_arrears_32 : decode cX12_arrears 32 = .ok (.if_icmp .gt 120, 3) := by decide +kernel
theorem dX12_arrears_35 : decode cX12_arrears 35 = .ok (.lload_n 3, 1) := by decide +kernel
theorem dX12_arrears_36 : decode cX12_arrears 36 = .ok (.l2i, 1) := by decide +kernel
theorem dX12_arrears_37 : decode cX12_arrears 37 = .ok (.istore 6, 2) := by decide +kernel
theorem dX12_arrears_39 : decode cX12_arrears 39 = .ok (.lload_n 3, 1) := by decide +kernel
theorem dX12_arrears_40 : decode cX12_arrears 40 = .ok (.aload_n 0, 1) := by decide +kernel
theorem dX12_arrears_41 : decode cX12_arrears 41 = .ok (.iload_n 1, 1) := by decide +kernel
theorem dX12_arrears_42 : decode cX12_arrears 42 = .ok (.iload 5, 2) := by decide +kernel
theorem dX12_arrears_44 : decode cX12_arrears 44 = .ok (.iload 6, 2) := by decide +kernel
theorem dX12_arrears_46 : decode cX12_arrears 46 = .ok (.invokevirtual 319, 3) := by decide +kernel
theorem dX12_arrears_49 : decode cX12_arrears 49 = .ok (.aload_n 0, 1) := by decide +kernel
theorem dX12_arrears_50 : decode cX12_arrears 50 = .ok (.getfield 7, 3) := by decide +kernel
theorem dX12_arrears_53 : decode cX12_arrears 53 = .ok (.sipush 3490, 3) := by decide +kernel
theorem dX12_arrears_56 : decode cX12_arrears 56 = .ok (.bipush 121, 2) := by decide +kernel
theorem dX12_arrears_58 : decode cX12_arrears 58 = .ok (.iload_n 1, 1) := by decide +kernel
theorem dX12_arrears_59 : decode cX12_arrears 59 = .ok (.imul, 1) := by decide +kernel
theorem dX12_arrears_60 : decode cX12_arrears 60 = .ok (.iadd, 1) := by decide +kernel
theorem dX12_arrears_61 : decode cX12_arrears 61 = .ok (.iload 5, 2) := by decide +kernel
theorem dX12_arrears_63 : decode cX12_arrears 63 = .ok (.iadd, 1) := by decide +kernel
theorem dX12_arrears_64 : decode cX12_arrears 64 = .ok (.iaload, 1) := by decide +kernel
theorem dX12_arrears_65 : decode cX12_arrears 65 = .ok (.isub, 1) := by decide +kernel
theorem dX12_arrears_66 : decode cX12_arrears 66 = .ok (.i2l, 1) := by decide +kernel
theorem dX12_arrears_67 : decode cX12_arrears 67 = .ok (.ladd, 1) := by decide +kernel
theorem dX12_arrears_68 : decode cX12_arrears 68 = .ok (.lstore_n 3, 1) := by decide +kernel
theorem dX12_arrears_69 : decode cX12_arrears 69 = .ok (.lload_n 3, 1) := by decide +kernel
theorem dX12_arrears_70 : decode cX12_arrears 70 = .ok (.lconst 0, 1) := by decide +kernel
theorem dX12_arrears_71 : decode cX12_arrears 71 = .ok (.lcmp, 1) := by decide +kernel
theorem dX12_arrears_72 : decode cX12_arrears 72 = .ok (.ifCond .le 30, 3) := by decide +kernel
theorem dX12_arrears_75 : decode cX12_arrears 75 = .ok (.aload_n 0, 1) := by decide +kernel
theorem dX12_arrears_76 : decode cX12_arrears 76 = .ok (.iload_n 1, 1) := by decide +kernel
theorem dX12_arrears_77 : decode cX12_arrears 77 = .ok (.iload 5, 2) := by decide +kernel
theorem dX12_arrears_79 : decode cX12_arrears 79 = .ok (.iconst 0, 1) := by decide +kernel
theorem dX12_arrears_80 : decode cX12_arrears 80 = .ok (.iload 6, 2) := by decide +kernel
theorem dX12_arrears_82 : decode cX12_arrears 82 = .ok (.invokevirtual 244, 3) := by decide +kernel
theorem dX12_arrears_85 : decode cX12_arrears 85 = .ok (.lload_n 3, 1) := by decide +kernel
theorem dX12_arrears_86 : decode cX12_arrears 86 = .ok (.lload_n 3, 1) := by decide +kernel
theorem dX12_arrears_87 : decode cX12_arrears 87 = .ok (.aload_n 0, 1) := by decide +kernel
theorem dX12_arrears_88 : decode cX12_arrears 88 = .ok (.iconst 3, 1) := by decide +kernel
theorem dX12_arrears_89 : decode cX12_arrears 89 = .ok (.iload 5, 2) := by decide +kernel
theorem dX12_arrears_91 : decode cX12_arrears 91 = .ok (.invokevirtual 246, 3) := by decide +kernel
theorem dX12_arrears_94 : decode cX12_arrears 94 = .ok (.i2l, 1) := by decide +kernel
theorem dX12_arrears_95 : decode cX12_arrears 95 = .ok (.lmul, 1) := by decide +kernel
theorem dX12_arrears_96 : decode cX12_arrears 96 = .ok (.ldc2_w 322, 3) := by decide +kernel
theorem dX12_arrears_99 : decode cX12_arrears 99 = .ok (.ldiv, 1) := by decide +kernel
theorem dX12_arrears_100 : decode cX12_arrears 100 = .ok (.ladd, 1) := by decide +kernel
theorem dX12_arrears_101 : decode cX12_arrears 101 = .ok (.lstore_n 3, 1) := by decide +kernel
theorem dX12_arrears_102 : decode cX12_arrears 102 = .ok (.lload_n 3, 1) := by decide +kernel
theorem dX12_arrears_103 : decode cX12_arrears 103 = .ok (.ldc2_w 307, 3) := by decide +kernel
theorem dX12_arrears_106 : decode cX12_arrears 106 = .ok (.lcmp, 1) := by decide +kernel
theorem dX12_arrears_107 : decode cX12_arrears 107 = .ok (.ifCond .le 9, 3) := by decide +kernel
theorem dX12_arrears_110 : decode cX12_arrears 110 = .ok (.ldc2_w 307, 3) := by decide +kernel
theorem dX12_arrears_113 : decode cX12_arrears 113 = .ok (.goto 18, 3) := by decide +kernel
theorem dX12_arrears_116 : decode cX12_arrears 116 = .ok (.lload_n 3, 1) := by decide +kernel
theorem dX12_arrears_117 : decode cX12_arrears 117 = .ok (.ldc2_w 324, 3) := by decide +kernel
theorem dX12_arrears_120 : decode cX12_arrears 120 = .ok (.lcmp, 1) := by decide +kernel
theorem dX12_arrears_121 : decode cX12_arrears 121 = .ok (.ifCond .ge 9, 3) := by decide +kernel
theorem dX12_arrears_124 : decode cX12_arrears 124 = .ok (.ldc2_w 324, 3) := by decide +kernel
theorem dX12_arrears_127 : decode cX12_arrears 127 = .ok (.goto 4, 3) := by decide +kernel
theorem dX12_arrears_130 : decode cX12_arrears 130 = .ok (.lload_n 3, 1) := by decide +kernel
theorem dX12_arrears_131 : decode cX12_arrears 131 = .ok (.lstore_n 3, 1) := by decide +kernel
theorem dX12_arrears_132 : decode cX12_arrears 132 = .ok (.aload_n 0, 1) := by decide +kernel
theorem dX12_arrears_133 : decode cX12_arrears 133 = .ok (.getfield 60, 3) := by decide +kernel
theorem dX12_arrears_136 : decode cX12_arrears 136 = .ok (.bipush 121, 2) := by decide +kernel
theorem dX12_arrears_138 : decode cX12_arrears 138 = .ok (.iload_n 1, 1) := by decide +kernel
theorem dX12_arrears_139 : decode cX12_arrears 139 = .ok (.imul, 1) := by decide +kernel
theorem dX12_arrears_140 : decode cX12_arrears 140 = .ok (.iload 5, 2) := by decide +kernel
theorem dX12_arrears_142 : decode cX12_arrears 142 = .ok (.iadd, 1) := by decide +kernel
theorem dX12_arrears_143 : decode cX12_arrears 143 = .ok (.lload_n 3, 1) := by decide +kernel
theorem dX12_arrears_144 : decode cX12_arrears 144 = .ok (.l2i, 1) := by decide +kernel
theorem dX12_arrears_145 : decode cX12_arrears 145 = .ok (.iastore, 1) := by decide +kernel
theorem dX12_arrears_146 : decode cX12_arrears 146 = .ok (.iinc 5 1, 3) := by decide +kernel
theorem dX12_arrears_149 : decode cX12_arrears 149 = .ok (.goto (-121), 3) := by decide +kernel
theorem dX12_arrears_152 : decode cX12_arrears 152 = .ok (.aload_n 0, 1) := by decide +kernel
theorem dX12_arrears_153 : decode cX12_arrears 153 = .ok (.getfield 60, 3) := by decide +kernel
theorem dX12_arrears_156 : decode cX12_arrears 156 = .ok (.bipush 121, 2) := by decide +kernel
theorem dX12_arrears_158 : decode cX12_arrears 158 = .ok (.iload_n 1, 1) := by decide +kernel
theorem dX12_arrears_159 : decode cX12_arrears 159 = .ok (.imul, 1) := by decide +kernel
theorem dX12_arrears_160 : decode cX12_arrears 160 = .ok (.iload_n 2, 1) := by decide +kernel
theorem dX12_arrears_161 : decode cX12_arrears 161 = .ok (.iadd, 1) := by decide +kernel
theorem dX12_arrears_162 : decode cX12_arrears 162 = .ok (.iaload, 1) := by decide +kernel
theorem dX12_arrears_163 : decode cX12_arrears 163 = .ok (.ireturn, 1) := by decide +kernel
theorem hd_Mo_arrears_94 : y_Mo_arrears_94.cls ≠ "java/lang/invoke/MethodHandle" ∧ y_Mo_arrears_94.cls ≠ "java/lang/invoke/VarHandle" ∧ (parseMethodDescriptor y_Mo_arrears_94.desc).map (fun d => d.parameters.length) = some 2 := by decide +kernel
def b_Mo_arrears_94_28 (a1 : Int32) (y9 : Int64 × Int32 × Mem) : Option ((Int64 × Int32 × Mem) ⊕ (Mem)) :=
  if decide (y9.2.1 ≤ 120) then ((f_Mo_billOf_94 a1 y9.2.1 y9.1.toInt32 y9.2.2).bind fun q11 => if inb ((3490 + (121 * a1)) + y9.2.1) 4700 then jv_ (y9.1 + ((q11.1 - (q11.2.1 95 ((3490 + (121 * a1)) + y9.2.1).toNatClampNeg)).toInt64) : Int64) fun x13 => jn_ (fun (u17 : Int64 × Mem) => jv_ ((if decide ((lg_cmp u17.1 1000000000) ≤ 0) then (if decide ((lg_cmp u17.1 (-1000000000)) < 0) then (-1000000000) else u17.1) else 1000000000) : Int64) fun u20 => if inb ((121 * a1) + y9.2.1) 1210 then jv_ (wI u17.2 110 ((121 * a1) + y9.2.1).toNatClampNeg u20.toInt32) fun M22 => some (.inl (u20, y9.2.1 + 1, M22)) else none) fun k24 => if decide ((lg_cmp x13 0) ≤ 0) then (k24 (x13, q11.2)) else ((f_Mo_names_94 a1 y9.2.1 0 y9.1.toInt32 q11.2).bind fun q25 => (f_Mo_ruleBy_94 3 y9.2.1 q25).bind fun q26 => k24 (x13 + ((x13 * q26.1.toInt64) / 100), q26.2)) else none) else (some (.inr y9.2.2))
def f_Mo_arrears_94 (a1 : Int32) (a2 : Int32) (M0 : Mem) : Option (Int32 × Mem) :=
  if inb a1 10 then jn_ (fun (u4 : Mem) => if inb ((121 * a1) + a2) 1210 then some (u4.1 110 ((121 * a1) + a2).toNatClampNeg, u4) else none) fun k6 => if decide ((M0.1 111 a1.toNatClampNeg) = (M0.1 94 21)) then (k6 M0) else (if inb a1 10 then jv_ (wI M0 111 a1.toNatClampNeg (M0.1 94 21)) fun M8 => (itr (b_Mo_arrears_94_28 a1) FU (0, 0, M8)).bind fun q27 => k6 q27 else none) else none
set_option maxHeartbeats 4000000 in
set_option maxRecDepth 20000 in
theorem C_Mo_arrears_94 {D : va_G} {ad adK adV : Nat → Nat} {cI cJ : ClassId} {l : Launch} (a1 : Int32) (a2 : Int32) (M0 : Mem) (o : Int32 × Mem) (h : f_Mo_arrears_94 a1 a2 M0 = some o) : Ct D ad adK adV cI cJ l y_Mo_arrears_94 cX12_arrears 7 (some .int) 512 14268 [.ref (ad 94), .int a1, .int a2] M0 (some (.int o.1)) o.2 := by
  refine x_start (lv := [(0, .ref (ad 94)), (1, .int a1), (2, .int a2)]) (own := "CurrentFarmsModel") rfl (by decide) (Nat.le_of_ble_eq_true rfl) rfl ?_
  intro p e s m args below meth c Q hQ B
  unfold f_Mo_arrears_94 at h
  refine x_aload_n (pc := 0) B 0 dX12_arrears_0 rfl rfl ?_
  refine x_get (T := TX12) (pc := 1) B 25 oi_94 rfl uw_12 (by decide) rfl tw_1324 rfl dX12_arrears_1 ?_
  refine x_iload_n (pc := 4) B 1 dX12_arrears_4 rfl rfl ?_
  obtain ⟨hk1, h⟩ := ifn h
  refine x_iald (pc := 5) B ai_111 hk1 dX12_arrears_5 ?_
  refine x_aload_n (pc := 6) B 0 dX12_arrears_6 rfl rfl ?_
  refine x_get (T := TX12) (pc := 7) B 21 oi_94 rfl uw_12 (by decide) rfl tw_1320 rfl dX12_arrears_7 ?_
  refine jn_k h (fun (u4 : Mem) => XX D ad cI cJ p l e (Rm 512 14268) s m args below meth c Q 7 u4 152 [(0, .ref (ad 94)), (1, .int a1), (2, .int a2)] []) (fun u4 h => ?_) (fun k6 h JJ => ?_)
  · refine x_aload_n (pc := 152) B 0 dX12_arrears_152 rfl rfl ?_
    refine x_get (T := TX12) (pc := 153) B 24 oi_94 rfl uw_12 (by decide) rfl tw_1323 rfl dX12_arrears_153 ?_
    refine x_bipush (v := 121) (pc := 156) B dX12_arrears_156 rfl ?_
    refine x_iload_n (pc := 158) B 1 dX12_arrears_158 rfl rfl ?_
    refine x_imul (pc := 159) B dX12_arrears_159 ?_
    refine x_iload_n (pc := 160) B 2 dX12_arrears_160 rfl rfl ?_
    refine x_iadd (pc := 161) B dX12_arrears_161 ?_
    obtain ⟨hk5, h⟩ := ifn h
    refine x_iald (pc := 162) B ai_110 hk5 dX12_arrears_162 ?_
    obtain rfl := Option.some.inj h
    exact x_iret (pc := 163) B hQ dX12_arrears_163
  · refine x_icmp_eq (tgt := 152) (pc := 10) B dX12_arrears_10 rfl (fun hc2 => ?_) (fun hc2 => ?_)
    · have h := ift hc2 h
      have z := JJ M0 h
      exact z
    · have h := iff_ hc2 h
      refine x_aload_n (pc := 13) B 0 dX12_arrears_13 rfl rfl ?_
      refine x_get (T := TX12) (pc := 14) B 25 oi_94 rfl uw_12 (by decide) rfl tw_1324 rfl dX12_arrears_14 ?_
      refine x_iload_n (pc := 17) B 1 dX12_arrears_17 rfl rfl ?_
      refine x_aload_n (pc := 18) B 0 dX12_arrears_18 rfl rfl ?_
      refine x_get (T := TX12) (pc := 19) B 21 oi_94 rfl uw_12 (by decide) rfl tw_1320 rfl dX12_arrears_19 ?_
      obtain ⟨hk7, h⟩ := ifn h
      refine x_iast (pc := 22) B ai_111 hk7 dX12_arrears_22 ?_
      refine jv_m (P := fun M8 => XX D ad cI cJ p l e (Rm 512 14268) s m args below meth c Q 7 M8 23 [(0, .ref (ad 94)), (1, .int a1), (2, .int a2)] []) h (fun M8 h => ?_)
      refine x_lconst (v := 0) (pc := 23) B dX12_arrears_23 rfl ?_
      refine x_lstore_n (lv' := [(3, .long 0), (0, .ref (ad 94)), (1, .int a1), (2, .int a2)]) (pc := 24) B dX12_arrears_24 rfl (by decide) rfl ?_
      refine x_iconst (v := 0) (pc := 25) B dX12_arrears_25 rfl ?_
      refine x_istore (lv' := [(5, .int 0), (3, .long 0), (0, .ref (ad 94)), (1, .int a1), (2, .int a2)]) (pc := 26) B dX12_arrears_26 (by decide) rfl ?_
      refine x_pick (lv' := [(0, .ref (ad 94)), (1, .int a1), (2, .int a2), (3, .long 0), (5, .int 0)]) [2, 3, 4, 1, 0] rfl ?_
      obtain ⟨q27, hq27, h⟩ := bnd h
      refine x_loop (Head := fun (y9 : Int64 × Int32 × Mem) => XX D ad cI cJ p l e (Rm 512 14268) s m args below meth c Q 7 y9.2.2 28 [(0, .ref (ad 94)), (1, .int a1), (2, .int a2), (3, .long y9.1), (5, .int y9.2.1)] []) (Ex := fun (q27 : Mem) => XX D ad cI cJ p l e (Rm 512 14268) s m args below meth c Q 7 q27 152 [(0, .ref (ad 94)), (1, .int a1), (2, .int a2)] []) (fun y9 r h hback hexit => ?_) FU _ q27 hq27 ?_
      · unfold b_Mo_arrears_94_28 at h
        refine x_iload (pc := 28) B 4 dX12_arrears_28 rfl ?_
        refine x_bipush (v := 120) (pc := 30) B dX12_arrears_30 rfl ?_
        refine x_icmp_gt (tgt := 152) (pc := 32) B dX12_arrears_32 rfl (fun hc10 => ?_) (fun hc10 => ?_)
        · have h := iff_ hc10 h
          refine x_pick (lv' := [(0, .ref (ad 94)), (1, .int a1), (2, .int a2)]) [0, 1, 2] rfl ?_
          have z := hexit y9.2.2 (Option.some.inj h).symm
          exact z
        · have h := ift hc10 h
          refine x_lload_n (pc := 35) B 3 dX12_arrears_35 rfl rfl ?_
          refine x_l2i (pc := 36) B dX12_arrears_36 ?_
          refine x_istore (lv' := [(6, .int y9.1.toInt32), (0, .ref (ad 94)), (1, .int a1), (2, .int a2), (3, .long y9.1), (5, .int y9.2.1)]) (pc := 37) B dX12_arrears_37 (by decide) rfl ?_
          refine x_lload_n (pc := 39) B 4 dX12_arrears_39 rfl rfl ?_
          refine x_aload_n (pc := 40) B 1 dX12_arrears_40 rfl rfl ?_
          refine x_iload_n (pc := 41) B 2 dX12_arrears_41 rfl rfl ?_
          refine x_iload (pc := 42) B 5 dX12_arrears_42 rfl ?_
          refine x_iload (pc := 44) B 0 dX12_arrears_44 rfl ?_
          obtain ⟨q11, hq11, h⟩ := bnd h
          refine x_callV (rest := [.long y9.1]) (st' := [.int q11.1, .long y9.1]) (pc := 46) B oi_94 rfl (C_Mo_billOf_94 a1 y9.2.1 y9.1.toInt32 y9.2.2 _ hq11) tw_1487 tw_1484 tw_1486 tw_53 tw_111 hd_Mo_billOf_94 ⟨Nat.le_of_ble_eq_true rfl, Nat.le_of_ble_eq_true rfl⟩ rfl rfl (Nat.le_of_ble_eq_true rfl) rfl dX12_arrears_46 ?_
          refine x_aload_n (pc := 49) B 1 dX12_arrears_49 rfl rfl ?_
          refine x_get (T := TX12) (pc := 50) B 1 oi_94 rfl uw_12 (by decide) rfl tw_1300 rfl dX12_arrears_50 ?_
          refine x_sipush (v := 3490) (pc := 53) B dX12_arrears_53 rfl ?_
          refine x_bipush (v := 121) (pc := 56) B dX12_arrears_56 rfl ?_
          refine x_iload_n (pc := 58) B 2 dX12_arrears_58 rfl rfl ?_
          refine x_imul (pc := 59) B dX12_arrears_59 ?_
          refine x_iadd (pc := 60) B dX12_arrears_60 ?_
          refine x_iload (pc := 61) B 5 dX12_arrears_61 rfl ?_
          refine x_iadd (pc := 63) B dX12_arrears_63 ?_
          obtain ⟨hk12, h⟩ := ifn h
          refine x_iald (pc := 64) B ai_95 hk12 dX12_arrears_64 ?_
          refine x_isub (pc := 65) B dX12_arrears_65 ?_
          refine x_i2l (pc := 66) B dX12_arrears_66 ?_
          refine x_ladd (pc := 67) B dX12_arrears_67 ?_
          refine jv_m (P := fun (x13 : Int64) => XX D ad cI cJ p l e (Rm 512 14268) s m args below meth c Q 7 q11.2 68 [(6, .int y9.1.toInt32), (0, .ref (ad 94)), (1, .int a1), (2, .int a2), (3, .long y9.1), (5, .int y9.2.1)] [.long x13]) h (fun x13 h => ?_)
          refine x_lstore_n (lv' := [(3, .long x13), (6, .int y9.1.toInt32), (0, .ref (ad 94)), (1, .int a1), (2, .int a2), (5, .int y9.2.1)]) (pc := 68) B dX12_arrears_68 rfl (by decide) rfl ?_
          refine x_lload_n (pc := 69) B 0 dX12_arrears_69 rfl rfl ?_
          refine x_lconst (v := 0) (pc := 70) B dX12_arrears_70 rfl ?_
          refine x_lcmp (pc := 71) B dX12_arrears_71 ?_
          refine jn_k h (fun (u17 : Int64 × Mem) => XX D ad cI cJ p l e (Rm 512 14268) s m args below meth c Q 7 u17.2 102 [(0, .ref (ad 94)), (1, .int a1), (2, .int a2), (3, .long u17.1), (5, .int y9.2.1)] []) (fun u17 h => ?_) (fun k24 h JJ => ?_)
          · refine x_lload_n (pc := 102) B 3 dX12_arrears_102 rfl rfl ?_
            refine x_ldc2 (v := 1000000000) (pc := 103) B tw_1569 dX12_arrears_103 ?_
            refine x_lcmp (pc := 106) B dX12_arrears_106 ?_
            refine jv_k h (fun (u20 : Int64) => XX D ad cI cJ p l e (Rm 512 14268) s m args below meth c Q 7 u17.2 131 [(0, .ref (ad 94)), (1, .int a1), (2, .int a2), (5, .int y9.2.1)] [.long u20]) (fun u20 h => ?_) (fun JJ => ?_)
            · refine x_lstore_n (lv' := [(3, .long u20), (0, .ref (ad 94)), (1, .int a1), (2, .int a2), (5, .int y9.2.1)]) (pc := 131) B dX12_arrears_131 rfl (by decide) rfl ?_
              refine x_aload_n (pc := 132) B 1 dX12_arrears_132 rfl rfl ?_
              refine x_get (T := TX12) (pc := 133) B 24 oi_94 rfl uw_12 (by decide) rfl tw_1323 rfl dX12_arrears_133 ?_
              refine x_bipush (v := 121) (pc := 136) B dX12_arrears_136 rfl ?_
              refine x_iload_n (pc := 138) B 2 dX12_arrears_138 rfl rfl ?_
              refine x_imul (pc := 139) B dX12_arrears_139 ?_
              refine x_iload (pc := 140) B 4 dX12_arrears_140 rfl ?_
              refine x_iadd (pc := 142) B dX12_arrears_142 ?_
              refine x_lload_n (pc := 143) B 0 dX12_arrears_143 rfl rfl ?_
              refine x_l2i (pc := 144) B dX12_arrears_144 ?_
              obtain ⟨hk21, h⟩ := ifn h
              refine x_iast (pc := 145) B ai_110 hk21 dX12_arrears_145 ?_
              refine jv_m (P := fun M22 => XX D ad cI cJ p l e (Rm 512 14268) s m args below meth c Q 7 M22 146 [(3, .long u20), (0, .ref (ad 94)), (1, .int a1), (2, .int a2), (5, .int y9.2.1)] []) h (fun M22 h => ?_)
              refine x_iinc (k := 4) (v := y9.2.1 + 1) (lv' := [(5, .int (y9.2.1 + 1)), (3, .long u20), (0, .ref (ad 94)), (1, .int a1), (2, .int a2)]) (pc := 146) B dX12_arrears_146 rfl rfl (by decide) rfl ?_
              refine x_goto (tgt := 28) (pc := 149) B dX12_arrears_149 rfl ?_
              refine x_pick (lv' := [(0, .ref (ad 94)), (1, .int a1), (2, .int a2), (3, .long u20), (5, .int (y9.2.1 + 1))]) [2, 3, 4, 1, 0] rfl ?_
              have z := hback (u20, y9.2.1 + 1, M22) (Option.some.inj h).symm
              exact z
            · refine x_if_le (tgt := 116) (pc := 107) B dX12_arrears_107 rfl (fun hc18 => ?_) (fun hc18 => ?_)
              · refine x_lload_n (pc := 116) B 3 dX12_arrears_116 rfl rfl ?_
                refine x_ldc2 (v := (-1000000000)) (pc := 117) B tw_1570 dX12_arrears_117 ?_
                refine x_lcmp (pc := 120) B dX12_arrears_120 ?_
                refine x_if_ge (tgt := 130) (pc := 121) B dX12_arrears_121 rfl (fun hc23 => ?_) (fun hc23 => ?_)
                · refine x_lload_n (pc := 130) B 3 dX12_arrears_130 rfl rfl ?_
                  refine x_pick (lv' := [(0, .ref (ad 94)), (1, .int a1), (2, .int a2), (5, .int y9.2.1)]) [0, 1, 2, 4] rfl ?_
                  have z := JJ u17.1 ((zif_t hc18).trans ((zif_f hc23).trans rfl))
                  exact z
                · refine x_ldc2 (v := (-1000000000)) (pc := 124) B tw_1570 dX12_arrears_124 ?_
                  refine x_goto (tgt := 131) (pc := 127) B dX12_arrears_127 rfl ?_
                  refine x_pick (lv' := [(0, .ref (ad 94)), (1, .int a1), (2, .int a2), (5, .int y9.2.1)]) [0, 1, 2, 4] rfl ?_
                  have z := JJ (-1000000000) ((zif_t hc18).trans ((zif_t hc23).trans rfl))
                  exact z
              · refine x_ldc2 (v := 1000000000) (pc := 110) B tw_1569 dX12_arrears_110 ?_
                refine x_goto (tgt := 131) (pc := 113) B dX12_arrears_113 rfl ?_
                refine x_pick (lv' := [(0, .ref (ad 94)), (1, .int a1), (2, .int a2), (5, .int y9.2.1)]) [0, 1, 2, 4] rfl ?_
                have z := JJ 1000000000 ((zif_f hc18).trans rfl)
                exact z
          · refine x_if_le (tgt := 102) (pc := 72) B dX12_arrears_72 rfl (fun hc14 => ?_) (fun hc14 => ?_)
            · have h := ift hc14 h
              refine x_pick (lv' := [(0, .ref (ad 94)), (1, .int a1), (2, .int a2), (3, .long x13), (5, .int y9.2.1)]) [2, 3, 4, 0, 5] rfl ?_
              have z := JJ (x13, q11.2) h
              exact z
            · have h := iff_ hc14 h
              refine x_aload_n (pc := 75) B 2 dX12_arrears_75 rfl rfl ?_
              refine x_iload_n (pc := 76) B 3 dX12_arrears_76 rfl rfl ?_
              refine x_iload (pc := 77) B 5 dX12_arrears_77 rfl ?_
              refine x_iconst (v := 0) (pc := 79) B dX12_arrears_79 rfl ?_
              refine x_iload (pc := 80) B 1 dX12_arrears_80 rfl ?_
              obtain ⟨q25, hq25, h⟩ := bnd h
              refine x_callV (rest := []) (st' := []) (pc := 82) B oi_94 rfl (C_Mo_names_94 a1 y9.2.1 0 y9.1.toInt32 q11.2 _ hq25) tw_1503 tw_1500 tw_1502 tw_57 tw_111 hd_Mo_names_94 ⟨Nat.le_of_ble_eq_true rfl, Nat.le_of_ble_eq_true rfl⟩ rfl rfl (Nat.le_of_ble_eq_true rfl) rfl dX12_arrears_82 ?_
              refine x_lload_n (pc := 85) B 0 dX12_arrears_85 rfl rfl ?_
              refine x_lload_n (pc := 86) B 0 dX12_arrears_86 rfl rfl ?_
              refine x_aload_n (pc := 87) B 2 dX12_arrears_87 rfl rfl ?_
              refine x_iconst (v := 3) (pc := 88) B dX12_arrears_88 rfl ?_
              refine x_iload (pc := 89) B 5 dX12_arrears_89 rfl ?_
              obtain ⟨q26, hq26, h⟩ := bnd h
              refine x_callV (rest := [.long x13, .long x13]) (st' := [.int q26.1, .long x13, .long x13]) (pc := 91) B oi_94 rfl (C_Mo_ruleBy_94 3 y9.2.1 q25 _ hq26) tw_1511 tw_1508 tw_1510 tw_59 tw_111 hd_Mo_ruleBy_94 ⟨Nat.le_of_ble_eq_true rfl, Nat.le_of_ble_eq_true rfl⟩ rfl rfl (Nat.le_of_ble_eq_true rfl) rfl dX12_arrears_91 ?_
              refine x_i2l (pc := 94) B dX12_arrears_94 ?_
              refine x_lmul (pc := 95) B dX12_arrears_95 ?_
              refine x_ldc2 (v := 100) (pc := 96) B tw_1568 dX12_arrears_96 ?_
              refine x_ldiv (pc := 99) B dX12_arrears_99 (by decide) ?_
              refine x_ladd (pc := 100) B dX12_arrears_100 ?_
              refine x_lstore_n (lv' := [(3, .long (x13 + ((x13 * q26.1.toInt64) / 100))), (6, .int y9.1.toInt32), (0, .ref (ad 94)), (1, .int a1), (2, .int a2), (5, .int y9.2.1)]) (pc := 101) B dX12_arrears_101 rfl (by decide) rfl ?_
              refine x_pick (lv' := [(0, .ref (ad 94)), (1, .int a1), (2, .int a2), (3, .long (x13 + ((x13 * q26.1.toInt64) / 100))), (5, .int y9.2.1)]) [2, 3, 4, 0, 5] rfl ?_
              have z := JJ (x13 + ((x13 * q26.1.toInt64) / 100), q26.2) h
              exact z
      · have z := JJ q27 h
        exact z
-- CurrentFarmsModel.kindOf(III)I [94]
abbrev y_Mo_kindOf_94 : MethodName := ⟨"CurrentFarmsModel", "kindOf", "(III)I"⟩
abbrev cX12_kindOf : ByteArray := prog_14_method_25_code
theorem dX12_kindOf_0 : decode cX12_kindOf 0 = .ok (.aload_n 0, 1) := by decide +kernel
theorem dX12_kindOf_1 : decode cX12_kindOf 1 = .ok (.iload_n 2, 1) := by decide +kernel
theorem dX12_kindOf_2 : decode cX12_kindOf 2 = .ok (.iload_n 3, 1) := by decide +kernel
theorem dX12_kindOf_3 : decode cX12_kindOf 3 = .ok (.iconst (-1), 1) := by decide +kernel
theorem dX12_kindOf_4 : decode cX12_kindOf 4 = .ok (.iconst 0, 1) := by decide +kernel
theorem dX12_kindOf_5 : decode cX12_kindOf 5 = .ok (.invokevirtual 130, 3) := by decide +kernel
theorem dX12_kindOf_8 : decode cX12_kindOf 8 = .ok (.aload_n 0, 1) := by decide +kernel
theorem dX12_kindOf_9 : decode cX12_kindOf 9 = .ok (.getfield 16, 3) := by decide +kernel
theorem dX12_kindOf_12 : decode cX12_kindOf 12 = .ok (.iload_n 1, 1) := by decide +kernel
theorem dX12_kindOf_13 : decode cX12_kindOf 13 = .ok (.iaload, 1) := by decide +kernel
theorem dX12_kindOf_14 : decode cX12_kindOf 14 = .ok (.istore 4, 2) := by decide +kernel
theorem dX12_kindOf_16 : decode cX12_kindOf 16 = .ok (.iload 4, 2) := by decide +kernel
theorem dX12_kindOf_18 : decode cX12_kindOf 18 = .ok (.iconst 3, 1) := by decide +kernel
theorem dX12_kindOf_19 : decode cX12_kindOf 19 = .ok (.if_icmp .ne 16, 3) := by decide +kernel
theorem dX12_kindOf_22 : decode cX12_kindOf 22 = .ok (.aload_n 0, 1) := by decide +kernel
theorem dX12_kindOf_23 : decode cX12_kindOf 23 = .ok (.iload_n 1, 1) := by decide +kernel
theorem dX12_kindOf_24 : decode cX12_kindOf 24 = .ok (.iload_n 2, 1) := by decide +kernel
theorem dX12_kindOf_25 : decode cX12_kindOf 25 = .ok (.invokevirtual 134, 3) := by decide +kernel
theorem dX12_kindOf_28 : decode cX12_kindOf 28 = .ok (.ifCond .le 7, 3) := by decide +kernel
theorem dX12_kindOf_31 : decode cX12_kindOf 31 = .ok (.iconst 4, 1) := by decide +kernel
theorem dX12_kindOf_32 : decode cX12_kindOf 32 = .ok (.goto 5, 3) := by decide +kernel
theorem dX12_kindOf_35 : decode cX12_kindOf 35 = .ok (.iload 4, 2) := by decide +kernel
theorem dX12_kindOf_37 : decode cX12_kindOf 37 = .ok (.ireturn, 1) := by decide +kernel
theorem hd_Mo_kindOf_94 : y_Mo_kindOf_94.cls ≠ "java/lang/invoke/MethodHandle" ∧ y_Mo_kindOf_94.cls ≠ "java/lang/invoke/VarHandle" ∧ (parseMethodDescriptor y_Mo_kindOf_94.desc).map (fun d => d.parameters.length) = some 3 := by decide +kernel
def f_Mo_kindOf_94 (a1 : Int32) (a2 : Int32) (a3 : Int32) (M0 : Mem) : Option (Int32 × Mem) :=
  (f_Mo_looks_94 a2 a3 (-1) 0 M0).bind fun q1 => if inb a1 10 then if decide ((q1.1 97 a1.toNatClampNeg) = 3) then ((f_Mo_arrears_94 a1 a2 q1).bind fun q4 => if decide (q4.1 ≤ 0) then (some (q1.1 97 a1.toNatClampNeg, q4.2)) else (some (4, q4.2))) else (some (q1.1 97 a1.toNatClampNeg, q1)) else none
set_option maxHeartbeats 4000000 in
set_option maxRecDepth 20000 in
theorem C_Mo_kindOf_94 {D : va_G} {ad adK adV : Nat → Nat} {cI cJ : ClassId} {l : Launch} (a1 : Int32) (a2 : Int32) (a3 : Int32) (M0 : Mem) (o : Int32 × Mem) (h : f_Mo_kindOf_94 a1 a2 a3 M0 = some o) : Ct D ad adK adV cI cJ l y_Mo_kindOf_94 cX12_kindOf 5 (some .int) 513 14294 [.ref (ad 94), .int a1, .int a2, .int a3] M0 (some (.int o.1)) o.2 := by
  refine x_start (lv := [(0, .ref (ad 94)), (1, .int a1), (2, .int a2), (3, .int a3)]) (own := "CurrentFarmsModel") rfl (by decide) (Nat.le_of_ble_eq_true rfl) rfl ?_
  intro p e s m args below meth c Q hQ B
  unfold f_Mo_kindOf_94 at h
  refine x_aload_n (pc := 0) B 0 dX12_kindOf_0 rfl rfl ?_
  refine x_iload_n (pc := 1) B 2 dX12_kindOf_1 rfl rfl ?_
  refine x_iload_n (pc := 2) B 3 dX12_kindOf_2 rfl rfl ?_
  refine x_iconst (v := (-1)) (pc := 3) B dX12_kindOf_3 rfl ?_
  refine x_iconst (v := 0) (pc := 4) B dX12_kindOf_4 rfl ?_
  obtain ⟨q1, hq1, h⟩ := bnd h
  refine x_callV (rest := []) (st' := []) (pc := 5) B oi_94 rfl (C_Mo_looks_94 a2 a3 (-1) 0 M0 _ hq1) tw_1475 tw_1472 tw_1474 tw_50 tw_111 hd_Mo_looks_94 ⟨Nat.le_of_ble_eq_true rfl, Nat.le_of_ble_eq_true rfl⟩ rfl rfl (Nat.le_of_ble_eq_true rfl) rfl dX12_kindOf_5 ?_
  refine x_aload_n (pc := 8) B 0 dX12_kindOf_8 rfl rfl ?_
  refine x_get (T := TX12) (pc := 9) B 4 oi_94 rfl uw_12 (by decide) rfl tw_1303 rfl dX12_kindOf_9 ?_
  refine x_iload_n (pc := 12) B 1 dX12_kindOf_12 rfl rfl ?_
  obtain ⟨hk2, h⟩ := ifn h
  refine x_iald (pc := 13) B ai_97 hk2 dX12_kindOf_13 ?_
  refine x_istore (lv' := [(4, .int (q1.1 97 a1.toNatClampNeg)), (0, .ref (ad 94)), (1, .int a1), (2, .int a2), (3, .int a3)]) (pc := 14) B dX12_kindOf_14 (by decide) rfl ?_
  refine x_iload (pc := 16) B 0 dX12_kindOf_16 rfl ?_
  refine x_iconst (v := 3) (pc := 18) B dX12_kindOf_18 rfl ?_
  refine x_icmp_ne (tgt := 35) (pc := 19) B dX12_kindOf_19 rfl (fun hc3 => ?_) (fun hc3 => ?_)
  · have h := iff_ hc3 h
    refine x_iload (pc := 35) B 0 dX12_kindOf_35 rfl ?_
    obtain rfl := Option.some.inj h
    exact x_iret (pc := 37) B hQ dX12_kindOf_37
  · have h := ift hc3 h
    refine x_aload_n (pc := 22) B 1 dX12_kindOf_22 rfl rfl ?_
    refine x_iload_n (pc := 23) B 2 dX12_kindOf_23 rfl rfl ?_
    refine x_iload_n (pc := 24) B 3 dX12_kindOf_24 rfl rfl ?_
    obtain ⟨q4, hq4, h⟩ := bnd h
    refine x_callV (rest := []) (st' := [.int q4.1]) (pc := 25) B oi_94 rfl (C_Mo_arrears_94 a1 a2 q1 _ hq4) tw_1483 tw_1480 tw_1482 tw_52 tw_111 hd_Mo_arrears_94 ⟨Nat.le_of_ble_eq_true rfl, Nat.le_of_ble_eq_true rfl⟩ rfl rfl (Nat.le_of_ble_eq_true rfl) rfl dX12_kindOf_25 ?_
    refine x_if_le (tgt := 35) (pc := 28) B dX12_kindOf_28 rfl (fun hc5 => ?_) (fun hc5 => ?_)
    · have h := ift hc5 h
      refine x_iload (pc := 35) B 0 dX12_kindOf_35 rfl ?_
      obtain rfl := Option.some.inj h
      exact x_iret (pc := 37) B hQ dX12_kindOf_37
    · have h := iff_ hc5 h
      refine x_iconst (v := 4) (pc := 31) B dX12_kindOf_31 rfl ?_
      refine x_goto (tgt := 37) (pc := 32) B dX12_kindOf_32 rfl ?_
      obtain rfl := Option.some.inj h
      exact x_iret (pc := 37) B hQ dX12_kindOf_37
-- CurrentFarmsModel.as(III)I [94]
abbrev y_Mo_as_94 : MethodName := ⟨"CurrentFarmsModel", "as", "(III)I"⟩
abbrev cX12_as : ByteArray := prog_14_method_24_code
theorem dX12_as_0 : decode cX12_as 0 = .ok (.aload_n 0, 1) := by decide +kernel
theorem dX12_as_1 : decode cX12_as 1 = .ok (.iload_n 1, 1) := by decide +kernel
theorem dX12_as_2 : decode cX12_as 2 = .ok (.invokevirtual 110, 3) := by decide +kernel
theorem dX12_as_5 : decode cX12_as 5 = .ok (.ifCond .eq 11, 3) := by decide +kernel
theorem dX12_as_8 : decode cX12_as 8 = .ok (.aload_n 0, 1) := by decide +kernel
theorem dX12_as_9 : decode cX12_as 9 = .ok (.iload_n 3, 1) := by decide +kernel
theorem dX12_as_10 : decode cX12_as 10 = .ok (.invokevirtual 121, 3) := by decide +kernel
theorem dX12_as_13 : decode cX12_as 13 = .ok (.ifCond .ne 5, 3) := by decide +kernel
theorem dX12_as_16 : decode cX12_as 16 = .ok (.iconst (-1), 1) := by decide +kernel
theorem dX12_as_17 : decode cX12_as 17 = .ok (.ireturn, 1) := by decide +kernel
theorem dX12_as_18 : decode cX12_as 18 = .ok (.iload_n 2, 1) := by decide +kernel
theorem dX12_as_19 : decode cX12_as 19 = .ok (.invokestatic 124, 3) := by decide +kernel
theorem dX12_as_22 : decode cX12_as 22 = .ok (.ifCond .eq 13, 3) := by decide +kernel
theorem dX12_as_25 : decode cX12_as 25 = .ok (.aload_n 0, 1) := by decide +kernel
theorem dX12_as_26 : decode cX12_as 26 = .ok (.iload_n 1, 1) := by decide +kernel
theorem dX12_as_27 : decode cX12_as 27 = .ok (.iload_n 2, 1) := by decide +kernel
theorem dX12_as_28 : decode cX12_as 28 = .ok (.iload_n 3, 1) := by decide +kernel
theorem dX12_as_29 : decode cX12_as 29 = .ok (.invokevirtual 127, 3) := by decide +kernel
theorem dX12_as_32 : decode cX12_as 32 = .ok (.goto 5, 3) := by decide +kernel
theorem dX12_as_35 : decode cX12_as 35 = .ok (.bipush (-2), 2) := by decide +kernel
theorem dX12_as_37 : decode cX12_as 37 = .ok (.ireturn, 1) := by decide +kernel
theorem hd_Mo_as_94 : y_Mo_as_94.cls ≠ "java/lang/invoke/MethodHandle" ∧ y_Mo_as_94.cls ≠ "java/lang/invoke/VarHandle" ∧ (parseMethodDescriptor y_Mo_as_94.desc).map (fun d => d.parameters.length) = some 3 := by decide +kernel
def f_Mo_as_94 (a1 : Int32) (a2 : Int32) (a3 : Int32) (M0 : Mem) : Option (Int32 × Mem) :=
  (f_Mo_isFarm_94 a1 M0).bind fun q1 => if q1 then ((f_Mo_isBy_94 a3 M0).bind fun q3 => if q3 then ((f_Mo_isMonth a2).bind fun q5 => if q5 then ((f_Mo_kindOf_94 a1 a2 a3 M0).bind fun q7 => some (q7.1, q7.2)) else (some ((-2), M0))) else (some ((-1), M0))) else (some ((-1), M0))
set_option maxHeartbeats 4000000 in
set_option maxRecDepth 20000 in
theorem C_Mo_as_94 {D : va_G} {ad adK adV : Nat → Nat} {cI cJ : ClassId} {l : Launch} (a1 : Int32) (a2 : Int32) (a3 : Int32) (M0 : Mem) (o : Int32 × Mem) (h : f_Mo_as_94 a1 a2 a3 M0 = some o) : Ct D ad adK adV cI cJ l y_Mo_as_94 cX12_as 4 (some .int) 514 14318 [.ref (ad 94), .int a1, .int a2, .int a3] M0 (some (.int o.1)) o.2 := by
  refine x_start (lv := [(0, .ref (ad 94)), (1, .int a1), (2, .int a2), (3, .int a3)]) (own := "CurrentFarmsModel") rfl (by decide) (Nat.le_of_ble_eq_true rfl) rfl ?_
  intro p e s m args below meth c Q hQ B
  unfold f_Mo_as_94 at h
  refine x_aload_n (pc := 0) B 0 dX12_as_0 rfl rfl ?_
  refine x_iload_n (pc := 1) B 1 dX12_as_1 rfl rfl ?_
  obtain ⟨q1, hq1, h⟩ := bnd h
  refine x_callV (rest := []) (st' := [.int (bI q1)]) (pc := 2) B oi_94 rfl (C_Mo_isFarm_94 a1 M0 _ hq1) tw_1448 tw_1445 tw_1447 tw_46 tw_111 hd_Mo_isFarm_94 ⟨Nat.le_of_ble_eq_true rfl, Nat.le_of_ble_eq_true rfl⟩ rfl rfl (Nat.le_of_ble_eq_true rfl) rfl dX12_as_2 ?_
  refine x_if_eq_b (tgt := 16) (pc := 5) B dX12_as_5 rfl (fun hc2 => ?_) (fun hc2 => ?_)
  · have h := iff_ hc2 h
    refine x_iconst (v := (-1)) (pc := 16) B dX12_as_16 rfl ?_
    obtain rfl := Option.some.inj h
    exact x_iret (pc := 17) B hQ dX12_as_17
  · have h := ift hc2 h
    refine x_aload_n (pc := 8) B 0 dX12_as_8 rfl rfl ?_
    refine x_iload_n (pc := 9) B 3 dX12_as_9 rfl rfl ?_
    obtain ⟨q3, hq3, h⟩ := bnd h
    refine x_callV (rest := []) (st' := [.int (bI q3)]) (pc := 10) B oi_94 rfl (C_Mo_isBy_94 a3 M0 _ hq3) tw_1464 tw_1461 tw_1463 tw_48 tw_111 hd_Mo_isBy_94 ⟨Nat.le_of_ble_eq_true rfl, Nat.le_of_ble_eq_true rfl⟩ rfl rfl (Nat.le_of_ble_eq_true rfl) rfl dX12_as_10 ?_
    refine x_if_ne_b (tgt := 18) (pc := 13) B dX12_as_13 rfl (fun hc4 => ?_) (fun hc4 => ?_)
    · have h := ift hc4 h
      refine x_iload_n (pc := 18) B 2 dX12_as_18 rfl rfl ?_
      obtain ⟨q5, hq5, h⟩ := bnd h
      refine x_callS (rest := []) (st' := [.int (bI q5)]) (pc := 19) B (C_Mo_isMonth a2 M0 _ hq5) tw_1467 tw_1465 tw_1466 tw_111 hd_Mo_isMonth ⟨Nat.le_of_ble_eq_true rfl, Nat.le_of_ble_eq_true rfl⟩ rfl rfl (Nat.le_of_ble_eq_true rfl) rfl dX12_as_19 ?_
      refine x_if_eq_b (tgt := 35) (pc := 22) B dX12_as_22 rfl (fun hc6 => ?_) (fun hc6 => ?_)
      · have h := iff_ hc6 h
        refine x_bipush (v := (-2)) (pc := 35) B dX12_as_35 rfl ?_
        obtain rfl := Option.some.inj h
        exact x_iret (pc := 37) B hQ dX12_as_37
      · have h := ift hc6 h
        refine x_aload_n (pc := 25) B 0 dX12_as_25 rfl rfl ?_
        refine x_iload_n (pc := 26) B 1 dX12_as_26 rfl rfl ?_
        refine x_iload_n (pc := 27) B 2 dX12_as_27 rfl rfl ?_
        refine x_iload_n (pc := 28) B 3 dX12_as_28 rfl rfl ?_
        obtain ⟨q7, hq7, h⟩ := bnd h
        refine x_callV (rest := []) (st' := [.int q7.1]) (pc := 29) B oi_94 rfl (C_Mo_kindOf_94 a1 a2 a3 M0 _ hq7) tw_1471 tw_1468 tw_1470 tw_49 tw_111 hd_Mo_kindOf_94 ⟨Nat.le_of_ble_eq_true rfl, Nat.le_of_ble_eq_true rfl⟩ rfl rfl (Nat.le_of_ble_eq_true rfl) rfl dX12_as_29 ?_
        refine x_goto (tgt := 37) (pc := 32) B dX12_as_32 rfl ?_
        obtain rfl := Option.some.inj h
        exact x_iret (pc := 37) B hQ dX12_as_37
    · have h := iff_ hc4 h
      refine x_iconst (v := (-1)) (pc := 16) B dX12_as_16 rfl ?_
      obtain rfl := Option.some.inj h
      exact x_iret (pc := 17) B hQ dX12_as_17
-- CurrentFarmsModel.isUnder(II)Z []
abbrev y_Mo_isUnder : MethodName := ⟨"CurrentFarmsModel", "isUnder", "(II)Z"⟩
abbrev cX12_isUnder : ByteArray := prog_14_method_26_code
theorem dX12_isUnder_0 : decode cX12_isUnder 0 = .ok (.iload_n 1, 1) := by decide +kernel
theorem dX12_isUnder_1 : decode cX12_isUnder 1 = .ok (.ifCond .eq 32, 3) := by decide +kernel
theorem dX12_isUnder_4 : decode cX12_isUnder 4 = .ok (.iload_n 0, 1) := by decide +kernel
theorem dX12_isUnder_5 : decode cX12_isUnder 5 = .ok (.iload_n 1, 1) := by decide +kernel
theorem dX12_isUnder_6 : decode cX12_isUnder 6 = .ok (.if_icmp .eq 27, 3) := by decide +kernel
theorem dX12_isUnder_9 : decode cX12_isUnder 9 = .ok (.iload_n 1, 1) := by decide +kernel
theorem dX12_isUnder_10 : decode cX12_isUnder 10 = .ok (.iconst 1, 1) := by decide +kernel
theorem dX12_isUnder_11 : decode cX12_isUnder 11 = .ok (.if_icmp .ne 12, 3) := by decide +kernel
theorem dX12_isUnder_14 : decode cX12_isUnder 14 = .ok (.iload_n 0, 1) := by decide +kernel
theorem dX12_isUnder_15 : decode cX12_isUnder 15 = .ok (.iconst 3, 1) := by decide +kernel
theorem dX12_isUnder_16 : decode cX12_isUnder 16 = .ok (.iconst 4, 1) := by decide +kernel
theorem dX12_isUnder_17 : decode cX12_isUnder 17 = .ok (.invokestatic 84, 3) := by decide +kernel
theorem dX12_isUnder_20 : decode cX12_isUnder 20 = .ok (.ifCond .ne 13, 3) := by decide +kernel
theorem dX12_isUnder_23 : decode cX12_isUnder 23 = .ok (.iload_n 1, 1) := by decide +kernel
theorem dX12_isUnder_24 : decode cX12_isUnder 24 = .ok (.iconst 3, 1) := by decide +kernel
theorem dX12_isUnder_25 : decode cX12_isUnder 25 = .ok (.if_icmp .ne 12, 3) := by decide +kernel
theorem dX12_isUnder_28 : decode cX12_isUnder 28 = .ok (.iload_n 0, 1) := by decide +kernel
theorem dX12_isUnder_29 : decode cX12_isUnder 29 = .ok (.iconst 4, 1) := by decide +kernel
theorem dX12_isUnder_30 : decode cX12_isUnder 30 = .ok (.if_icmp .ne 7, 3) := by decide +kernel
theorem dX12_isUnder_33 : decode cX12_isUnder 33 = .ok (.iconst 1, 1) := by decide +kernel
theorem dX12_isUnder_34 : decode cX12_isUnder 34 = .ok (.goto 4, 3) := by decide +kernel
theorem dX12_isUnder_37 : decode cX12_isUnder 37 = .ok (.iconst 0, 1) := by decide +kernel
theorem dX12_isUnder_38 : decode cX12_isUnder 38 = .ok (.ireturn, 1) := by decide +kernel
theorem hd_Mo_isUnder : y_Mo_isUnder.cls ≠ "java/lang/invoke/MethodHandle" ∧ y_Mo_isUnder.cls ≠ "java/lang/invoke/VarHandle" ∧ (parseMethodDescriptor y_Mo_isUnder.desc).map (fun d => d.parameters.length) = some 2 := by decide +kernel
def f_Mo_isUnder (a0 : Int32) (a1 : Int32) : Option (Bool) :=
  if decide (a1 = 0) then (some true) else (if decide (a0 = a1) then (some true) else (if decide (a1 = 1) then ((f_Mo_in a0 3 4).bind fun q4 => if q4 then (some true) else (if decide (a1 = 3) then (if decide (a0 = 4) then (some true) else (some false)) else (some false))) else (if decide (a1 = 3) then (if decide (a0 = 4) then (some true) else (some false)) else (some false))))
set_option maxHeartbeats 4000000 in
set_option maxRecDepth 20000 in
theorem C_Mo_isUnder {D : va_G} {ad adK adV : Nat → Nat} {cI cJ : ClassId} {l : Launch} (a0 : Int32) (a1 : Int32) (M0 : Mem) (o : Bool) (h : f_Mo_isUnder a0 a1 = some o) : Ct D ad adK adV cI cJ l y_Mo_isUnder cX12_isUnder 2 (some .boolean) 1 22 [.int a0, .int a1] M0 (some (.int (bI o))) M0 := by
  refine x_start (lv := [(0, .int a0), (1, .int a1)]) (own := "CurrentFarmsModel") rfl (by decide) (Nat.le_of_ble_eq_true rfl) rfl ?_
  intro p e s m args below meth c Q hQ B
  unfold f_Mo_isUnder at h
  refine x_iload_n (pc := 0) B 1 dX12_isUnder_0 rfl rfl ?_
  refine x_if_eq (tgt := 33) (pc := 1) B dX12_isUnder_1 rfl (fun hc1 => ?_) (fun hc1 => ?_)
  · have h := ift hc1 h
    refine x_iconst (v := 1) (pc := 33) B dX12_isUnder_33 rfl ?_
    refine x_goto (tgt := 38) (pc := 34) B dX12_isUnder_34 rfl ?_
    obtain rfl := Option.some.inj h
    exact x_zret (v := true) (pc := 38) B hQ dX12_isUnder_38
  · have h := iff_ hc1 h
    refine x_iload_n (pc := 4) B 0 dX12_isUnder_4 rfl rfl ?_
    refine x_iload_n (pc := 5) B 1 dX12_isUnder_5 rfl rfl ?_
    refine x_icmp_eq (tgt := 33) (pc := 6) B dX12_isUnder_6 rfl (fun hc2 => ?_) (fun hc2 => ?_)
    · have h := ift hc2 h
      refine x_iconst (v := 1) (pc := 33) B dX12_isUnder_33 rfl ?_
      refine x_goto (tgt := 38) (pc := 34) B dX12_isUnder_34 rfl ?_
      obtain rfl := Option.some.inj h
      exact x_zret (v := true) (pc := 38) B hQ dX12_isUnder_38
    · have h := iff_ hc2 h
      refine x_iload_n (pc := 9) B 1 dX12_isUnder_9 rfl rfl ?_
      refine x_iconst (v := 1) (pc := 10) B dX12_isUnder_10 rfl ?_
      refine x_icmp_ne (tgt := 23) (pc := 11) B dX12_isUnder_11 rfl (fun hc3 => ?_) (fun hc3 => ?_)
      · have h := iff_ hc3 h
        refine x_iload_n (pc := 23) B 1 dX12_isUnder_23 rfl rfl ?_
        refine x_iconst (v := 3) (pc := 24) B dX12_isUnder_24 rfl ?_
        refine x_icmp_ne (tgt := 37) (pc := 25) B dX12_isUnder_25 rfl (fun hc8 => ?_) (fun hc8 => ?_)
        · have h := iff_ hc8 h
          refine x_iconst (v := 0) (pc := 37) B dX12_isUnder_37 rfl ?_
          obtain rfl := Option.some.inj h
          exact x_zret (v := false) (pc := 38) B hQ dX12_isUnder_38
        · have h := ift hc8 h
          refine x_iload_n (pc := 28) B 0 dX12_isUnder_28 rfl rfl ?_
          refine x_iconst (v := 4) (pc := 29) B dX12_isUnder_29 rfl ?_
          refine x_icmp_ne (tgt := 37) (pc := 30) B dX12_isUnder_30 rfl (fun hc9 => ?_) (fun hc9 => ?_)
          · have h := iff_ hc9 h
            refine x_iconst (v := 0) (pc := 37) B dX12_isUnder_37 rfl ?_
            obtain rfl := Option.some.inj h
            exact x_zret (v := false) (pc := 38) B hQ dX12_isUnder_38
          · have h := ift hc9 h
            refine x_iconst (v := 1) (pc := 33) B dX12_isUnder_33 rfl ?_
            refine x_goto (tgt := 38) (pc := 34) B dX12_isUnder_34 rfl ?_
            obtain rfl := Option.some.inj h
            exact x_zret (v := true) (pc := 38) B hQ dX12_isUnder_38
      · have h := ift hc3 h
        refine x_iload_n (pc := 14) B 0 dX12_isUnder_14 rfl rfl ?_
        refine x_iconst (v := 3) (pc := 15) B dX12_isUnder_15 rfl ?_
        refine x_iconst (v := 4) (pc := 16) B dX12_isUnder_16 rfl ?_
        obtain ⟨q4, hq4, h⟩ := bnd h
        refine x_callS (rest := []) (st' := [.int (bI q4)]) (pc := 17) B (C_Mo_in a0 3 4 M0 _ hq4) tw_1406 tw_1404 tw_1405 tw_111 hd_Mo_in ⟨Nat.le_of_ble_eq_true rfl, Nat.le_of_ble_eq_true rfl⟩ rfl rfl (Nat.le_of_ble_eq_true rfl) rfl dX12_isUnder_17 ?_
        refine x_if_ne_b (tgt := 33) (pc := 20) B dX12_isUnder_20 rfl (fun hc5 => ?_) (fun hc5 => ?_)
        · have h := ift hc5 h
          refine x_iconst (v := 1) (pc := 33) B dX12_isUnder_33 rfl ?_
          refine x_goto (tgt := 38) (pc := 34) B dX12_isUnder_34 rfl ?_
          obtain rfl := Option.some.inj h
          exact x_zret (v := true) (pc := 38) B hQ dX12_isUnder_38
        · have h := iff_ hc5 h
          refine x_iload_n (pc := 23) B 1 dX12_isUnder_23 rfl rfl ?_
          refine x_iconst (v := 3) (pc := 24) B dX12_isUnder_24 rfl ?_
          refine x_icmp_ne (tgt := 37) (pc := 25) B dX12_isUnder_25 rfl (fun hc6 => ?_) (fun hc6 => ?_)
          · have h := iff_ hc6 h
            refine x_iconst (v := 0) (pc := 37) B dX12_isUnder_37 rfl ?_
            obtain rfl := Option.some.inj h
            exact x_zret (v := false) (pc := 38) B hQ dX12_isUnder_38
          · have h := ift hc6 h
            refine x_iload_n (pc := 28) B 0 dX12_isUnder_28 rfl rfl ?_
            refine x_iconst (v := 4) (pc := 29) B dX12_isUnder_29 rfl ?_
            refine x_icmp_ne (tgt := 37) (pc := 30) B dX12_isUnder_30 rfl (fun hc7 => ?_) (fun hc7 => ?_)
            · have h := iff_ hc7 h
              refine x_iconst (v := 0) (pc := 37) B dX12_isUnder_37 rfl ?_
              obtain rfl := Option.some.inj h
              exact x_zret (v := false) (pc := 38) B hQ dX12_isUnder_38
            · have h := ift hc7 h
              refine x_iconst (v := 1) (pc := 33) B dX12_isUnder_33 rfl ?_
              refine x_goto (tgt := 38) (pc := 34) B dX12_isUnder_34 rfl ?_
              obtain rfl := Option.some.inj h
              exact x_zret (v := true) (pc := 38) B hQ dX12_isUnder_38
-- CurrentFarmsModel.many(III)I [94]
abbrev y_Mo_many_94 : MethodName := ⟨"CurrentFarmsModel", "many", "(III)I"⟩
abbrev cX12_many : ByteArray := prog_14_method_27_code
theorem dX12_many_0 : decode cX12_many 0 = .ok (.iload_n 1, 1) := by decide +kernel
theorem dX12_many_1 : decode cX12_many 1 = .ok (.iconst 0, 1) := by decide +kernel
theorem dX12_many_2 : decode cX12_many 2 = .ok (.iconst 5, 1) := by decide +kernel
theorem dX12_many_3 : decode cX12_many 3 = .ok (.invokestatic 84, 3) := by decide +kernel
theorem dX12_many_6 : decode cX12_many 6 = .ok (.ifCond .eq 11, 3) := by decide +kernel
theorem dX12_many_9 : decode cX12_many 9 = .ok (.aload_n 0, 1) := by decide +kernel
theorem dX12_many_10 : decode cX12_many 10 = .ok (.iload_n 3, 1) := by decide +kernel
theorem dX12_many_11 : decode cX12_many 11 = .ok (.invokevirtual 121, 3) := by decide +kernel
theorem dX12_many_14 : decode cX12_many 14 = .ok (.ifCond .ne 5, 3) := by decide +kernel
theorem dX12_many_17 : decode cX12_many 17 = .ok (.iconst (-1), 1) := by decide +kernel
theorem dX12_many_18 : decode cX12_many 18 = .ok (.ireturn, 1) := by decide +kernel
theorem dX12_many_19 : decode cX12_many 19 = .ok (.iload_n 2, 1) := by decide +kernel
theorem dX12_many_20 : decode cX12_many 20 = .ok (.invokestatic 124, 3) := by decide +kernel
theorem dX12_many_23 : decode cX12_many 23 = .ok (.ifCond .ne 6, 3) := by decide +kernel
theorem dX12_many_26 : decode cX12_many 26 = .ok (.bipush (-2), 2) := by decide +kernel
theorem dX12_many_28 : decode cX12_many 28 = .ok (.ireturn, 1) := by decide +kernel
theorem dX12_many_29 : decode cX12_many 29 = .ok (.iconst 0, 1) := by decide +kernel
theorem dX12_many_30 : decode cX12_many 30 = .ok (.istore 4, 2) := by decide +kernel
theorem dX12_many_32 : decode cX12_many 32 = .ok (.iconst 0, 1) := by decide +kernel
theorem dX12_many_33 : decode cX12_many 33 = .ok (.istore 5, 2) := by decide +kernel
theorem dX12_many_35 : decode cX12_many 35 = .ok (.iload 5, 2) := by decide +kernel
theorem dX12_many_37 : decode cX12_many 37 = .ok (.aload_n 0, 1) := by decide +kernel
theorem dX12_many_38 : decode cX12_many 38 = .ok (.getfield 7, 3) := by decide +kernel
theorem dX12_many_41 : decode cX12_many 41 = .ok (.iconst 1, 1) := by decide +kernel
theorem dX12_many_42 : decode cX12_many 42 = .ok (.iaload, 1) := by decide +kernel
theorem dX12_many_43 : decode cX12_many 43 = .ok (.if_icmp .ge 34, 3) := by decide +kernel
theorem dX12_many_46 : decode cX12_many 46 = .ok (.iload 4, 2) := by decide +kernel
theorem dX12_many_48 : decode cX12_many 48 = .ok (.aload_n 0, 1) := by decide +kernel
theorem dX12_many_49 : decode cX12_many 49 = .ok (.iload 5, 2) := by decide +kernel
theorem dX12_many_51 : decode cX12_many 51 = .ok (.iload_n 2, 1) := by decide +kernel
theorem dX12_many_52 : decode cX12_many 52 = .ok (.iload_n 3, 1) := by decide +kernel
theorem dX12_many_53 : decode cX12_many 53 = .ok (.invokevirtual 127, 3) := by decide +kernel
theorem dX12_many_56 : decode cX12_many 56 = .ok (.iload_n 1, 1) := by decide +kernel
theorem dX12_many_57 : decode cX12_many 57 = .ok (.invokestatic 137, 3) := by decide +kernel
theorem dX12_many_60 : decode cX12_many 60 = .ok (.ifCond .eq 7, 3) := by decide +kernel
theorem dX12_many_63 : decode cX12_many 63 = .ok (.iconst 1, 1) := by decide +kernel
theorem dX12_many_64 : decode cX12_many 64 = .ok (.goto 4, 3) := by decide +kernel
theorem dX12_many_67 : decode cX12_many 67 = .ok (.iconst 0, 1) := by decide +kernel
theorem dX12_many_68 : decode cX12_many 68 = .ok (.iadd, 1) := by decide +kernel
theorem dX12_many_69 : decode cX12_many 69 = .ok (.istore 4, 2) := by decide +kernel
theorem dX12_many_71 : decode cX12_many 71 = .ok (.iinc 5 1, 3) := by decide +kernel
theorem dX12_many_74 : decode cX12_many 74 = .ok (.goto (-39), 3) := by decide +kernel
theorem dX12_many_77 : decode cX12_many 77 = .ok (.iload 4, 2) := by decide +kernel
theorem dX12_many_79 : decode cX12_many 79 = .ok (.ireturn, 1) := by decide +kernel
theorem hd_Mo_many_94 : y_Mo_many_94.cls ≠ "java/lang/invoke/MethodHandle" ∧ y_Mo_many_94.cls ≠ "java/lang/invoke/VarHandle" ∧ (parseMethodDescriptor y_Mo_many_94.desc).map (fun d => d.parameters.length) = some 3 := by decide +kernel
def b_Mo_many_94_35 (a1 : Int32) (a2 : Int32) (a3 : Int32) (y7 : Int32 × Int32 × Mem) : Option ((Int32 × Int32 × Mem) ⊕ (Int32 × Mem)) :=
  if decide (y7.2.1 < (y7.2.2.1 95 1)) then ((f_Mo_kindOf_94 y7.2.1 a2 a3 y7.2.2).bind fun q9 => (f_Mo_isUnder q9.1 a1).bind fun q10 => jv_ (q10 : Bool) fun u13 => some (.inl (y7.1 + (bI u13), y7.2.1 + 1, q9.2))) else (some (.inr (y7.1, y7.2.2)))
def f_Mo_many_94 (a1 : Int32) (a2 : Int32) (a3 : Int32) (M0 : Mem) : Option (Int32 × Mem) :=
  (f_Mo_in a1 0 5).bind fun q1 => if q1 then ((f_Mo_isBy_94 a3 M0).bind fun q3 => if q3 then ((f_Mo_isMonth a2).bind fun q5 => if q5 then ((itr (b_Mo_many_94_35 a1 a2 a3) FU (0, 0, M0)).bind fun q14 => some (q14.1, q14.2)) else (some ((-2), M0))) else (some ((-1), M0))) else (some ((-1), M0))
set_option maxHeartbeats 4000000 in
set_option maxRecDepth 20000 in
theorem C_Mo_many_94 {D : va_G} {ad adK adV : Nat → Nat} {cI cJ : ClassId} {l : Launch} (a1 : Int32) (a2 : Int32) (a3 : Int32) (M0 : Mem) (o : Int32 × Mem) (h : f_Mo_many_94 a1 a2 a3 M0 = some o) : Ct D ad adK adV cI cJ l y_Mo_many_94 cX12_many 6 (some .int) 514 14318 [.ref (ad 94), .int a1, .int a2, .int a3] M0 (some (.int o.1)) o.2 := by
  refine x_start (lv := [(0, .ref (ad 94)), (1, .int a1), (2, .int a2), (3, .int a3)]) (own := "CurrentFarmsModel") rfl (by decide) (Nat.le_of_ble_eq_true rfl) rfl ?_
  intro p e s m args below meth c Q hQ B
  unfold f_Mo_many_94 at h
  refine x_iload_n (pc := 0) B 1 dX12_many_0 rfl rfl ?_
  refine x_iconst (v := 0) (pc := 1) B dX12_many_1 rfl ?_
  refine x_iconst (v := 5) (pc := 2) B dX12_many_2 rfl ?_
  obtain ⟨q1, hq1, h⟩ := bnd h
  refine x_callS (rest := []) (st' := [.int (bI q1)]) (pc := 3) B (C_Mo_in a1 0 5 M0 _ hq1) tw_1406 tw_1404 tw_1405 tw_111 hd_Mo_in ⟨Nat.le_of_ble_eq_true rfl, Nat.le_of_ble_eq_true rfl⟩ rfl rfl (Nat.le_of_ble_eq_true rfl) rfl dX12_many_3 ?_
  refine x_if_eq_b (tgt := 17) (pc := 6) B dX12_many_6 rfl (fun hc2 => ?_) (fun hc2 => ?_)
  · have h := iff_ hc2 h
    refine x_iconst (v := (-1)) (pc := 17) B dX12_many_17 rfl ?_
    obtain rfl := Option.some.inj h
    exact x_iret (pc := 18) B hQ dX12_many_18
  · have h := ift hc2 h
    refine x_aload_n (pc := 9) B 0 dX12_many_9 rfl rfl ?_
    refine x_iload_n (pc := 10) B 3 dX12_many_10 rfl rfl ?_
    obtain ⟨q3, hq3, h⟩ := bnd h
    refine x_callV (rest := []) (st' := [.int (bI q3)]) (pc := 11) B oi_94 rfl (C_Mo_isBy_94 a3 M0 _ hq3) tw_1464 tw_1461 tw_1463 tw_48 tw_111 hd_Mo_isBy_94 ⟨Nat.le_of_ble_eq_true rfl, Nat.le_of_ble_eq_true rfl⟩ rfl rfl (Nat.le_of_ble_eq_true rfl) rfl dX12_many_11 ?_
    refine x_if_ne_b (tgt := 19) (pc := 14) B dX12_many_14 rfl (fun hc4 => ?_) (fun hc4 => ?_)
    · have h := ift hc4 h
      refine x_iload_n (pc := 19) B 2 dX12_many_19 rfl rfl ?_
      obtain ⟨q5, hq5, h⟩ := bnd h
      refine x_callS (rest := []) (st' := [.int (bI q5)]) (pc := 20) B (C_Mo_isMonth a2 M0 _ hq5) tw_1467 tw_1465 tw_1466 tw_111 hd_Mo_isMonth ⟨Nat.le_of_ble_eq_true rfl, Nat.le_of_ble_eq_true rfl⟩ rfl rfl (Nat.le_of_ble_eq_true rfl) rfl dX12_many_20 ?_
      refine x_if_ne_b (tgt := 29) (pc := 23) B dX12_many_23 rfl (fun hc6 => ?_) (fun hc6 => ?_)
      · have h := ift hc6 h
        refine x_iconst (v := 0) (pc := 29) B dX12_many_29 rfl ?_
        refine x_istore (lv' := [(4, .int 0), (0, .ref (ad 94)), (1, .int a1), (2, .int a2), (3, .int a3)]) (pc := 30) B dX12_many_30 (by decide) rfl ?_
        refine x_iconst (v := 0) (pc := 32) B dX12_many_32 rfl ?_
        refine x_istore (lv' := [(5, .int 0), (4, .int 0), (0, .ref (ad 94)), (1, .int a1), (2, .int a2), (3, .int a3)]) (pc := 33) B dX12_many_33 (by decide) rfl ?_
        refine x_pick (lv' := [(0, .ref (ad 94)), (1, .int a1), (2, .int a2), (3, .int a3), (4, .int 0), (5, .int 0)]) [2, 3, 4, 5, 1, 0] rfl ?_
        obtain ⟨q14, hq14, h⟩ := bnd h
        refine x_loop (Head := fun (y7 : Int32 × Int32 × Mem) => XX D ad cI cJ p l e (Rm 514 14318) s m args below meth c Q 6 y7.2.2 35 [(0, .ref (ad 94)), (1, .int a1), (2, .int a2), (3, .int a3), (4, .int y7.1), (5, .int y7.2.1)] []) (Ex := fun (q14 : Int32 × Mem) => XX D ad cI cJ p l e (Rm 514 14318) s m args below meth c Q 6 q14.2 77 [(4, .int q14.1)] []) (fun y7 r h hback hexit => ?_) FU _ q14 hq14 ?_
        · unfold b_Mo_many_94_35 at h
          refine x_iload (pc := 35) B 5 dX12_many_35 rfl ?_
          refine x_aload_n (pc := 37) B 0 dX12_many_37 rfl rfl ?_
          refine x_get (T := TX12) (pc := 38) B 1 oi_94 rfl uw_12 (by decide) rfl tw_1300 rfl dX12_many_38 ?_
          refine x_iconst (v := 1) (pc := 41) B dX12_many_41 rfl ?_
          refine x_iald_c (j := 1) (pc := 42) B ai_95 (by decide) rfl dX12_many_42 ?_
          refine x_icmp_ge (tgt := 77) (pc := 43) B dX12_many_43 rfl (fun hc8 => ?_) (fun hc8 => ?_)
          · have h := iff_ hc8 h
            refine x_pick (lv' := [(4, .int y7.1)]) [4] rfl ?_
            have z := hexit (y7.1, y7.2.2) (Option.some.inj h).symm
            exact z
          · have h := ift hc8 h
            refine x_iload (pc := 46) B 4 dX12_many_46 rfl ?_
            refine x_aload_n (pc := 48) B 0 dX12_many_48 rfl rfl ?_
            refine x_iload (pc := 49) B 5 dX12_many_49 rfl ?_
            refine x_iload_n (pc := 51) B 2 dX12_many_51 rfl rfl ?_
            refine x_iload_n (pc := 52) B 3 dX12_many_52 rfl rfl ?_
            obtain ⟨q9, hq9, h⟩ := bnd h
            refine x_callV (rest := [.int y7.1]) (st' := [.int q9.1, .int y7.1]) (pc := 53) B oi_94 rfl (C_Mo_kindOf_94 y7.2.1 a2 a3 y7.2.2 _ hq9) tw_1471 tw_1468 tw_1470 tw_49 tw_111 hd_Mo_kindOf_94 ⟨Nat.le_of_ble_eq_true rfl, Nat.le_of_ble_eq_true rfl⟩ rfl rfl (Nat.le_of_ble_eq_true rfl) rfl dX12_many_53 ?_
            refine x_iload_n (pc := 56) B 1 dX12_many_56 rfl rfl ?_
            obtain ⟨q10, hq10, h⟩ := bnd h
            refine x_callS (rest := [.int y7.1]) (st' := [.int (bI q10), .int y7.1]) (pc := 57) B (C_Mo_isUnder q9.1 a1 q9.2 _ hq10) tw_1577 tw_1575 tw_1576 tw_111 hd_Mo_isUnder ⟨Nat.le_of_ble_eq_true rfl, Nat.le_of_ble_eq_true rfl⟩ rfl rfl (Nat.le_of_ble_eq_true rfl) rfl dX12_many_57 ?_
            refine jv_k h (fun (u13 : Bool) => XX D ad cI cJ p l e (Rm 514 14318) s m args below meth c Q 6 q9.2 68 [(0, .ref (ad 94)), (1, .int a1), (2, .int a2), (3, .int a3), (5, .int y7.2.1)] [.int (bI u13), .int y7.1]) (fun u13 h => ?_) (fun JJ => ?_)
            · refine x_iadd (pc := 68) B dX12_many_68 ?_
              refine x_istore (lv' := [(4, .int (y7.1 + (bI u13))), (0, .ref (ad 94)), (1, .int a1), (2, .int a2), (3, .int a3), (5, .int y7.2.1)]) (pc := 69) B dX12_many_69 (by decide) rfl ?_
              refine x_iinc (k := 5) (v := y7.2.1 + 1) (lv' := [(5, .int (y7.2.1 + 1)), (4, .int (y7.1 + (bI u13))), (0, .ref (ad 94)), (1, .int a1), (2, .int a2), (3, .int a3)]) (pc := 71) B dX12_many_71 rfl rfl (by decide) rfl ?_
              refine x_goto (tgt := 35) (pc := 74) B dX12_many_74 rfl ?_
              refine x_pick (lv' := [(0, .ref (ad 94)), (1, .int a1), (2, .int a2), (3, .int a3), (4, .int (y7.1 + (bI u13))), (5, .int (y7.2.1 + 1))]) [2, 3, 4, 5, 1, 0] rfl ?_
              have z := hback (y7.1 + (bI u13), y7.2.1 + 1, q9.2) (Option.some.inj h).symm
              exact z
            · refine x_if_eq_b (tgt := 67) (pc := 60) B dX12_many_60 rfl (fun hc11 => ?_) (fun hc11 => ?_)
              · refine x_iconst (v := 0) (pc := 67) B dX12_many_67 rfl ?_
                refine x_pick (lv' := [(0, .ref (ad 94)), (1, .int a1), (2, .int a2), (3, .int a3), (5, .int y7.2.1)]) [0, 1, 2, 3, 5] rfl ?_
                have z := JJ false hc11
                exact z
              · refine x_iconst (v := 1) (pc := 63) B dX12_many_63 rfl ?_
                refine x_goto (tgt := 68) (pc := 64) B dX12_many_64 rfl ?_
                refine x_pick (lv' := [(0, .ref (ad 94)), (1, .int a1), (2, .int a2), (3, .int a3), (5, .int y7.2.1)]) [0, 1, 2, 3, 5] rfl ?_
                have z := JJ true hc11
                exact z
        · refine x_iload (pc := 77) B 0 dX12_many_77 rfl ?_
          obtain rfl := Option.some.inj h
          exact x_iret (pc := 79) B hQ dX12_many_79
      · have h := iff_ hc6 h
        refine x_bipush (v := (-2)) (pc := 26) B dX12_many_26 rfl ?_
        obtain rfl := Option.some.inj h
        exact x_iret (pc := 28) B hQ dX12_many_28
    · have h := iff_ hc4 h
      refine x_iconst (v := (-1)) (pc := 17) B dX12_many_17 rfl ?_
      obtain rfl := Option.some.inj h
      exact x_iret (pc := 18) B hQ dX12_many_18
-- CurrentFarmsModel.members()I [94]
abbrev y_Mo_members_94 : MethodName := ⟨"CurrentFarmsModel", "members", "()I"⟩
abbrev cX12_members : ByteArray := prog_14_method_28_code
theorem dX12_members_0 : decode cX12_members 0 = .ok (.iconst 0, 1) := by decide +kernel
theorem dX12_members_1 : decode cX12_members 1 = .ok (.istore_n 1, 1) := by decide +kernel
theorem dX12_members_2 : decode cX12_members 2 = .ok (.iconst 0, 1) := by decide +kernel
theorem dX12_members_3 : decode cX12_members 3 = .ok (.istore_n 2, 1) := by decide +kernel
theorem dX12_members_4 : decode cX12_members 4 = .ok (.iload_n 2, 1) := by decide +kernel
theorem dX12_members_5 : decode cX12_members 5 = .ok (.aload_n 0, 1) := by decide +kernel
theorem dX12_members_6 : decode cX12_members 6 = .ok (.getfield 7, 3) := by decide +kernel
theorem dX12_members_9 : decode cX12_members 9 = .ok (.iconst 1, 1) := by decide +kernel
theorem dX12_members_10 : decode cX12_members 10 = .ok (.iaload, 1) := by decide +kernel
theorem dX12_members_11 : decode cX12_members 11 = .ok (.if_icmp .ge 39, 3) := by decide +kernel
theorem dX12_members_14 : decode cX12_members 14 = .ok (.iload_n 1, 1) := by decide +kernel
theorem dX12_members_15 : decode cX12_members 15 = .ok (.aload_n 0, 1) := by decide +kernel
theorem dX12_members_16 : decode cX12_members 16 = .ok (.getfield 16, 3) := by decide +kernel
theorem dX12_members_19 : decode cX12_members 19 = .ok (.iload_n 2, 1) := by decide +kernel
theorem dX12_members_20 : decode cX12_members 20 = .ok (.iaload, 1) := by decide +kernel
theorem dX12_members_21 : decode cX12_members 21 = .ok (.iconst 1, 1) := by decide +kernel
theorem dX12_members_22 : decode cX12_members 22 = .ok (.if_icmp .eq 13, 3) := by decide +kernel
theorem dX12_members_25 : decode cX12_members 25 = .ok (.aload_n 0, 1) := by decide +kernel
theorem dX12_members_26 : decode cX12_members 26 = .ok (.getfield 16, 3) := by decide +kernel
theorem dX12_members_29 : decode cX12_members 29 = .ok (.iload_n 2, 1) := by decide +kernel
theorem dX12_members_30 : decode cX12_members 30 = .ok (.iaload, 1) := by decide +kernel
theorem dX12_members_31 : decode cX12_members 31 = .ok (.iconst 3, 1) := by decide +kernel
theorem dX12_members_32 : decode cX12_members 32 = .ok (.if_icmp .ne 9, 3) := by decide +kernel
theorem dX12_members_35 : decode cX12_members 35 = .ok (.iconst 1, 1) := by decide +kernel
theorem dX12_members_36 : decode cX12_members 36 = .ok (.iload_n 2, 1) := by decide +kernel
theorem dX12_members_37 : decode cX12_members 37 = .ok (.ishl, 1) := by decide +kernel
theorem dX12_members_38 : decode cX12_members 38 = .ok (.goto 4, 3) := by decide +kernel
theorem dX12_members_41 : decode cX12_members 41 = .ok (.iconst 0, 1) := by decide +kernel
theorem dX12_members_42 : decode cX12_members 42 = .ok (.ior, 1) := by decide +kernel
theorem dX12_members_43 : decode cX12_members 43 = .ok (.istore_n 1, 1) := by decide +kernel
theorem dX12_members_44 : decode cX12_members 44 = .ok (.iinc 2 1, 3) := by decide +kernel
theorem dX12_members_47 : decode cX12_members 47 = .ok (.goto (-43), 3) := by decide +kernel
theorem dX12_members_50 : decode cX12_members 50 = .ok (.iload_n 1, 1) := by decide +kernel
theorem dX12_members_51 : decode cX12_members 51 = .ok (.ireturn, 1) := by decide +kernel
theorem hd_Mo_members_94 : y_Mo_members_94.cls ≠ "java/lang/invoke/MethodHandle" ∧ y_Mo_members_94.cls ≠ "java/lang/invoke/VarHandle" ∧ (parseMethodDescriptor y_Mo_members_94.desc).map (fun d => d.parameters.length) = some 0 := by decide +kernel
def b_Mo_members_94_4 (M0 : Mem) (y1 : Int32 × Int32) : Option ((Int32 × Int32) ⊕ (Int32)) :=
  if decide (y1.2 < (M0.1 95 1)) then (if inb y1.2 10 then jn_ (fun (u6 : Int32) => some (.inl (y1.1 ||| u6, y1.2 + 1))) fun k7 => if decide ((M0.1 97 y1.2.toNatClampNeg) = 1) then (k7 (1 <<< (y1.2 &&& 31))) else (if inb y1.2 10 then if decide ((M0.1 97 y1.2.toNatClampNeg) = 3) then (k7 (1 <<< (y1.2 &&& 31))) else (k7 0) else none) else none) else (some (.inr y1.1))
def f_Mo_members_94  (M0 : Mem) : Option (Int32) :=
  (itr (b_Mo_members_94_4 M0) FU (0, 0)).bind fun q10 => some q10
set_option maxHeartbeats 4000000 in
set_option maxRecDepth 20000 in
theorem C_Mo_members_94 {D : va_G} {ad adK adV : Nat → Nat} {cI cJ : ClassId} {l : Launch}  (M0 : Mem) (o : Int32) (h : f_Mo_members_94  M0 = some o) : Ct D ad adK adV cI cJ l y_Mo_members_94 cX12_members 3 (some .int) 0 0 [.ref (ad 94)] M0 (some (.int o)) M0 := by
  refine x_start (lv := [(0, .ref (ad 94))]) (own := "CurrentFarmsModel") rfl (by decide) (Nat.le_of_ble_eq_true rfl) rfl ?_
  intro p e s m args below meth c Q hQ B
  unfold f_Mo_members_94 at h
  refine x_iconst (v := 0) (pc := 0) B dX12_members_0 rfl ?_
  refine x_istore_n (lv' := [(1, .int 0), (0, .ref (ad 94))]) (pc := 1) B dX12_members_1 rfl (by decide) rfl ?_
  refine x_iconst (v := 0) (pc := 2) B dX12_members_2 rfl ?_
  refine x_istore_n (lv' := [(2, .int 0), (1, .int 0), (0, .ref (ad 94))]) (pc := 3) B dX12_members_3 rfl (by decide) rfl ?_
  refine x_pick (lv' := [(0, .ref (ad 94)), (1, .int 0), (2, .int 0)]) [2, 1, 0] rfl ?_
  obtain ⟨q10, hq10, h⟩ := bnd h
  refine x_loop (Head := fun (y1 : Int32 × Int32) => XX D ad cI cJ p l e (Rm 0 0) s m args below meth c Q 3 M0 4 [(0, .ref (ad 94)), (1, .int y1.1), (2, .int y1.2)] []) (Ex := fun (q10 : Int32) => XX D ad cI cJ p l e (Rm 0 0) s m args below meth c Q 3 M0 50 [(1, .int q10)] []) (fun y1 r h hback hexit => ?_) FU _ q10 hq10 ?_
  · unfold b_Mo_members_94_4 at h
    refine x_iload_n (pc := 4) B 2 dX12_members_4 rfl rfl ?_
    refine x_aload_n (pc := 5) B 0 dX12_members_5 rfl rfl ?_
    refine x_get (T := TX12) (pc := 6) B 1 oi_94 rfl uw_12 (by decide) rfl tw_1300 rfl dX12_members_6 ?_
    refine x_iconst (v := 1) (pc := 9) B dX12_members_9 rfl ?_
    refine x_iald_c (j := 1) (pc := 10) B ai_95 (by decide) rfl dX12_members_10 ?_
    refine x_icmp_ge (tgt := 50) (pc := 11) B dX12_members_11 rfl (fun hc2 => ?_) (fun hc2 => ?_)
    · have h := iff_ hc2 h
      refine x_pick (lv' := [(1, .int y1.1)]) [1] rfl ?_
      have z := hexit y1.1 (Option.some.inj h).symm
      exact z
    · have h := ift hc2 h
      refine x_iload_n (pc := 14) B 1 dX12_members_14 rfl rfl ?_
      refine x_aload_n (pc := 15) B 0 dX12_members_15 rfl rfl ?_
      refine x_get (T := TX12) (pc := 16) B 4 oi_94 rfl uw_12 (by decide) rfl tw_1303 rfl dX12_members_16 ?_
      refine x_iload_n (pc := 19) B 2 dX12_members_19 rfl rfl ?_
      obtain ⟨hk3, h⟩ := ifn h
      refine x_iald (pc := 20) B ai_97 hk3 dX12_members_20 ?_
      refine x_iconst (v := 1) (pc := 21) B dX12_members_21 rfl ?_
      refine jn_k h (fun (u6 : Int32) => XX D ad cI cJ p l e (Rm 0 0) s m args below meth c Q 3 M0 42 [(0, .ref (ad 94)), (2, .int y1.2)] [.int u6, .int y1.1]) (fun u6 h => ?_) (fun k7 h JJ => ?_)
      · refine x_ior (pc := 42) B dX12_members_42 ?_
        refine x_istore_n (lv' := [(1, .int (y1.1 ||| u6)), (0, .ref (ad 94)), (2, .int y1.2)]) (pc := 43) B dX12_members_43 rfl (by decide) rfl ?_
        refine x_iinc (k := 2) (v := y1.2 + 1) (lv' := [(2, .int (y1.2 + 1)), (1, .int (y1.1 ||| u6)), (0, .ref (ad 94))]) (pc := 44) B dX12_members_44 rfl rfl (by decide) rfl ?_
        refine x_goto (tgt := 4) (pc := 47) B dX12_members_47 rfl ?_
        refine x_pick (lv' := [(0, .ref (ad 94)), (1, .int (y1.1 ||| u6)), (2, .int (y1.2 + 1))]) [2, 1, 0] rfl ?_
        have z := hback (y1.1 ||| u6, y1.2 + 1) (Option.some.inj h).symm
        exact z
      · refine x_icmp_eq (tgt := 35) (pc := 22) B dX12_members_22 rfl (fun hc4 => ?_) (fun hc4 => ?_)
        · have h := ift hc4 h
          refine x_iconst (v := 1) (pc := 35) B dX12_members_35 rfl ?_
          refine x_iload_n (pc := 36) B 2 dX12_members_36 rfl rfl ?_
          refine x_ishl (pc := 37) B dX12_members_37 ?_
          refine x_goto (tgt := 42) (pc := 38) B dX12_members_38 rfl ?_
          refine x_pick (lv' := [(0, .ref (ad 94)), (2, .int y1.2)]) [0, 2] rfl ?_
          have z := JJ (1 <<< (y1.2 &&& 31)) h
          exact z
        · have h := iff_ hc4 h
          refine x_aload_n (pc := 25) B 0 dX12_members_25 rfl rfl ?_
          refine x_get (T := TX12) (pc := 26) B 4 oi_94 rfl uw_12 (by decide) rfl tw_1303 rfl dX12_members_26 ?_
          refine x_iload_n (pc := 29) B 2 dX12_members_29 rfl rfl ?_
          obtain ⟨hk8, h⟩ := ifn h
          refine x_iald (pc := 30) B ai_97 hk8 dX12_members_30 ?_
          refine x_iconst (v := 3) (pc := 31) B dX12_members_31 rfl ?_
          refine x_icmp_ne (tgt := 41) (pc := 32) B dX12_members_32 rfl (fun hc9 => ?_) (fun hc9 => ?_)
          · have h := iff_ hc9 h
            refine x_iconst (v := 0) (pc := 41) B dX12_members_41 rfl ?_
            refine x_pick (lv' := [(0, .ref (ad 94)), (2, .int y1.2)]) [0, 2] rfl ?_
            have z := JJ 0 h
            exact z
          · have h := ift hc9 h
            refine x_iconst (v := 1) (pc := 35) B dX12_members_35 rfl ?_
            refine x_iload_n (pc := 36) B 2 dX12_members_36 rfl rfl ?_
            refine x_ishl (pc := 37) B dX12_members_37 ?_
            refine x_goto (tgt := 42) (pc := 38) B dX12_members_38 rfl ?_
            refine x_pick (lv' := [(0, .ref (ad 94)), (2, .int y1.2)]) [0, 2] rfl ?_
            have z := JJ (1 <<< (y1.2 &&& 31)) h
            exact z
  · refine x_iload_n (pc := 50) B 0 dX12_members_50 rfl rfl ?_
    obtain rfl := Option.some.inj h
    exact x_iret (pc := 51) B hQ dX12_members_51
-- CurrentFarmsModel.count1(I)I []
abbrev y_Mo_count1 : MethodName := ⟨"CurrentFarmsModel", "count1", "(I)I"⟩
abbrev cX12_count1 : ByteArray := prog_14_method_29_code
theorem dX12_count1_0 : decode cX12_count1 0 = .ok (.iconst 0, 1) := by decide +kernel
theorem dX12_count1_1 : decode cX12_count1 1 = .ok (.istore_n 1, 1) := by decide +kernel
theorem dX12_count1_2 : decode cX12_count1 2 = .ok (.iconst 0, 1) := by decide +kernel
theorem dX12_count1_3 : decode cX12_count1 3 = .ok (.istore_n 2, 1) := by decide +kernel
theorem dX12_count1_4 : decode cX12_count1 4 = .ok (.iload_n 2, 1) := by decide +kernel
theorem dX12_count1_5 : decode cX12_count1 5 = .ok (.bipush 20, 2) := by decide +kernel
theorem dX12_count1_7 : decode cX12_count1 7 = .ok (.if_icmp .ge 17, 3) := by decide +kernel
theorem dX12_count1_10 : decode cX12_count1 10 = .ok (.iload_n 1, 1) := by decide +kernel
theorem dX12_count1_11 : decode cX12_count1 11 = .ok (.iload_n 0, 1) := by decide +kernel
theorem dX12_count1_12 : decode cX12_count1 12 = .ok (.iload_n 2, 1) := by decide +kernel
theorem dX12_count1_13 : decode cX12_count1 13 = .ok (.ishr, 1) := by decide +kernel
theorem dX12_count1_14 : decode cX12_count1 14 = .ok (.iconst 1, 1) := by decide +kernel
theorem dX12_count1_15 : decode cX12_count1 15 = .ok (.iand, 1) := by decide +kernel
theorem dX12_count1_16 : decode cX12_count1 16 = .ok (.iadd, 1) := by decide +kernel
theorem dX12_count1_17 : decode cX12_count1 17 = .ok (.istore_n 1, 1) := by decide +kernel
theorem dX12_count1_18 : decode cX12_count1 18 = .ok (.iinc 2 1, 3) := by decide +kernel
theorem dX12_count1_21 : decode cX12_count1 21 = .ok (.goto (-17), 3) := by decide +kernel
theorem dX12_count1_24 : decode cX12_count1 24 = .ok (.iload_n 1, 1) := by decide +kernel
theorem dX12_count1_25 : decode cX12_count1 25 = .ok (.ireturn, 1) := by decide +kernel
theorem hd_Mo_count1 : y_Mo_count1.cls ≠ "java/lang/invoke/MethodHandle" ∧ y_Mo_count1.cls ≠ "java/lang/invoke/VarHandle" ∧ (parseMethodDescriptor y_Mo_count1.desc).map (fun d => d.parameters.length) = some 1 := by decide +kernel
def b_Mo_count1_4 (a0 : Int32) (y1 : Int32 × Int32) : Option ((Int32 × Int32) ⊕ (Int32)) :=
  if decide (y1.2 < 20) then (some (.inl (y1.1 + ((a0 >>> (y1.2 &&& 31)) &&& 1), y1.2 + 1))) else (some (.inr y1.1))
def f_Mo_count1 (a0 : Int32) : Option (Int32) :=
  (itr (b_Mo_count1_4 a0) FU (0, 0)).bind fun q3 => some q3
set_option maxHeartbeats 4000000 in
set_option maxRecDepth 20000 in
theorem C_Mo_count1 {D : va_G} {ad adK adV : Nat → Nat} {cI cJ : ClassId} {l : Launch} (a0 : Int32) (M0 : Mem) (o : Int32) (h : f_Mo_count1 a0 = some o) : Ct D ad adK adV cI cJ l y_Mo_count1 cX12_count1 3 (some .int) 0 0 [.int a0] M0 (some (.int o)) M0 := by
  refine x_start (lv := [(0, .int a0)]) (own := "CurrentFarmsModel") rfl (by decide) (Nat.le_of_ble_eq_true rfl) rfl ?_
  intro p e s m args below meth c Q hQ B
  unfold f_Mo_count1 at h
  refine x_iconst (v := 0) (pc := 0) B dX12_count1_0 rfl ?_
  refine x_istore_n (lv' := [(1, .int 0), (0, .int a0)]) (pc := 1) B dX12_count1_1 rfl (by decide) rfl ?_
  refine x_iconst (v := 0) (pc := 2) B dX12_count1_2 rfl ?_
  refine x_istore_n (lv' := [(2, .int 0), (1, .int 0), (0, .int a0)]) (pc := 3) B dX12_count1_3 rfl (by decide) rfl ?_
  refine x_pick (lv' := [(0, .int a0), (1, .int 0), (2, .int 0)]) [2, 1, 0] rfl ?_
  obtain ⟨q3, hq3, h⟩ := bnd h
  refine x_loop (Head := fun (y1 : Int32 × Int32) => XX D ad cI cJ p l e (Rm 0 0) s m args below meth c Q 3 M0 4 [(0, .int a0), (1, .int y1.1), (2, .int y1.2)] []) (Ex := fun (q3 : Int32) => XX D ad cI cJ p l e (Rm 0 0) s m args below meth c Q 3 M0 24 [(1, .int q3)] []) (fun y1 r h hback hexit => ?_) FU _ q3 hq3 ?_
  · unfold b_Mo_count1_4 at h
    refine x_iload_n (pc := 4) B 2 dX12_count1_4 rfl rfl ?_
    refine x_bipush (v := 20) (pc := 5) B dX12_count1_5 rfl ?_
    refine x_icmp_ge (tgt := 24) (pc := 7) B dX12_count1_7 rfl (fun hc2 => ?_) (fun hc2 => ?_)
    · have h := iff_ hc2 h
      refine x_pick (lv' := [(1, .int y1.1)]) [1] rfl ?_
      have z := hexit y1.1 (Option.some.inj h).symm
      exact z
    · have h := ift hc2 h
      refine x_iload_n (pc := 10) B 1 dX12_count1_10 rfl rfl ?_
      refine x_iload_n (pc := 11) B 0 dX12_count1_11 rfl rfl ?_
      refine x_iload_n (pc := 12) B 2 dX12_count1_12 rfl rfl ?_
      refine x_ishr (pc := 13) B dX12_count1_13 ?_
      refine x_iconst (v := 1) (pc := 14) B dX12_count1_14 rfl ?_
      refine x_iand (pc := 15) B dX12_count1_15 ?_
      refine x_iadd (pc := 16) B dX12_count1_16 ?_
      refine x_istore_n (lv' := [(1, .int (y1.1 + ((a0 >>> (y1.2 &&& 31)) &&& 1))), (0, .int a0), (2, .int y1.2)]) (pc := 17) B dX12_count1_17 rfl (by decide) rfl ?_
      refine x_iinc (k := 2) (v := y1.2 + 1) (lv' := [(2, .int (y1.2 + 1)), (1, .int (y1.1 + ((a0 >>> (y1.2 &&& 31)) &&& 1))), (0, .int a0)]) (pc := 18) B dX12_count1_18 rfl rfl (by decide) rfl ?_
      refine x_goto (tgt := 4) (pc := 21) B dX12_count1_21 rfl ?_
      refine x_pick (lv' := [(0, .int a0), (1, .int (y1.1 + ((a0 >>> (y1.2 &&& 31)) &&& 1))), (2, .int (y1.2 + 1))]) [2, 1, 0] rfl ?_
      have z := hback (y1.1 + ((a0 >>> (y1.2 &&& 31)) &&& 1), y1.2 + 1) (Option.some.inj h).symm
      exact z
  · refine x_iload_n (pc := 24) B 0 dX12_count1_24 rfl rfl ?_
    obtain rfl := Option.some.inj h
    exact x_iret (pc := 25) B hQ dX12_count1_25
-- CurrentFarmsModel.tip(I)I [94]
abbrev y_Mo_tip_94 : MethodName := ⟨"CurrentFarmsModel", "tip", "(I)I"⟩
abbrev cX12_tip : ByteArray := prog_14_method_30_code
theorem dX12_tip_0 : decode cX12_tip 0 = .ok (.aload_n 0, 1) := by decide +kernel
theorem dX12_tip_1 : decode cX12_tip 1 = .ok (.iload_n 1, 1) := by decide +kernel
theorem dX12_tip_2 : decode cX12_tip 2 = .ok (.invokevirtual 110, 3) := by decide +kernel
theorem dX12_tip_5 : decode cX12_tip 5 = .ok (.ifCond .ne 5, 3) := by decide +kernel
theorem dX12_tip_8 : decode cX12_tip 8 = .ok (.iconst (-1), 1) := by decide +kernel
theorem dX12_tip_9 : decode cX12_tip 9 = .ok (.ireturn, 1) := by decide +kernel
theorem dX12_tip_10 : decode cX12_tip 10 = .ok (.aload_n 0, 1) := by decide +kernel
theorem dX12_tip_11 : decode cX12_tip 11 = .ok (.aload_n 0, 1) := by decide +kernel
theorem dX12_tip_12 : decode cX12_tip 12 = .ok (.getfield 7, 3) := by decide +kernel
theorem dX12_tip_15 : decode cX12_tip 15 = .ok (.iconst 0, 1) := by decide +kernel
theorem dX12_tip_16 : decode cX12_tip 16 = .ok (.iaload, 1) := by decide +kernel
theorem dX12_tip_17 : decode cX12_tip 17 = .ok (.iconst (-1), 1) := by decide +kernel
theorem dX12_tip_18 : decode cX12_tip 18 = .ok (.iconst (-1), 1) := by decide +kernel
theorem dX12_tip_19 : decode cX12_tip 19 = .ok (.iconst 0, 1) := by decide +kernel
theorem dX12_tip_20 : decode cX12_tip 20 = .ok (.invokevirtual 130, 3) := by decide +kernel
theorem dX12_tip_23 : decode cX12_tip 23 = .ok (.aload_n 0, 1) := by decide +kernel
theorem dX12_tip_24 : decode cX12_tip 24 = .ok (.invokevirtual 140, 3) := by decide +kernel
theorem dX12_tip_27 : decode cX12_tip 27 = .ok (.istore_n 2, 1) := by decide +kernel
theorem dX12_tip_28 : decode cX12_tip 28 = .ok (.iload_n 2, 1) := by decide +kernel
theorem dX12_tip_29 : decode cX12_tip 29 = .ok (.iload_n 1, 1) := by decide +kernel
theorem dX12_tip_30 : decode cX12_tip 30 = .ok (.ishr, 1) := by decide +kernel
theorem dX12_tip_31 : decode cX12_tip 31 = .ok (.iconst 1, 1) := by decide +kernel
theorem dX12_tip_32 : decode cX12_tip 32 = .ok (.iand, 1) := by decide +kernel
theorem dX12_tip_33 : decode cX12_tip 33 = .ok (.iconst 1, 1) := by decide +kernel
theorem dX12_tip_34 : decode cX12_tip 34 = .ok (.if_icmp .ne 5, 3) := by decide +kernel
theorem dX12_tip_37 : decode cX12_tip 37 = .ok (.iconst 0, 1) := by decide +kernel
theorem dX12_tip_38 : decode cX12_tip 38 = .ok (.ireturn, 1) := by decide +kernel
theorem dX12_tip_39 : decode cX12_tip 39 = .ok (.aload_n 0, 1) := by decide +kernel
theorem dX12_tip_40 : decode cX12_tip 40 = .ok (.aload_n 0, 1) := by decide +kernel
theorem dX12_tip_41 : decode cX12_tip 41 = .ok (.getfield 7, 3) := by decide +kernel
theorem dX12_tip_44 : decode cX12_tip 44 = .ok (.iconst 0, 1) := by decide +kernel
theorem dX12_tip_45 : decode cX12_tip 45 = .ok (.iaload, 1) := by decide +kernel
theorem dX12_tip_46 : decode cX12_tip 46 = .ok (.iconst (-1), 1) := by decide +kernel
theorem dX12_tip_47 : decode cX12_tip 47 = .ok (.iload_n 1, 1) := by decide +kernel
theorem dX12_tip_48 : decode cX12_tip 48 = .ok (.iconst 0, 1) := by decide +kernel
theorem dX12_tip_49 : decode cX12_tip 49 = .ok (.invokevirtual 130, 3) := by decide +kernel
theorem dX12_tip_52 : decode cX12_tip 52 = .ok (.aload_n 0, 1) := by decide +kernel
theorem dX12_tip_53 : decode cX12_tip 53 = .ok (.invokevirtual 140, 3) := by decide +kernel
theorem dX12_tip_56 : decode cX12_tip 56 = .ok (.iload_n 2, 1) := by decide +kernel
theorem dX12_tip_57 : decode cX12_tip 57 = .ok (.iconst (-1), 1) := by decide +kernel
theorem dX12_tip_58 : decode cX12_tip 58 = .ok (.ixor, 1) := by decide +kernel
theorem dX12_tip_59 : decode cX12_tip 59 = .ok (.iand, 1) := by decide +kernel
theorem dX12_tip_60 : decode cX12_tip 60 = .ok (.invokestatic 144, 3) := by decide +kernel
theorem dX12_tip_63 : decode cX12_tip 63 = .ok (.ireturn, 1) := by decide +kernel
theorem hd_Mo_tip_94 : y_Mo_tip_94.cls ≠ "java/lang/invoke/MethodHandle" ∧ y_Mo_tip_94.cls ≠ "java/lang/invoke/VarHandle" ∧ (parseMethodDescriptor y_Mo_tip_94.desc).map (fun d => d.parameters.length) = some 1 := by decide +kernel
def f_Mo_tip_94 (a1 : Int32) (M0 : Mem) : Option (Int32 × Mem) :=
  (f_Mo_isFarm_94 a1 M0).bind fun q1 => if q1 then ((f_Mo_looks_94 (M0.1 95 0) (-1) (-1) 0 M0).bind fun q3 => (f_Mo_members_94 q3).bind fun q4 => if decide (((q4 >>> (a1 &&& 31)) &&& 1) = 1) then (some (0, q3)) else ((f_Mo_looks_94 (q3.1 95 0) (-1) a1 0 q3).bind fun q6 => (f_Mo_members_94 q6).bind fun q7 => (f_Mo_count1 (q7 &&& (q4 ^^^ (-1)))).bind fun q8 => some (q8, q6))) else (some ((-1), M0))
set_option maxHeartbeats 4000000 in
set_option maxRecDepth 20000 in
theorem C_Mo_tip_94 {D : va_G} {ad adK adV : Nat → Nat} {cI cJ : ClassId} {l : Launch} (a1 : Int32) (M0 : Mem) (o : Int32 × Mem) (h : f_Mo_tip_94 a1 M0 = some o) : Ct D ad adK adV cI cJ l y_Mo_tip_94 cX12_tip 3 (some .int) 2 54 [.ref (ad 94), .int a1] M0 (some (.int o.1)) o.2 := by
  refine x_start (lv := [(0, .ref (ad 94)), (1, .int a1)]) (own := "CurrentFarmsModel") rfl (by decide) (Nat.le_of_ble_eq_true rfl) rfl ?_
  intro p e s m args below meth c Q hQ B
  unfold f_Mo_tip_94 at h
  refine x_aload_n (pc := 0) B 0 dX12_tip_0 rfl rfl ?_
  refine x_iload_n (pc := 1) B 1 dX12_tip_1 rfl rfl ?_
  obtain ⟨q1, hq1, h⟩ := bnd h
  refine x_callV (rest := []) (st' := [.int (bI q1)]) (pc := 2) B oi_94 rfl (C_Mo_isFarm_94 a1 M0 _ hq1) tw_1448 tw_1445 tw_1447 tw_46 tw_111 hd_Mo_isFarm_94 ⟨Nat.le_of_ble_eq_true rfl, Nat.le_of_ble_eq_true rfl⟩ rfl rfl (Nat.le_of_ble_eq_true rfl) rfl dX12_tip_2 ?_
  refine x_if_ne_b (tgt := 10) (pc := 5) B dX12_tip_5 rfl (fun hc2 => ?_) (fun hc2 => ?_)
  · have h := ift hc2 h
    refine x_aload_n (pc := 10) B 0 dX12_tip_10 rfl rfl ?_
    refine x_aload_n (pc := 11) B 0 dX12_tip_11 rfl rfl ?_
    refine x_get (T := TX12) (pc := 12) B 1 oi_94 rfl uw_12 (by decide) rfl tw_1300 rfl dX12_tip_12 ?_
    refine x_iconst (v := 0) (pc := 15) B dX12_tip_15 rfl ?_
    refine x_iald_c (j := 0) (pc := 16) B ai_95 (by decide) rfl dX12_tip_16 ?_
    refine x_iconst (v := (-1)) (pc := 17) B dX12_tip_17 rfl ?_
    refine x_iconst (v := (-1)) (pc := 18) B dX12_tip_18 rfl ?_
    refine x_iconst (v := 0) (pc := 19) B dX12_tip_19 rfl ?_
    obtain ⟨q3, hq3, h⟩ := bnd h
    refine x_callV (rest := []) (st' := []) (pc := 20) B oi_94 rfl (C_Mo_looks_94 (M0.1 95 0) (-1) (-1) 0 M0 _ hq3) tw_1475 tw_1472 tw_1474 tw_50 tw_111 hd_Mo_looks_94 ⟨Nat.le_of_ble_eq_true rfl, Nat.le_of_ble_eq_true rfl⟩ rfl rfl (Nat.le_of_ble_eq_true rfl) rfl dX12_tip_20 ?_
    refine x_aload_n (pc := 23) B 0 dX12_tip_23 rfl rfl ?_
    obtain ⟨q4, hq4, h⟩ := bnd h
    refine x_callV (rest := []) (st' := [.int q4]) (pc := 24) B oi_94 rfl (C_Mo_members_94  q3 _ hq4) tw_1585 tw_1582 tw_1584 tw_72 tw_111 hd_Mo_members_94 ⟨Nat.le_of_ble_eq_true rfl, Nat.le_of_ble_eq_true rfl⟩ rfl rfl (Nat.le_of_ble_eq_true rfl) rfl dX12_tip_24 ?_
    refine x_istore_n (lv' := [(2, .int q4), (0, .ref (ad 94)), (1, .int a1)]) (pc := 27) B dX12_tip_27 rfl (by decide) rfl ?_
    refine x_iload_n (pc := 28) B 0 dX12_tip_28 rfl rfl ?_
    refine x_iload_n (pc := 29) B 2 dX12_tip_29 rfl rfl ?_
    refine x_ishr (pc := 30) B dX12_tip_30 ?_
    refine x_iconst (v := 1) (pc := 31) B dX12_tip_31 rfl ?_
    refine x_iand (pc := 32) B dX12_tip_32 ?_
    refine x_iconst (v := 1) (pc := 33) B dX12_tip_33 rfl ?_
    refine x_icmp_ne (tgt := 39) (pc := 34) B dX12_tip_34 rfl (fun hc5 => ?_) (fun hc5 => ?_)
    · have h := iff_ hc5 h
      refine x_aload_n (pc := 39) B 1 dX12_tip_39 rfl rfl ?_
      refine x_aload_n (pc := 40) B 1 dX12_tip_40 rfl rfl ?_
      refine x_get (T := TX12) (pc := 41) B 1 oi_94 rfl uw_12 (by decide) rfl tw_1300 rfl dX12_tip_41 ?_
      refine x_iconst (v := 0) (pc := 44) B dX12_tip_44 rfl ?_
      refine x_iald_c (j := 0) (pc := 45) B ai_95 (by decide) rfl dX12_tip_45 ?_
      refine x_iconst (v := (-1)) (pc := 46) B dX12_tip_46 rfl ?_
      refine x_iload_n (pc := 47) B 2 dX12_tip_47 rfl rfl ?_
      refine x_iconst (v := 0) (pc := 48) B dX12_tip_48 rfl ?_
      obtain ⟨q6, hq6, h⟩ := bnd h
      refine x_callV (rest := []) (st' := []) (pc := 49) B oi_94 rfl (C_Mo_looks_94 (q3.1 95 0) (-1) a1 0 q3 _ hq6) tw_1475 tw_1472 tw_1474 tw_50 tw_111 hd_Mo_looks_94 ⟨Nat.le_of_ble_eq_true rfl, Nat.le_of_ble_eq_true rfl⟩ rfl rfl (Nat.le_of_ble_eq_true rfl) rfl dX12_tip_49 ?_
      refine x_aload_n (pc := 52) B 1 dX12_tip_52 rfl rfl ?_
      obtain ⟨q7, hq7, h⟩ := bnd h
      refine x_callV (rest := []) (st' := [.int q7]) (pc := 53) B oi_94 rfl (C_Mo_members_94  q6 _ hq7) tw_1585 tw_1582 tw_1584 tw_72 tw_111 hd_Mo_members_94 ⟨Nat.le_of_ble_eq_true rfl, Nat.le_of_ble_eq_true rfl⟩ rfl rfl (Nat.le_of_ble_eq_true rfl) rfl dX12_tip_53 ?_
      refine x_iload_n (pc := 56) B 0 dX12_tip_56 rfl rfl ?_
      refine x_iconst (v := (-1)) (pc := 57) B dX12_tip_57 rfl ?_
      refine x_ixor (pc := 58) B dX12_tip_58 ?_
      refine x_iand (pc := 59) B dX12_tip_59 ?_
      obtain ⟨q8, hq8, h⟩ := bnd h
      refine x_callS (rest := []) (st' := [.int q8]) (pc := 60) B (C_Mo_count1 (q7 &&& (q4 ^^^ (-1))) q6 _ hq8) tw_1588 tw_1586 tw_1587 tw_111 hd_Mo_count1 ⟨Nat.le_of_ble_eq_true rfl, Nat.le_of_ble_eq_true rfl⟩ rfl rfl (Nat.le_of_ble_eq_true rfl) rfl dX12_tip_60 ?_
      obtain rfl := Option.some.inj h
      exact x_iret (pc := 63) B hQ dX12_tip_63
    · have h := ift hc5 h
      refine x_iconst (v := 0) (pc := 37) B dX12_tip_37 rfl ?_
      obtain rfl := Option.some.inj h
      exact x_iret (pc := 38) B hQ dX12_tip_38
  · have h := iff_ hc2 h
    refine x_iconst (v := (-1)) (pc := 8) B dX12_tip_8 rfl ?_
    obtain rfl := Option.some.inj h
    exact x_iret (pc := 9) B hQ dX12_tip_9
-- CurrentFarmsModel.feed(JI)I [94]
abbrev y_Mo_feed_94 : MethodName := ⟨"CurrentFarmsModel", "feed", "(JI)I"⟩
abbrev cX12_feed : ByteArray := prog_14_method_31_code
theorem dX12_feed_0 : decode cX12_feed 0 = .ok (.iload_n 3, 1) := by decide +kernel
theorem dX12_feed_1 : decode cX12_feed 1 = .ok (.iconst 1, 1) := by decide +kernel
theorem dX12_feed_2 : decode cX12_feed 2 = .ok (.bipush 8, 2) := by decide +kernel
theorem dX12_feed_4 : decode cX12_feed 4 = .ok (.invokestatic 84, 3) := by decide +kernel
theorem dX12_feed_7 : decode cX12_feed 7 = .ok (.ifCond .ne 6, 3) := by decide +kernel
theorem dX12_feed_10 : decode cX12_feed 10 = .ok (.bipush (-2), 2) := by decide +kernel
theorem dX12_feed_12 : decode cX12_feed 12 = .ok (.ireturn, 1) := by decide +kernel
theorem dX12_feed_13 : decode cX12_feed 13 = .ok (.aload_n 0, 1) := by decide +kernel
theorem dX12_feed_14 : decode cX12_feed 14 = .ok (.getfield 7, 3) := by decide +kernel
theorem dX12_feed_17 : decode cX12_feed 17 = .ok (.iconst 4, 1) := by decide +kernel
theorem dX12_feed_18 : decode cX12_feed 18 = .ok (.iaload, 1) := by decide +kernel
theorem dX12_feed_19 : decode cX12_feed 19 = .ok (.iload_n 3, 1) := by decide +kernel
theorem dX12_feed_20 : decode cX12_feed 20 = .ok (.iadd, 1) := by decide +kernel
theorem dX12_feed_21 : decode cX12_feed 21 = .ok (.bipush 120, 2) := by decide +kernel
theorem dX12_feed_23 : decode cX12_feed 23 = .ok (.if_icmp .le 6, 3) := by decide +kernel
theorem dX12_feed_26 : decode cX12_feed 26 = .ok (.bipush (-4), 2) := by decide +kernel
theorem dX12_feed_28 : decode cX12_feed 28 = .ok (.ireturn, 1) := by decide +kernel
theorem dX12_feed_29 : decode cX12_feed 29 = .ok (.iload_n 3, 1) := by decide +kernel
theorem dX12_feed_30 : decode cX12_feed 30 = .ok (.iconst 1, 1) := by decide +kernel
theorem dX12_feed_31 : decode cX12_feed 31 = .ok (.isub, 1) := by decide +kernel
theorem dX12_feed_32 : decode cX12_feed 32 = .ok (.istore 4, 2) := by decide +kernel
theorem dX12_feed_34 : decode cX12_feed 34 = .ok (.iload 4, 2) := by decide +kernel
theorem dX12_feed_36 : decode cX12_feed 36 = .ok (.ifCond .lt 46, 3) := by decide +kernel
theorem dX12_feed_39 : decode cX12_feed 39 = .ok (.aload_n 0, 1) := by decide +kernel
theorem dX12_feed_40 : decode cX12_feed 40 = .ok (.getfield 7, 3) := by decide +kernel
theorem dX12_feed_43 : decode cX12_feed 43 = .ok (.sipush 2140, 3) := by decide +kernel
theorem dX12_feed_46 : decode cX12_feed 46 = .ok (.aload_n 0, 1) := by decide +kernel
theorem dX12_feed_47 : decode cX12_feed 47 = .ok (.getfield 7, 3) := by decide +kernel
theorem dX12_feed_50 : decode cX12_feed 50 = .ok (.iconst 4, 1) := by decide +kernel
theorem dX12_feed_51 : decode cX12_feed 51 = .ok (.iaload, 1) := by decide +kernel
theorem dX12_feed_52 : decode cX12_feed 52 = .ok (.iadd, 1) := by decide +kernel
theorem dX12_feed_53 : decode cX12_feed 53 = .ok (.lload_n 1, 1) := by decide +kernel
theorem dX12_feed_54 : decode cX12_feed 54 = .ok (.bipush 8, 2) := by decide +kernel
theorem dX12_feed_56 : decode cX12_feed 56 = .ok (.iload 4, 2) := by decide +kernel
theorem dX12_feed_58 : decode cX12_feed 58 = .ok (.imul, 1) := by decide +kernel
theorem dX12_feed_59 : decode cX12_feed 59 = .ok (.lshr, 1) := by decide +kernel
theorem dX12_feed_60 : decode cX12_feed 60 = .ok (.ldc2_w 147, 3) := by decide +kernel
theorem dX12_feed_63 : decode cX12_feed 63 = .ok (.land, 1) := by decide +kernel
theorem dX12_feed_64 : decode cX12_feed 64 = .ok (.l2i, 1) := by decide +kernel
theorem dX12_feed_65 : decode cX12_feed 65 = .ok (.iastore, 1) := by decide +kernel
theorem dX12_feed_66 : decode cX12_feed 66 = .ok (.aload_n 0, 1) := by decide +kernel
theorem dX12_feed_67 : decode cX12_feed 67 = .ok (.getfield 7, 3) := by decide +kernel
theorem dX12_feed_70 : decode cX12_feed 70 = .ok (.iconst 4, 1) := by decide +kernel
theorem dX12_feed_71 : decode cX12_feed 71 = .ok (.dup2, 1) := by decide +kernel
theorem dX12_feed_72 : decode cX12_feed 72 = .ok (.iaload, 1) := by decide +kernel
theorem dX12_feed_73 : decode cX12_feed 73 = .ok (.iconst 1, 1) := by decide +kernel
theorem dX12_feed_74 : decode cX12_feed 74 = .ok (.iadd, 1) := by decide +kernel
theorem dX12_feed_75 : decode cX12_feed 75 = .ok (.iastore, 1) := by decide +kernel
theorem dX12_feed_76 : decode cX12_feed 76 = .ok (.iinc 4 (-1), 3) := by decide +kernel
theorem dX12_feed_79 : decode cX12_feed 79 = .ok (.goto (-45), 3) := by decide +kernel
theorem dX12_feed_82 : decode cX12_feed 82 = .ok (.aload_n 0, 1) := by decide +kernel
theorem dX12_feed_83 : decode cX12_feed 83 = .ok (.getfield 7, 3) := by decide +kernel
theorem dX12_feed_86 : decode cX12_feed 86 = .ok (.iconst 4, 1) := by decide +kernel
theorem dX12_feed_87 : decode cX12_feed 87 = .ok (.iaload, 1) := by decide +kernel
theorem dX12_feed_88 : decode cX12_feed 88 = .ok (.ireturn, 1) := by decide +kernel
theorem hd_Mo_feed_94 : y_Mo_feed_94.cls ≠ "java/lang/invoke/MethodHandle" ∧ y_Mo_feed_94.cls ≠ "java/lang/invoke/VarHandle" ∧ (parseMethodDescriptor y_Mo_feed_94.desc).map (fun d => d.parameters.length) = some 2 := by decide +kernel
def b_Mo_feed_94_34 (a1 : Int64) (y4 : Int32 × Mem) : Option ((Int32 × Mem) ⊕ (Mem)) :=
  if decide (y4.1 < 0) then (some (.inr y4.2)) else (if inb (2140 + (y4.2.1 95 4)) 4700 then jv_ (wI y4.2 95 (2140 + (y4.2.1 95 4)).toNatClampNeg (((a1 >>> ((8 * y4.1).toInt64 &&& 63)) &&& 255).toInt32)) fun M7 => jv_ (wI M7 95 4 ((M7.1 95 4) + 1)) fun M8 => some (.inl (y4.1 + (-1), M8)) else none)
def f_Mo_feed_94 (a1 : Int64) (a3 : Int32) (M0 : Mem) : Option (Int32 × Mem) :=
  (f_Mo_in a3 1 8).bind fun q1 => if q1 then (if decide (((M0.1 95 4) + a3) ≤ 120) then ((itr (b_Mo_feed_94_34 a1) FU (a3 - 1, M0)).bind fun q9 => some (q9.1 95 4, q9)) else (some ((-4), M0))) else (some ((-2), M0))
set_option maxHeartbeats 4000000 in
set_option maxRecDepth 20000 in
theorem C_Mo_feed_94 {D : va_G} {ad adK adV : Nat → Nat} {cI cJ : ClassId} {l : Launch} (a1 : Int64) (a3 : Int32) (M0 : Mem) (o : Int32 × Mem) (h : f_Mo_feed_94 a1 a3 M0 = some o) : Ct D ad adK adV cI cJ l y_Mo_feed_94 cX12_feed 5 (some .int) 1 22 [.ref (ad 94), .long a1, .int a3] M0 (some (.int o.1)) o.2 := by
  refine x_start (lv := [(0, .ref (ad 94)), (1, .long a1), (3, .int a3)]) (own := "CurrentFarmsModel") rfl (by decide) (Nat.le_of_ble_eq_true rfl) rfl ?_
  intro p e s m args below meth c Q hQ B
  unfold f_Mo_feed_94 at h
  refine x_iload_n (pc := 0) B 2 dX12_feed_0 rfl rfl ?_
  refine x_iconst (v := 1) (pc := 1) B dX12_feed_1 rfl ?_
  refine x_bipush (v := 8) (pc := 2) B dX12_feed_2 rfl ?_
  obtain ⟨q1, hq1, h⟩ := bnd h
  refine x_callS (rest := []) (st' := [.int (bI q1)]) (pc := 4) B (C_Mo_in a3 1 8 M0 _ hq1) tw_1406 tw_1404 tw_1405 tw_111 hd_Mo_in ⟨Nat.le_of_ble_eq_true rfl, Nat.le_of_ble_eq_true rfl⟩ rfl rfl (Nat.le_of_ble_eq_true rfl) rfl dX12_feed_4 ?_
  refine x_if_ne_b (tgt := 13) (pc := 7) B dX12_feed_7 rfl (fun hc2 => ?_) (fun hc2 => ?_)
  · have h := ift hc2 h
    refine x_aload_n (pc := 13) B 0 dX12_feed_13 rfl rfl ?_
    refine x_get (T := TX12) (pc := 14) B 1 oi_94 rfl uw_12 (by decide) rfl tw_1300 rfl dX12_feed_14 ?_
    refine x_iconst (v := 4) (pc := 17) B dX12_feed_17 rfl ?_
    refine x_iald_c (j := 4) (pc := 18) B ai_95 (by decide) rfl dX12_feed_18 ?_
    refine x_iload_n (pc := 19) B 2 dX12_feed_19 rfl rfl ?_
    refine x_iadd (pc := 20) B dX12_feed_20 ?_
    refine x_bipush (v := 120) (pc := 21) B dX12_feed_21 rfl ?_
    refine x_icmp_le (tgt := 29) (pc := 23) B dX12_feed_23 rfl (fun hc3 => ?_) (fun hc3 => ?_)
    · have h := ift hc3 h
      refine x_iload_n (pc := 29) B 2 dX12_feed_29 rfl rfl ?_
      refine x_iconst (v := 1) (pc := 30) B dX12_feed_30 rfl ?_
      refine x_isub (pc := 31) B dX12_feed_31 ?_
      refine x_istore (lv' := [(4, .int (a3 - 1)), (0, .ref (ad 94)), (1, .long a1), (3, .int a3)]) (pc := 32) B dX12_feed_32 (by decide) rfl ?_
      refine x_pick (lv' := [(0, .ref (ad 94)), (1, .long a1), (4, .int (a3 - 1))]) [1, 2, 0] rfl ?_
      obtain ⟨q9, hq9, h⟩ := bnd h
      refine x_loop (Head := fun (y4 : Int32 × Mem) => XX D ad cI cJ p l e (Rm 1 22) s m args below meth c Q 5 y4.2 34 [(0, .ref (ad 94)), (1, .long a1), (4, .int y4.1)] []) (Ex := fun (q9 : Mem) => XX D ad cI cJ p l e (Rm 1 22) s m args below meth c Q 5 q9 82 [(0, .ref (ad 94))] []) (fun y4 r h hback hexit => ?_) FU _ q9 hq9 ?_
      · unfold b_Mo_feed_94_34 at h
        refine x_iload (pc := 34) B 2 dX12_feed_34 rfl ?_
        refine x_if_lt (tgt := 82) (pc := 36) B dX12_feed_36 rfl (fun hc5 => ?_) (fun hc5 => ?_)
        · have h := ift hc5 h
          refine x_pick (lv' := [(0, .ref (ad 94))]) [0] rfl ?_
          have z := hexit y4.2 (Option.some.inj h).symm
          exact z
        · have h := iff_ hc5 h
          refine x_aload_n (pc := 39) B 0 dX12_feed_39 rfl rfl ?_
          refine x_get (T := TX12) (pc := 40) B 1 oi_94 rfl uw_12 (by decide) rfl tw_1300 rfl dX12_feed_40 ?_
          refine x_sipush (v := 2140) (pc := 43) B dX12_feed_43 rfl ?_
          refine x_aload_n (pc := 46) B 0 dX12_feed_46 rfl rfl ?_
          refine x_get (T := TX12) (pc := 47) B 1 oi_94 rfl uw_12 (by decide) rfl tw_1300 rfl dX12_feed_47 ?_
          refine x_iconst (v := 4) (pc := 50) B dX12_feed_50 rfl ?_
          refine x_iald_c (j := 4) (pc := 51) B ai_95 (by decide) rfl dX12_feed_51 ?_
          refine x_iadd (pc := 52) B dX12_feed_52 ?_
          refine x_lload_n (pc := 53) B 1 dX12_feed_53 rfl rfl ?_
          refine x_bipush (v := 8) (pc := 54) B dX12_feed_54 rfl ?_
          refine x_iload (pc := 56) B 2 dX12_feed_56 rfl ?_
          refine x_imul (pc := 58) B dX12_feed_58 ?_
          refine x_lshr (pc := 59) B dX12_feed_59 ?_
          refine x_ldc2 (v := 255) (pc := 60) B tw_1593 dX12_feed_60 ?_
          refine x_land (pc := 63) B dX12_feed_63 ?_
          refine x_l2i (pc := 64) B dX12_feed_64 ?_
          obtain ⟨hk6, h⟩ := ifn h
          refine x_iast (pc := 65) B ai_95 hk6 dX12_feed_65 ?_
          refine jv_m (P := fun M7 => XX D ad cI cJ p l e (Rm 1 22) s m args below meth c Q 5 M7 66 [(0, .ref (ad 94)), (1, .long a1), (4, .int y4.1)] []) h (fun M7 h => ?_)
          refine x_aload_n (pc := 66) B 0 dX12_feed_66 rfl rfl ?_
          refine x_get (T := TX12) (pc := 67) B 1 oi_94 rfl uw_12 (by decide) rfl tw_1300 rfl dX12_feed_67 ?_
          refine x_iconst (v := 4) (pc := 70) B dX12_feed_70 rfl ?_
          refine x_dup2 (pc := 71) B dX12_feed_71 rfl rfl ?_
          refine x_iald_c (j := 4) (pc := 72) B ai_95 (by decide) rfl dX12_feed_72 ?_
          refine x_iconst (v := 1) (pc := 73) B dX12_feed_73 rfl ?_
          refine x_iadd (pc := 74) B dX12_feed_74 ?_
          refine x_iast_c (j := 4) (pc := 75) B ai_95 (by decide) rfl dX12_feed_75 ?_
          refine jv_m (P := fun M8 => XX D ad cI cJ p l e (Rm 1 22) s m args below meth c Q 5 M8 76 [(0, .ref (ad 94)), (1, .long a1), (4, .int y4.1)] []) h (fun M8 h => ?_)
          refine x_iinc (k := 2) (v := y4.1 + (-1)) (lv' := [(4, .int (y4.1 + (-1))), (0, .ref (ad 94)), (1, .long a1)]) (pc := 76) B dX12_feed_76 rfl rfl (by decide) rfl ?_
          refine x_goto (tgt := 34) (pc := 79) B dX12_feed_79 rfl ?_
          refine x_pick (lv' := [(0, .ref (ad 94)), (1, .long a1), (4, .int (y4.1 + (-1)))]) [1, 2, 0] rfl ?_
          have z := hback (y4.1 + (-1), M8) (Option.some.inj h).symm
          exact z
      · refine x_aload_n (pc := 82) B 0 dX12_feed_82 rfl rfl ?_
        refine x_get (T := TX12) (pc := 83) B 1 oi_94 rfl uw_12 (by decide) rfl tw_1300 rfl dX12_feed_83 ?_
        refine x_iconst (v := 4) (pc := 86) B dX12_feed_86 rfl ?_
        refine x_iald_c (j := 4) (pc := 87) B ai_95 (by decide) rfl dX12_feed_87 ?_
        obtain rfl := Option.some.inj h
        exact x_iret (pc := 88) B hQ dX12_feed_88
    · have h := iff_ hc3 h
      refine x_bipush (v := (-4)) (pc := 26) B dX12_feed_26 rfl ?_
      obtain rfl := Option.some.inj h
      exact x_iret (pc := 28) B hQ dX12_feed_28
  · have h := iff_ hc2 h
    refine x_bipush (v := (-2)) (pc := 10) B dX12_feed_10 rfl ?_
    obtain rfl := Option.some.inj h
    exact x_iret (pc := 12) B hQ dX12_feed_12
-- CurrentFarmsModel.word()I [94]
abbrev y_Mo_word_94 : MethodName := ⟨"CurrentFarmsModel", "word", "()I"⟩
abbrev cX12_word : ByteArray := prog_14_method_41_code
theorem dX12_word_0 : decode cX12_word 0 = .ok (.aload_n 0, 1) := by decide +kernel
theorem dX12_word_1 : decode cX12_word 1 = .ok (.invokevirtual 159, 3) := by decide +kernel
theorem dX12_word_4 : decode cX12_word 4 = .ok (.tableswitch 124 102 116 #[92, 124, 124, 124, 124, 124, 100, 76, 124, 124, 124, 124, 84, 108, 116], 76) := by decide +kernel
theorem dX12_word_80 : decode cX12_word 80 = .ok (.aload_n 0, 1) := by decide +kernel
theorem dX12_word_81 : decode cX12_word 81 = .ok (.ldc 208, 2) := by decide +kernel
theorem dX12_word_83 : decode cX12_word 83 = .ok (.invokevirtual 175, 3) := by decide +kernel
theorem dX12_word_86 : decode cX12_word 86 = .ok (.iconst 0, 1) := by decide +kernel
theorem dX12_word_87 : decode cX12_word 87 = .ok (.ireturn, 1) := by decide +kernel
theorem dX12_word_88 : decode cX12_word 88 = .ok (.aload_n 0, 1) := by decide +kernel
theorem dX12_word_89 : decode cX12_word 89 = .ok (.ldc 210, 2) := by decide +kernel
theorem dX12_word_91 : decode cX12_word 91 = .ok (.invokevirtual 175, 3) := by decide +kernel
theorem dX12_word_94 : decode cX12_word 94 = .ok (.iconst 1, 1) := by decide +kernel
theorem dX12_word_95 : decode cX12_word 95 = .ok (.ireturn, 1) := by decide +kernel
theorem dX12_word_96 : decode cX12_word 96 = .ok (.aload_n 0, 1) := by decide +kernel
theorem dX12_word_97 : decode cX12_word 97 = .ok (.ldc 212, 2) := by decide +kernel
theorem dX12_word_99 : decode cX12_word 99 = .ok (.invokevirtual 175, 3) := by decide +kernel
theorem dX12_word_102 : decode cX12_word 102 = .ok (.iconst 2, 1) := by decide +kernel
theorem dX12_word_103 : decode cX12_word 103 = .ok (.ireturn, 1) := by decide +kernel
theorem dX12_word_104 : decode cX12_word 104 = .ok (.aload_n 0, 1) := by decide +kernel
theorem dX12_word_105 : decode cX12_word 105 = .ok (.ldc 214, 2) := by decide +kernel
theorem dX12_word_107 : decode cX12_word 107 = .ok (.invokevirtual 175, 3) := by decide +kernel
theorem dX12_word_110 : decode cX12_word 110 = .ok (.iconst 3, 1) := by decide +kernel
theorem dX12_word_111 : decode cX12_word 111 = .ok (.ireturn, 1) := by decide +kernel
theorem dX12_word_112 : decode cX12_word 112 = .ok (.aload_n 0, 1) := by decide +kernel
theorem dX12_word_113 : decode cX12_word 113 = .ok (.ldc 216, 2) := by decide +kernel
theorem dX12_word_115 : decode cX12_word 115 = .ok (.invokevirtual 175, 3) := by decide +kernel
theorem dX12_word_118 : decode cX12_word 118 = .ok (.iconst 4, 1) := by decide +kernel
theorem dX12_word_119 : decode cX12_word 119 = .ok (.ireturn, 1) := by decide +kernel
theorem dX12_word_120 : decode cX12_word 120 = .ok (.aload_n 0, 1) := by decide +kernel
theorem dX12_word_121 : decode cX12_word 121 = .ok (.ldc 218, 2) := by decide +kernel
theorem dX12_word_123 : decode cX12_word 123 = .ok (.invokevirtual 175, 3) := by decide +kernel
theorem dX12_word_126 : decode cX12_word 126 = .ok (.iconst 5, 1) := by decide +kernel
theorem dX12_word_127 : decode cX12_word 127 = .ok (.ireturn, 1) := by decide +kernel
theorem dX12_word_128 : decode cX12_word 128 = .ok (.aload_n 0, 1) := by decide +kernel
theorem dX12_word_129 : decode cX12_word 129 = .ok (.iconst 1, 1) := by decide +kernel
theorem dX12_word_130 : decode cX12_word 130 = .ok (.putfield 155, 3) := by decide +kernel
theorem dX12_word_133 : decode cX12_word 133 = .ok (.iconst 0, 1) := by decide +kernel
theorem dX12_word_134 : decode cX12_word 134 = .ok (.ireturn, 1) := by decide +kernel
theorem hd_Mo_word_94 : y_Mo_word_94.cls ≠ "java/lang/invoke/MethodHandle" ∧ y_Mo_word_94.cls ≠ "java/lang/invoke/VarHandle" ∧ (parseMethodDescriptor y_Mo_word_94.desc).map (fun d => d.parameters.length) = some 0 := by decide +kernel
def f_Mo_word_94  (M0 : Mem) : Option (Int32 × Mem) :=
  (f_Mo_here_94 M0).bind fun q1 => if decide (q1 = 102) then ((f_Mo_spells_94 21 M0).bind fun q3 => some (2, q3)) else (if decide (q1 = 108) then ((f_Mo_spells_94 22 M0).bind fun q5 => some (3, q5)) else (if decide (q1 = 109) then ((f_Mo_spells_94 19 M0).bind fun q7 => some (0, q7)) else (if decide (q1 = 114) then ((f_Mo_spells_94 20 M0).bind fun q9 => some (1, q9)) else (if decide (q1 = 115) then ((f_Mo_spells_94 23 M0).bind fun q11 => some (4, q11)) else (if decide (q1 = 116) then ((f_Mo_spells_94 24 M0).bind fun q13 => some (5, q13)) else (jv_ (wI M0 94 8 1) fun M14 => some (0, M14)))))))
set_option maxHeartbeats 4000000 in
set_option maxRecDepth 20000 in
theorem C_Mo_word_94 {D : va_G} {ad adK adV : Nat → Nat} {cI cJ : ClassId} {l : Launch}  (M0 : Mem) (o : Int32 × Mem) (h : f_Mo_word_94  M0 = some o) : Ct D ad adK adV cI cJ l y_Mo_word_94 cX12_word 1 (some .int) 5 107 [.ref (ad 94)] M0 (some (.int o.1)) o.2 := by
  refine x_start (lv := [(0, .ref (ad 94))]) (own := "CurrentFarmsModel") rfl (by decide) (Nat.le_of_ble_eq_true rfl) rfl ?_
  intro p e s m args below meth c Q hQ B
  unfold f_Mo_word_94 at h
  refine x_aload_n (pc := 0) B 0 dX12_word_0 rfl rfl ?_
  obtain ⟨q1, hq1, h⟩ := bnd h
  refine x_callV (rest := []) (st' := [.int q1]) (pc := 1) B oi_94 rfl (C_Mo_here_94  M0 _ hq1) tw_1539 tw_1536 tw_1538 tw_66 tw_111 hd_Mo_here_94 ⟨Nat.le_of_ble_eq_true rfl, Nat.le_of_ble_eq_true rfl⟩ rfl rfl (Nat.le_of_ble_eq_true rfl) rfl dX12_word_1 ?_
  rcases bcase (decide (q1 = 102)) with hc2 | hc2
  · have h := ift hc2 h
    refine x_tableIn (cv := 102) (tgt := 96) (pc := 4) B dX12_word_4 (of_decide_eq_true hc2) (by decide) (by decide) rfl rfl ?_
    refine x_aload_n (pc := 96) B 0 dX12_word_96 rfl rfl ?_
    refine x_ldcS (i := 21) (pc := 97) B (by decide) rfl rfl dX12_word_97 ?_
    obtain ⟨q3, hq3, h⟩ := bnd h
    refine x_callV (rest := []) (st' := []) (pc := 99) B oi_94 rfl (C_Mo_spells_94 21 M0 _ hq3) tw_1560 tw_1557 tw_1559 tw_71 tw_111 hd_Mo_spells_94 ⟨Nat.le_of_ble_eq_true rfl, Nat.le_of_ble_eq_true rfl⟩ rfl rfl (Nat.le_of_ble_eq_true rfl) rfl dX12_word_99 ?_
    refine x_iconst (v := 2) (pc := 102) B dX12_word_102 rfl ?_
    obtain rfl := Option.some.inj h
    exact x_iret (pc := 103) B hQ dX12_word_103
  · have h := iff_ hc2 h
    rcases bcase (decide (q1 = 108)) with hc4 | hc4
    · have h := ift hc4 h
      refine x_tableIn (cv := 108) (tgt := 104) (pc := 4) B dX12_word_4 (of_decide_eq_true hc4) (by decide) (by decide) rfl rfl ?_
      refine x_aload_n (pc := 104) B 0 dX12_word_104 rfl rfl ?_
      refine x_ldcS (i := 22) (pc := 105) B (by decide) rfl rfl dX12_word_105 ?_
      obtain ⟨q5, hq5, h⟩ := bnd h
      refine x_callV (rest := []) (st' := []) (pc := 107) B oi_94 rfl (C_Mo_spells_94 22 M0 _ hq5) tw_1560 tw_1557 tw_1559 tw_71 tw_111 hd_Mo_spells_94 ⟨Nat.le_of_ble_eq_true rfl, Nat.le_of_ble_eq_true rfl⟩ rfl rfl (Nat.le_of_ble_eq_true rfl) rfl dX12_word_107 ?_
      refine x_iconst (v := 3) (pc := 110) B dX12_word_110 rfl ?_
      obtain rfl := Option.some.inj h
      exact x_iret (pc := 111) B hQ dX12_word_111
    · have h := iff_ hc4 h
      rcases bcase (decide (q1 = 109)) with hc6 | hc6
      · have h := ift hc6 h
        refine x_tableIn (cv := 109) (tgt := 80) (pc := 4) B dX12_word_4 (of_decide_eq_true hc6) (by decide) (by decide) rfl rfl ?_
        refine x_aload_n (pc := 80) B 0 dX12_word_80 rfl rfl ?_
        refine x_ldcS (i := 19) (pc := 81) B (by decide) rfl rfl dX12_word_81 ?_
        obtain ⟨q7, hq7, h⟩ := bnd h
        refine x_callV (rest := []) (st' := []) (pc := 83) B oi_94 rfl (C_Mo_spells_94 19 M0 _ hq7) tw_1560 tw_1557 tw_1559 tw_71 tw_111 hd_Mo_spells_94 ⟨Nat.le_of_ble_eq_true rfl, Nat.le_of_ble_eq_true rfl⟩ rfl rfl (Nat.le_of_ble_eq_true rfl) rfl dX12_word_83 ?_
        refine x_iconst (v := 0) (pc := 86) B dX12_word_86 rfl ?_
        obtain rfl := Option.some.inj h
        exact x_iret (pc := 87) B hQ dX12_word_87
      · have h := iff_ hc6 h
        rcases bcase (decide (q1 = 114)) with hc8 | hc8
        · have h := ift hc8 h
          refine x_tableIn (cv := 114) (tgt := 88) (pc := 4) B dX12_word_4 (of_decide_eq_true hc8) (by decide) (by decide) rfl rfl ?_
          refine x_aload_n (pc := 88) B 0 dX12_word_88 rfl rfl ?_
          refine x_ldcS (i := 20) (pc := 89) B (by decide) rfl rfl dX12_word_89 ?_
          obtain ⟨q9, hq9, h⟩ := bnd h
          refine x_callV (rest := []) (st' := []) (pc := 91) B oi_94 rfl (C_Mo_spells_94 20 M0 _ hq9) tw_1560 tw_1557 tw_1559 tw_71 tw_111 hd_Mo_spells_94 ⟨Nat.le_of_ble_eq_true rfl, Nat.le_of_ble_eq_true rfl⟩ rfl rfl (Nat.le_of_ble_eq_true rfl) rfl dX12_word_91 ?_
          refine x_iconst (v := 1) (pc := 94) B dX12_word_94 rfl ?_
          obtain rfl := Option.some.inj h
          exact x_iret (pc := 95) B hQ dX12_word_95
        · have h := iff_ hc8 h
          rcases bcase (decide (q1 = 115)) with hc10 | hc10
          · have h := ift hc10 h
            refine x_tableIn (cv := 115) (tgt := 112) (pc := 4) B dX12_word_4 (of_decide_eq_true hc10) (by decide) (by decide) rfl rfl ?_
            refine x_aload_n (pc := 112) B 0 dX12_word_112 rfl rfl ?_
            refine x_ldcS (i := 23) (pc := 113) B (by decide) rfl rfl dX12_word_113 ?_
            obtain ⟨q11, hq11, h⟩ := bnd h
            refine x_callV (rest := []) (st' := []) (pc := 115) B oi_94 rfl (C_Mo_spells_94 23 M0 _ hq11) tw_1560 tw_1557 tw_1559 tw_71 tw_111 hd_Mo_spells_94 ⟨Nat.le_of_ble_eq_true rfl, Nat.le_of_ble_eq_true rfl⟩ rfl rfl (Nat.le_of_ble_eq_true rfl) rfl dX12_word_115 ?_
            refine x_iconst (v := 4) (pc := 118) B dX12_word_118 rfl ?_
            obtain rfl := Option.some.inj h
            exact x_iret (pc := 119) B hQ dX12_word_119
          · have h := iff_ hc10 h
            rcases bcase (decide (q1 = 116)) with hc12 | hc12
            · have h := ift hc12 h
              refine x_tableIn (cv := 116) (tgt := 120) (pc := 4) B dX12_word_4 (of_decide_eq_true hc12) (by decide) (by decide) rfl rfl ?_
              refine x_aload_n (pc := 120) B 0 dX12_word_120 rfl rfl ?_
              refine x_ldcS (i := 24) (pc := 121) B (by decide) rfl rfl dX12_word_121 ?_
              obtain ⟨q13, hq13, h⟩ := bnd h
              refine x_callV (rest := []) (st' := []) (pc := 123) B oi_94 rfl (C_Mo_spells_94 24 M0 _ hq13) tw_1560 tw_1557 tw_1559 tw_71 tw_111 hd_Mo_spells_94 ⟨Nat.le_of_ble_eq_true rfl, Nat.le_of_ble_eq_true rfl⟩ rfl rfl (Nat.le_of_ble_eq_true rfl) rfl dX12_word_123 ?_
              refine x_iconst (v := 5) (pc := 126) B dX12_word_126 rfl ?_
              obtain rfl := Option.some.inj h
              exact x_iret (pc := 127) B hQ dX12_word_127
            · have h := iff_ hc12 h
              by_cases hg : q1 = 103
              · refine x_tableIn (cv := 103) (tgt := 128) (pc := 4) B dX12_word_4 hg (by decide) (by decide) rfl rfl ?_
                refine x_aload_n (pc := 128) B 0 dX12_word_128 rfl rfl ?_
                refine x_iconst (v := 1) (pc := 129) B dX12_word_129 rfl ?_
                refine x_put (T := TX12) (pc := 130) B 8 oi_94 of_94_8 rfl uw_12 tyX12_ok nmX12 (by decide) rfl tw_1307 rfl rfl rfl (Nat.le_of_ble_eq_true rfl) dX12_word_130 ?_
                refine jv_m (P := fun M14 => XX D ad cI cJ p l e (Rm 5 107) s m args below meth c Q 1 M14 133 [(0, .ref (ad 94))] []) h (fun M14 h => ?_)
                refine x_iconst (v := 0) (pc := 133) B dX12_word_133 rfl ?_
                obtain rfl := Option.some.inj h
                exact x_iret (pc := 134) B hQ dX12_word_134
              have hg15 := hg
              by_cases hg : q1 = 104
              · refine x_tableIn (cv := 104) (tgt := 128) (pc := 4) B dX12_word_4 hg (by decide) (by decide) rfl rfl ?_
                refine x_aload_n (pc := 128) B 0 dX12_word_128 rfl rfl ?_
                refine x_iconst (v := 1) (pc := 129) B dX12_word_129 rfl ?_
                refine x_put (T := TX12) (pc := 130) B 8 oi_94 of_94_8 rfl uw_12 tyX12_ok nmX12 (by decide) rfl tw_1307 rfl rfl rfl (Nat.le_of_ble_eq_true rfl) dX12_word_130 ?_
                refine jv_m (P := fun M14 => XX D ad cI cJ p l e (Rm 5 107) s m args below meth c Q 1 M14 133 [(0, .ref (ad 94))] []) h (fun M14 h => ?_)
                refine x_iconst (v := 0) (pc := 133) B dX12_word_133 rfl ?_
                obtain rfl := Option.some.inj h
                exact x_iret (pc := 134) B hQ dX12_word_134
              have hg16 := hg
              by_cases hg : q1 = 105
              · refine x_tableIn (cv := 105) (tgt := 128) (pc := 4) B dX12_word_4 hg (by decide) (by decide) rfl rfl ?_
                refine x_aload_n (pc := 128) B 0 dX12_word_128 rfl rfl ?_
                refine x_iconst (v := 1) (pc := 129) B dX12_word_129 rfl ?_
                refine x_put (T := TX12) (pc := 130) B 8 oi_94 of_94_8 rfl uw_12 tyX12_ok nmX12 (by decide) rfl tw_1307 rfl rfl rfl (Nat.le_of_ble_eq_true rfl) dX12_word_130 ?_
                refine jv_m (P := fun M14 => XX D ad cI cJ p l e (Rm 5 107) s m args below meth c Q 1 M14 133 [(0, .ref (ad 94))] []) h (fun M14 h => ?_)
                refine x_iconst (v := 0) (pc := 133) B dX12_word_133 rfl ?_
                obtain rfl := Option.some.inj h
                exact x_iret (pc := 134) B hQ dX12_word_134
              have hg17 := hg
              by_cases hg : q1 = 106
              · refine x_tableIn (cv := 106) (tgt := 128) (pc := 4) B dX12_word_4 hg (by decide) (by decide) rfl rfl ?_
                refine x_aload_n (pc := 128) B 0 dX12_word_128 rfl rfl ?_
                refine x_iconst (v := 1) (pc := 129) B dX12_word_129 rfl ?_
                refine x_put (T := TX12) (pc := 130) B 8 oi_94 of_94_8 rfl uw_12 tyX12_ok nmX12 (by decide) rfl tw_1307 rfl rfl rfl (Nat.le_of_ble_eq_true rfl) dX12_word_130 ?_
                refine jv_m (P := fun M14 => XX D ad cI cJ p l e (Rm 5 107) s m args below meth c Q 1 M14 133 [(0, .ref (ad 94))] []) h (fun M14 h => ?_)
                refine x_iconst (v := 0) (pc := 133) B dX12_word_133 rfl ?_
                obtain rfl := Option.some.inj h
                exact x_iret (pc := 134) B hQ dX12_word_134
              have hg18 := hg
              by_cases hg : q1 = 107
              · refine x_tableIn (cv := 107) (tgt := 128) (pc := 4) B dX12_word_4 hg (by decide) (by decide) rfl rfl ?_
                refine x_aload_n (pc := 128) B 0 dX12_word_128 rfl rfl ?_
                refine x_iconst (v := 1) (pc := 129) B dX12_word_129 rfl ?_
                refine x_put (T := TX12) (pc := 130) B 8 oi_94 of_94_8 rfl uw_12 tyX12_ok nmX12 (by decide) rfl tw_1307 rfl rfl rfl (Nat.le_of_ble_eq_true rfl) dX12_word_130 ?_
                refine jv_m (P := fun M14 => XX D ad cI cJ p l e (Rm 5 107) s m args below meth c Q 1 M14 133 [(0, .ref (ad 94))] []) h (fun M14 h => ?_)
                refine x_iconst (v := 0) (pc := 133) B dX12_word_133 rfl ?_
                obtain rfl := Option.some.inj h
                exact x_iret (pc := 134) B hQ dX12_word_134
              have hg19 := hg
              by_cases hg : q1 = 110
              · refine x_tableIn (cv := 110) (tgt := 128) (pc := 4) B dX12_word_4 hg (by decide) (by decide) rfl rfl ?_
                refine x_aload_n (pc := 128) B 0 dX12_word_128 rfl rfl ?_
                refine x_iconst (v := 1) (pc := 129) B dX12_word_129 rfl ?_
                refine x_put (T := TX12) (pc := 130) B 8 oi_94 of_94_8 rfl uw_12 tyX12_ok nmX12 (by decide) rfl tw_1307 rfl rfl rfl (Nat.le_of_ble_eq_true rfl) dX12_word_130 ?_
                refine jv_m (P := fun M14 => XX D ad cI cJ p l e (Rm 5 107) s m args below meth c Q 1 M14 133 [(0, .ref (ad 94))] []) h (fun M14 h => ?_)
                refine x_iconst (v := 0) (pc := 133) B dX12_word_133 rfl ?_
                obtain rfl := Option.some.inj h
                exact x_iret (pc := 134) B hQ dX12_word_134
              have hg20 := hg
              by_cases hg : q1 = 111
              · refine x_tableIn (cv := 111) (tgt := 128) (pc := 4) B dX12_word_4 hg (by decide) (by decide) rfl rfl ?_
                refine x_aload_n (pc := 128) B 0 dX12_word_128 rfl rfl ?_
                refine x_iconst (v := 1) (pc := 129) B dX12_word_129 rfl ?_
                refine x_put (T := TX12) (pc := 130) B 8 oi_94 of_94_8 rfl uw_12 tyX12_ok nmX12 (by decide) rfl tw_1307 rfl rfl rfl (Nat.le_of_ble_eq_true rfl) dX12_word_130 ?_
                refine jv_m (P := fun M14 => XX D ad cI cJ p l e (Rm 5 107) s m args below meth c Q 1 M14 133 [(0, .ref (ad 94))] []) h (fun M14 h => ?_)
                refine x_iconst (v := 0) (pc := 133) B dX12_word_133 rfl ?_
                obtain rfl := Option.some.inj h
                exact x_iret (pc := 134) B hQ dX12_word_134
              have hg21 := hg
              by_cases hg : q1 = 112
              · refine x_tableIn (cv := 112) (tgt := 128) (pc := 4) B dX12_word_4 hg (by decide) (by decide) rfl rfl ?_
                refine x_aload_n (pc := 128) B 0 dX12_word_128 rfl rfl ?_
                refine x_iconst (v := 1) (pc := 129) B dX12_word_129 rfl ?_
                refine x_put (T := TX12) (pc := 130) B 8 oi_94 of_94_8 rfl uw_12 tyX12_ok nmX12 (by decide) rfl tw_1307 rfl rfl rfl (Nat.le_of_ble_eq_true rfl) dX12_word_130 ?_
                refine jv_m (P := fun M14 => XX D ad cI cJ p l e (Rm 5 107) s m args below meth c Q 1 M14 133 [(0, .ref (ad 94))] []) h (fun M14 h => ?_)
                refine x_iconst (v := 0) (pc := 133) B dX12_word_133 rfl ?_
                obtain rfl := Option.some.inj h
                exact x_iret (pc := 134) B hQ dX12_word_134
              have hg22 := hg
              by_cases hg : q1 = 113
              · refine x_tableIn (cv := 113) (tgt := 128) (pc := 4) B dX12_word_4 hg (by decide) (by decide) rfl rfl ?_
                refine x_aload_n (pc := 128) B 0 dX12_word_128 rfl rfl ?_
                refine x_iconst (v := 1) (pc := 129) B dX12_word_129 rfl ?_
                refine x_put (T := TX12) (pc := 130) B 8 oi_94 of_94_8 rfl uw_12 tyX12_ok nmX12 (by decide) rfl tw_1307 rfl rfl rfl (Nat.le_of_ble_eq_true rfl) dX12_word_130 ?_
                refine jv_m (P := fun M14 => XX D ad cI cJ p l e (Rm 5 107) s m args below meth c Q 1 M14 133 [(0, .ref (ad 94))] []) h (fun M14 h => ?_)
                refine x_iconst (v := 0) (pc := 133) B dX12_word_133 rfl ?_
                obtain rfl := Option.some.inj h
                exact x_iret (pc := 134) B hQ dX12_word_134
              have hg23 := hg
              have e0 : ¬ q1.toInt = 102 := fun q => (of_decide_eq_false hc2) (Int32.toInt_inj.mp (q.trans (by decide : (102 : Int) = (102 : Int32).toInt)))
              have e1 : ¬ q1.toInt = 108 := fun q => (of_decide_eq_false hc4) (Int32.toInt_inj.mp (q.trans (by decide : (108 : Int) = (108 : Int32).toInt)))
              have e2 : ¬ q1.toInt = 109 := fun q => (of_decide_eq_false hc6) (Int32.toInt_inj.mp (q.trans (by decide : (109 : Int) = (109 : Int32).toInt)))
              have e3 : ¬ q1.toInt = 114 := fun q => (of_decide_eq_false hc8) (Int32.toInt_inj.mp (q.trans (by decide : (114 : Int) = (114 : Int32).toInt)))
              have e4 : ¬ q1.toInt = 115 := fun q => (of_decide_eq_false hc10) (Int32.toInt_inj.mp (q.trans (by decide : (115 : Int) = (115 : Int32).toInt)))
              have e5 : ¬ q1.toInt = 116 := fun q => (of_decide_eq_false hc12) (Int32.toInt_inj.mp (q.trans (by decide : (116 : Int) = (116 : Int32).toInt)))
              have e6 : ¬ q1.toInt = 103 := fun q => hg15 (Int32.toInt_inj.mp (q.trans (by decide : (103 : Int) = (103 : Int32).toInt)))
              have e7 : ¬ q1.toInt = 104 := fun q => hg16 (Int32.toInt_inj.mp (q.trans (by decide : (104 : Int) = (104 : Int32).toInt)))
              have e8 : ¬ q1.toInt = 105 := fun q => hg17 (Int32.toInt_inj.mp (q.trans (by decide : (105 : Int) = (105 : Int32).toInt)))
              have e9 : ¬ q1.toInt = 106 := fun q => hg18 (Int32.toInt_inj.mp (q.trans (by decide : (106 : Int) = (106 : Int32).toInt)))
              have e10 : ¬ q1.toInt = 107 := fun q => hg19 (Int32.toInt_inj.mp (q.trans (by decide : (107 : Int) = (107 : Int32).toInt)))
              have e11 : ¬ q1.toInt = 110 := fun q => hg20 (Int32.toInt_inj.mp (q.trans (by decide : (110 : Int) = (110 : Int32).toInt)))
              have e12 : ¬ q1.toInt = 111 := fun q => hg21 (Int32.toInt_inj.mp (q.trans (by decide : (111 : Int) = (111 : Int32).toInt)))
              have e13 : ¬ q1.toInt = 112 := fun q => hg22 (Int32.toInt_inj.mp (q.trans (by decide : (112 : Int) = (112 : Int32).toInt)))
              have e14 : ¬ q1.toInt = 113 := fun q => hg23 (Int32.toInt_inj.mp (q.trans (by decide : (113 : Int) = (113 : Int32).toInt)))
              refine x_tableOut (tgt := 128) (pc := 4) B dX12_word_4 (by omega) rfl ?_
              refine x_aload_n (pc := 128) B 0 dX12_word_128 rfl rfl ?_
              refine x_iconst (v := 1) (pc := 129) B dX12_word_129 rfl ?_
              refine x_put (T := TX12) (pc := 130) B 8 oi_94 of_94_8 rfl uw_12 tyX12_ok nmX12 (by decide) rfl tw_1307 rfl rfl rfl (Nat.le_of_ble_eq_true rfl) dX12_word_130 ?_
              refine jv_m (P := fun M14 => XX D ad cI cJ p l e (Rm 5 107) s m args below meth c Q 1 M14 133 [(0, .ref (ad 94))] []) h (fun M14 h => ?_)
              refine x_iconst (v := 0) (pc := 133) B dX12_word_133 rfl ?_
              obtain rfl := Option.some.inj h
              exact x_iret (pc := 134) B hQ dX12_word_134
-- CurrentFarmsModel.reads(I)V [94]
abbrev y_Mo_reads_94 : MethodName := ⟨"CurrentFarmsModel", "reads", "(I)V"⟩
abbrev cX12_reads : ByteArray := prog_14_method_42_code
theorem dX12_reads_0 : decode cX12_reads 0 = .ok (.bipush 8, 2) := by decide +kernel
theorem dX12_reads_2 : decode cX12_reads 2 = .ok (.iload_n 1, 1) := by decide +kernel
theorem dX12_reads_3 : decode cX12_reads 3 = .ok (.imul, 1) := by decide +kernel
theorem dX12_reads_4 : decode cX12_reads 4 = .ok (.aload_n 0, 1) := by decide +kernel
theorem dX12_reads_5 : decode cX12_reads 5 = .ok (.getfield 7, 3) := by decide +kernel
theorem dX12_reads_8 : decode cX12_reads 8 = .ok (.sipush 1890, 3) := by decide +kernel
theorem dX12_reads_11 : decode cX12_reads 11 = .ok (.iload_n 1, 1) := by decide +kernel
theorem dX12_reads_12 : decode cX12_reads 12 = .ok (.iadd, 1) := by decide +kernel
theorem dX12_reads_13 : decode cX12_reads 13 = .ok (.iaload, 1) := by decide +kernel
theorem dX12_reads_14 : decode cX12_reads 14 = .ok (.iadd, 1) := by decide +kernel
theorem dX12_reads_15 : decode cX12_reads 15 = .ok (.istore_n 2, 1) := by decide +kernel
theorem dX12_reads_16 : decode cX12_reads 16 = .ok (.aload_n 0, 1) := by decide +kernel
theorem dX12_reads_17 : decode cX12_reads 17 = .ok (.getfield 7, 3) := by decide +kernel
theorem dX12_reads_20 : decode cX12_reads 20 = .ok (.sipush 1900, 3) := by decide +kernel
theorem dX12_reads_23 : decode cX12_reads 23 = .ok (.iload_n 2, 1) := by decide +kernel
theorem dX12_reads_24 : decode cX12_reads 24 = .ok (.iadd, 1) := by decide +kernel
theorem dX12_reads_25 : decode cX12_reads 25 = .ok (.aload_n 0, 1) := by decide +kernel
theorem dX12_reads_26 : decode cX12_reads 26 = .ok (.invokevirtual 220, 3) := by decide +kernel
theorem dX12_reads_29 : decode cX12_reads 29 = .ok (.iastore, 1) := by decide +kernel
theorem dX12_reads_30 : decode cX12_reads 30 = .ok (.aload_n 0, 1) := by decide +kernel
theorem dX12_reads_31 : decode cX12_reads 31 = .ok (.getfield 7, 3) := by decide +kernel
theorem dX12_reads_34 : decode cX12_reads 34 = .ok (.sipush 1980, 3) := by decide +kernel
theorem dX12_reads_37 : decode cX12_reads 37 = .ok (.iload_n 2, 1) := by decide +kernel
theorem dX12_reads_38 : decode cX12_reads 38 = .ok (.iadd, 1) := by decide +kernel
theorem dX12_reads_39 : decode cX12_reads 39 = .ok (.aload_n 0, 1) := by decide +kernel
theorem dX12_reads_40 : decode cX12_reads 40 = .ok (.getfield 149, 3) := by decide +kernel
theorem dX12_reads_43 : decode cX12_reads 43 = .ok (.iastore, 1) := by decide +kernel
theorem dX12_reads_44 : decode cX12_reads 44 = .ok (.aload_n 0, 1) := by decide +kernel
theorem dX12_reads_45 : decode cX12_reads 45 = .ok (.getfield 7, 3) := by decide +kernel
theorem dX12_reads_48 : decode cX12_reads 48 = .ok (.sipush 2060, 3) := by decide +kernel
theorem dX12_reads_51 : decode cX12_reads 51 = .ok (.iload_n 2, 1) := by decide +kernel
theorem dX12_reads_52 : decode cX12_reads 52 = .ok (.iadd, 1) := by decide +kernel
theorem dX12_reads_53 : decode cX12_reads 53 = .ok (.iconst (-1), 1) := by decide +kernel
theorem dX12_reads_54 : decode cX12_reads 54 = .ok (.iastore, 1) := by decide +kernel
theorem dX12_reads_55 : decode cX12_reads 55 = .ok (.aload_n 0, 1) := by decide +kernel
theorem dX12_reads_56 : decode cX12_reads 56 = .ok (.getfield 155, 3) := by decide +kernel
theorem dX12_reads_59 : decode cX12_reads 59 = .ok (.ifCond .eq 7, 3) := by decide +kernel
theorem dX12_reads_62 : decode cX12_reads 62 = .ok (.iconst 0, 1) := by decide +kernel
theorem dX12_reads_63 : decode cX12_reads 63 = .ok (.goto 7, 3) := by decide +kernel
theorem dX12_reads_66 : decode cX12_reads 66 = .ok (.aload_n 0, 1) := by decide +kernel
theorem dX12_reads_67 : decode cX12_reads 67 = .ok (.invokevirtual 179, 3) := by decide +kernel
theorem dX12_reads_70 : decode cX12_reads 70 = .ok (.istore_n 3, 1) := by decide +kernel
theorem dX12_reads_71 : decode cX12_reads 71 = .ok (.aload_n 0, 1) := by decide +kernel
theorem dX12_reads_72 : decode cX12_reads 72 = .ok (.getfield 155, 3) := by decide +kernel
theorem dX12_reads_75 : decode cX12_reads 75 = .ok (.ifCond .ne 48, 3) := by decide +kernel
theorem dX12_reads_78 : decode cX12_reads 78 = .ok (.aload_n 0, 1) := by decide +kernel
theorem dX12_reads_79 : decode cX12_reads 79 = .ok (.invokevirtual 159, 3) := by decide +kernel
theorem dX12_reads_82 : decode cX12_reads 82 = .ok (.bipush 32, 2) := by decide +kernel
theorem dX12_reads_84 : decode cX12_reads 84 = .ok (.if_icmp .ne 39, 3) := by decide +kernel
theorem dX12_reads_87 : decode cX12_reads 87 = .ok (.aload_n 0, 1) := by decide +kernel
theorem dX12_reads_88 : decode cX12_reads 88 = .ok (.ldc 223, 2) := by decide +kernel
theorem dX12_reads_90 : decode cX12_reads 90 = .ok (.invokevirtual 175, 3) := by decide +kernel
theorem dX12_reads_93 : decode cX12_reads 93 = .ok (.aload_n 0, 1) := by decide +kernel
theorem dX12_reads_94 : decode cX12_reads 94 = .ok (.getfield 7, 3) := by decide +kernel
theorem dX12_reads_97 : decode cX12_reads 97 = .ok (.sipush 2060, 3) := by decide +kernel
theorem dX12_reads_100 : decode cX12_reads 100 = .ok (.iload_n 2, 1) := by decide +kernel
theorem dX12_reads_101 : decode cX12_reads 101 = .ok (.iadd, 1) := by decide +kernel
theorem dX12_reads_102 : decode cX12_reads 102 = .ok (.aload_n 0, 1) := by decide +kernel
theorem dX12_reads_103 : decode cX12_reads 103 = .ok (.getfield 149, 3) := by decide +kernel
theorem dX12_reads_106 : decode cX12_reads 106 = .ok (.iastore, 1) := by decide +kernel
theorem dX12_reads_107 : decode cX12_reads 107 = .ok (.aload_n 0, 1) := by decide +kernel
theorem dX12_reads_108 : decode cX12_reads 108 = .ok (.getfield 155, 3) := by decide +kernel
theorem dX12_reads_111 : decode cX12_reads 111 = .ok (.ifCond .eq 7, 3) := by decide +kernel
theorem dX12_reads_114 : decode cX12_reads 114 = .ok (.iconst 0, 1) := by decide +kernel
theorem dX12_reads_115 : decode cX12_reads 115 = .ok (.goto 7, 3) := by decide +kernel
theorem dX12_reads_118 : decode cX12_reads 118 = .ok (.aload_n 0, 1) := by decide +kernel
theorem dX12_reads_119 : decode cX12_reads 119 = .ok (.invokevirtual 179, 3) := by decide +kernel
theorem dX12_reads_122 : decode cX12_reads 122 = .ok (.istore_n 3, 1) := by decide +kernel
theorem dX12_reads_123 : decode cX12_reads 123 = .ok (.aload_n 0, 1) := by decide +kernel
theorem dX12_reads_124 : decode cX12_reads 124 = .ok (.getfield 7, 3) := by decide +kernel
theorem dX12_reads_127 : decode cX12_reads 127 = .ok (.sipush 1890, 3) := by decide +kernel
theorem dX12_reads_130 : decode cX12_reads 130 = .ok (.iload_n 1, 1) := by decide +kernel
theorem dX12_reads_131 : decode cX12_reads 131 = .ok (.iadd, 1) := by decide +kernel
theorem dX12_reads_132 : decode cX12_reads 132 = .ok (.dup2, 1) := by decide +kernel
theorem dX12_reads_133 : decode cX12_reads 133 = .ok (.iaload, 1) := by decide +kernel
theorem dX12_reads_134 : decode cX12_reads 134 = .ok (.aload_n 0, 1) := by decide +kernel
theorem dX12_reads_135 : decode cX12_reads 135 = .ok (.getfield 155, 3) := by decide +kernel
theorem dX12_reads_138 : decode cX12_reads 138 = .ok (.ifCond .eq 7, 3) := by decide +kernel
theorem dX12_reads_141 : decode cX12_reads 141 = .ok (.iconst 0, 1) := by decide +kernel
theorem dX12_reads_142 : decode cX12_reads 142 = .ok (.goto 4, 3) := by decide +kernel
theorem dX12_reads_145 : decode cX12_reads 145 = .ok (.iconst 1, 1) := by decide +kernel
theorem dX12_reads_146 : decode cX12_reads 146 = .ok (.iadd, 1) := by decide +kernel
theorem dX12_reads_147 : decode cX12_reads 147 = .ok (.iastore, 1) := by decide +kernel
theorem dX12_reads_148 : decode cX12_reads 148 = .ok (.return_, 1) := by decide +kernel
theorem hd_Mo_reads_94 : y_Mo_reads_94.cls ≠ "java/lang/invoke/MethodHandle" ∧ y_Mo_reads_94.cls ≠ "java/lang/invoke/VarHandle" ∧ (parseMethodDescriptor y_Mo_reads_94.desc).map (fun d => d.parameters.length) = some 1 := by decide +kernel
def f_Mo_reads_94 (a1 : Int32) (M0 : Mem) : Option (Mem) :=
  if inb (1890 + a1) 4700 then (f_Mo_word_94 M0).bind fun q2 => if inb (1900 + ((8 * a1) + (M0.1 95 (1890 + a1).toNatClampNeg))) 4700 then jv_ (wI q2.2 95 (1900 + ((8 * a1) + (M0.1 95 (1890 + a1).toNatClampNeg))).toNatClampNeg q2.1) fun M4 => if inb (1980 + ((8 * a1) + (M0.1 95 (1890 + a1).toNatClampNeg))) 4700 then jv_ (wI M4 95 (1980 + ((8 * a1) + (M0.1 95 (1890 + a1).toNatClampNeg))).toNatClampNeg (M4.1 94 7)) fun M6 => if inb (2060 + ((8 * a1) + (M0.1 95 (1890 + a1).toNatClampNeg))) 4700 then jv_ (wI M6 95 (2060 + ((8 * a1) + (M0.1 95 (1890 + a1).toNatClampNeg))).toNatClampNeg (-1)) fun M8 => if isb (M8.1 94 8) then jn_ (fun (u13 : Int32 × Mem) => if isb (u13.2.1 94 8) then jn_ (fun (u17 : Mem) => if inb (1890 + a1) 4700 then if isb (u17.1 94 8) then jv_ ((!(decide (u17.1 94 8 = 1))) : Bool) fun u22 => if inb (1890 + a1) 4700 then jv_ (wI u17 95 (1890 + a1).toNatClampNeg ((u17.1 95 (1890 + a1).toNatClampNeg) + (bI u22))) fun M24 => some M24 else none else none else none) fun k25 => if decide (u13.2.1 94 8 = 1) then (k25 u13.2) else ((f_Mo_here_94 u13.2).bind fun q26 => if decide (q26 = 32) then ((f_Mo_spells_94 25 u13.2).bind fun q28 => if inb (2060 + ((8 * a1) + (M0.1 95 (1890 + a1).toNatClampNeg))) 4700 then jv_ (wI q28 95 (2060 + ((8 * a1) + (M0.1 95 (1890 + a1).toNatClampNeg))).toNatClampNeg (q28.1 94 7)) fun M30 => if isb (M30.1 94 8) then if decide (M30.1 94 8 = 1) then (k25 M30) else ((f_parse 500 0 M30).bind fun q33 => k25 q33.2) else none else none) else (k25 u13.2)) else none) fun k34 => if decide (M8.1 94 8 = 1) then (k34 (0, M8)) else ((f_parse 500 0 M8).bind fun q35 => k34 (q35.1, q35.2)) else none else none else none else none else none
set_option maxHeartbeats 4000000 in
set_option maxRecDepth 20000 in
theorem C_Mo_reads_94 {D : va_G} {ad adK adV : Nat → Nat} {cI cJ : ClassId} {l : Launch} (a1 : Int32) (M0 : Mem) (o : Mem) (h : f_Mo_reads_94 a1 M0 = some o) : Ct D ad adK adV cI cJ l y_Mo_reads_94 cX12_reads 4 none 507 14152 [.ref (ad 94), .int a1] M0 none o := by
  refine x_start (lv := [(0, .ref (ad 94)), (1, .int a1)]) (own := "CurrentFarmsModel") rfl (by decide) (Nat.le_of_ble_eq_true rfl) rfl ?_
  intro p e s m args below meth c Q hQ B
  unfold f_Mo_reads_94 at h
  refine x_bipush (v := 8) (pc := 0) B dX12_reads_0 rfl ?_
  refine x_iload_n (pc := 2) B 1 dX12_reads_2 rfl rfl ?_
  refine x_imul (pc := 3) B dX12_reads_3 ?_
  refine x_aload_n (pc := 4) B 0 dX12_reads_4 rfl rfl ?_
  refine x_get (T := TX12) (pc := 5) B 1 oi_94 rfl uw_12 (by decide) rfl tw_1300 rfl dX12_reads_5 ?_
  refine x_sipush (v := 1890) (pc := 8) B dX12_reads_8 rfl ?_
  refine x_iload_n (pc := 11) B 1 dX12_reads_11 rfl rfl ?_
  refine x_iadd (pc := 12) B dX12_reads_12 ?_
  obtain ⟨hk1, h⟩ := ifn h
  refine x_iald (pc := 13) B ai_95 hk1 dX12_reads_13 ?_
  refine x_iadd (pc := 14) B dX12_reads_14 ?_
  refine x_istore_n (lv' := [(2, .int ((8 * a1) + (M0.1 95 (1890 + a1).toNatClampNeg))), (0, .ref (ad 94)), (1, .int a1)]) (pc := 15) B dX12_reads_15 rfl (by decide) rfl ?_
  refine x_aload_n (pc := 16) B 1 dX12_reads_16 rfl rfl ?_
  refine x_get (T := TX12) (pc := 17) B 1 oi_94 rfl uw_12 (by decide) rfl tw_1300 rfl dX12_reads_17 ?_
  refine x_sipush (v := 1900) (pc := 20) B dX12_reads_20 rfl ?_
  refine x_iload_n (pc := 23) B 0 dX12_reads_23 rfl rfl ?_
  refine x_iadd (pc := 24) B dX12_reads_24 ?_
  refine x_aload_n (pc := 25) B 1 dX12_reads_25 rfl rfl ?_
  obtain ⟨q2, hq2, h⟩ := bnd h
  refine x_callV (rest := [.int (1900 + ((8 * a1) + (M0.1 95 (1890 + a1).toNatClampNeg))), .ref (ad 95)]) (st' := [.int q2.1, .int (1900 + ((8 * a1) + (M0.1 95 (1890 + a1).toNatClampNeg))), .ref (ad 95)]) (pc := 26) B oi_94 rfl (C_Mo_word_94  M0 _ hq2) tw_1609 tw_1606 tw_1608 tw_75 tw_111 hd_Mo_word_94 ⟨Nat.le_of_ble_eq_true rfl, Nat.le_of_ble_eq_true rfl⟩ rfl rfl (Nat.le_of_ble_eq_true rfl) rfl dX12_reads_26 ?_
  obtain ⟨hk3, h⟩ := ifn h
  refine x_iast (pc := 29) B ai_95 hk3 dX12_reads_29 ?_
  refine jv_m (P := fun M4 => XX D ad cI cJ p l e (Rm 507 14152) s m args below meth c Q 4 M4 30 [(2, .int ((8 * a1) + (M0.1 95 (1890 + a1).toNatClampNeg))), (0, .ref (ad 94)), (1, .int a1)] []) h (fun M4 h => ?_)
  refine x_aload_n (pc := 30) B 1 dX12_reads_30 rfl rfl ?_
  refine x_get (T := TX12) (pc := 31) B 1 oi_94 rfl uw_12 (by decide) rfl tw_1300 rfl dX12_reads_31 ?_
  refine x_sipush (v := 1980) (pc := 34) B dX12_reads_34 rfl ?_
  refine x_iload_n (pc := 37) B 0 dX12_reads_37 rfl rfl ?_
  refine x_iadd (pc := 38) B dX12_reads_38 ?_
  refine x_aload_n (pc := 39) B 1 dX12_reads_39 rfl rfl ?_
  refine x_get (T := TX12) (pc := 40) B 7 oi_94 rfl uw_12 (by decide) rfl tw_1306 rfl dX12_reads_40 ?_
  obtain ⟨hk5, h⟩ := ifn h
  refine x_iast (pc := 43) B ai_95 hk5 dX12_reads_43 ?_
  refine jv_m (P := fun M6 => XX D ad cI cJ p l e (Rm 507 14152) s m args below meth c Q 4 M6 44 [(2, .int ((8 * a1) + (M0.1 95 (1890 + a1).toNatClampNeg))), (0, .ref (ad 94)), (1, .int a1)] []) h (fun M6 h => ?_)
  refine x_aload_n (pc := 44) B 1 dX12_reads_44 rfl rfl ?_
  refine x_get (T := TX12) (pc := 45) B 1 oi_94 rfl uw_12 (by decide) rfl tw_1300 rfl dX12_reads_45 ?_
  refine x_sipush (v := 2060) (pc := 48) B dX12_reads_48 rfl ?_
  refine x_iload_n (pc := 51) B 0 dX12_reads_51 rfl rfl ?_
  refine x_iadd (pc := 52) B dX12_reads_52 ?_
  refine x_iconst (v := (-1)) (pc := 53) B dX12_reads_53 rfl ?_
  obtain ⟨hk7, h⟩ := ifn h
  refine x_iast (pc := 54) B ai_95 hk7 dX12_reads_54 ?_
  refine jv_m (P := fun M8 => XX D ad cI cJ p l e (Rm 507 14152) s m args below meth c Q 4 M8 55 [(2, .int ((8 * a1) + (M0.1 95 (1890 + a1).toNatClampNeg))), (0, .ref (ad 94)), (1, .int a1)] []) h (fun M8 h => ?_)
  refine x_aload_n (pc := 55) B 1 dX12_reads_55 rfl rfl ?_
  obtain ⟨hk9, h⟩ := ifn h
  refine x_getZ (T := TX12) (pc := 56) B 8 oi_94 rfl uw_12 (by decide) rfl tw_1307 rfl hk9 dX12_reads_56 ?_
  refine jn_k h (fun (u13 : Int32 × Mem) => XX D ad cI cJ p l e (Rm 507 14152) s m args below meth c Q 4 u13.2 70 [(0, .ref (ad 94)), (1, .int a1), (2, .int ((8 * a1) + (M0.1 95 (1890 + a1).toNatClampNeg)))] [.int u13.1]) (fun u13 h => ?_) (fun k34 h JJ => ?_)
  · refine x_istore_n (lv' := [(3, .int u13.1), (0, .ref (ad 94)), (1, .int a1), (2, .int ((8 * a1) + (M0.1 95 (1890 + a1).toNatClampNeg)))]) (pc := 70) B dX12_reads_70 rfl (by decide) rfl ?_
    refine x_aload_n (pc := 71) B 1 dX12_reads_71 rfl rfl ?_
    obtain ⟨hk14, h⟩ := ifn h
    refine x_getZ (T := TX12) (pc := 72) B 8 oi_94 rfl uw_12 (by decide) rfl tw_1307 rfl hk14 dX12_reads_72 ?_
    refine jn_k h (fun (u17 : Mem) => XX D ad cI cJ p l e (Rm 507 14152) s m args below meth c Q 4 u17 123 [(0, .ref (ad 94)), (1, .int a1)] []) (fun u17 h => ?_) (fun k25 h JJ => ?_)
    · refine x_aload_n (pc := 123) B 0 dX12_reads_123 rfl rfl ?_
      refine x_get (T := TX12) (pc := 124) B 1 oi_94 rfl uw_12 (by decide) rfl tw_1300 rfl dX12_reads_124 ?_
      refine x_sipush (v := 1890) (pc := 127) B dX12_reads_127 rfl ?_
      refine x_iload_n (pc := 130) B 1 dX12_reads_130 rfl rfl ?_
      refine x_iadd (pc := 131) B dX12_reads_131 ?_
      refine x_dup2 (pc := 132) B dX12_reads_132 rfl rfl ?_
      obtain ⟨hk18, h⟩ := ifn h
      refine x_iald (pc := 133) B ai_95 hk18 dX12_reads_133 ?_
      refine x_aload_n (pc := 134) B 0 dX12_reads_134 rfl rfl ?_
      obtain ⟨hk19, h⟩ := ifn h
      refine x_getZ (T := TX12) (pc := 135) B 8 oi_94 rfl uw_12 (by decide) rfl tw_1307 rfl hk19 dX12_reads_135 ?_
      refine jv_k h (fun (u22 : Bool) => XX D ad cI cJ p l e (Rm 507 14152) s m args below meth c Q 4 u17 146 [] [.int (bI u22), .int (u17.1 95 (1890 + a1).toNatClampNeg), .int (1890 + a1), .ref (ad 95)]) (fun u22 h => ?_) (fun JJ => ?_)
      · refine x_iadd (pc := 146) B dX12_reads_146 ?_
        obtain ⟨hk23, h⟩ := ifn h
        refine x_iast (pc := 147) B ai_95 hk23 dX12_reads_147 ?_
        refine jv_m (P := fun M24 => XX D ad cI cJ p l e (Rm 507 14152) s m args below meth c Q 4 M24 148 [] []) h (fun M24 h => ?_)
        obtain rfl := Option.some.inj h
        exact x_vret (pc := 148) B hQ dX12_reads_148
      · refine x_if_eq_b (tgt := 145) (pc := 138) B dX12_reads_138 rfl (fun hc20 => ?_) (fun hc20 => ?_)
        · refine x_iconst (v := 1) (pc := 145) B dX12_reads_145 rfl ?_
          refine x_pick (lv' := []) [] rfl ?_
          have z := JJ true (znid_f hc20)
          exact z
        · refine x_iconst (v := 0) (pc := 141) B dX12_reads_141 rfl ?_
          refine x_goto (tgt := 146) (pc := 142) B dX12_reads_142 rfl ?_
          refine x_pick (lv' := []) [] rfl ?_
          have z := JJ false (znid_t hc20)
          exact z
    · refine x_if_ne_b (tgt := 123) (pc := 75) B dX12_reads_75 rfl (fun hc15 => ?_) (fun hc15 => ?_)
      · have h := ift hc15 h
        refine x_pick (lv' := [(0, .ref (ad 94)), (1, .int a1)]) [1, 2] rfl ?_
        have z := JJ u13.2 h
        exact z
      · have h := iff_ hc15 h
        refine x_aload_n (pc := 78) B 1 dX12_reads_78 rfl rfl ?_
        obtain ⟨q26, hq26, h⟩ := bnd h
        refine x_callV (rest := []) (st' := [.int q26]) (pc := 79) B oi_94 rfl (C_Mo_here_94  u13.2 _ hq26) tw_1539 tw_1536 tw_1538 tw_66 tw_111 hd_Mo_here_94 ⟨Nat.le_of_ble_eq_true rfl, Nat.le_of_ble_eq_true rfl⟩ rfl rfl (Nat.le_of_ble_eq_true rfl) rfl dX12_reads_79 ?_
        refine x_bipush (v := 32) (pc := 82) B dX12_reads_82 rfl ?_
        refine x_icmp_ne (tgt := 123) (pc := 84) B dX12_reads_84 rfl (fun hc27 => ?_) (fun hc27 => ?_)
        · have h := iff_ hc27 h
          refine x_pick (lv' := [(0, .ref (ad 94)), (1, .int a1)]) [1, 2] rfl ?_
          have z := JJ u13.2 h
          exact z
        · have h := ift hc27 h
          refine x_aload_n (pc := 87) B 1 dX12_reads_87 rfl rfl ?_
          refine x_ldcS (i := 25) (pc := 88) B (by decide) rfl rfl dX12_reads_88 ?_
          obtain ⟨q28, hq28, h⟩ := bnd h
          refine x_callV (rest := []) (st' := []) (pc := 90) B oi_94 rfl (C_Mo_spells_94 25 u13.2 _ hq28) tw_1560 tw_1557 tw_1559 tw_71 tw_111 hd_Mo_spells_94 ⟨Nat.le_of_ble_eq_true rfl, Nat.le_of_ble_eq_true rfl⟩ rfl rfl (Nat.le_of_ble_eq_true rfl) rfl dX12_reads_90 ?_
          refine x_aload_n (pc := 93) B 1 dX12_reads_93 rfl rfl ?_
          refine x_get (T := TX12) (pc := 94) B 1 oi_94 rfl uw_12 (by decide) rfl tw_1300 rfl dX12_reads_94 ?_
          refine x_sipush (v := 2060) (pc := 97) B dX12_reads_97 rfl ?_
          refine x_iload_n (pc := 100) B 3 dX12_reads_100 rfl rfl ?_
          refine x_iadd (pc := 101) B dX12_reads_101 ?_
          refine x_aload_n (pc := 102) B 1 dX12_reads_102 rfl rfl ?_
          refine x_get (T := TX12) (pc := 103) B 7 oi_94 rfl uw_12 (by decide) rfl tw_1306 rfl dX12_reads_103 ?_
          obtain ⟨hk29, h⟩ := ifn h
          refine x_iast (pc := 106) B ai_95 hk29 dX12_reads_106 ?_
          refine jv_m (P := fun M30 => XX D ad cI cJ p l e (Rm 507 14152) s m args below meth c Q 4 M30 107 [(3, .int u13.1), (0, .ref (ad 94)), (1, .int a1), (2, .int ((8 * a1) + (M0.1 95 (1890 + a1).toNatClampNeg)))] []) h (fun M30 h => ?_)
          refine x_aload_n (pc := 107) B 1 dX12_reads_107 rfl rfl ?_
          obtain ⟨hk31, h⟩ := ifn h
          refine x_getZ (T := TX12) (pc := 108) B 8 oi_94 rfl uw_12 (by decide) rfl tw_1307 rfl hk31 dX12_reads_108 ?_
          refine x_if_eq_b (tgt := 118) (pc := 111) B dX12_reads_111 rfl (fun hc32 => ?_) (fun hc32 => ?_)
          · have h := iff_ hc32 h
            refine x_aload_n (pc := 118) B 1 dX12_reads_118 rfl rfl ?_
            obtain ⟨q33, hq33, h⟩ := bnd h
            refine x_callV (rest := []) (st' := [.int q33.1]) (pc := 119) B oi_94 rfl ((C_parse 500).1 M30 _ hq33) tw_1527 tw_1524 tw_1526 tw_63 tw_111 hd_Mo_sum_94 ⟨Nat.le_of_ble_eq_true rfl, Nat.le_of_ble_eq_true rfl⟩ rfl rfl (Nat.le_of_ble_eq_true rfl) rfl dX12_reads_119 ?_
            refine x_istore_n (lv' := [(3, .int q33.1), (0, .ref (ad 94)), (1, .int a1), (2, .int ((8 * a1) + (M0.1 95 (1890 + a1).toNatClampNeg)))]) (pc := 122) B dX12_reads_122 rfl (by decide) rfl ?_
            refine x_pick (lv' := [(0, .ref (ad 94)), (1, .int a1)]) [1, 2] rfl ?_
            have z := JJ q33.2 h
            exact z
          · have h := ift hc32 h
            refine x_iconst (v := 0) (pc := 114) B dX12_reads_114 rfl ?_
            refine x_goto (tgt := 122) (pc := 115) B dX12_reads_115 rfl ?_
            refine x_istore_n (lv' := [(3, .int 0), (0, .ref (ad 94)), (1, .int a1), (2, .int ((8 * a1) + (M0.1 95 (1890 + a1).toNatClampNeg)))]) (pc := 122) B dX12_reads_122 rfl (by decide) rfl ?_
            refine x_pick (lv' := [(0, .ref (ad 94)), (1, .int a1)]) [1, 2] rfl ?_
            have z := JJ M30 h
            exact z
  · refine x_if_eq_b (tgt := 66) (pc := 59) B dX12_reads_59 rfl (fun hc10 => ?_) (fun hc10 => ?_)
    · have h := iff_ hc10 h
      refine x_aload_n (pc := 66) B 1 dX12_reads_66 rfl rfl ?_
      obtain ⟨q35, hq35, h⟩ := bnd h
      refine x_callV (rest := []) (st' := [.int q35.1]) (pc := 67) B oi_94 rfl ((C_parse 500).1 M8 _ hq35) tw_1527 tw_1524 tw_1526 tw_63 tw_111 hd_Mo_sum_94 ⟨Nat.le_of_ble_eq_true rfl, Nat.le_of_ble_eq_true rfl⟩ rfl rfl (Nat.le_of_ble_eq_true rfl) rfl dX12_reads_67 ?_
      refine x_pick (lv' := [(0, .ref (ad 94)), (1, .int a1), (2, .int ((8 * a1) + (M0.1 95 (1890 + a1).toNatClampNeg)))]) [1, 2, 0] rfl ?_
      have z := JJ (q35.1, q35.2) h
      exact z
    · have h := ift hc10 h
      refine x_iconst (v := 0) (pc := 62) B dX12_reads_62 rfl ?_
      refine x_goto (tgt := 70) (pc := 63) B dX12_reads_63 rfl ?_
      refine x_pick (lv' := [(0, .ref (ad 94)), (1, .int a1), (2, .int ((8 * a1) + (M0.1 95 (1890 + a1).toNatClampNeg)))]) [1, 2, 0] rfl ?_
      have z := JJ (0, M8) h
      exact z
