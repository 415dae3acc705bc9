-- CurrentFarmsModel.breaksOf()V [94]
abbrev y_Mo_breaksOf_94 : MethodName := ⟨"CurrentFarmsModel", "breaksOf", "()V"⟩
abbrev cX12_breaksOf : ByteArray := prog_14_method_93_code
theorem dX12_breaksOf_0 : decode cX12_breaksOf 0 = .ok (.iconst 0, 1) := by decide +kernel
theorem dX12_breaksOf_1 : decode cX12_breaksOf 1 = .ok (.istore_n 1, 1) := by decide +kernel
theorem dX12_breaksOf_2 : decode cX12_breaksOf 2 = .ok (.iload_n 1, 1) := by decide +kernel
theorem dX12_breaksOf_3 : decode cX12_breaksOf 3 = .ok (.aload_n 0, 1) := by decide +kernel
theorem dX12_breaksOf_4 : decode cX12_breaksOf 4 = .ok (.getfield 7, 3) := by decide +kernel
theorem dX12_breaksOf_7 : decode cX12_breaksOf 7 = .ok (.iconst 1, 1) := by decide +kernel
theorem dX12_breaksOf_8 : decode cX12_breaksOf 8 = .ok (.iaload, 1) := by decide +kernel
theorem dX12_breaksOf_9 : decode cX12_breaksOf 9 = .ok (.if_icmp .ge 145, 3) := by decide +kernel
theorem dX12_breaksOf_12 : decode cX12_breaksOf 12 = .ok (.aload_n 0, 1) := by decide +kernel
theorem dX12_breaksOf_13 : decode cX12_breaksOf 13 = .ok (.getfield 75, 3) := by decide +kernel
theorem dX12_breaksOf_16 : decode cX12_breaksOf 16 = .ok (.iload_n 1, 1) := by decide +kernel
theorem dX12_breaksOf_17 : decode cX12_breaksOf 17 = .ok (.iconst 0, 1) := by decide +kernel
theorem dX12_breaksOf_18 : decode cX12_breaksOf 18 = .ok (.iastore, 1) := by decide +kernel
theorem dX12_breaksOf_19 : decode cX12_breaksOf 19 = .ok (.aload_n 0, 1) := by decide +kernel
theorem dX12_breaksOf_20 : decode cX12_breaksOf 20 = .ok (.aload_n 0, 1) := by decide +kernel
theorem dX12_breaksOf_21 : decode cX12_breaksOf 21 = .ok (.getfield 7, 3) := by decide +kernel
theorem dX12_breaksOf_24 : decode cX12_breaksOf 24 = .ok (.sipush 164, 3) := by decide +kernel
theorem dX12_breaksOf_27 : decode cX12_breaksOf 27 = .ok (.iload_n 1, 1) := by decide +kernel
theorem dX12_breaksOf_28 : decode cX12_breaksOf 28 = .ok (.iadd, 1) := by decide +kernel
theorem dX12_breaksOf_29 : decode cX12_breaksOf 29 = .ok (.iaload, 1) := by decide +kernel
theorem dX12_breaksOf_30 : decode cX12_breaksOf 30 = .ok (.invokevirtual 92, 3) := by decide +kernel
theorem dX12_breaksOf_33 : decode cX12_breaksOf 33 = .ok (.ifCond .eq 21, 3) := by decide +kernel
theorem dX12_breaksOf_36 : decode cX12_breaksOf 36 = .ok (.aload_n 0, 1) := by decide +kernel
theorem dX12_breaksOf_37 : decode cX12_breaksOf 37 = .ok (.iload_n 1, 1) := by decide +kernel
theorem dX12_breaksOf_38 : decode cX12_breaksOf 38 = .ok (.aload_n 0, 1) := by decide +kernel
theorem dX12_breaksOf_39 : decode cX12_breaksOf 39 = .ok (.getfield 7, 3) := by decide +kernel
theorem dX12_breaksOf_42 : decode cX12_breaksOf 42 = .ok (.iconst 0, 1) := by decide +kernel
theorem dX12_breaksOf_43 : decode cX12_breaksOf 43 = .ok (.iaload, 1) := by decide +kernel
theorem dX12_breaksOf_44 : decode cX12_breaksOf 44 = .ok (.invokevirtual 285, 3) := by decide +kernel
theorem dX12_breaksOf_47 : decode cX12_breaksOf 47 = .ok (.ifCond .eq 7, 3) := by decide +kernel
theorem dX12_breaksOf_50 : decode cX12_breaksOf 50 = .ok (.iconst 1, 1) := by decide +kernel
theorem dX12_breaksOf_51 : decode cX12_breaksOf 51 = .ok (.goto 4, 3) := by decide +kernel
theorem dX12_breaksOf_54 : decode cX12_breaksOf 54 = .ok (.iconst 0, 1) := by decide +kernel
theorem dX12_breaksOf_55 : decode cX12_breaksOf 55 = .ok (.istore_n 2, 1) := by decide +kernel
theorem dX12_breaksOf_56 : decode cX12_breaksOf 56 = .ok (.aload_n 0, 1) := by decide +kernel
theorem dX12_breaksOf_57 : decode cX12_breaksOf 57 = .ok (.getfield 7, 3) := by decide +kernel
theorem dX12_breaksOf_60 : decode cX12_breaksOf 60 = .ok (.sipush 164, 3) := by decide +kernel
theorem dX12_breaksOf_63 : decode cX12_breaksOf 63 = .ok (.iload_n 1, 1) := by decide +kernel
theorem dX12_breaksOf_64 : decode cX12_breaksOf 64 = .ok (.iadd, 1) := by decide +kernel
theorem dX12_breaksOf_65 : decode cX12_breaksOf 65 = .ok (.iaload, 1) := by decide +kernel
theorem dX12_breaksOf_66 : decode cX12_breaksOf 66 = .ok (.istore_n 3, 1) := by decide +kernel
theorem dX12_breaksOf_67 : decode cX12_breaksOf 67 = .ok (.iload_n 2, 1) := by decide +kernel
theorem dX12_breaksOf_68 : decode cX12_breaksOf 68 = .ok (.ifCond .eq 80, 3) := by decide +kernel
theorem dX12_breaksOf_71 : decode cX12_breaksOf 71 = .ok (.iload_n 3, 1) := by decide +kernel
theorem dX12_breaksOf_72 : decode cX12_breaksOf 72 = .ok (.aload_n 0, 1) := by decide +kernel
theorem dX12_breaksOf_73 : decode cX12_breaksOf 73 = .ok (.getfield 7, 3) := by decide +kernel
theorem dX12_breaksOf_76 : decode cX12_breaksOf 76 = .ok (.bipush 9, 2) := by decide +kernel
theorem dX12_breaksOf_78 : decode cX12_breaksOf 78 = .ok (.iaload, 1) := by decide +kernel
theorem dX12_breaksOf_79 : decode cX12_breaksOf 79 = .ok (.if_icmp .eq 69, 3) := by decide +kernel
theorem dX12_breaksOf_82 : decode cX12_breaksOf 82 = .ok (.iconst 0, 1) := by decide +kernel
theorem dX12_breaksOf_83 : decode cX12_breaksOf 83 = .ok (.istore 4, 2) := by decide +kernel
theorem dX12_breaksOf_85 : decode cX12_breaksOf 85 = .ok (.iload 4, 2) := by decide +kernel
theorem dX12_breaksOf_87 : decode cX12_breaksOf 87 = .ok (.aload_n 0, 1) := by decide +kernel
theorem dX12_breaksOf_88 : decode cX12_breaksOf 88 = .ok (.getfield 7, 3) := by decide +kernel
theorem dX12_breaksOf_91 : decode cX12_breaksOf 91 = .ok (.bipush 6, 2) := by decide +kernel
theorem dX12_breaksOf_93 : decode cX12_breaksOf 93 = .ok (.iaload, 1) := by decide +kernel
theorem dX12_breaksOf_94 : decode cX12_breaksOf 94 = .ok (.if_icmp .ge 41, 3) := by decide +kernel
theorem dX12_breaksOf_97 : decode cX12_breaksOf 97 = .ok (.aload_n 0, 1) := by decide +kernel
theorem dX12_breaksOf_98 : decode cX12_breaksOf 98 = .ok (.getfield 75, 3) := by decide +kernel
theorem dX12_breaksOf_101 : decode cX12_breaksOf 101 = .ok (.iload_n 1, 1) := by decide +kernel
theorem dX12_breaksOf_102 : decode cX12_breaksOf 102 = .ok (.dup2, 1) := by decide +kernel
theorem dX12_breaksOf_103 : decode cX12_breaksOf 103 = .ok (.iaload, 1) := by decide +kernel
theorem dX12_breaksOf_104 : decode cX12_breaksOf 104 = .ok (.aload_n 0, 1) := by decide +kernel
theorem dX12_breaksOf_105 : decode cX12_breaksOf 105 = .ok (.getfield 7, 3) := by decide +kernel
theorem dX12_breaksOf_108 : decode cX12_breaksOf 108 = .ok (.sipush 2260, 3) := by decide +kernel
theorem dX12_breaksOf_111 : decode cX12_breaksOf 111 = .ok (.iload 4, 2) := by decide +kernel
theorem dX12_breaksOf_113 : decode cX12_breaksOf 113 = .ok (.iadd, 1) := by decide +kernel
theorem dX12_breaksOf_114 : decode cX12_breaksOf 114 = .ok (.iaload, 1) := by decide +kernel
theorem dX12_breaksOf_115 : decode cX12_breaksOf 115 = .ok (.iload_n 3, 1) := by decide +kernel
theorem dX12_breaksOf_116 : decode cX12_breaksOf 116 = .ok (.if_icmp .ne 10, 3) := by decide +kernel
theorem dX12_breaksOf_119 : decode cX12_breaksOf 119 = .ok (.iconst 1, 1) := by decide +kernel
theorem dX12_breaksOf_120 : decode cX12_breaksOf 120 = .ok (.iload 4, 2) := by decide +kernel
theorem dX12_breaksOf_122 : decode cX12_breaksOf 122 = .ok (.ishl, 1) := by decide +kernel
theorem dX12_breaksOf_123 : decode cX12_breaksOf 123 = .ok (.goto 4, 3) := by decide +kernel
theorem dX12_breaksOf_126 : decode cX12_breaksOf 126 = .ok (.iconst 0, 1) := by decide +kernel
theorem dX12_breaksOf_127 : decode cX12_breaksOf 127 = .ok (.ior, 1) := by decide +kernel
theorem dX12_breaksOf_128 : decode cX12_breaksOf 128 = .ok (.iastore, 1) := by decide +kernel
theorem dX12_breaksOf_129 : decode cX12_breaksOf 129 = .ok (.iinc 4 1, 3) := by decide +kernel
theorem dX12_breaksOf_132 : decode cX12_breaksOf 132 = .ok (.goto (-47), 3) := by decide +kernel
theorem dX12_breaksOf_135 : decode cX12_breaksOf 135 = .ok (.aload_n 0, 1) := by decide +kernel
theorem dX12_breaksOf_136 : decode cX12_breaksOf 136 = .ok (.getfield 7, 3) := by decide +kernel
theorem dX12_breaksOf_139 : decode cX12_breaksOf 139 = .ok (.bipush 116, 2) := by decide +kernel
theorem dX12_breaksOf_141 : decode cX12_breaksOf 141 = .ok (.iload_n 3, 1) := by decide +kernel
theorem dX12_breaksOf_142 : decode cX12_breaksOf 142 = .ok (.iadd, 1) := by decide +kernel
theorem dX12_breaksOf_143 : decode cX12_breaksOf 143 = .ok (.iaload, 1) := by decide +kernel
theorem dX12_breaksOf_144 : decode cX12_breaksOf 144 = .ok (.istore_n 3, 1) := by decide +kernel
theorem dX12_breaksOf_145 : decode cX12_breaksOf 145 = .ok (.goto (-78), 3) := by decide +kernel
theorem dX12_breaksOf_148 : decode cX12_breaksOf 148 = .ok (.iinc 1 1, 3) := by decide +kernel
theorem dX12_breaksOf_151 : decode cX12_breaksOf 151 = .ok (.goto (-149), 3) := by decide +kernel
theorem dX12_breaksOf_154 : decode cX12_breaksOf 154 = .ok (.return_, 1) := by decide +kernel
theorem hd_Mo_breaksOf_94 : y_Mo_breaksOf_94.cls ≠ "java/lang/invoke/MethodHandle" ∧ y_Mo_breaksOf_94.cls ≠ "java/lang/invoke/VarHandle" ∧ (parseMethodDescriptor y_Mo_breaksOf_94.desc).map (fun d => d.parameters.length) = some 0 := by decide +kernel
def b_Mo_breaksOf_94_85 (y1 : Int32 × Mem) (y11 : Int32 × Mem) (y14 : Int32 × Mem) : Option ((Int32 × Mem) ⊕ (Mem)) :=
  if decide (y14.1 < (y14.2.1 95 6)) then (if inb y1.1 10 then if inb (2260 + y14.1) 4700 then jv_ ((if decide ((y14.2.1 95 (2260 + y14.1).toNatClampNeg) = y11.1) then 1 <<< (y14.1 &&& 31) else 0) : Int32) fun u20 => if inb y1.1 10 then jv_ (wI y14.2 115 y1.1.toNatClampNeg ((y14.2.1 115 y1.1.toNatClampNeg) ||| u20)) fun M22 => some (.inl (y14.1 + 1, M22)) else none else none else none) else (some (.inr y14.2))
def b_Mo_breaksOf_94_67 (y1 : Int32 × Mem) (u9 : Bool) (y11 : Int32 × Mem) : Option ((Int32 × Mem) ⊕ (Mem)) :=
  if u9 then (if decide (y11.1 = (y11.2.1 95 9)) then (some (.inr y11.2)) else ((itr (b_Mo_breaksOf_94_85 y1 y11) FU (0, y11.2)).bind fun q23 => if inb (116 + y11.1) 4700 then some (.inl (q23.1 95 (116 + y11.1).toNatClampNeg, q23)) else none)) else (some (.inr y11.2))
def b_Mo_breaksOf_94_2  (y1 : Int32 × Mem) : Option ((Int32 × Mem) ⊕ (Mem)) :=
  if decide (y1.1 < (y1.2.1 95 1)) then (if inb y1.1 10 then jv_ (wI y1.2 115 y1.1.toNatClampNeg 0) fun M4 => if inb (164 + y1.1) 4700 then (f_Mo_isOnLine_94 (M4.1 95 (164 + y1.1).toNatClampNeg) M4).bind fun q6 => jn_ (fun (u9 : Bool) => if inb (164 + y1.1) 4700 then (itr (b_Mo_breaksOf_94_67 y1 u9) FU (M4.1 95 (164 + y1.1).toNatClampNeg, M4)).bind fun q25 => some (.inl (y1.1 + 1, q25)) else none) fun k26 => if q6 then ((f_Mo_isServed_94 y1.1 (M4.1 95 0) M4).bind fun q27 => if q27 then (k26 true) else (k26 false)) else (k26 false) else none else none) else (some (.inr y1.2))
def f_Mo_breaksOf_94  (M0 : Mem) : Option (Mem) :=
  (itr (b_Mo_breaksOf_94_2) FU (0, M0)).bind fun q29 => some q29
set_option maxHeartbeats 4000000 in
set_option maxRecDepth 20000 in
theorem C_Mo_breaksOf_94 {D : va_G} {ad adK adV : Nat → Nat} {cI cJ : ClassId} {l : Launch}  (M0 : Mem) (o : Mem) (h : f_Mo_breaksOf_94  M0 = some o) : Ct D ad adK adV cI cJ l y_Mo_breaksOf_94 cX12_breaksOf 5 none 2 50 [.ref (ad 94)] M0 none o := by
  refine x_start (lv := [(0, .ref (ad 94))]) (own := "CurrentFarmsModel") rfl (by decide) (Nat.le_of_ble_eq_true rfl) rfl ?_
  intro p e s m args below meth c Q hQ B
  unfold f_Mo_breaksOf_94 at h
  refine x_iconst (v := 0) (pc := 0) B dX12_breaksOf_0 rfl ?_
  refine x_istore_n (lv' := [(1, .int 0), (0, .ref (ad 94))]) (pc := 1) B dX12_breaksOf_1 rfl (by decide) rfl ?_
  refine x_pick (lv' := [(0, .ref (ad 94)), (1, .int 0)]) [1, 0] rfl ?_
  obtain ⟨q29, hq29, h⟩ := bnd h
  refine x_loop (Head := fun (y1 : Int32 × Mem) => XX D ad cI cJ p l e (Rm 2 50) s m args below meth c Q 5 y1.2 2 [(0, .ref (ad 94)), (1, .int y1.1)] []) (Ex := fun (q29 : Mem) => XX D ad cI cJ p l e (Rm 2 50) s m args below meth c Q 5 q29 154 [] []) (fun y1 r h hback hexit => ?_) FU _ q29 hq29 ?_
  · unfold b_Mo_breaksOf_94_2 at h
    refine x_iload_n (pc := 2) B 1 dX12_breaksOf_2 rfl rfl ?_
    refine x_aload_n (pc := 3) B 0 dX12_breaksOf_3 rfl rfl ?_
    refine x_get (T := TX12) (pc := 4) B 1 oi_94 rfl uw_12 (by decide) rfl tw_1300 rfl dX12_breaksOf_4 ?_
    refine x_iconst (v := 1) (pc := 7) B dX12_breaksOf_7 rfl ?_
    refine x_iald_c (j := 1) (pc := 8) B ai_95 (by decide) rfl dX12_breaksOf_8 ?_
    refine x_icmp_ge (tgt := 154) (pc := 9) B dX12_breaksOf_9 rfl (fun hc2 => ?_) (fun hc2 => ?_)
    · have h := iff_ hc2 h
      refine x_pick (lv' := []) [] rfl ?_
      have z := hexit y1.2 (Option.some.inj h).symm
      exact z
    · have h := ift hc2 h
      refine x_aload_n (pc := 12) B 0 dX12_breaksOf_12 rfl rfl ?_
      refine x_get (T := TX12) (pc := 13) B 29 oi_94 rfl uw_12 (by decide) rfl tw_1328 rfl dX12_breaksOf_13 ?_
      refine x_iload_n (pc := 16) B 1 dX12_breaksOf_16 rfl rfl ?_
      refine x_iconst (v := 0) (pc := 17) B dX12_breaksOf_17 rfl ?_
      obtain ⟨hk3, h⟩ := ifn h
      refine x_iast (pc := 18) B ai_115 hk3 dX12_breaksOf_18 ?_
      refine jv_m (P := fun M4 => XX D ad cI cJ p l e (Rm 2 50) s m args below meth c Q 5 M4 19 [(0, .ref (ad 94)), (1, .int y1.1)] []) h (fun M4 h => ?_)
      refine x_aload_n (pc := 19) B 0 dX12_breaksOf_19 rfl rfl ?_
      refine x_aload_n (pc := 20) B 0 dX12_breaksOf_20 rfl rfl ?_
      refine x_get (T := TX12) (pc := 21) B 1 oi_94 rfl uw_12 (by decide) rfl tw_1300 rfl dX12_breaksOf_21 ?_
      refine x_sipush (v := 164) (pc := 24) B dX12_breaksOf_24 rfl ?_
      refine x_iload_n (pc := 27) B 1 dX12_breaksOf_27 rfl rfl ?_
      refine x_iadd (pc := 28) B dX12_breaksOf_28 ?_
      obtain ⟨hk5, h⟩ := ifn h
      refine x_iald (pc := 29) B ai_95 hk5 dX12_breaksOf_29 ?_
      obtain ⟨q6, hq6, h⟩ := bnd h
      refine x_callV (rest := []) (st' := [.int (bI q6)]) (pc := 30) B oi_94 rfl (C_Mo_isOnLine_94 (M4.1 95 (164 + y1.1).toNatClampNeg) M4 _ hq6) tw_1410 tw_1407 tw_1409 tw_43 tw_111 hd_Mo_isOnLine_94 ⟨Nat.le_of_ble_eq_true rfl, Nat.le_of_ble_eq_true rfl⟩ rfl rfl (Nat.le_of_ble_eq_true rfl) rfl dX12_breaksOf_30 ?_
      refine jn_k h (fun (u9 : Bool) => XX D ad cI cJ p l e (Rm 2 50) s m args below meth c Q 5 M4 55 [(0, .ref (ad 94)), (1, .int y1.1)] [.int (bI u9)]) (fun u9 h => ?_) (fun k26 h JJ => ?_)
      · refine x_istore_n (lv' := [(2, .int (bI u9)), (0, .ref (ad 94)), (1, .int y1.1)]) (pc := 55) B dX12_breaksOf_55 rfl (by decide) rfl ?_
        refine x_aload_n (pc := 56) B 1 dX12_breaksOf_56 rfl rfl ?_
        refine x_get (T := TX12) (pc := 57) B 1 oi_94 rfl uw_12 (by decide) rfl tw_1300 rfl dX12_breaksOf_57 ?_
        refine x_sipush (v := 164) (pc := 60) B dX12_breaksOf_60 rfl ?_
        refine x_iload_n (pc := 63) B 2 dX12_breaksOf_63 rfl rfl ?_
        refine x_iadd (pc := 64) B dX12_breaksOf_64 ?_
        obtain ⟨hk10, h⟩ := ifn h
        refine x_iald (pc := 65) B ai_95 hk10 dX12_breaksOf_65 ?_
        refine x_istore_n (lv' := [(3, .int (M4.1 95 (164 + y1.1).toNatClampNeg)), (2, .int (bI u9)), (0, .ref (ad 94)), (1, .int y1.1)]) (pc := 66) B dX12_breaksOf_66 rfl (by decide) rfl ?_
        refine x_pick (lv' := [(0, .ref (ad 94)), (1, .int y1.1), (2, .int (bI u9)), (3, .int (M4.1 95 (164 + y1.1).toNatClampNeg))]) [2, 3, 1, 0] rfl ?_
        obtain ⟨q25, hq25, h⟩ := bnd h
        refine x_loop (Head := fun (y11 : Int32 × Mem) => XX D ad cI cJ p l e (Rm 2 50) s m args below meth c Q 5 y11.2 67 [(0, .ref (ad 94)), (1, .int y1.1), (2, .int (bI u9)), (3, .int y11.1)] []) (Ex := fun (q25 : Mem) => XX D ad cI cJ p l e (Rm 2 50) s m args below meth c Q 5 q25 148 [(0, .ref (ad 94)), (1, .int y1.1)] []) (fun y11 r h hback hexit => ?_) FU _ q25 hq25 ?_
        · unfold b_Mo_breaksOf_94_67 at h
          refine x_iload_n (pc := 67) B 2 dX12_breaksOf_67 rfl rfl ?_
          refine x_if_eq_b (tgt := 148) (pc := 68) B dX12_breaksOf_68 rfl (fun hc12 => ?_) (fun hc12 => ?_)
          · have h := iff_ hc12 h
            refine x_pick (lv' := [(0, .ref (ad 94)), (1, .int y1.1)]) [0, 1] rfl ?_
            have z := hexit y11.2 (Option.some.inj h).symm
            exact z
          · have h := ift hc12 h
            refine x_iload_n (pc := 71) B 3 dX12_breaksOf_71 rfl rfl ?_
            refine x_aload_n (pc := 72) B 0 dX12_breaksOf_72 rfl rfl ?_
            refine x_get (T := TX12) (pc := 73) B 1 oi_94 rfl uw_12 (by decide) rfl tw_1300 rfl dX12_breaksOf_73 ?_
            refine x_bipush (v := 9) (pc := 76) B dX12_breaksOf_76 rfl ?_
            refine x_iald_c (j := 9) (pc := 78) B ai_95 (by decide) rfl dX12_breaksOf_78 ?_
            refine x_icmp_eq (tgt := 148) (pc := 79) B dX12_breaksOf_79 rfl (fun hc13 => ?_) (fun hc13 => ?_)
            · have h := ift hc13 h
              refine x_pick (lv' := [(0, .ref (ad 94)), (1, .int y1.1)]) [0, 1] rfl ?_
              have z := hexit y11.2 (Option.some.inj h).symm
              exact z
            · have h := iff_ hc13 h
              refine x_iconst (v := 0) (pc := 82) B dX12_breaksOf_82 rfl ?_
              refine x_istore (lv' := [(4, .int 0), (0, .ref (ad 94)), (1, .int y1.1), (2, .int (bI u9)), (3, .int y11.1)]) (pc := 83) B dX12_breaksOf_83 (by decide) rfl ?_
              refine x_pick (lv' := [(0, .ref (ad 94)), (1, .int y1.1), (2, .int (bI u9)), (3, .int y11.1), (4, .int 0)]) [1, 2, 3, 4, 0] rfl ?_
              obtain ⟨q23, hq23, h⟩ := bnd h
              refine x_loop (Head := fun (y14 : Int32 × Mem) => XX D ad cI cJ p l e (Rm 2 50) s m args below meth c Q 5 y14.2 85 [(0, .ref (ad 94)), (1, .int y1.1), (2, .int (bI u9)), (3, .int y11.1), (4, .int y14.1)] []) (Ex := fun (q23 : Mem) => XX D ad cI cJ p l e (Rm 2 50) s m args below meth c Q 5 q23 135 [(0, .ref (ad 94)), (1, .int y1.1), (2, .int (bI u9)), (3, .int y11.1)] []) (fun y14 r h hback hexit => ?_) FU _ q23 hq23 ?_
              · unfold b_Mo_breaksOf_94_85 at h
                refine x_iload (pc := 85) B 4 dX12_breaksOf_85 rfl ?_
                refine x_aload_n (pc := 87) B 0 dX12_breaksOf_87 rfl rfl ?_
                refine x_get (T := TX12) (pc := 88) B 1 oi_94 rfl uw_12 (by decide) rfl tw_1300 rfl dX12_breaksOf_88 ?_
                refine x_bipush (v := 6) (pc := 91) B dX12_breaksOf_91 rfl ?_
                refine x_iald_c (j := 6) (pc := 93) B ai_95 (by decide) rfl dX12_breaksOf_93 ?_
                refine x_icmp_ge (tgt := 135) (pc := 94) B dX12_breaksOf_94 rfl (fun hc15 => ?_) (fun hc15 => ?_)
                · have h := iff_ hc15 h
                  refine x_pick (lv' := [(0, .ref (ad 94)), (1, .int y1.1), (2, .int (bI u9)), (3, .int y11.1)]) [0, 1, 2, 3] rfl ?_
                  have z := hexit y14.2 (Option.some.inj h).symm
                  exact z
                · have h := ift hc15 h
                  refine x_aload_n (pc := 97) B 0 dX12_breaksOf_97 rfl rfl ?_
                  refine x_get (T := TX12) (pc := 98) B 29 oi_94 rfl uw_12 (by decide) rfl tw_1328 rfl dX12_breaksOf_98 ?_
                  refine x_iload_n (pc := 101) B 1 dX12_breaksOf_101 rfl rfl ?_
                  refine x_dup2 (pc := 102) B dX12_breaksOf_102 rfl rfl ?_
                  obtain ⟨hk16, h⟩ := ifn h
                  refine x_iald (pc := 103) B ai_115 hk16 dX12_breaksOf_103 ?_
                  refine x_aload_n (pc := 104) B 0 dX12_breaksOf_104 rfl rfl ?_
                  refine x_get (T := TX12) (pc := 105) B 1 oi_94 rfl uw_12 (by decide) rfl tw_1300 rfl dX12_breaksOf_105 ?_
                  refine x_sipush (v := 2260) (pc := 108) B dX12_breaksOf_108 rfl ?_
                  refine x_iload (pc := 111) B 4 dX12_breaksOf_111 rfl ?_
                  refine x_iadd (pc := 113) B dX12_breaksOf_113 ?_
                  obtain ⟨hk17, h⟩ := ifn h
                  refine x_iald (pc := 114) B ai_95 hk17 dX12_breaksOf_114 ?_
                  refine x_iload_n (pc := 115) B 3 dX12_breaksOf_115 rfl rfl ?_
                  refine jv_k h (fun (u20 : Int32) => XX D ad cI cJ p l e (Rm 2 50) s m args below meth c Q 5 y14.2 127 [(0, .ref (ad 94)), (1, .int y1.1), (2, .int (bI u9)), (3, .int y11.1), (4, .int y14.1)] [.int u20, .int (y14.2.1 115 y1.1.toNatClampNeg), .int y1.1, .ref (ad 115)]) (fun u20 h => ?_) (fun JJ => ?_)
                  · refine x_ior (pc := 127) B dX12_breaksOf_127 ?_
                    obtain ⟨hk21, h⟩ := ifn h
                    refine x_iast (pc := 128) B ai_115 hk21 dX12_breaksOf_128 ?_
                    refine jv_m (P := fun M22 => XX D ad cI cJ p l e (Rm 2 50) s m args below meth c Q 5 M22 129 [(0, .ref (ad 94)), (1, .int y1.1), (2, .int (bI u9)), (3, .int y11.1), (4, .int y14.1)] []) h (fun M22 h => ?_)
                    refine x_iinc (k := 4) (v := y14.1 + 1) (lv' := [(4, .int (y14.1 + 1)), (0, .ref (ad 94)), (1, .int y1.1), (2, .int (bI u9)), (3, .int y11.1)]) (pc := 129) B dX12_breaksOf_129 rfl rfl (by decide) rfl ?_
                    refine x_goto (tgt := 85) (pc := 132) B dX12_breaksOf_132 rfl ?_
                    refine x_pick (lv' := [(0, .ref (ad 94)), (1, .int y1.1), (2, .int (bI u9)), (3, .int y11.1), (4, .int (y14.1 + 1))]) [1, 2, 3, 4, 0] rfl ?_
                    have z := hback (y14.1 + 1, M22) (Option.some.inj h).symm
                    exact z
                  · refine x_icmp_ne (tgt := 126) (pc := 116) B dX12_breaksOf_116 rfl (fun hc18 => ?_) (fun hc18 => ?_)
                    · refine x_iconst (v := 0) (pc := 126) B dX12_breaksOf_126 rfl ?_
                      have z := JJ 0 ((zif_f hc18).trans rfl)
                      exact z
                    · refine x_iconst (v := 1) (pc := 119) B dX12_breaksOf_119 rfl ?_
                      refine x_iload (pc := 120) B 4 dX12_breaksOf_120 rfl ?_
                      refine x_ishl (pc := 122) B dX12_breaksOf_122 ?_
                      refine x_goto (tgt := 127) (pc := 123) B dX12_breaksOf_123 rfl ?_
                      have z := JJ (1 <<< (y14.1 &&& 31)) ((zif_t hc18).trans rfl)
                      exact z
              · refine x_aload_n (pc := 135) B 0 dX12_breaksOf_135 rfl rfl ?_
                refine x_get (T := TX12) (pc := 136) B 1 oi_94 rfl uw_12 (by decide) rfl tw_1300 rfl dX12_breaksOf_136 ?_
                refine x_bipush (v := 116) (pc := 139) B dX12_breaksOf_139 rfl ?_
                refine x_iload_n (pc := 141) B 3 dX12_breaksOf_141 rfl rfl ?_
                refine x_iadd (pc := 142) B dX12_breaksOf_142 ?_
                obtain ⟨hk24, h⟩ := ifn h
                refine x_iald (pc := 143) B ai_95 hk24 dX12_breaksOf_143 ?_
                refine x_istore_n (lv' := [(3, .int (q23.1 95 (116 + y11.1).toNatClampNeg)), (0, .ref (ad 94)), (1, .int y1.1), (2, .int (bI u9))]) (pc := 144) B dX12_breaksOf_144 rfl (by decide) rfl ?_
                refine x_goto (tgt := 67) (pc := 145) B dX12_breaksOf_145 rfl ?_
                refine x_pick (lv' := [(0, .ref (ad 94)), (1, .int y1.1), (2, .int (bI u9)), (3, .int (q23.1 95 (116 + y11.1).toNatClampNeg))]) [1, 2, 3, 0] rfl ?_
                have z := hback (q23.1 95 (116 + y11.1).toNatClampNeg, q23) (Option.some.inj h).symm
                exact z
        · refine x_iinc (k := 1) (v := y1.1 + 1) (lv' := [(1, .int (y1.1 + 1)), (0, .ref (ad 94))]) (pc := 148) B dX12_breaksOf_148 rfl rfl (by decide) rfl ?_
          refine x_goto (tgt := 2) (pc := 151) B dX12_breaksOf_151 rfl ?_
          refine x_pick (lv' := [(0, .ref (ad 94)), (1, .int (y1.1 + 1))]) [1, 0] rfl ?_
          have z := hback (y1.1 + 1, q25) (Option.some.inj h).symm
          exact z
      · refine x_if_eq_b (tgt := 54) (pc := 33) B dX12_breaksOf_33 rfl (fun hc7 => ?_) (fun hc7 => ?_)
        · have h := iff_ hc7 h
          refine x_iconst (v := 0) (pc := 54) B dX12_breaksOf_54 rfl ?_
          have z := JJ false h
          exact z
        · have h := ift hc7 h
          refine x_aload_n (pc := 36) B 0 dX12_breaksOf_36 rfl rfl ?_
          refine x_iload_n (pc := 37) B 1 dX12_breaksOf_37 rfl rfl ?_
          refine x_aload_n (pc := 38) B 0 dX12_breaksOf_38 rfl rfl ?_
          refine x_get (T := TX12) (pc := 39) B 1 oi_94 rfl uw_12 (by decide) rfl tw_1300 rfl dX12_breaksOf_39 ?_
          refine x_iconst (v := 0) (pc := 42) B dX12_breaksOf_42 rfl ?_
          refine x_iald_c (j := 0) (pc := 43) B ai_95 (by decide) rfl dX12_breaksOf_43 ?_
          obtain ⟨q27, hq27, h⟩ := bnd h
          refine x_callV (rest := []) (st' := [.int (bI q27)]) (pc := 44) B oi_94 rfl (C_Mo_isServed_94 y1.1 (M4.1 95 0) M4 _ hq27) tw_1491 tw_1488 tw_1490 tw_54 tw_111 hd_Mo_isServed_94 ⟨Nat.le_of_ble_eq_true rfl, Nat.le_of_ble_eq_true rfl⟩ rfl rfl (Nat.le_of_ble_eq_true rfl) rfl dX12_breaksOf_44 ?_
          refine x_if_eq_b (tgt := 54) (pc := 47) B dX12_breaksOf_47 rfl (fun hc28 => ?_) (fun hc28 => ?_)
          · have h := iff_ hc28 h
            refine x_iconst (v := 0) (pc := 54) B dX12_breaksOf_54 rfl ?_
            have z := JJ false h
            exact z
          · have h := ift hc28 h
            refine x_iconst (v := 1) (pc := 50) B dX12_breaksOf_50 rfl ?_
            refine x_goto (tgt := 55) (pc := 51) B dX12_breaksOf_51 rfl ?_
            have z := JJ true h
            exact z
  · obtain rfl := Option.some.inj h
    exact x_vret (pc := 154) B hQ dX12_breaksOf_154
abbrev y_Mo_mends_94 : MethodName := ⟨"CurrentFarmsModel", "mends", "(III)V"⟩
abbrev cX12_mends : ByteArray := prog_14_method_94_code
theorem dX12_mends_0 : decode cX12_mends 0 = .ok (.iload_n 1, 1) := by decide +kernel
theorem dX12_mends_1 : decode cX12_mends 1 = .ok (.aload_n 0, 1) := by decide +kernel
theorem dX12_mends_2 : decode cX12_mends 2 = .ok (.getfield 7, 3) := by decide +kernel
theorem dX12_mends_5 : decode cX12_mends 5 = .ok (.bipush 6, 2) := by decide +kernel
theorem dX12_mends_7 : decode cX12_mends 7 = .ok (.iaload, 1) := by decide +kernel
theorem dX12_mends_8 : decode cX12_mends 8 = .ok (.if_icmp .ne 161, 3) := by decide +kernel
theorem dX12_mends_11 : decode cX12_mends 11 = .ok (.lconst 0, 1) := by decide +kernel
theorem dX12_mends_12 : decode cX12_mends 12 = .ok (.lstore 4, 2) := by decide +kernel
theorem dX12_mends_14 : decode cX12_mends 14 = .ok (.iconst 0, 1) := by decide +kernel
theorem dX12_mends_15 : decode cX12_mends 15 = .ok (.istore 6, 2) := by decide +kernel
theorem dX12_mends_17 : decode cX12_mends 17 = .ok (.iload 6, 2) := by decide +kernel
theorem dX12_mends_19 : decode cX12_mends 19 = .ok (.aload_n 0, 1) := by decide +kernel
theorem dX12_mends_20 : decode cX12_mends 20 = .ok (.getfield 7, 3) := by decide +kernel
theorem dX12_mends_23 : decode cX12_mends 23 = .ok (.iconst 1, 1) := by decide +kernel
theorem dX12_mends_24 : decode cX12_mends 24 = .ok (.iaload, 1) := by decide +kernel
theorem dX12_mends_25 : decode cX12_mends 25 = .ok (.if_icmp .ge 89, 3) := by decide +kernel
theorem dX12_mends_28 : decode cX12_mends 28 = .ok (.iconst 0, 1) := by decide +kernel
theorem dX12_mends_29 : decode cX12_mends 29 = .ok (.istore 7, 2) := by decide +kernel
theorem dX12_mends_31 : decode cX12_mends 31 = .ok (.iconst 0, 1) := by decide +kernel
theorem dX12_mends_32 : decode cX12_mends 32 = .ok (.istore 8, 2) := by decide +kernel
theorem dX12_mends_34 : decode cX12_mends 34 = .ok (.iload 8, 2) := by decide +kernel
theorem dX12_mends_36 : decode cX12_mends 36 = .ok (.iload_n 1, 1) := by decide +kernel
theorem dX12_mends_37 : decode cX12_mends 37 = .ok (.if_icmp .ge 51, 3) := by decide +kernel
theorem dX12_mends_40 : decode cX12_mends 40 = .ok (.aload_n 0, 1) := by decide +kernel
theorem dX12_mends_41 : decode cX12_mends 41 = .ok (.getfield 75, 3) := by decide +kernel
theorem dX12_mends_44 : decode cX12_mends 44 = .ok (.iload 6, 2) := by decide +kernel
theorem dX12_mends_46 : decode cX12_mends 46 = .ok (.iaload, 1) := by decide +kernel
theorem dX12_mends_47 : decode cX12_mends 47 = .ok (.iload 8, 2) := by decide +kernel
theorem dX12_mends_49 : decode cX12_mends 49 = .ok (.ishr, 1) := by decide +kernel
theorem dX12_mends_50 : decode cX12_mends 50 = .ok (.iconst 1, 1) := by decide +kernel
theorem dX12_mends_51 : decode cX12_mends 51 = .ok (.iand, 1) := by decide +kernel
theorem dX12_mends_52 : decode cX12_mends 52 = .ok (.iconst 1, 1) := by decide +kernel
theorem dX12_mends_53 : decode cX12_mends 53 = .ok (.if_icmp .ne 25, 3) := by decide +kernel
theorem dX12_mends_56 : decode cX12_mends 56 = .ok (.aload_n 0, 1) := by decide +kernel
theorem dX12_mends_57 : decode cX12_mends 57 = .ok (.getfield 72, 3) := by decide +kernel
theorem dX12_mends_60 : decode cX12_mends 60 = .ok (.iload 8, 2) := by decide +kernel
theorem dX12_mends_62 : decode cX12_mends 62 = .ok (.iaload, 1) := by decide +kernel
theorem dX12_mends_63 : decode cX12_mends 63 = .ok (.iload 7, 2) := by decide +kernel
theorem dX12_mends_65 : decode cX12_mends 65 = .ok (.if_icmp .le 13, 3) := by decide +kernel
theorem dX12_mends_68 : decode cX12_mends 68 = .ok (.aload_n 0, 1) := by decide +kernel
theorem dX12_mends_69 : decode cX12_mends 69 = .ok (.getfield 72, 3) := by decide +kernel
theorem dX12_mends_72 : decode cX12_mends 72 = .ok (.iload 8, 2) := by decide +kernel
theorem dX12_mends_74 : decode cX12_mends 74 = .ok (.iaload, 1) := by decide +kernel
theorem dX12_mends_75 : decode cX12_mends 75 = .ok (.goto 5, 3) := by decide +kernel
theorem dX12_mends_78 : decode cX12_mends 78 = .ok (.iload 7, 2) := by decide +kernel
theorem dX12_mends_80 : decode cX12_mends 80 = .ok (.istore 7, 2) := by decide +kernel
theorem dX12_mends_82 : decode cX12_mends 82 = .ok (.iinc 8 1, 3) := by decide +kernel
theorem dX12_mends_85 : decode cX12_mends 85 = .ok (.goto (-51), 3) := by decide +kernel
theorem dX12_mends_88 : decode cX12_mends 88 = .ok (.lload 4, 2) := by decide +kernel
theorem dX12_mends_90 : decode cX12_mends 90 = .ok (.iload 7, 2) := by decide +kernel
theorem dX12_mends_92 : decode cX12_mends 92 = .ok (.aload_n 0, 1) := by decide +kernel
theorem dX12_mends_93 : decode cX12_mends 93 = .ok (.getfield 7, 3) := by decide +kernel
theorem dX12_mends_96 : decode cX12_mends 96 = .ok (.sipush 174, 3) := by decide +kernel
theorem dX12_mends_99 : decode cX12_mends 99 = .ok (.iload 6, 2) := by decide +kernel
theorem dX12_mends_101 : decode cX12_mends 101 = .ok (.iadd, 1) := by decide +kernel
theorem dX12_mends_102 : decode cX12_mends 102 = .ok (.iaload, 1) := by decide +kernel
theorem dX12_mends_103 : decode cX12_mends 103 = .ok (.imul, 1) := by decide +kernel
theorem dX12_mends_104 : decode cX12_mends 104 = .ok (.i2l, 1) := by decide +kernel
theorem dX12_mends_105 : decode cX12_mends 105 = .ok (.ladd, 1) := by decide +kernel
theorem dX12_mends_106 : decode cX12_mends 106 = .ok (.lstore 4, 2) := by decide +kernel
theorem dX12_mends_108 : decode cX12_mends 108 = .ok (.iinc 6 1, 3) := by decide +kernel
theorem dX12_mends_111 : decode cX12_mends 111 = .ok (.goto (-94), 3) := by decide +kernel
theorem dX12_mends_114 : decode cX12_mends 114 = .ok (.aload_n 0, 1) := by decide +kernel
theorem dX12_mends_115 : decode cX12_mends 115 = .ok (.getfield 332, 3) := by decide +kernel
theorem dX12_mends_118 : decode cX12_mends 118 = .ok (.lconst 0, 1) := by decide +kernel
theorem dX12_mends_119 : decode cX12_mends 119 = .ok (.lcmp, 1) := by decide +kernel
theorem dX12_mends_120 : decode cX12_mends 120 = .ok (.ifCond .lt 13, 3) := by decide +kernel
theorem dX12_mends_123 : decode cX12_mends 123 = .ok (.lload 4, 2) := by decide +kernel
theorem dX12_mends_125 : decode cX12_mends 125 = .ok (.aload_n 0, 1) := by decide +kernel
theorem dX12_mends_126 : decode cX12_mends 126 = .ok (.getfield 332, 3) := by decide +kernel
theorem dX12_mends_129 : decode cX12_mends 129 = .ok (.lcmp, 1) := by decide +kernel
theorem dX12_mends_130 : decode cX12_mends 130 = .ok (.ifCond .ge 38, 3) := by decide +kernel
theorem dX12_mends_133 : decode cX12_mends 133 = .ok (.aload_n 0, 1) := by decide +kernel
theorem dX12_mends_134 : decode cX12_mends 134 = .ok (.lload 4, 2) := by decide +kernel
theorem dX12_mends_136 : decode cX12_mends 136 = .ok (.putfield 332, 3) := by decide +kernel
theorem dX12_mends_139 : decode cX12_mends 139 = .ok (.iconst 0, 1) := by decide +kernel
theorem dX12_mends_140 : decode cX12_mends 140 = .ok (.istore 6, 2) := by decide +kernel
theorem dX12_mends_142 : decode cX12_mends 142 = .ok (.iload 6, 2) := by decide +kernel
theorem dX12_mends_144 : decode cX12_mends 144 = .ok (.iload_n 1, 1) := by decide +kernel
theorem dX12_mends_145 : decode cX12_mends 145 = .ok (.if_icmp .ge 23, 3) := by decide +kernel
theorem dX12_mends_148 : decode cX12_mends 148 = .ok (.aload_n 0, 1) := by decide +kernel
theorem dX12_mends_149 : decode cX12_mends 149 = .ok (.getfield 69, 3) := by decide +kernel
theorem dX12_mends_152 : decode cX12_mends 152 = .ok (.iload 6, 2) := by decide +kernel
theorem dX12_mends_154 : decode cX12_mends 154 = .ok (.aload_n 0, 1) := by decide +kernel
theorem dX12_mends_155 : decode cX12_mends 155 = .ok (.getfield 66, 3) := by decide +kernel
theorem dX12_mends_158 : decode cX12_mends 158 = .ok (.iload 6, 2) := by decide +kernel
theorem dX12_mends_160 : decode cX12_mends 160 = .ok (.iaload, 1) := by decide +kernel
theorem dX12_mends_161 : decode cX12_mends 161 = .ok (.iastore, 1) := by decide +kernel
theorem dX12_mends_162 : decode cX12_mends 162 = .ok (.iinc 6 1, 3) := by decide +kernel
theorem dX12_mends_165 : decode cX12_mends 165 = .ok (.goto (-23), 3) := by decide +kernel
theorem dX12_mends_168 : decode cX12_mends 168 = .ok (.return_, 1) := by decide +kernel
theorem dX12_mends_169 : decode cX12_mends 169 = .ok (.iconst 0, 1) := by decide +kernel
theorem dX12_mends_170 : decode cX12_mends 170 = .ok (.istore 4, 2) := by decide +kernel
theorem dX12_mends_172 : decode cX12_mends 172 = .ok (.iload 4, 2) := by decide +kernel
theorem dX12_mends_174 : decode cX12_mends 174 = .ok (.aload_n 0, 1) := by decide +kernel
theorem dX12_mends_175 : decode cX12_mends 175 = .ok (.getfield 7, 3) := by decide +kernel
theorem dX12_mends_178 : decode cX12_mends 178 = .ok (.bipush 6, 2) := by decide +kernel
theorem dX12_mends_180 : decode cX12_mends 180 = .ok (.iaload, 1) := by decide +kernel
theorem dX12_mends_181 : decode cX12_mends 181 = .ok (.if_icmp .ge 72, 3) := by decide +kernel
theorem dX12_mends_184 : decode cX12_mends 184 = .ok (.iload_n 2, 1) := by decide +kernel
theorem dX12_mends_185 : decode cX12_mends 185 = .ok (.iload 4, 2) := by decide +kernel
theorem dX12_mends_187 : decode cX12_mends 187 = .ok (.ishr, 1) := by decide +kernel
theorem dX12_mends_188 : decode cX12_mends 188 = .ok (.iconst 1, 1) := by decide +kernel
theorem dX12_mends_189 : decode cX12_mends 189 = .ok (.iand, 1) := by decide +kernel
theorem dX12_mends_190 : decode cX12_mends 190 = .ok (.ifCond .ne 57, 3) := by decide +kernel
theorem dX12_mends_193 : decode cX12_mends 193 = .ok (.aload_n 0, 1) := by decide +kernel
theorem dX12_mends_194 : decode cX12_mends 194 = .ok (.getfield 66, 3) := by decide +kernel
theorem dX12_mends_197 : decode cX12_mends 197 = .ok (.iload_n 1, 1) := by decide +kernel
theorem dX12_mends_198 : decode cX12_mends 198 = .ok (.iload 4, 2) := by decide +kernel
theorem dX12_mends_200 : decode cX12_mends 200 = .ok (.iastore, 1) := by decide +kernel
theorem dX12_mends_201 : decode cX12_mends 201 = .ok (.aload_n 0, 1) := by decide +kernel
theorem dX12_mends_202 : decode cX12_mends 202 = .ok (.getfield 72, 3) := by decide +kernel
theorem dX12_mends_205 : decode cX12_mends 205 = .ok (.iload 4, 2) := by decide +kernel
theorem dX12_mends_207 : decode cX12_mends 207 = .ok (.iload_n 3, 1) := by decide +kernel
theorem dX12_mends_208 : decode cX12_mends 208 = .ok (.aload_n 0, 1) := by decide +kernel
theorem dX12_mends_209 : decode cX12_mends 209 = .ok (.getfield 7, 3) := by decide +kernel
theorem dX12_mends_212 : decode cX12_mends 212 = .ok (.sipush 2270, 3) := by decide +kernel
theorem dX12_mends_215 : decode cX12_mends 215 = .ok (.iload 4, 2) := by decide +kernel
theorem dX12_mends_217 : decode cX12_mends 217 = .ok (.iadd, 1) := by decide +kernel
theorem dX12_mends_218 : decode cX12_mends 218 = .ok (.iaload, 1) := by decide +kernel
theorem dX12_mends_219 : decode cX12_mends 219 = .ok (.iadd, 1) := by decide +kernel
theorem dX12_mends_220 : decode cX12_mends 220 = .ok (.iastore, 1) := by decide +kernel
theorem dX12_mends_221 : decode cX12_mends 221 = .ok (.aload_n 0, 1) := by decide +kernel
theorem dX12_mends_222 : decode cX12_mends 222 = .ok (.iload_n 1, 1) := by decide +kernel
theorem dX12_mends_223 : decode cX12_mends 223 = .ok (.iconst 1, 1) := by decide +kernel
theorem dX12_mends_224 : decode cX12_mends 224 = .ok (.iadd, 1) := by decide +kernel
theorem dX12_mends_225 : decode cX12_mends 225 = .ok (.iload_n 2, 1) := by decide +kernel
theorem dX12_mends_226 : decode cX12_mends 226 = .ok (.iconst 1, 1) := by decide +kernel
theorem dX12_mends_227 : decode cX12_mends 227 = .ok (.iload 4, 2) := by decide +kernel
theorem dX12_mends_229 : decode cX12_mends 229 = .ok (.ishl, 1) := by decide +kernel
theorem dX12_mends_230 : decode cX12_mends 230 = .ok (.ior, 1) := by decide +kernel
theorem dX12_mends_231 : decode cX12_mends 231 = .ok (.iload_n 3, 1) := by decide +kernel
theorem dX12_mends_232 : decode cX12_mends 232 = .ok (.aload_n 0, 1) := by decide +kernel
theorem dX12_mends_233 : decode cX12_mends 233 = .ok (.getfield 7, 3) := by decide +kernel
theorem dX12_mends_236 : decode cX12_mends 236 = .ok (.sipush 2270, 3) := by decide +kernel
theorem dX12_mends_239 : decode cX12_mends 239 = .ok (.iload 4, 2) := by decide +kernel
theorem dX12_mends_241 : decode cX12_mends 241 = .ok (.iadd, 1) := by decide +kernel
theorem dX12_mends_242 : decode cX12_mends 242 = .ok (.iaload, 1) := by decide +kernel
theorem dX12_mends_243 : decode cX12_mends 243 = .ok (.iadd, 1) := by decide +kernel
theorem dX12_mends_244 : decode cX12_mends 244 = .ok (.invokevirtual 336, 3) := by decide +kernel
theorem dX12_mends_247 : decode cX12_mends 247 = .ok (.iinc 4 1, 3) := by decide +kernel
theorem dX12_mends_250 : decode cX12_mends 250 = .ok (.goto (-78), 3) := by decide +kernel
theorem dX12_mends_253 : decode cX12_mends 253 = .ok (.return_, 1) := by decide +kernel
theorem hd_Mo_mends_94 : y_Mo_mends_94.cls ≠ "java/lang/invoke/MethodHandle" ∧ y_Mo_mends_94.cls ≠ "java/lang/invoke/VarHandle" ∧ (parseMethodDescriptor y_Mo_mends_94.desc).map (fun d => d.parameters.length) = some 3 := by decide +kernel
def b_Mo_mends_94_34 (a1 : Int32) (M0 : Mem) (y2 : Int64 × Int32) (y4 : Int32 × Int32) : Option ((Int32 × Int32) ⊕ (Int32)) :=
  if decide (y4.2 < a1) then (if inb y2.2 10 then if decide ((((M0.1 115 y2.2.toNatClampNeg) >>> (y4.2 &&& 31)) &&& 1) = 1) then (if inb y4.2 6 then if decide ((M0.1 114 y4.2.toNatClampNeg) ≤ y4.1) then (some (.inl (y4.1, y4.2 + 1))) else (if inb y4.2 6 then some (.inl (M0.1 114 y4.2.toNatClampNeg, y4.2 + 1)) else none) else none) else (some (.inl (y4.1, y4.2 + 1))) else none) else (some (.inr y4.1))
def b_Mo_mends_94_17 (a1 : Int32) (M0 : Mem) (y2 : Int64 × Int32) : Option ((Int64 × Int32) ⊕ (Int64)) :=
  if decide (y2.2 < (M0.1 95 1)) then ((itr (b_Mo_mends_94_34 a1 M0 y2) FU (0, 0)).bind fun q11 => if inb (174 + y2.2) 4700 then jv_ (y2.1 + ((q11 * (M0.1 95 (174 + y2.2).toNatClampNeg)).toInt64) : Int64) fun x13 => some (.inl (x13, y2.2 + 1)) else none) else (some (.inr y2.1))
def b_Mo_mends_94_142 (a1 : Int32) (y18 : Int32 × Mem) : Option ((Int32 × Mem) ⊕ (Mem)) :=
  if decide (y18.1 < a1) then (if inb y18.1 6 then if inb y18.1 6 then jv_ (wI y18.2 113 y18.1.toNatClampNeg (y18.2.1 112 y18.1.toNatClampNeg)) fun M22 => some (.inl (y18.1 + 1, M22)) else none else none) else (some (.inr y18.2))
def b_Mo_mends_94_142_1 (a1 : Int32) (y25 : Int32 × Mem) : Option ((Int32 × Mem) ⊕ (Mem)) :=
  if decide (y25.1 < a1) then (if inb y25.1 6 then if inb y25.1 6 then jv_ (wI y25.2 113 y25.1.toNatClampNeg (y25.2.1 112 y25.1.toNatClampNeg)) fun M29 => some (.inl (y25.1 + 1, M29)) else none else none) else (some (.inr y25.2))
def b_Mo_mends_94_172 (rec : Int32 → Int32 → Int32 → Mem → Option (Mem)) (a1 : Int32) (a2 : Int32) (a3 : Int32) (y31 : Int32 × Mem) : Option ((Int32 × Mem) ⊕ (Mem)) :=
  if decide (y31.1 < (y31.2.1 95 6)) then (if decide (((a2 >>> (y31.1 &&& 31)) &&& 1) = 0) then (if inb a1 6 then jv_ (wI y31.2 112 a1.toNatClampNeg y31.1) fun M35 => if inb (2270 + y31.1) 4700 then if inb y31.1 6 then jv_ (wI M35 114 y31.1.toNatClampNeg (a3 + (M35.1 95 (2270 + y31.1).toNatClampNeg))) fun M38 => if inb (2270 + y31.1) 4700 then (rec (a1 + 1) (a2 ||| (1 <<< (y31.1 &&& 31))) (a3 + (M38.1 95 (2270 + y31.1).toNatClampNeg)) M38).bind fun q40 => some (.inl (y31.1 + 1, q40)) else none else none else none else none) else (some (.inl (y31.1 + 1, y31.2)))) else (some (.inr y31.2))
def F_Mo_mends_94 (rec : Int32 → Int32 → Int32 → Mem → Option (Mem)) (a1 : Int32) (a2 : Int32) (a3 : Int32) (M0 : Mem) : Option (Mem) :=
  if decide (a1 = (M0.1 95 6)) then ((itr (b_Mo_mends_94_17 a1 M0) FU (0, 0)).bind fun q14 => if decide ((lg_cmp (M0.2 94 30) 0) < 0) then (jv_ (wL M0 94 30 q14) fun M24 => (itr (b_Mo_mends_94_142_1 a1) FU (0, M24)).bind fun q30 => some q30) else (if decide ((lg_cmp q14 (M0.2 94 30)) < 0) then (jv_ (wL M0 94 30 q14) fun M17 => (itr (b_Mo_mends_94_142 a1) FU (0, M17)).bind fun q23 => some q23) else (some M0))) else ((itr (b_Mo_mends_94_172 rec a1 a2 a3) FU (0, M0)).bind fun q41 => some q41)
set_option maxHeartbeats 4000000 in
set_option maxRecDepth 20000 in
theorem S_Mo_mends_94 {D : va_G} {ad adK adV : Nat → Nat} {cI cJ : ClassId} {l : Launch} (rec : Int32 → Int32 → Int32 → Mem → Option (Mem)) (fr0 lo0 : Nat) (hf : 0 ≤ fr0) (hl : 0 ≤ lo0) (hrec0 : ∀ (x0_ : Int32) (x1_ : Int32) (x2_ : Int32) (M : Mem) (o : Mem), rec x0_ x1_ x2_ M = some o → Ct D ad adK adV cI cJ l y_Mo_mends_94 cX12_mends 9 none fr0 lo0 [.ref (ad 94), .int x0_, .int x1_, .int x2_] M none o) (a1 : Int32) (a2 : Int32) (a3 : Int32) (M0 : Mem) (o : Mem) (h : F_Mo_mends_94 rec a1 a2 a3 M0 = some o) : Ct D ad adK adV cI cJ l y_Mo_mends_94 cX12_mends 9 none (fr0 + 1) (lo0 + 28) [.ref (ad 94), .int a1, .int a2, .int a3] M0 none o := by
  refine x_start (lv := [(0, .ref (ad 94)), (1, .int a1), (2, .int a2), (3, .int a3)]) (own := "CurrentFarmsModel") rfl (by decide) (Nat.le_of_ble_eq_true rfl) rfl ?_
  intro p e s m args below meth c Q hQ B
  unfold F_Mo_mends_94 at h
  refine x_iload_n (pc := 0) B 1 dX12_mends_0 rfl rfl ?_
  refine x_aload_n (pc := 1) B 0 dX12_mends_1 rfl rfl ?_
  refine x_get (T := TX12) (pc := 2) B 1 oi_94 rfl uw_12 (by decide) rfl tw_1300 rfl dX12_mends_2 ?_
  refine x_bipush (v := 6) (pc := 5) B dX12_mends_5 rfl ?_
  refine x_iald_c (j := 6) (pc := 7) B ai_95 (by decide) rfl dX12_mends_7 ?_
  refine x_icmp_ne (tgt := 169) (pc := 8) B dX12_mends_8 rfl (fun hc1 => ?_) (fun hc1 => ?_)
  · have h := iff_ hc1 h
    refine x_iconst (v := 0) (pc := 169) B dX12_mends_169 rfl ?_
    refine x_istore (lv' := [(4, .int 0), (0, .ref (ad 94)), (1, .int a1), (2, .int a2), (3, .int a3)]) (pc := 170) B dX12_mends_170 (by decide) rfl ?_
    refine x_pick (lv' := [(0, .ref (ad 94)), (1, .int a1), (2, .int a2), (3, .int a3), (4, .int 0)]) [1, 2, 3, 4, 0] rfl ?_
    obtain ⟨q41, hq41, h⟩ := bnd h
    refine x_loop (Head := fun (y31 : Int32 × Mem) => XX D ad cI cJ p l e (Rm (fr0 + 1) (lo0 + 28)) s m args below meth c Q 9 y31.2 172 [(0, .ref (ad 94)), (1, .int a1), (2, .int a2), (3, .int a3), (4, .int y31.1)] []) (Ex := fun (q41 : Mem) => XX D ad cI cJ p l e (Rm (fr0 + 1) (lo0 + 28)) s m args below meth c Q 9 q41 253 [] []) (fun y31 r h hback hexit => ?_) FU _ q41 hq41 ?_
    · unfold b_Mo_mends_94_172 at h
      refine x_iload (pc := 172) B 4 dX12_mends_172 rfl ?_
      refine x_aload_n (pc := 174) B 0 dX12_mends_174 rfl rfl ?_
      refine x_get (T := TX12) (pc := 175) B 1 oi_94 rfl uw_12 (by decide) rfl tw_1300 rfl dX12_mends_175 ?_
      refine x_bipush (v := 6) (pc := 178) B dX12_mends_178 rfl ?_
      refine x_iald_c (j := 6) (pc := 180) B ai_95 (by decide) rfl dX12_mends_180 ?_
      refine x_icmp_ge (tgt := 253) (pc := 181) B dX12_mends_181 rfl (fun hc32 => ?_) (fun hc32 => ?_)
      · have h := iff_ hc32 h
        refine x_pick (lv' := []) [] rfl ?_
        have z := hexit y31.2 (Option.some.inj h).symm
        exact z
      · have h := ift hc32 h
        refine x_iload_n (pc := 184) B 2 dX12_mends_184 rfl rfl ?_
        refine x_iload (pc := 185) B 4 dX12_mends_185 rfl ?_
        refine x_ishr (pc := 187) B dX12_mends_187 ?_
        refine x_iconst (v := 1) (pc := 188) B dX12_mends_188 rfl ?_
        refine x_iand (pc := 189) B dX12_mends_189 ?_
        refine x_if_ne (tgt := 247) (pc := 190) B dX12_mends_190 rfl (fun hc33 => ?_) (fun hc33 => ?_)
        · have h := iff_ hc33 h
          refine x_iinc (k := 4) (v := y31.1 + 1) (lv' := [(4, .int (y31.1 + 1)), (0, .ref (ad 94)), (1, .int a1), (2, .int a2), (3, .int a3)]) (pc := 247) B dX12_mends_247 rfl rfl (by decide) rfl ?_
          refine x_goto (tgt := 172) (pc := 250) B dX12_mends_250 rfl ?_
          refine x_pick (lv' := [(0, .ref (ad 94)), (1, .int a1), (2, .int a2), (3, .int a3), (4, .int (y31.1 + 1))]) [1, 2, 3, 4, 0] rfl ?_
          have z := hback (y31.1 + 1, y31.2) (Option.some.inj h).symm
          exact z
        · have h := ift hc33 h
          refine x_aload_n (pc := 193) B 0 dX12_mends_193 rfl rfl ?_
          refine x_get (T := TX12) (pc := 194) B 26 oi_94 rfl uw_12 (by decide) rfl tw_1325 rfl dX12_mends_194 ?_
          refine x_iload_n (pc := 197) B 1 dX12_mends_197 rfl rfl ?_
          refine x_iload (pc := 198) B 4 dX12_mends_198 rfl ?_
          obtain ⟨hk34, h⟩ := ifn h
          refine x_iast (pc := 200) B ai_112 hk34 dX12_mends_200 ?_
          refine jv_m (P := fun M35 => XX D ad cI cJ p l e (Rm (fr0 + 1) (lo0 + 28)) s m args below meth c Q 9 M35 201 [(0, .ref (ad 94)), (1, .int a1), (2, .int a2), (3, .int a3), (4, .int y31.1)] []) h (fun M35 h => ?_)
          refine x_aload_n (pc := 201) B 0 dX12_mends_201 rfl rfl ?_
          refine x_get (T := TX12) (pc := 202) B 28 oi_94 rfl uw_12 (by decide) rfl tw_1327 rfl dX12_mends_202 ?_
          refine x_iload (pc := 205) B 4 dX12_mends_205 rfl ?_
          refine x_iload_n (pc := 207) B 3 dX12_mends_207 rfl rfl ?_
          refine x_aload_n (pc := 208) B 0 dX12_mends_208 rfl rfl ?_
          refine x_get (T := TX12) (pc := 209) B 1 oi_94 rfl uw_12 (by decide) rfl tw_1300 rfl dX12_mends_209 ?_
          refine x_sipush (v := 2270) (pc := 212) B dX12_mends_212 rfl ?_
          refine x_iload (pc := 215) B 4 dX12_mends_215 rfl ?_
          refine x_iadd (pc := 217) B dX12_mends_217 ?_
          obtain ⟨hk36, h⟩ := ifn h
          refine x_iald (pc := 218) B ai_95 hk36 dX12_mends_218 ?_
          refine x_iadd (pc := 219) B dX12_mends_219 ?_
          obtain ⟨hk37, h⟩ := ifn h
          refine x_iast (pc := 220) B ai_114 hk37 dX12_mends_220 ?_
          refine jv_m (P := fun M38 => XX D ad cI cJ p l e (Rm (fr0 + 1) (lo0 + 28)) s m args below meth c Q 9 M38 221 [(0, .ref (ad 94)), (1, .int a1), (2, .int a2), (3, .int a3), (4, .int y31.1)] []) h (fun M38 h => ?_)
          refine x_aload_n (pc := 221) B 0 dX12_mends_221 rfl rfl ?_
          refine x_iload_n (pc := 222) B 1 dX12_mends_222 rfl rfl ?_
          refine x_iconst (v := 1) (pc := 223) B dX12_mends_223 rfl ?_
          refine x_iadd (pc := 224) B dX12_mends_224 ?_
          refine x_iload_n (pc := 225) B 2 dX12_mends_225 rfl rfl ?_
          refine x_iconst (v := 1) (pc := 226) B dX12_mends_226 rfl ?_
          refine x_iload (pc := 227) B 4 dX12_mends_227 rfl ?_
          refine x_ishl (pc := 229) B dX12_mends_229 ?_
          refine x_ior (pc := 230) B dX12_mends_230 ?_
          refine x_iload_n (pc := 231) B 3 dX12_mends_231 rfl rfl ?_
          refine x_aload_n (pc := 232) B 0 dX12_mends_232 rfl rfl ?_
          refine x_get (T := TX12) (pc := 233) B 1 oi_94 rfl uw_12 (by decide) rfl tw_1300 rfl dX12_mends_233 ?_
          refine x_sipush (v := 2270) (pc := 236) B dX12_mends_236 rfl ?_
          refine x_iload (pc := 239) B 4 dX12_mends_239 rfl ?_
          refine x_iadd (pc := 241) B dX12_mends_241 ?_
          obtain ⟨hk39, h⟩ := ifn h
          refine x_iald (pc := 242) B ai_95 hk39 dX12_mends_242 ?_
          refine x_iadd (pc := 243) B dX12_mends_243 ?_
          obtain ⟨q40, hq40, h⟩ := bnd h
          refine x_callV (rest := []) (st' := []) (pc := 244) B oi_94 rfl (hrec0 (a1 + 1) (a2 ||| (1 <<< (y31.1 &&& 31))) (a3 + (M38.1 95 (2270 + y31.1).toNatClampNeg)) M38 _ hq40) tw_1785 tw_1782 tw_1784 tw_93 tw_111 hd_Mo_mends_94 (by constructor <;> (dsimp only [Rm]; omega)) rfl rfl (Nat.le_of_ble_eq_true rfl) rfl dX12_mends_244 ?_
          refine x_iinc (k := 4) (v := y31.1 + 1) (lv' := [(4, .int (y31.1 + 1)), (0, .ref (ad 94)), (1, .int a1), (2, .int a2), (3, .int a3)]) (pc := 247) B dX12_mends_247 rfl rfl (by decide) rfl ?_
          refine x_goto (tgt := 172) (pc := 250) B dX12_mends_250 rfl ?_
          refine x_pick (lv' := [(0, .ref (ad 94)), (1, .int a1), (2, .int a2), (3, .int a3), (4, .int (y31.1 + 1))]) [1, 2, 3, 4, 0] rfl ?_
          have z := hback (y31.1 + 1, q40) (Option.some.inj h).symm
          exact z
    · obtain rfl := Option.some.inj h
      exact x_vret (pc := 253) B hQ dX12_mends_253
  · have h := ift hc1 h
    refine x_lconst (v := 0) (pc := 11) B dX12_mends_11 rfl ?_
    refine x_lstore (lv' := [(4, .long 0), (0, .ref (ad 94)), (1, .int a1), (2, .int a2), (3, .int a3)]) (pc := 12) B dX12_mends_12 (by decide) rfl ?_
    refine x_iconst (v := 0) (pc := 14) B dX12_mends_14 rfl ?_
    refine x_istore (lv' := [(6, .int 0), (4, .long 0), (0, .ref (ad 94)), (1, .int a1), (2, .int a2), (3, .int a3)]) (pc := 15) B dX12_mends_15 (by decide) rfl ?_
    refine x_pick (lv' := [(0, .ref (ad 94)), (1, .int a1), (4, .long 0), (6, .int 0)]) [2, 3, 1, 0] rfl ?_
    obtain ⟨q14, hq14, h⟩ := bnd h
    refine x_loop (Head := fun (y2 : Int64 × Int32) => XX D ad cI cJ p l e (Rm (fr0 + 1) (lo0 + 28)) s m args below meth c Q 9 M0 17 [(0, .ref (ad 94)), (1, .int a1), (4, .long y2.1), (6, .int y2.2)] []) (Ex := fun (q14 : Int64) => XX D ad cI cJ p l e (Rm (fr0 + 1) (lo0 + 28)) s m args below meth c Q 9 M0 114 [(0, .ref (ad 94)), (1, .int a1), (4, .long q14)] []) (fun y2 r h hback hexit => ?_) FU _ q14 hq14 ?_
    · unfold b_Mo_mends_94_17 at h
      refine x_iload (pc := 17) B 3 dX12_mends_17 rfl ?_
      refine x_aload_n (pc := 19) B 0 dX12_mends_19 rfl rfl ?_
      refine x_get (T := TX12) (pc := 20) B 1 oi_94 rfl uw_12 (by decide) rfl tw_1300 rfl dX12_mends_20 ?_
      refine x_iconst (v := 1) (pc := 23) B dX12_mends_23 rfl ?_
      refine x_iald_c (j := 1) (pc := 24) B ai_95 (by decide) rfl dX12_mends_24 ?_
      refine x_icmp_ge (tgt := 114) (pc := 25) B dX12_mends_25 rfl (fun hc3 => ?_) (fun hc3 => ?_)
      · have h := iff_ hc3 h
        refine x_pick (lv' := [(0, .ref (ad 94)), (1, .int a1), (4, .long y2.1)]) [0, 1, 2] rfl ?_
        have z := hexit y2.1 (Option.some.inj h).symm
        exact z
      · have h := ift hc3 h
        refine x_iconst (v := 0) (pc := 28) B dX12_mends_28 rfl ?_
        refine x_istore (lv' := [(7, .int 0), (0, .ref (ad 94)), (1, .int a1), (4, .long y2.1), (6, .int y2.2)]) (pc := 29) B dX12_mends_29 (by decide) rfl ?_
        refine x_iconst (v := 0) (pc := 31) B dX12_mends_31 rfl ?_
        refine x_istore (lv' := [(8, .int 0), (7, .int 0), (0, .ref (ad 94)), (1, .int a1), (4, .long y2.1), (6, .int y2.2)]) (pc := 32) B dX12_mends_32 (by decide) rfl ?_
        refine x_pick (lv' := [(0, .ref (ad 94)), (1, .int a1), (4, .long y2.1), (6, .int y2.2), (7, .int 0), (8, .int 0)]) [2, 3, 4, 5, 1, 0] rfl ?_
        obtain ⟨q11, hq11, h⟩ := bnd h
        refine x_loop (Head := fun (y4 : Int32 × Int32) => XX D ad cI cJ p l e (Rm (fr0 + 1) (lo0 + 28)) s m args below meth c Q 9 M0 34 [(0, .ref (ad 94)), (1, .int a1), (4, .long y2.1), (6, .int y2.2), (7, .int y4.1), (8, .int y4.2)] []) (Ex := fun (q11 : Int32) => XX D ad cI cJ p l e (Rm (fr0 + 1) (lo0 + 28)) s m args below meth c Q 9 M0 88 [(0, .ref (ad 94)), (1, .int a1), (4, .long y2.1), (6, .int y2.2), (7, .int q11)] []) (fun y4 r h hback hexit => ?_) FU _ q11 hq11 ?_
        · unfold b_Mo_mends_94_34 at h
          refine x_iload (pc := 34) B 5 dX12_mends_34 rfl ?_
          refine x_iload_n (pc := 36) B 1 dX12_mends_36 rfl rfl ?_
          refine x_icmp_ge (tgt := 88) (pc := 37) B dX12_mends_37 rfl (fun hc5 => ?_) (fun hc5 => ?_)
          · have h := iff_ hc5 h
            refine x_pick (lv' := [(0, .ref (ad 94)), (1, .int a1), (4, .long y2.1), (6, .int y2.2), (7, .int y4.1)]) [0, 1, 2, 3, 4] rfl ?_
            have z := hexit y4.1 (Option.some.inj h).symm
            exact z
          · have h := ift hc5 h
            refine x_aload_n (pc := 40) B 0 dX12_mends_40 rfl rfl ?_
            refine x_get (T := TX12) (pc := 41) B 29 oi_94 rfl uw_12 (by decide) rfl tw_1328 rfl dX12_mends_41 ?_
            refine x_iload (pc := 44) B 3 dX12_mends_44 rfl ?_
            obtain ⟨hk6, h⟩ := ifn h
            refine x_iald (pc := 46) B ai_115 hk6 dX12_mends_46 ?_
            refine x_iload (pc := 47) B 5 dX12_mends_47 rfl ?_
            refine x_ishr (pc := 49) B dX12_mends_49 ?_
            refine x_iconst (v := 1) (pc := 50) B dX12_mends_50 rfl ?_
            refine x_iand (pc := 51) B dX12_mends_51 ?_
            refine x_iconst (v := 1) (pc := 52) B dX12_mends_52 rfl ?_
            refine x_icmp_ne (tgt := 78) (pc := 53) B dX12_mends_53 rfl (fun hc7 => ?_) (fun hc7 => ?_)
            · have h := iff_ hc7 h
              refine x_iload (pc := 78) B 4 dX12_mends_78 rfl ?_
              refine x_istore (lv' := [(7, .int y4.1), (0, .ref (ad 94)), (1, .int a1), (4, .long y2.1), (6, .int y2.2), (8, .int y4.2)]) (pc := 80) B dX12_mends_80 (by decide) rfl ?_
              refine x_iinc (k := 5) (v := y4.2 + 1) (lv' := [(8, .int (y4.2 + 1)), (7, .int y4.1), (0, .ref (ad 94)), (1, .int a1), (4, .long y2.1), (6, .int y2.2)]) (pc := 82) B dX12_mends_82 rfl rfl (by decide) rfl ?_
              refine x_goto (tgt := 34) (pc := 85) B dX12_mends_85 rfl ?_
              refine x_pick (lv' := [(0, .ref (ad 94)), (1, .int a1), (4, .long y2.1), (6, .int y2.2), (7, .int y4.1), (8, .int (y4.2 + 1))]) [2, 3, 4, 5, 1, 0] rfl ?_
              have z := hback (y4.1, y4.2 + 1) (Option.some.inj h).symm
              exact z
            · have h := ift hc7 h
              refine x_aload_n (pc := 56) B 0 dX12_mends_56 rfl rfl ?_
              refine x_get (T := TX12) (pc := 57) B 28 oi_94 rfl uw_12 (by decide) rfl tw_1327 rfl dX12_mends_57 ?_
              refine x_iload (pc := 60) B 5 dX12_mends_60 rfl ?_
              obtain ⟨hk8, h⟩ := ifn h
              refine x_iald (pc := 62) B ai_114 hk8 dX12_mends_62 ?_
              refine x_iload (pc := 63) B 4 dX12_mends_63 rfl ?_
              refine x_icmp_le (tgt := 78) (pc := 65) B dX12_mends_65 rfl (fun hc9 => ?_) (fun hc9 => ?_)
              · have h := ift hc9 h
                refine x_iload (pc := 78) B 4 dX12_mends_78 rfl ?_
                refine x_istore (lv' := [(7, .int y4.1), (0, .ref (ad 94)), (1, .int a1), (4, .long y2.1), (6, .int y2.2), (8, .int y4.2)]) (pc := 80) B dX12_mends_80 (by decide) rfl ?_
                refine x_iinc (k := 5) (v := y4.2 + 1) (lv' := [(8, .int (y4.2 + 1)), (7, .int y4.1), (0, .ref (ad 94)), (1, .int a1), (4, .long y2.1), (6, .int y2.2)]) (pc := 82) B dX12_mends_82 rfl rfl (by decide) rfl ?_
                refine x_goto (tgt := 34) (pc := 85) B dX12_mends_85 rfl ?_
                refine x_pick (lv' := [(0, .ref (ad 94)), (1, .int a1), (4, .long y2.1), (6, .int y2.2), (7, .int y4.1), (8, .int (y4.2 + 1))]) [2, 3, 4, 5, 1, 0] rfl ?_
                have z := hback (y4.1, y4.2 + 1) (Option.some.inj h).symm
                exact z
              · have h := iff_ hc9 h
                refine x_aload_n (pc := 68) B 0 dX12_mends_68 rfl rfl ?_
                refine x_get (T := TX12) (pc := 69) B 28 oi_94 rfl uw_12 (by decide) rfl tw_1327 rfl dX12_mends_69 ?_
                refine x_iload (pc := 72) B 5 dX12_mends_72 rfl ?_
                obtain ⟨hk10, h⟩ := ifn h
                refine x_iald (pc := 74) B ai_114 hk10 dX12_mends_74 ?_
                refine x_goto (tgt := 80) (pc := 75) B dX12_mends_75 rfl ?_
                refine x_istore (lv' := [(7, .int (M0.1 114 y4.2.toNatClampNeg)), (0, .ref (ad 94)), (1, .int a1), (4, .long y2.1), (6, .int y2.2), (8, .int y4.2)]) (pc := 80) B dX12_mends_80 (by decide) rfl ?_
                refine x_iinc (k := 5) (v := y4.2 + 1) (lv' := [(8, .int (y4.2 + 1)), (7, .int (M0.1 114 y4.2.toNatClampNeg)), (0, .ref (ad 94)), (1, .int a1), (4, .long y2.1), (6, .int y2.2)]) (pc := 82) B dX12_mends_82 rfl rfl (by decide) rfl ?_
                refine x_goto (tgt := 34) (pc := 85) B dX12_mends_85 rfl ?_
                refine x_pick (lv' := [(0, .ref (ad 94)), (1, .int a1), (4, .long y2.1), (6, .int y2.2), (7, .int (M0.1 114 y4.2.toNatClampNeg)), (8, .int (y4.2 + 1))]) [2, 3, 4, 5, 1, 0] rfl ?_
                have z := hback (M0.1 114 y4.2.toNatClampNeg, y4.2 + 1) (Option.some.inj h).symm
                exact z
        · refine x_lload (pc := 88) B 2 dX12_mends_88 rfl ?_
          refine x_iload (pc := 90) B 4 dX12_mends_90 rfl ?_
          refine x_aload_n (pc := 92) B 0 dX12_mends_92 rfl rfl ?_
          refine x_get (T := TX12) (pc := 93) B 1 oi_94 rfl uw_12 (by decide) rfl tw_1300 rfl dX12_mends_93 ?_
          refine x_sipush (v := 174) (pc := 96) B dX12_mends_96 rfl ?_
          refine x_iload (pc := 99) B 3 dX12_mends_99 rfl ?_
          refine x_iadd (pc := 101) B dX12_mends_101 ?_
          obtain ⟨hk12, h⟩ := ifn h
          refine x_iald (pc := 102) B ai_95 hk12 dX12_mends_102 ?_
          refine x_imul (pc := 103) B dX12_mends_103 ?_
          refine x_i2l (pc := 104) B dX12_mends_104 ?_
          refine x_ladd (pc := 105) B dX12_mends_105 ?_
          refine jv_m (P := fun (x13 : Int64) => XX D ad cI cJ p l e (Rm (fr0 + 1) (lo0 + 28)) s m args below meth c Q 9 M0 106 [(0, .ref (ad 94)), (1, .int a1), (4, .long y2.1), (6, .int y2.2), (7, .int q11)] [.long x13]) h (fun x13 h => ?_)
          refine x_lstore (lv' := [(4, .long x13), (0, .ref (ad 94)), (1, .int a1), (6, .int y2.2), (7, .int q11)]) (pc := 106) B dX12_mends_106 (by decide) rfl ?_
          refine x_iinc (k := 3) (v := y2.2 + 1) (lv' := [(6, .int (y2.2 + 1)), (4, .long x13), (0, .ref (ad 94)), (1, .int a1), (7, .int q11)]) (pc := 108) B dX12_mends_108 rfl rfl (by decide) rfl ?_
          refine x_goto (tgt := 17) (pc := 111) B dX12_mends_111 rfl ?_
          refine x_pick (lv' := [(0, .ref (ad 94)), (1, .int a1), (4, .long x13), (6, .int (y2.2 + 1))]) [2, 3, 1, 0] rfl ?_
          have z := hback (x13, y2.2 + 1) (Option.some.inj h).symm
          exact z
    · refine x_aload_n (pc := 114) B 0 dX12_mends_114 rfl rfl ?_
      refine x_get (T := TX12) (pc := 115) B 30 oi_94 rfl uw_12 (by decide) rfl tw_1329 rfl dX12_mends_115 ?_
      refine x_lconst (v := 0) (pc := 118) B dX12_mends_118 rfl ?_
      refine x_lcmp (pc := 119) B dX12_mends_119 ?_
      refine x_if_lt (tgt := 133) (pc := 120) B dX12_mends_120 rfl (fun hc15 => ?_) (fun hc15 => ?_)
      · have h := ift hc15 h
        refine x_aload_n (pc := 133) B 0 dX12_mends_133 rfl rfl ?_
        refine x_lload (pc := 134) B 2 dX12_mends_134 rfl ?_
        refine x_putJ (T := TX12) (pc := 136) B 30 oi_94 of_94_30 rfl uw_12 tyX12_ok nmX12 (by decide) rfl tw_1329 rfl rfl rfl (Nat.le_of_ble_eq_true rfl) dX12_mends_136 ?_
        refine jv_m (P := fun M24 => XX D ad cI cJ p l e (Rm (fr0 + 1) (lo0 + 28)) s m args below meth c Q 9 M24 139 [(0, .ref (ad 94)), (1, .int a1), (4, .long q14)] []) h (fun M24 h => ?_)
        refine x_iconst (v := 0) (pc := 139) B dX12_mends_139 rfl ?_
        refine x_istore (lv' := [(6, .int 0), (0, .ref (ad 94)), (1, .int a1), (4, .long q14)]) (pc := 140) B dX12_mends_140 (by decide) rfl ?_
        refine x_pick (lv' := [(0, .ref (ad 94)), (1, .int a1), (6, .int 0)]) [1, 2, 0] rfl ?_
        obtain ⟨q30, hq30, h⟩ := bnd h
        refine x_loop (Head := fun (y25 : Int32 × Mem) => XX D ad cI cJ p l e (Rm (fr0 + 1) (lo0 + 28)) s m args below meth c Q 9 y25.2 142 [(0, .ref (ad 94)), (1, .int a1), (6, .int y25.1)] []) (Ex := fun (q30 : Mem) => XX D ad cI cJ p l e (Rm (fr0 + 1) (lo0 + 28)) s m args below meth c Q 9 q30 168 [] []) (fun y25 r h hback hexit => ?_) FU _ q30 hq30 ?_
        · unfold b_Mo_mends_94_142_1 at h
          refine x_iload (pc := 142) B 2 dX12_mends_142 rfl ?_
          refine x_iload_n (pc := 144) B 1 dX12_mends_144 rfl rfl ?_
          refine x_icmp_ge (tgt := 168) (pc := 145) B dX12_mends_145 rfl (fun hc26 => ?_) (fun hc26 => ?_)
          · have h := iff_ hc26 h
            refine x_pick (lv' := []) [] rfl ?_
            have z := hexit y25.2 (Option.some.inj h).symm
            exact z
          · have h := ift hc26 h
            refine x_aload_n (pc := 148) B 0 dX12_mends_148 rfl rfl ?_
            refine x_get (T := TX12) (pc := 149) B 27 oi_94 rfl uw_12 (by decide) rfl tw_1326 rfl dX12_mends_149 ?_
            refine x_iload (pc := 152) B 2 dX12_mends_152 rfl ?_
            refine x_aload_n (pc := 154) B 0 dX12_mends_154 rfl rfl ?_
            refine x_get (T := TX12) (pc := 155) B 26 oi_94 rfl uw_12 (by decide) rfl tw_1325 rfl dX12_mends_155 ?_
            refine x_iload (pc := 158) B 2 dX12_mends_158 rfl ?_
            obtain ⟨hk27, h⟩ := ifn h
            refine x_iald (pc := 160) B ai_112 hk27 dX12_mends_160 ?_
            obtain ⟨hk28, h⟩ := ifn h
            refine x_iast (pc := 161) B ai_113 hk28 dX12_mends_161 ?_
            refine jv_m (P := fun M29 => XX D ad cI cJ p l e (Rm (fr0 + 1) (lo0 + 28)) s m args below meth c Q 9 M29 162 [(0, .ref (ad 94)), (1, .int a1), (6, .int y25.1)] []) h (fun M29 h => ?_)
            refine x_iinc (k := 2) (v := y25.1 + 1) (lv' := [(6, .int (y25.1 + 1)), (0, .ref (ad 94)), (1, .int a1)]) (pc := 162) B dX12_mends_162 rfl rfl (by decide) rfl ?_
            refine x_goto (tgt := 142) (pc := 165) B dX12_mends_165 rfl ?_
            refine x_pick (lv' := [(0, .ref (ad 94)), (1, .int a1), (6, .int (y25.1 + 1))]) [1, 2, 0] rfl ?_
            have z := hback (y25.1 + 1, M29) (Option.some.inj h).symm
            exact z
        · obtain rfl := Option.some.inj h
          exact x_vret (pc := 168) B hQ dX12_mends_168
      · have h := iff_ hc15 h
        refine x_lload (pc := 123) B 2 dX12_mends_123 rfl ?_
        refine x_aload_n (pc := 125) B 0 dX12_mends_125 rfl rfl ?_
        refine x_get (T := TX12) (pc := 126) B 30 oi_94 rfl uw_12 (by decide) rfl tw_1329 rfl dX12_mends_126 ?_
        refine x_lcmp (pc := 129) B dX12_mends_129 ?_
        refine x_if_ge (tgt := 168) (pc := 130) B dX12_mends_130 rfl (fun hc16 => ?_) (fun hc16 => ?_)
        · have h := iff_ hc16 h
          obtain rfl := Option.some.inj h
          exact x_vret (pc := 168) B hQ dX12_mends_168
        · have h := ift hc16 h
          refine x_aload_n (pc := 133) B 0 dX12_mends_133 rfl rfl ?_
          refine x_lload (pc := 134) B 2 dX12_mends_134 rfl ?_
          refine x_putJ (T := TX12) (pc := 136) B 30 oi_94 of_94_30 rfl uw_12 tyX12_ok nmX12 (by decide) rfl tw_1329 rfl rfl rfl (Nat.le_of_ble_eq_true rfl) dX12_mends_136 ?_
          refine jv_m (P := fun M17 => XX D ad cI cJ p l e (Rm (fr0 + 1) (lo0 + 28)) s m args below meth c Q 9 M17 139 [(0, .ref (ad 94)), (1, .int a1), (4, .long q14)] []) h (fun M17 h => ?_)
          refine x_iconst (v := 0) (pc := 139) B dX12_mends_139 rfl ?_
          refine x_istore (lv' := [(6, .int 0), (0, .ref (ad 94)), (1, .int a1), (4, .long q14)]) (pc := 140) B dX12_mends_140 (by decide) rfl ?_
          refine x_pick (lv' := [(0, .ref (ad 94)), (1, .int a1), (6, .int 0)]) [1, 2, 0] rfl ?_
          obtain ⟨q23, hq23, h⟩ := bnd h
          refine x_loop (Head := fun (y18 : Int32 × Mem) => XX D ad cI cJ p l e (Rm (fr0 + 1) (lo0 + 28)) s m args below meth c Q 9 y18.2 142 [(0, .ref (ad 94)), (1, .int a1), (6, .int y18.1)] []) (Ex := fun (q23 : Mem) => XX D ad cI cJ p l e (Rm (fr0 + 1) (lo0 + 28)) s m args below meth c Q 9 q23 168 [] []) (fun y18 r h hback hexit => ?_) FU _ q23 hq23 ?_
          · unfold b_Mo_mends_94_142 at h
            refine x_iload (pc := 142) B 2 dX12_mends_142 rfl ?_
            refine x_iload_n (pc := 144) B 1 dX12_mends_144 rfl rfl ?_
            refine x_icmp_ge (tgt := 168) (pc := 145) B dX12_mends_145 rfl (fun hc19 => ?_) (fun hc19 => ?_)
            · have h := iff_ hc19 h
              refine x_pick (lv' := []) [] rfl ?_
              have z := hexit y18.2 (Option.some.inj h).symm
              exact z
            · have h := ift hc19 h
              refine x_aload_n (pc := 148) B 0 dX12_mends_148 rfl rfl ?_
              refine x_get (T := TX12) (pc := 149) B 27 oi_94 rfl uw_12 (by decide) rfl tw_1326 rfl dX12_mends_149 ?_
              refine x_iload (pc := 152) B 2 dX12_mends_152 rfl ?_
              refine x_aload_n (pc := 154) B 0 dX12_mends_154 rfl rfl ?_
              refine x_get (T := TX12) (pc := 155) B 26 oi_94 rfl uw_12 (by decide) rfl tw_1325 rfl dX12_mends_155 ?_
              refine x_iload (pc := 158) B 2 dX12_mends_158 rfl ?_
              obtain ⟨hk20, h⟩ := ifn h
              refine x_iald (pc := 160) B ai_112 hk20 dX12_mends_160 ?_
              obtain ⟨hk21, h⟩ := ifn h
              refine x_iast (pc := 161) B ai_113 hk21 dX12_mends_161 ?_
              refine jv_m (P := fun M22 => XX D ad cI cJ p l e (Rm (fr0 + 1) (lo0 + 28)) s m args below meth c Q 9 M22 162 [(0, .ref (ad 94)), (1, .int a1), (6, .int y18.1)] []) h (fun M22 h => ?_)
              refine x_iinc (k := 2) (v := y18.1 + 1) (lv' := [(6, .int (y18.1 + 1)), (0, .ref (ad 94)), (1, .int a1)]) (pc := 162) B dX12_mends_162 rfl rfl (by decide) rfl ?_
              refine x_goto (tgt := 142) (pc := 165) B dX12_mends_165 rfl ?_
              refine x_pick (lv' := [(0, .ref (ad 94)), (1, .int a1), (6, .int (y18.1 + 1))]) [1, 2, 0] rfl ?_
              have z := hback (y18.1 + 1, M22) (Option.some.inj h).symm
              exact z
          · obtain rfl := Option.some.inj h
            exact x_vret (pc := 168) B hQ dX12_mends_168
def f_mends : Nat → Int32 → Int32 → Int32 → Mem → Option (Mem)
  | 0, _, _, _, _ => none
  | d + 1, x0_, x1_, x2_, M => F_Mo_mends_94 (f_mends d) x0_ x1_ x2_ M
theorem C_mends {D : va_G} {ad adK adV : Nat → Nat} {cI cJ : ClassId} {l : Launch} : ∀ d : Nat, (∀ (x0_ : Int32) (x1_ : Int32) (x2_ : Int32) (M : Mem) (o : Mem), f_mends d x0_ x1_ x2_ M = some o → Ct D ad adK adV cI cJ l y_Mo_mends_94 cX12_mends 9 none (0 + d) (0 + 28 * d) [.ref (ad 94), .int x0_, .int x1_, .int x2_] M none o)
  | 0 => by
    (intros; rename_i h; cases h)
  | d + 1 => by
    have ih := @C_mends D ad adK adV cI cJ l d
    intro x0_ x1_ x2_ M o h
    exact S_Mo_mends_94 (f_mends d) (0 + d) (0 + 28 * d) (by omega) (by omega) ih x0_ x1_ x2_ M o h
-- CurrentFarmsModel.order(I)I [94]
abbrev y_Mo_order_94 : MethodName := ⟨"CurrentFarmsModel", "order", "(I)I"⟩
abbrev cX12_order : ByteArray := prog_14_method_95_code
theorem dX12_order_0 : decode cX12_order 0 = .ok (.iload_n 1, 1) := by decide +kernel
theorem dX12_order_1 : decode cX12_order 1 = .ok (.iconst (-1), 1) := by decide +kernel
theorem dX12_order_2 : decode cX12_order 2 = .ok (.aload_n 0, 1) := by decide +kernel
theorem dX12_order_3 : decode cX12_order 3 = .ok (.getfield 7, 3) := by decide +kernel
theorem dX12_order_6 : decode cX12_order 6 = .ok (.bipush 6, 2) := by decide +kernel
theorem dX12_order_8 : decode cX12_order 8 = .ok (.iaload, 1) := by decide +kernel
theorem dX12_order_9 : decode cX12_order 9 = .ok (.iconst 1, 1) := by decide +kernel
theorem dX12_order_10 : decode cX12_order 10 = .ok (.isub, 1) := by decide +kernel
theorem dX12_order_11 : decode cX12_order 11 = .ok (.invokestatic 84, 3) := by decide +kernel
theorem dX12_order_14 : decode cX12_order 14 = .ok (.ifCond .ne 5, 3) := by decide +kernel
theorem dX12_order_17 : decode cX12_order 17 = .ok (.iconst (-1), 1) := by decide +kernel
theorem dX12_order_18 : decode cX12_order 18 = .ok (.ireturn, 1) := by decide +kernel
theorem dX12_order_19 : decode cX12_order 19 = .ok (.aload_n 0, 1) := by decide +kernel
theorem dX12_order_20 : decode cX12_order 20 = .ok (.invokevirtual 340, 3) := by decide +kernel
theorem dX12_order_23 : decode cX12_order 23 = .ok (.aload_n 0, 1) := by decide +kernel
theorem dX12_order_24 : decode cX12_order 24 = .ok (.ldc2_w 343, 3) := by decide +kernel
theorem dX12_order_27 : decode cX12_order 27 = .ok (.putfield 332, 3) := by decide +kernel
theorem dX12_order_30 : decode cX12_order 30 = .ok (.aload_n 0, 1) := by decide +kernel
theorem dX12_order_31 : decode cX12_order 31 = .ok (.iconst 0, 1) := by decide +kernel
theorem dX12_order_32 : decode cX12_order 32 = .ok (.iconst 0, 1) := by decide +kernel
theorem dX12_order_33 : decode cX12_order 33 = .ok (.iconst 0, 1) := by decide +kernel
theorem dX12_order_34 : decode cX12_order 34 = .ok (.invokevirtual 336, 3) := by decide +kernel
theorem dX12_order_37 : decode cX12_order 37 = .ok (.iload_n 1, 1) := by decide +kernel
theorem dX12_order_38 : decode cX12_order 38 = .ok (.iconst (-1), 1) := by decide +kernel
theorem dX12_order_39 : decode cX12_order 39 = .ok (.if_icmp .ne 11, 3) := by decide +kernel
theorem dX12_order_42 : decode cX12_order 42 = .ok (.aload_n 0, 1) := by decide +kernel
theorem dX12_order_43 : decode cX12_order 43 = .ok (.getfield 332, 3) := by decide +kernel
theorem dX12_order_46 : decode cX12_order 46 = .ok (.l2i, 1) := by decide +kernel
theorem dX12_order_47 : decode cX12_order 47 = .ok (.goto 18, 3) := by decide +kernel
theorem dX12_order_50 : decode cX12_order 50 = .ok (.aload_n 0, 1) := by decide +kernel
theorem dX12_order_51 : decode cX12_order 51 = .ok (.getfield 7, 3) := by decide +kernel
theorem dX12_order_54 : decode cX12_order 54 = .ok (.sipush 2260, 3) := by decide +kernel
theorem dX12_order_57 : decode cX12_order 57 = .ok (.aload_n 0, 1) := by decide +kernel
theorem dX12_order_58 : decode cX12_order 58 = .ok (.getfield 69, 3) := by decide +kernel
theorem dX12_order_61 : decode cX12_order 61 = .ok (.iload_n 1, 1) := by decide +kernel
theorem dX12_order_62 : decode cX12_order 62 = .ok (.iaload, 1) := by decide +kernel
theorem dX12_order_63 : decode cX12_order 63 = .ok (.iadd, 1) := by decide +kernel
theorem dX12_order_64 : decode cX12_order 64 = .ok (.iaload, 1) := by decide +kernel
theorem dX12_order_65 : decode cX12_order 65 = .ok (.ireturn, 1) := by decide +kernel
theorem hd_Mo_order_94 : y_Mo_order_94.cls ≠ "java/lang/invoke/MethodHandle" ∧ y_Mo_order_94.cls ≠ "java/lang/invoke/VarHandle" ∧ (parseMethodDescriptor y_Mo_order_94.desc).map (fun d => d.parameters.length) = some 1 := by decide +kernel
def f_Mo_order_94 (a1 : Int32) (M0 : Mem) : Option (Int32 × Mem) :=
  (f_Mo_in a1 (-1) ((M0.1 95 6) - 1)).bind fun q1 => if q1 then ((f_Mo_breaksOf_94 M0).bind fun q3 => jv_ (wL q3 94 30 (-1)) fun M4 => (f_mends 10 0 0 0 M4).bind fun q5 => if decide (a1 = (-1)) then (some ((q5.2 94 30).toInt32, q5)) else (if inb a1 6 then if inb (2260 + (q5.1 113 a1.toNatClampNeg)) 4700 then some (q5.1 95 (2260 + (q5.1 113 a1.toNatClampNeg)).toNatClampNeg, q5) else none else none)) else (some ((-1), M0))
set_option maxHeartbeats 4000000 in
set_option maxRecDepth 20000 in
theorem C_Mo_order_94 {D : va_G} {ad adK adV : Nat → Nat} {cI cJ : ClassId} {l : Launch} (a1 : Int32) (M0 : Mem) (o : Int32 × Mem) (h : f_Mo_order_94 a1 M0 = some o) : Ct D ad adK adV cI cJ l y_Mo_order_94 cX12_order 2 (some .int) 11 308 [.ref (ad 94), .int a1] M0 (some (.int o.1)) o.2 := by
  refine x_start (lv := [(0, .ref (ad 94)), (1, .int a1)]) (own := "CurrentFarmsModel") rfl (by decide) (Nat.le_of_ble_eq_true rfl) rfl ?_
  intro p e s m args below meth c Q hQ B
  unfold f_Mo_order_94 at h
  refine x_iload_n (pc := 0) B 1 dX12_order_0 rfl rfl ?_
  refine x_iconst (v := (-1)) (pc := 1) B dX12_order_1 rfl ?_
  refine x_aload_n (pc := 2) B 0 dX12_order_2 rfl rfl ?_
  refine x_get (T := TX12) (pc := 3) B 1 oi_94 rfl uw_12 (by decide) rfl tw_1300 rfl dX12_order_3 ?_
  refine x_bipush (v := 6) (pc := 6) B dX12_order_6 rfl ?_
  refine x_iald_c (j := 6) (pc := 8) B ai_95 (by decide) rfl dX12_order_8 ?_
  refine x_iconst (v := 1) (pc := 9) B dX12_order_9 rfl ?_
  refine x_isub (pc := 10) B dX12_order_10 ?_
  obtain ⟨q1, hq1, h⟩ := bnd h
  refine x_callS (rest := []) (st' := [.int (bI q1)]) (pc := 11) B (C_Mo_in a1 (-1) ((M0.1 95 6) - 1) M0 _ hq1) tw_1406 tw_1404 tw_1405 tw_111 hd_Mo_in ⟨Nat.le_of_ble_eq_true rfl, Nat.le_of_ble_eq_true rfl⟩ rfl rfl (Nat.le_of_ble_eq_true rfl) rfl dX12_order_11 ?_
  refine x_if_ne_b (tgt := 19) (pc := 14) B dX12_order_14 rfl (fun hc2 => ?_) (fun hc2 => ?_)
  · have h := ift hc2 h
    refine x_aload_n (pc := 19) B 0 dX12_order_19 rfl rfl ?_
    obtain ⟨q3, hq3, h⟩ := bnd h
    refine x_callV (rest := []) (st' := []) (pc := 20) B oi_94 rfl (C_Mo_breaksOf_94  M0 _ hq3) tw_1780 tw_1777 tw_1779 tw_92 tw_111 hd_Mo_breaksOf_94 ⟨Nat.le_of_ble_eq_true rfl, Nat.le_of_ble_eq_true rfl⟩ rfl rfl (Nat.le_of_ble_eq_true rfl) rfl dX12_order_20 ?_
    refine x_aload_n (pc := 23) B 0 dX12_order_23 rfl rfl ?_
    refine x_ldc2 (v := (-1)) (pc := 24) B tw_1781 dX12_order_24 ?_
    refine x_putJ (T := TX12) (pc := 27) B 30 oi_94 of_94_30 rfl uw_12 tyX12_ok nmX12 (by decide) rfl tw_1329 rfl rfl rfl (Nat.le_of_ble_eq_true rfl) dX12_order_27 ?_
    refine jv_m (P := fun M4 => XX D ad cI cJ p l e (Rm 11 308) s m args below meth c Q 2 M4 30 [(0, .ref (ad 94)), (1, .int a1)] []) h (fun M4 h => ?_)
    refine x_aload_n (pc := 30) B 0 dX12_order_30 rfl rfl ?_
    refine x_iconst (v := 0) (pc := 31) B dX12_order_31 rfl ?_
    refine x_iconst (v := 0) (pc := 32) B dX12_order_32 rfl ?_
    refine x_iconst (v := 0) (pc := 33) B dX12_order_33 rfl ?_
    obtain ⟨q5, hq5, h⟩ := bnd h
    refine x_callV (rest := []) (st' := []) (pc := 34) B oi_94 rfl ((C_mends 10) 0 0 0 M4 _ hq5) tw_1785 tw_1782 tw_1784 tw_93 tw_111 hd_Mo_mends_94 ⟨Nat.le_of_ble_eq_true rfl, Nat.le_of_ble_eq_true rfl⟩ rfl rfl (Nat.le_of_ble_eq_true rfl) rfl dX12_order_34 ?_
    refine x_iload_n (pc := 37) B 1 dX12_order_37 rfl rfl ?_
    refine x_iconst (v := (-1)) (pc := 38) B dX12_order_38 rfl ?_
    refine x_icmp_ne (tgt := 50) (pc := 39) B dX12_order_39 rfl (fun hc6 => ?_) (fun hc6 => ?_)
    · have h := iff_ hc6 h
      refine x_aload_n (pc := 50) B 0 dX12_order_50 rfl rfl ?_
      refine x_get (T := TX12) (pc := 51) B 1 oi_94 rfl uw_12 (by decide) rfl tw_1300 rfl dX12_order_51 ?_
      refine x_sipush (v := 2260) (pc := 54) B dX12_order_54 rfl ?_
      refine x_aload_n (pc := 57) B 0 dX12_order_57 rfl rfl ?_
      refine x_get (T := TX12) (pc := 58) B 27 oi_94 rfl uw_12 (by decide) rfl tw_1326 rfl dX12_order_58 ?_
      refine x_iload_n (pc := 61) B 1 dX12_order_61 rfl rfl ?_
      obtain ⟨hk7, h⟩ := ifn h
      refine x_iald (pc := 62) B ai_113 hk7 dX12_order_62 ?_
      refine x_iadd (pc := 63) B dX12_order_63 ?_
      obtain ⟨hk8, h⟩ := ifn h
      refine x_iald (pc := 64) B ai_95 hk8 dX12_order_64 ?_
      obtain rfl := Option.some.inj h
      exact x_iret (pc := 65) B hQ dX12_order_65
    · have h := ift hc6 h
      refine x_aload_n (pc := 42) B 0 dX12_order_42 rfl rfl ?_
      refine x_get (T := TX12) (pc := 43) B 30 oi_94 rfl uw_12 (by decide) rfl tw_1329 rfl dX12_order_43 ?_
      refine x_l2i (pc := 46) B dX12_order_46 ?_
      refine x_goto (tgt := 65) (pc := 47) B dX12_order_47 rfl ?_
      obtain rfl := Option.some.inj h
      exact x_iret (pc := 65) B hQ dX12_order_65
  · have h := iff_ hc2 h
    refine x_iconst (v := (-1)) (pc := 17) B dX12_order_17 rfl ?_
    obtain rfl := Option.some.inj h
    exact x_iret (pc := 18) B hQ dX12_order_18
-- CurrentFarmsModel.fix()I [94]
abbrev y_Mo_fix_94 : MethodName := ⟨"CurrentFarmsModel", "fix", "()I"⟩
abbrev cX12_fix : ByteArray := prog_14_method_96_code
theorem dX12_fix_0 : decode cX12_fix 0 = .ok (.aload_n 0, 1) := by decide +kernel
theorem dX12_fix_1 : decode cX12_fix 1 = .ok (.getfield 7, 3) := by decide +kernel
theorem dX12_fix_4 : decode cX12_fix 4 = .ok (.bipush 6, 2) := by decide +kernel
theorem dX12_fix_6 : decode cX12_fix 6 = .ok (.iaload, 1) := by decide +kernel
theorem dX12_fix_7 : decode cX12_fix 7 = .ok (.istore_n 1, 1) := by decide +kernel
theorem dX12_fix_8 : decode cX12_fix 8 = .ok (.aload_n 0, 1) := by decide +kernel
theorem dX12_fix_9 : decode cX12_fix 9 = .ok (.getfield 7, 3) := by decide +kernel
theorem dX12_fix_12 : decode cX12_fix 12 = .ok (.bipush 6, 2) := by decide +kernel
theorem dX12_fix_14 : decode cX12_fix 14 = .ok (.iconst 0, 1) := by decide +kernel
theorem dX12_fix_15 : decode cX12_fix 15 = .ok (.iastore, 1) := by decide +kernel
theorem dX12_fix_16 : decode cX12_fix 16 = .ok (.iload_n 1, 1) := by decide +kernel
theorem dX12_fix_17 : decode cX12_fix 17 = .ok (.ireturn, 1) := by decide +kernel
theorem hd_Mo_fix_94 : y_Mo_fix_94.cls ≠ "java/lang/invoke/MethodHandle" ∧ y_Mo_fix_94.cls ≠ "java/lang/invoke/VarHandle" ∧ (parseMethodDescriptor y_Mo_fix_94.desc).map (fun d => d.parameters.length) = some 0 := by decide +kernel
def f_Mo_fix_94  (M0 : Mem) : Option (Int32 × Mem) :=
  jv_ (wI M0 95 6 0) fun M1 => some (M0.1 95 6, M1)
set_option maxHeartbeats 4000000 in
set_option maxRecDepth 20000 in
theorem C_Mo_fix_94 {D : va_G} {ad adK adV : Nat → Nat} {cI cJ : ClassId} {l : Launch}  (M0 : Mem) (o : Int32 × Mem) (h : f_Mo_fix_94  M0 = some o) : Ct D ad adK adV cI cJ l y_Mo_fix_94 cX12_fix 2 (some .int) 0 0 [.ref (ad 94)] M0 (some (.int o.1)) o.2 := by
  refine x_start (lv := [(0, .ref (ad 94))]) (own := "CurrentFarmsModel") rfl (by decide) (Nat.le_of_ble_eq_true rfl) rfl ?_
  intro p e s m args below meth c Q hQ B
  unfold f_Mo_fix_94 at h
  refine x_aload_n (pc := 0) B 0 dX12_fix_0 rfl rfl ?_
  refine x_get (T := TX12) (pc := 1) B 1 oi_94 rfl uw_12 (by decide) rfl tw_1300 rfl dX12_fix_1 ?_
  refine x_bipush (v := 6) (pc := 4) B dX12_fix_4 rfl ?_
  refine x_iald_c (j := 6) (pc := 6) B ai_95 (by decide) rfl dX12_fix_6 ?_
  refine x_istore_n (lv' := [(1, .int (M0.1 95 6)), (0, .ref (ad 94))]) (pc := 7) B dX12_fix_7 rfl (by decide) rfl ?_
  refine x_aload_n (pc := 8) B 1 dX12_fix_8 rfl rfl ?_
  refine x_get (T := TX12) (pc := 9) B 1 oi_94 rfl uw_12 (by decide) rfl tw_1300 rfl dX12_fix_9 ?_
  refine x_bipush (v := 6) (pc := 12) B dX12_fix_12 rfl ?_
  refine x_iconst (v := 0) (pc := 14) B dX12_fix_14 rfl ?_
  refine x_iast_c (j := 6) (pc := 15) B ai_95 (by decide) rfl dX12_fix_15 ?_
  refine jv_m (P := fun M1 => XX D ad cI cJ p l e (Rm 0 0) s m args below meth c Q 2 M1 16 [(1, .int (M0.1 95 6)), (0, .ref (ad 94))] []) h (fun M1 h => ?_)
  refine x_iload_n (pc := 16) B 0 dX12_fix_16 rfl rfl ?_
  obtain rfl := Option.some.inj h
  exact x_iret (pc := 17) B hQ dX12_fix_17
-- CurrentFarmsModel.isOnWayHome(II)Z [94]
abbrev y_Mo_isOnWayHome_94 : MethodName := ⟨"CurrentFarmsModel", "isOnWayHome", "(II)Z"⟩
abbrev cX12_isOnWayHome : ByteArray := prog_14_method_97_code
theorem dX12_isOnWayHome_0 : decode cX12_isOnWayHome 0 = .ok (.iload_n 2, 1) := by decide +kernel
theorem dX12_isOnWayHome_1 : decode cX12_isOnWayHome 1 = .ok (.istore_n 3, 1) := by decide +kernel
theorem dX12_isOnWayHome_2 : decode cX12_isOnWayHome 2 = .ok (.iload_n 3, 1) := by decide +kernel
theorem dX12_isOnWayHome_3 : decode cX12_isOnWayHome 3 = .ok (.iload_n 1, 1) := by decide +kernel
theorem dX12_isOnWayHome_4 : decode cX12_isOnWayHome 4 = .ok (.if_icmp .eq 27, 3) := by decide +kernel
theorem dX12_isOnWayHome_7 : decode cX12_isOnWayHome 7 = .ok (.iload_n 3, 1) := by decide +kernel
theorem dX12_isOnWayHome_8 : decode cX12_isOnWayHome 8 = .ok (.aload_n 0, 1) := by decide +kernel
theorem dX12_isOnWayHome_9 : decode cX12_isOnWayHome 9 = .ok (.getfield 7, 3) := by decide +kernel
theorem dX12_isOnWayHome_12 : decode cX12_isOnWayHome 12 = .ok (.bipush 9, 2) := by decide +kernel
theorem dX12_isOnWayHome_14 : decode cX12_isOnWayHome 14 = .ok (.iaload, 1) := by decide +kernel
theorem dX12_isOnWayHome_15 : decode cX12_isOnWayHome 15 = .ok (.if_icmp .eq 16, 3) := by decide +kernel
theorem dX12_isOnWayHome_18 : decode cX12_isOnWayHome 18 = .ok (.aload_n 0, 1) := by decide +kernel
theorem dX12_isOnWayHome_19 : decode cX12_isOnWayHome 19 = .ok (.getfield 7, 3) := by decide +kernel
theorem dX12_isOnWayHome_22 : decode cX12_isOnWayHome 22 = .ok (.bipush 116, 2) := by decide +kernel
theorem dX12_isOnWayHome_24 : decode cX12_isOnWayHome 24 = .ok (.iload_n 3, 1) := by decide +kernel
theorem dX12_isOnWayHome_25 : decode cX12_isOnWayHome 25 = .ok (.iadd, 1) := by decide +kernel
theorem dX12_isOnWayHome_26 : decode cX12_isOnWayHome 26 = .ok (.iaload, 1) := by decide +kernel
theorem dX12_isOnWayHome_27 : decode cX12_isOnWayHome 27 = .ok (.istore_n 3, 1) := by decide +kernel
theorem dX12_isOnWayHome_28 : decode cX12_isOnWayHome 28 = .ok (.goto (-26), 3) := by decide +kernel
theorem dX12_isOnWayHome_31 : decode cX12_isOnWayHome 31 = .ok (.iload_n 3, 1) := by decide +kernel
theorem dX12_isOnWayHome_32 : decode cX12_isOnWayHome 32 = .ok (.iload_n 1, 1) := by decide +kernel
theorem dX12_isOnWayHome_33 : decode cX12_isOnWayHome 33 = .ok (.if_icmp .ne 7, 3) := by decide +kernel
theorem dX12_isOnWayHome_36 : decode cX12_isOnWayHome 36 = .ok (.iconst 1, 1) := by decide +kernel
theorem dX12_isOnWayHome_37 : decode cX12_isOnWayHome 37 = .ok (.goto 4, 3) := by decide +kernel
theorem dX12_isOnWayHome_40 : decode cX12_isOnWayHome 40 = .ok (.iconst 0, 1) := by decide +kernel
theorem dX12_isOnWayHome_41 : decode cX12_isOnWayHome 41 = .ok (.ireturn, 1) := by decide +kernel
theorem hd_Mo_isOnWayHome_94 : y_Mo_isOnWayHome_94.cls ≠ "java/lang/invoke/MethodHandle" ∧ y_Mo_isOnWayHome_94.cls ≠ "java/lang/invoke/VarHandle" ∧ (parseMethodDescriptor y_Mo_isOnWayHome_94.desc).map (fun d => d.parameters.length) = some 2 := by decide +kernel
def b_Mo_isOnWayHome_94_2 (a1 : Int32) (M0 : Mem) (y1 : Int32) : Option ((Int32) ⊕ (Int32)) :=
  if decide (y1 = a1) then (some (.inr y1)) else (if decide (y1 = (M0.1 95 9)) then (some (.inr y1)) else (if inb (116 + y1) 4700 then some (.inl (M0.1 95 (116 + y1).toNatClampNeg)) else none))
def f_Mo_isOnWayHome_94 (a1 : Int32) (a2 : Int32) (M0 : Mem) : Option (Bool) :=
  (itr (b_Mo_isOnWayHome_94_2 a1 M0) FU a2).bind fun q5 => if decide (q5 = a1) then (some true) else (some false)
set_option maxHeartbeats 4000000 in
set_option maxRecDepth 20000 in
theorem C_Mo_isOnWayHome_94 {D : va_G} {ad adK adV : Nat → Nat} {cI cJ : ClassId} {l : Launch} (a1 : Int32) (a2 : Int32) (M0 : Mem) (o : Bool) (h : f_Mo_isOnWayHome_94 a1 a2 M0 = some o) : Ct D ad adK adV cI cJ l y_Mo_isOnWayHome_94 cX12_isOnWayHome 4 (some .boolean) 0 0 [.ref (ad 94), .int a1, .int a2] M0 (some (.int (bI o))) M0 := by
  refine x_start (lv := [(0, .ref (ad 94)), (1, .int a1), (2, .int a2)]) (own := "CurrentFarmsModel") rfl (by decide) (Nat.le_of_ble_eq_true rfl) rfl ?_
  intro p e s m args below meth c Q hQ B
  unfold f_Mo_isOnWayHome_94 at h
  refine x_iload_n (pc := 0) B 2 dX12_isOnWayHome_0 rfl rfl ?_
  refine x_istore_n (lv' := [(3, .int a2), (0, .ref (ad 94)), (1, .int a1), (2, .int a2)]) (pc := 1) B dX12_isOnWayHome_1 rfl (by decide) rfl ?_
  refine x_pick (lv' := [(0, .ref (ad 94)), (1, .int a1), (3, .int a2)]) [1, 2, 0] rfl ?_
  obtain ⟨q5, hq5, h⟩ := bnd h
  refine x_loop (Head := fun (y1 : Int32) => XX D ad cI cJ p l e (Rm 0 0) s m args below meth c Q 4 M0 2 [(0, .ref (ad 94)), (1, .int a1), (3, .int y1)] []) (Ex := fun (q5 : Int32) => XX D ad cI cJ p l e (Rm 0 0) s m args below meth c Q 4 M0 31 [(1, .int a1), (3, .int q5)] []) (fun y1 r h hback hexit => ?_) FU _ q5 hq5 ?_
  · unfold b_Mo_isOnWayHome_94_2 at h
    refine x_iload_n (pc := 2) B 2 dX12_isOnWayHome_2 rfl rfl ?_
    refine x_iload_n (pc := 3) B 1 dX12_isOnWayHome_3 rfl rfl ?_
    refine x_icmp_eq (tgt := 31) (pc := 4) B dX12_isOnWayHome_4 rfl (fun hc2 => ?_) (fun hc2 => ?_)
    · have h := ift hc2 h
      refine x_pick (lv' := [(1, .int a1), (3, .int y1)]) [1, 2] rfl ?_
      have z := hexit y1 (Option.some.inj h).symm
      exact z
    · have h := iff_ hc2 h
      refine x_iload_n (pc := 7) B 2 dX12_isOnWayHome_7 rfl rfl ?_
      refine x_aload_n (pc := 8) B 0 dX12_isOnWayHome_8 rfl rfl ?_
      refine x_get (T := TX12) (pc := 9) B 1 oi_94 rfl uw_12 (by decide) rfl tw_1300 rfl dX12_isOnWayHome_9 ?_
      refine x_bipush (v := 9) (pc := 12) B dX12_isOnWayHome_12 rfl ?_
      refine x_iald_c (j := 9) (pc := 14) B ai_95 (by decide) rfl dX12_isOnWayHome_14 ?_
      refine x_icmp_eq (tgt := 31) (pc := 15) B dX12_isOnWayHome_15 rfl (fun hc3 => ?_) (fun hc3 => ?_)
      · have h := ift hc3 h
        refine x_pick (lv' := [(1, .int a1), (3, .int y1)]) [1, 2] rfl ?_
        have z := hexit y1 (Option.some.inj h).symm
        exact z
      · have h := iff_ hc3 h
        refine x_aload_n (pc := 18) B 0 dX12_isOnWayHome_18 rfl rfl ?_
        refine x_get (T := TX12) (pc := 19) B 1 oi_94 rfl uw_12 (by decide) rfl tw_1300 rfl dX12_isOnWayHome_19 ?_
        refine x_bipush (v := 116) (pc := 22) B dX12_isOnWayHome_22 rfl ?_
        refine x_iload_n (pc := 24) B 2 dX12_isOnWayHome_24 rfl rfl ?_
        refine x_iadd (pc := 25) B dX12_isOnWayHome_25 ?_
        obtain ⟨hk4, h⟩ := ifn h
        refine x_iald (pc := 26) B ai_95 hk4 dX12_isOnWayHome_26 ?_
        refine x_istore_n (lv' := [(3, .int (M0.1 95 (116 + y1).toNatClampNeg)), (0, .ref (ad 94)), (1, .int a1)]) (pc := 27) B dX12_isOnWayHome_27 rfl (by decide) rfl ?_
        refine x_goto (tgt := 2) (pc := 28) B dX12_isOnWayHome_28 rfl ?_
        refine x_pick (lv' := [(0, .ref (ad 94)), (1, .int a1), (3, .int (M0.1 95 (116 + y1).toNatClampNeg))]) [1, 2, 0] rfl ?_
        have z := hback (M0.1 95 (116 + y1).toNatClampNeg) (Option.some.inj h).symm
        exact z
  · refine x_iload_n (pc := 31) B 1 dX12_isOnWayHome_31 rfl rfl ?_
    refine x_iload_n (pc := 32) B 0 dX12_isOnWayHome_32 rfl rfl ?_
    refine x_icmp_ne (tgt := 40) (pc := 33) B dX12_isOnWayHome_33 rfl (fun hc6 => ?_) (fun hc6 => ?_)
    · have h := iff_ hc6 h
      refine x_iconst (v := 0) (pc := 40) B dX12_isOnWayHome_40 rfl ?_
      obtain rfl := Option.some.inj h
      exact x_zret (v := false) (pc := 41) B hQ dX12_isOnWayHome_41
    · have h := ift hc6 h
      refine x_iconst (v := 1) (pc := 36) B dX12_isOnWayHome_36 rfl ?_
      refine x_goto (tgt := 41) (pc := 37) B dX12_isOnWayHome_37 rfl ?_
      obtain rfl := Option.some.inj h
      exact x_zret (v := true) (pc := 41) B hQ dX12_isOnWayHome_41
-- CurrentFarmsModel.isBetween(III)Z [94]
abbrev y_Mo_isBetween_94 : MethodName := ⟨"CurrentFarmsModel", "isBetween", "(III)Z"⟩
abbrev cX12_isBetween : ByteArray := prog_14_method_98_code
theorem dX12_isBetween_0 : decode cX12_isBetween 0 = .ok (.aload_n 0, 1) := by decide +kernel
theorem dX12_isBetween_1 : decode cX12_isBetween 1 = .ok (.iload_n 1, 1) := by decide +kernel
theorem dX12_isBetween_2 : decode cX12_isBetween 2 = .ok (.invokevirtual 92, 3) := by decide +kernel
theorem dX12_isBetween_5 : decode cX12_isBetween 5 = .ok (.ifCond .ne 5, 3) := by decide +kernel
theorem dX12_isBetween_8 : decode cX12_isBetween 8 = .ok (.iconst 0, 1) := by decide +kernel
theorem dX12_isBetween_9 : decode cX12_isBetween 9 = .ok (.ireturn, 1) := by decide +kernel
theorem dX12_isBetween_10 : decode cX12_isBetween 10 = .ok (.aload_n 0, 1) := by decide +kernel
theorem dX12_isBetween_11 : decode cX12_isBetween 11 = .ok (.iload_n 1, 1) := by decide +kernel
theorem dX12_isBetween_12 : decode cX12_isBetween 12 = .ok (.iload_n 2, 1) := by decide +kernel
theorem dX12_isBetween_13 : decode cX12_isBetween 13 = .ok (.invokevirtual 345, 3) := by decide +kernel
theorem dX12_isBetween_16 : decode cX12_isBetween 16 = .ok (.istore 4, 2) := by decide +kernel
theorem dX12_isBetween_18 : decode cX12_isBetween 18 = .ok (.aload_n 0, 1) := by decide +kernel
theorem dX12_isBetween_19 : decode cX12_isBetween 19 = .ok (.iload_n 1, 1) := by decide +kernel
theorem dX12_isBetween_20 : decode cX12_isBetween 20 = .ok (.iload_n 3, 1) := by decide +kernel
theorem dX12_isBetween_21 : decode cX12_isBetween 21 = .ok (.invokevirtual 345, 3) := by decide +kernel
theorem dX12_isBetween_24 : decode cX12_isBetween 24 = .ok (.istore 5, 2) := by decide +kernel
theorem dX12_isBetween_26 : decode cX12_isBetween 26 = .ok (.iload 4, 2) := by decide +kernel
theorem dX12_isBetween_28 : decode cX12_isBetween 28 = .ok (.iload 5, 2) := by decide +kernel
theorem dX12_isBetween_30 : decode cX12_isBetween 30 = .ok (.if_icmp .eq 5, 3) := by decide +kernel
theorem dX12_isBetween_33 : decode cX12_isBetween 33 = .ok (.iconst 1, 1) := by decide +kernel
theorem dX12_isBetween_34 : decode cX12_isBetween 34 = .ok (.ireturn, 1) := by decide +kernel
theorem dX12_isBetween_35 : decode cX12_isBetween 35 = .ok (.iload 4, 2) := by decide +kernel
theorem dX12_isBetween_37 : decode cX12_isBetween 37 = .ok (.istore 6, 2) := by decide +kernel
theorem dX12_isBetween_39 : decode cX12_isBetween 39 = .ok (.iconst 0, 1) := by decide +kernel
theorem dX12_isBetween_40 : decode cX12_isBetween 40 = .ok (.istore 7, 2) := by decide +kernel
theorem dX12_isBetween_42 : decode cX12_isBetween 42 = .ok (.iload 7, 2) := by decide +kernel
theorem dX12_isBetween_44 : decode cX12_isBetween 44 = .ok (.bipush 48, 2) := by decide +kernel
theorem dX12_isBetween_46 : decode cX12_isBetween 46 = .ok (.if_icmp .ge 55, 3) := by decide +kernel
theorem dX12_isBetween_49 : decode cX12_isBetween 49 = .ok (.iload 6, 2) := by decide +kernel
theorem dX12_isBetween_51 : decode cX12_isBetween 51 = .ok (.ifCond .eq 50, 3) := by decide +kernel
theorem dX12_isBetween_54 : decode cX12_isBetween 54 = .ok (.aload_n 0, 1) := by decide +kernel
theorem dX12_isBetween_55 : decode cX12_isBetween 55 = .ok (.getfield 7, 3) := by decide +kernel
theorem dX12_isBetween_58 : decode cX12_isBetween 58 = .ok (.bipush 116, 2) := by decide +kernel
theorem dX12_isBetween_60 : decode cX12_isBetween 60 = .ok (.iload 7, 2) := by decide +kernel
theorem dX12_isBetween_62 : decode cX12_isBetween 62 = .ok (.iadd, 1) := by decide +kernel
theorem dX12_isBetween_63 : decode cX12_isBetween 63 = .ok (.iaload, 1) := by decide +kernel
theorem dX12_isBetween_64 : decode cX12_isBetween 64 = .ok (.iload_n 1, 1) := by decide +kernel
theorem dX12_isBetween_65 : decode cX12_isBetween 65 = .ok (.if_icmp .ne 23, 3) := by decide +kernel
theorem dX12_isBetween_68 : decode cX12_isBetween 68 = .ok (.aload_n 0, 1) := by decide +kernel
theorem dX12_isBetween_69 : decode cX12_isBetween 69 = .ok (.iload 7, 2) := by decide +kernel
theorem dX12_isBetween_71 : decode cX12_isBetween 71 = .ok (.iload_n 2, 1) := by decide +kernel
theorem dX12_isBetween_72 : decode cX12_isBetween 72 = .ok (.invokevirtual 345, 3) := by decide +kernel
theorem dX12_isBetween_75 : decode cX12_isBetween 75 = .ok (.ifCond .eq 13, 3) := by decide +kernel
theorem dX12_isBetween_78 : decode cX12_isBetween 78 = .ok (.aload_n 0, 1) := by decide +kernel
theorem dX12_isBetween_79 : decode cX12_isBetween 79 = .ok (.iload 7, 2) := by decide +kernel
theorem dX12_isBetween_81 : decode cX12_isBetween 81 = .ok (.iload_n 3, 1) := by decide +kernel
theorem dX12_isBetween_82 : decode cX12_isBetween 82 = .ok (.invokevirtual 345, 3) := by decide +kernel
theorem dX12_isBetween_85 : decode cX12_isBetween 85 = .ok (.ifCond .ne 7, 3) := by decide +kernel
theorem dX12_isBetween_88 : decode cX12_isBetween 88 = .ok (.iconst 1, 1) := by decide +kernel
theorem dX12_isBetween_89 : decode cX12_isBetween 89 = .ok (.goto 4, 3) := by decide +kernel
theorem dX12_isBetween_92 : decode cX12_isBetween 92 = .ok (.iconst 0, 1) := by decide +kernel
theorem dX12_isBetween_93 : decode cX12_isBetween 93 = .ok (.istore 6, 2) := by decide +kernel
theorem dX12_isBetween_95 : decode cX12_isBetween 95 = .ok (.iinc 7 1, 3) := by decide +kernel
theorem dX12_isBetween_98 : decode cX12_isBetween 98 = .ok (.goto (-56), 3) := by decide +kernel
theorem dX12_isBetween_101 : decode cX12_isBetween 101 = .ok (.iload 6, 2) := by decide +kernel
theorem dX12_isBetween_103 : decode cX12_isBetween 103 = .ok (.ireturn, 1) := by decide +kernel
theorem hd_Mo_isBetween_94 : y_Mo_isBetween_94.cls ≠ "java/lang/invoke/MethodHandle" ∧ y_Mo_isBetween_94.cls ≠ "java/lang/invoke/VarHandle" ∧ (parseMethodDescriptor y_Mo_isBetween_94.desc).map (fun d => d.parameters.length) = some 3 := by decide +kernel
def b_Mo_isBetween_94_42 (a1 : Int32) (a2 : Int32) (a3 : Int32) (M0 : Mem) (y6 : Bool × Int32) : Option ((Bool × Int32) ⊕ (Bool)) :=
  if decide (y6.2 < 48) then (if y6.1 then (if inb (116 + y6.2) 4700 then if decide ((M0.1 95 (116 + y6.2).toNatClampNeg) = a1) then ((f_Mo_isOnWayHome_94 y6.2 a2 M0).bind fun q11 => if q11 then ((f_Mo_isOnWayHome_94 y6.2 a3 M0).bind fun q13 => if q13 then (some (.inl (false, y6.2 + 1))) else (some (.inl (true, y6.2 + 1)))) else (some (.inl (true, y6.2 + 1)))) else (some (.inl (true, y6.2 + 1))) else none) else (some (.inr y6.1))) else (some (.inr y6.1))
def f_Mo_isBetween_94 (a1 : Int32) (a2 : Int32) (a3 : Int32) (M0 : Mem) : Option (Bool) :=
  (f_Mo_isOnLine_94 a1 M0).bind fun q1 => if q1 then ((f_Mo_isOnWayHome_94 a1 a2 M0).bind fun q3 => (f_Mo_isOnWayHome_94 a1 a3 M0).bind fun q4 => if decide ((bI q3) = (bI q4)) then ((itr (b_Mo_isBetween_94_42 a1 a2 a3 M0) FU (q3, 0)).bind fun q15 => some q15) else (some true)) else (some false)
set_option maxHeartbeats 4000000 in
set_option maxRecDepth 20000 in
theorem C_Mo_isBetween_94 {D : va_G} {ad adK adV : Nat → Nat} {cI cJ : ClassId} {l : Launch} (a1 : Int32) (a2 : Int32) (a3 : Int32) (M0 : Mem) (o : Bool) (h : f_Mo_isBetween_94 a1 a2 a3 M0 = some o) : Ct D ad adK adV cI cJ l y_Mo_isBetween_94 cX12_isBetween 8 (some .boolean) 1 23 [.ref (ad 94), .int a1, .int a2, .int a3] M0 (some (.int (bI o))) M0 := by
  refine x_start (lv := [(0, .ref (ad 94)), (1, .int a1), (2, .int a2), (3, .int a3)]) (own := "CurrentFarmsModel") rfl (by decide) (Nat.le_of_ble_eq_true rfl) rfl ?_
  intro p e s m args below meth c Q hQ B
  unfold f_Mo_isBetween_94 at h
  refine x_aload_n (pc := 0) B 0 dX12_isBetween_0 rfl rfl ?_
  refine x_iload_n (pc := 1) B 1 dX12_isBetween_1 rfl rfl ?_
  obtain ⟨q1, hq1, h⟩ := bnd h
  refine x_callV (rest := []) (st' := [.int (bI q1)]) (pc := 2) B oi_94 rfl (C_Mo_isOnLine_94 a1 M0 _ hq1) tw_1410 tw_1407 tw_1409 tw_43 tw_111 hd_Mo_isOnLine_94 ⟨Nat.le_of_ble_eq_true rfl, Nat.le_of_ble_eq_true rfl⟩ rfl rfl (Nat.le_of_ble_eq_true rfl) rfl dX12_isBetween_2 ?_
  refine x_if_ne_b (tgt := 10) (pc := 5) B dX12_isBetween_5 rfl (fun hc2 => ?_) (fun hc2 => ?_)
  · have h := ift hc2 h
    refine x_aload_n (pc := 10) B 0 dX12_isBetween_10 rfl rfl ?_
    refine x_iload_n (pc := 11) B 1 dX12_isBetween_11 rfl rfl ?_
    refine x_iload_n (pc := 12) B 2 dX12_isBetween_12 rfl rfl ?_
    obtain ⟨q3, hq3, h⟩ := bnd h
    refine x_callV (rest := []) (st' := [.int (bI q3)]) (pc := 13) B oi_94 rfl (C_Mo_isOnWayHome_94 a1 a2 M0 _ hq3) tw_1801 tw_1798 tw_1800 tw_95 tw_111 hd_Mo_isOnWayHome_94 ⟨Nat.le_of_ble_eq_true rfl, Nat.le_of_ble_eq_true rfl⟩ rfl rfl (Nat.le_of_ble_eq_true rfl) rfl dX12_isBetween_13 ?_
    refine x_istore (lv' := [(4, .int (bI q3)), (0, .ref (ad 94)), (1, .int a1), (2, .int a2), (3, .int a3)]) (pc := 16) B dX12_isBetween_16 (by decide) rfl ?_
    refine x_aload_n (pc := 18) B 1 dX12_isBetween_18 rfl rfl ?_
    refine x_iload_n (pc := 19) B 2 dX12_isBetween_19 rfl rfl ?_
    refine x_iload_n (pc := 20) B 4 dX12_isBetween_20 rfl rfl ?_
    obtain ⟨q4, hq4, h⟩ := bnd h
    refine x_callV (rest := []) (st' := [.int (bI q4)]) (pc := 21) B oi_94 rfl (C_Mo_isOnWayHome_94 a1 a3 M0 _ hq4) tw_1801 tw_1798 tw_1800 tw_95 tw_111 hd_Mo_isOnWayHome_94 ⟨Nat.le_of_ble_eq_true rfl, Nat.le_of_ble_eq_true rfl⟩ rfl rfl (Nat.le_of_ble_eq_true rfl) rfl dX12_isBetween_21 ?_
    refine x_istore (lv' := [(5, .int (bI q4)), (4, .int (bI q3)), (0, .ref (ad 94)), (1, .int a1), (2, .int a2), (3, .int a3)]) (pc := 24) B dX12_isBetween_24 (by decide) rfl ?_
    refine x_iload (pc := 26) B 1 dX12_isBetween_26 rfl ?_
    refine x_iload (pc := 28) B 0 dX12_isBetween_28 rfl ?_
    refine x_icmp_eq (tgt := 35) (pc := 30) B dX12_isBetween_30 rfl (fun hc5 => ?_) (fun hc5 => ?_)
    · have h := ift hc5 h
      refine x_iload (pc := 35) B 1 dX12_isBetween_35 rfl ?_
      refine x_istore (lv' := [(6, .int (bI q3)), (5, .int (bI q4)), (4, .int (bI q3)), (0, .ref (ad 94)), (1, .int a1), (2, .int a2), (3, .int a3)]) (pc := 37) B dX12_isBetween_37 (by decide) rfl ?_
      refine x_iconst (v := 0) (pc := 39) B dX12_isBetween_39 rfl ?_
      refine x_istore (lv' := [(7, .int 0), (6, .int (bI q3)), (5, .int (bI q4)), (4, .int (bI q3)), (0, .ref (ad 94)), (1, .int a1), (2, .int a2), (3, .int a3)]) (pc := 40) B dX12_isBetween_40 (by decide) rfl ?_
      refine x_pick (lv' := [(0, .ref (ad 94)), (1, .int a1), (2, .int a2), (3, .int a3), (6, .int (bI q3)), (7, .int 0)]) [4, 5, 6, 7, 1, 0] rfl ?_
      obtain ⟨q15, hq15, h⟩ := bnd h
      refine x_loop (Head := fun (y6 : Bool × Int32) => XX D ad cI cJ p l e (Rm 1 23) s m args below meth c Q 8 M0 42 [(0, .ref (ad 94)), (1, .int a1), (2, .int a2), (3, .int a3), (6, .int (bI y6.1)), (7, .int y6.2)] []) (Ex := fun (q15 : Bool) => XX D ad cI cJ p l e (Rm 1 23) s m args below meth c Q 8 M0 101 [(6, .int (bI q15))] []) (fun y6 r h hback hexit => ?_) FU _ q15 hq15 ?_
      · unfold b_Mo_isBetween_94_42 at h
        refine x_iload (pc := 42) B 5 dX12_isBetween_42 rfl ?_
        refine x_bipush (v := 48) (pc := 44) B dX12_isBetween_44 rfl ?_
        refine x_icmp_ge (tgt := 101) (pc := 46) B dX12_isBetween_46 rfl (fun hc7 => ?_) (fun hc7 => ?_)
        · have h := iff_ hc7 h
          refine x_pick (lv' := [(6, .int (bI y6.1))]) [4] rfl ?_
          have z := hexit y6.1 (Option.some.inj h).symm
          exact z
        · have h := ift hc7 h
          refine x_iload (pc := 49) B 4 dX12_isBetween_49 rfl ?_
          refine x_if_eq_b (tgt := 101) (pc := 51) B dX12_isBetween_51 rfl (fun hc8 => ?_) (fun hc8 => ?_)
          · have h := iff_ hc8 h
            refine x_pick (lv' := [(6, .int (bI y6.1))]) [4] rfl ?_
            have z := hexit y6.1 (Option.some.inj h).symm
            exact z
          · have h := ift hc8 h
            refine x_aload_n (pc := 54) B 0 dX12_isBetween_54 rfl rfl ?_
            refine x_get (T := TX12) (pc := 55) B 1 oi_94 rfl uw_12 (by decide) rfl tw_1300 rfl dX12_isBetween_55 ?_
            refine x_bipush (v := 116) (pc := 58) B dX12_isBetween_58 rfl ?_
            refine x_iload (pc := 60) B 5 dX12_isBetween_60 rfl ?_
            refine x_iadd (pc := 62) B dX12_isBetween_62 ?_
            obtain ⟨hk9, h⟩ := ifn h
            refine x_iald (pc := 63) B ai_95 hk9 dX12_isBetween_63 ?_
            refine x_iload_n (pc := 64) B 1 dX12_isBetween_64 rfl rfl ?_
            refine x_icmp_ne (tgt := 88) (pc := 65) B dX12_isBetween_65 rfl (fun hc10 => ?_) (fun hc10 => ?_)
            · have h := iff_ hc10 h
              refine x_iconst (v := 1) (pc := 88) B dX12_isBetween_88 rfl ?_
              refine x_goto (tgt := 93) (pc := 89) B dX12_isBetween_89 rfl ?_
              refine x_istore (lv' := [(6, .int 1), (0, .ref (ad 94)), (1, .int a1), (2, .int a2), (3, .int a3), (7, .int y6.2)]) (pc := 93) B dX12_isBetween_93 (by decide) rfl ?_
              refine x_iinc (k := 5) (v := y6.2 + 1) (lv' := [(7, .int (y6.2 + 1)), (6, .int 1), (0, .ref (ad 94)), (1, .int a1), (2, .int a2), (3, .int a3)]) (pc := 95) B dX12_isBetween_95 rfl rfl (by decide) rfl ?_
              refine x_goto (tgt := 42) (pc := 98) B dX12_isBetween_98 rfl ?_
              refine x_pick (lv' := [(0, .ref (ad 94)), (1, .int a1), (2, .int a2), (3, .int a3), (6, .int 1), (7, .int (y6.2 + 1))]) [2, 3, 4, 5, 1, 0] rfl ?_
              have z := hback (true, y6.2 + 1) (Option.some.inj h).symm
              exact z
            · have h := ift hc10 h
              refine x_aload_n (pc := 68) B 0 dX12_isBetween_68 rfl rfl ?_
              refine x_iload (pc := 69) B 5 dX12_isBetween_69 rfl ?_
              refine x_iload_n (pc := 71) B 2 dX12_isBetween_71 rfl rfl ?_
              obtain ⟨q11, hq11, h⟩ := bnd h
              refine x_callV (rest := []) (st' := [.int (bI q11)]) (pc := 72) B oi_94 rfl (C_Mo_isOnWayHome_94 y6.2 a2 M0 _ hq11) tw_1801 tw_1798 tw_1800 tw_95 tw_111 hd_Mo_isOnWayHome_94 ⟨Nat.le_of_ble_eq_true rfl, Nat.le_of_ble_eq_true rfl⟩ rfl rfl (Nat.le_of_ble_eq_true rfl) rfl dX12_isBetween_72 ?_
              refine x_if_eq_b (tgt := 88) (pc := 75) B dX12_isBetween_75 rfl (fun hc12 => ?_) (fun hc12 => ?_)
              · have h := iff_ hc12 h
                refine x_iconst (v := 1) (pc := 88) B dX12_isBetween_88 rfl ?_
                refine x_goto (tgt := 93) (pc := 89) B dX12_isBetween_89 rfl ?_
                refine x_istore (lv' := [(6, .int 1), (0, .ref (ad 94)), (1, .int a1), (2, .int a2), (3, .int a3), (7, .int y6.2)]) (pc := 93) B dX12_isBetween_93 (by decide) rfl ?_
                refine x_iinc (k := 5) (v := y6.2 + 1) (lv' := [(7, .int (y6.2 + 1)), (6, .int 1), (0, .ref (ad 94)), (1, .int a1), (2, .int a2), (3, .int a3)]) (pc := 95) B dX12_isBetween_95 rfl rfl (by decide) rfl ?_
                refine x_goto (tgt := 42) (pc := 98) B dX12_isBetween_98 rfl ?_
                refine x_pick (lv' := [(0, .ref (ad 94)), (1, .int a1), (2, .int a2), (3, .int a3), (6, .int 1), (7, .int (y6.2 + 1))]) [2, 3, 4, 5, 1, 0] rfl ?_
                have z := hback (true, y6.2 + 1) (Option.some.inj h).symm
                exact z
              · have h := ift hc12 h
                refine x_aload_n (pc := 78) B 0 dX12_isBetween_78 rfl rfl ?_
                refine x_iload (pc := 79) B 5 dX12_isBetween_79 rfl ?_
                refine x_iload_n (pc := 81) B 3 dX12_isBetween_81 rfl rfl ?_
                obtain ⟨q13, hq13, h⟩ := bnd h
                refine x_callV (rest := []) (st' := [.int (bI q13)]) (pc := 82) B oi_94 rfl (C_Mo_isOnWayHome_94 y6.2 a3 M0 _ hq13) tw_1801 tw_1798 tw_1800 tw_95 tw_111 hd_Mo_isOnWayHome_94 ⟨Nat.le_of_ble_eq_true rfl, Nat.le_of_ble_eq_true rfl⟩ rfl rfl (Nat.le_of_ble_eq_true rfl) rfl dX12_isBetween_82 ?_
                refine x_if_ne_b (tgt := 92) (pc := 85) B dX12_isBetween_85 rfl (fun hc14 => ?_) (fun hc14 => ?_)
                · have h := ift hc14 h
                  refine x_iconst (v := 0) (pc := 92) B dX12_isBetween_92 rfl ?_
                  refine x_istore (lv' := [(6, .int 0), (0, .ref (ad 94)), (1, .int a1), (2, .int a2), (3, .int a3), (7, .int y6.2)]) (pc := 93) B dX12_isBetween_93 (by decide) rfl ?_
                  refine x_iinc (k := 5) (v := y6.2 + 1) (lv' := [(7, .int (y6.2 + 1)), (6, .int 0), (0, .ref (ad 94)), (1, .int a1), (2, .int a2), (3, .int a3)]) (pc := 95) B dX12_isBetween_95 rfl rfl (by decide) rfl ?_
                  refine x_goto (tgt := 42) (pc := 98) B dX12_isBetween_98 rfl ?_
                  refine x_pick (lv' := [(0, .ref (ad 94)), (1, .int a1), (2, .int a2), (3, .int a3), (6, .int 0), (7, .int (y6.2 + 1))]) [2, 3, 4, 5, 1, 0] rfl ?_
                  have z := hback (false, y6.2 + 1) (Option.some.inj h).symm
                  exact z
                · have h := iff_ hc14 h
                  refine x_iconst (v := 1) (pc := 88) B dX12_isBetween_88 rfl ?_
                  refine x_goto (tgt := 93) (pc := 89) B dX12_isBetween_89 rfl ?_
                  refine x_istore (lv' := [(6, .int 1), (0, .ref (ad 94)), (1, .int a1), (2, .int a2), (3, .int a3), (7, .int y6.2)]) (pc := 93) B dX12_isBetween_93 (by decide) rfl ?_
                  refine x_iinc (k := 5) (v := y6.2 + 1) (lv' := [(7, .int (y6.2 + 1)), (6, .int 1), (0, .ref (ad 94)), (1, .int a1), (2, .int a2), (3, .int a3)]) (pc := 95) B dX12_isBetween_95 rfl rfl (by decide) rfl ?_
                  refine x_goto (tgt := 42) (pc := 98) B dX12_isBetween_98 rfl ?_
                  refine x_pick (lv' := [(0, .ref (ad 94)), (1, .int a1), (2, .int a2), (3, .int a3), (6, .int 1), (7, .int (y6.2 + 1))]) [2, 3, 4, 5, 1, 0] rfl ?_
                  have z := hback (true, y6.2 + 1) (Option.some.inj h).symm
                  exact z
      · refine x_iload (pc := 101) B 0 dX12_isBetween_101 rfl ?_
        obtain rfl := Option.some.inj h
        exact x_zret (v := q15) (pc := 103) B hQ dX12_isBetween_103
    · have h := iff_ hc5 h
      refine x_iconst (v := 1) (pc := 33) B dX12_isBetween_33 rfl ?_
      obtain rfl := Option.some.inj h
      exact x_zret (v := true) (pc := 34) B hQ dX12_isBetween_34
  · have h := iff_ hc2 h
    refine x_iconst (v := 0) (pc := 8) B dX12_isBetween_8 rfl ?_
    obtain rfl := Option.some.inj h
    exact x_zret (v := false) (pc := 9) B hQ dX12_isBetween_9
-- CurrentFarmsModel.spite(III)I [94]
abbrev y_Mo_spite_94 : MethodName := ⟨"CurrentFarmsModel", "spite", "(III)I"⟩
abbrev cX12_spite : ByteArray := prog_14_method_99_code
theorem dX12_spite_0 : decode cX12_spite 0 = .ok (.iload_n 1, 1) := by decide +kernel
theorem dX12_spite_1 : decode cX12_spite 1 = .ok (.invokestatic 88, 3) := by decide +kernel
theorem dX12_spite_4 : decode cX12_spite 4 = .ok (.ifCond .eq 19, 3) := by decide +kernel
theorem dX12_spite_7 : decode cX12_spite 7 = .ok (.iload_n 2, 1) := by decide +kernel
theorem dX12_spite_8 : decode cX12_spite 8 = .ok (.invokestatic 88, 3) := by decide +kernel
theorem dX12_spite_11 : decode cX12_spite 11 = .ok (.ifCond .eq 12, 3) := by decide +kernel
theorem dX12_spite_14 : decode cX12_spite 14 = .ok (.iload_n 3, 1) := by decide +kernel
theorem dX12_spite_15 : decode cX12_spite 15 = .ok (.iconst 0, 1) := by decide +kernel
theorem dX12_spite_16 : decode cX12_spite 16 = .ok (.iconst 1, 1) := by decide +kernel
theorem dX12_spite_17 : decode cX12_spite 17 = .ok (.invokestatic 84, 3) := by decide +kernel
theorem dX12_spite_20 : decode cX12_spite 20 = .ok (.ifCond .ne 5, 3) := by decide +kernel
theorem dX12_spite_23 : decode cX12_spite 23 = .ok (.iconst (-1), 1) := by decide +kernel
theorem dX12_spite_24 : decode cX12_spite 24 = .ok (.ireturn, 1) := by decide +kernel
theorem dX12_spite_25 : decode cX12_spite 25 = .ok (.aload_n 0, 1) := by decide +kernel
theorem dX12_spite_26 : decode cX12_spite 26 = .ok (.iload_n 1, 1) := by decide +kernel
theorem dX12_spite_27 : decode cX12_spite 27 = .ok (.invokevirtual 92, 3) := by decide +kernel
theorem dX12_spite_30 : decode cX12_spite 30 = .ok (.ifCond .eq 11, 3) := by decide +kernel
theorem dX12_spite_33 : decode cX12_spite 33 = .ok (.aload_n 0, 1) := by decide +kernel
theorem dX12_spite_34 : decode cX12_spite 34 = .ok (.iload_n 2, 1) := by decide +kernel
theorem dX12_spite_35 : decode cX12_spite 35 = .ok (.invokevirtual 92, 3) := by decide +kernel
theorem dX12_spite_38 : decode cX12_spite 38 = .ok (.ifCond .ne 6, 3) := by decide +kernel
theorem dX12_spite_41 : decode cX12_spite 41 = .ok (.bipush (-3), 2) := by decide +kernel
theorem dX12_spite_43 : decode cX12_spite 43 = .ok (.ireturn, 1) := by decide +kernel
theorem dX12_spite_44 : decode cX12_spite 44 = .ok (.iconst 0, 1) := by decide +kernel
theorem dX12_spite_45 : decode cX12_spite 45 = .ok (.istore 4, 2) := by decide +kernel
theorem dX12_spite_47 : decode cX12_spite 47 = .ok (.iconst 0, 1) := by decide +kernel
theorem dX12_spite_48 : decode cX12_spite 48 = .ok (.istore 5, 2) := by decide +kernel
theorem dX12_spite_50 : decode cX12_spite 50 = .ok (.iload 5, 2) := by decide +kernel
theorem dX12_spite_52 : decode cX12_spite 52 = .ok (.aload_n 0, 1) := by decide +kernel
theorem dX12_spite_53 : decode cX12_spite 53 = .ok (.getfield 7, 3) := by decide +kernel
theorem dX12_spite_56 : decode cX12_spite 56 = .ok (.iconst 1, 1) := by decide +kernel
theorem dX12_spite_57 : decode cX12_spite 57 = .ok (.iaload, 1) := by decide +kernel
theorem dX12_spite_58 : decode cX12_spite 58 = .ok (.if_icmp .ge 95, 3) := by decide +kernel
theorem dX12_spite_61 : decode cX12_spite 61 = .ok (.aload_n 0, 1) := by decide +kernel
theorem dX12_spite_62 : decode cX12_spite 62 = .ok (.aload_n 0, 1) := by decide +kernel
theorem dX12_spite_63 : decode cX12_spite 63 = .ok (.getfield 7, 3) := by decide +kernel
theorem dX12_spite_66 : decode cX12_spite 66 = .ok (.iconst 0, 1) := by decide +kernel
theorem dX12_spite_67 : decode cX12_spite 67 = .ok (.iaload, 1) := by decide +kernel
theorem dX12_spite_68 : decode cX12_spite 68 = .ok (.iconst (-1), 1) := by decide +kernel
theorem dX12_spite_69 : decode cX12_spite 69 = .ok (.iconst (-1), 1) := by decide +kernel
theorem dX12_spite_70 : decode cX12_spite 70 = .ok (.iconst 0, 1) := by decide +kernel
theorem dX12_spite_71 : decode cX12_spite 71 = .ok (.invokevirtual 130, 3) := by decide +kernel
theorem dX12_spite_74 : decode cX12_spite 74 = .ok (.aload_n 0, 1) := by decide +kernel
theorem dX12_spite_75 : decode cX12_spite 75 = .ok (.getfield 16, 3) := by decide +kernel
theorem dX12_spite_78 : decode cX12_spite 78 = .ok (.iload 5, 2) := by decide +kernel
theorem dX12_spite_80 : decode cX12_spite 80 = .ok (.iaload, 1) := by decide +kernel
theorem dX12_spite_81 : decode cX12_spite 81 = .ok (.iconst 5, 1) := by decide +kernel
theorem dX12_spite_82 : decode cX12_spite 82 = .ok (.if_icmp .eq 27, 3) := by decide +kernel
theorem dX12_spite_85 : decode cX12_spite 85 = .ok (.aload_n 0, 1) := by decide +kernel
theorem dX12_spite_86 : decode cX12_spite 86 = .ok (.aload_n 0, 1) := by decide +kernel
theorem dX12_spite_87 : decode cX12_spite 87 = .ok (.getfield 7, 3) := by decide +kernel
theorem dX12_spite_90 : decode cX12_spite 90 = .ok (.sipush 164, 3) := by decide +kernel
theorem dX12_spite_93 : decode cX12_spite 93 = .ok (.iload 5, 2) := by decide +kernel
theorem dX12_spite_95 : decode cX12_spite 95 = .ok (.iadd, 1) := by decide +kernel
theorem dX12_spite_96 : decode cX12_spite 96 = .ok (.iaload, 1) := by decide +kernel
theorem dX12_spite_97 : decode cX12_spite 97 = .ok (.iload_n 1, 1) := by decide +kernel
theorem dX12_spite_98 : decode cX12_spite 98 = .ok (.iload_n 2, 1) := by decide +kernel
theorem dX12_spite_99 : decode cX12_spite 99 = .ok (.invokevirtual 348, 3) := by decide +kernel
theorem dX12_spite_102 : decode cX12_spite 102 = .ok (.ifCond .eq 7, 3) := by decide +kernel
theorem dX12_spite_105 : decode cX12_spite 105 = .ok (.iconst 1, 1) := by decide +kernel
theorem dX12_spite_106 : decode cX12_spite 106 = .ok (.goto 4, 3) := by decide +kernel
theorem dX12_spite_109 : decode cX12_spite 109 = .ok (.iconst 0, 1) := by decide +kernel
theorem dX12_spite_110 : decode cX12_spite 110 = .ok (.istore 6, 2) := by decide +kernel
theorem dX12_spite_112 : decode cX12_spite 112 = .ok (.iload 4, 2) := by decide +kernel
theorem dX12_spite_114 : decode cX12_spite 114 = .ok (.iload 6, 2) := by decide +kernel
theorem dX12_spite_116 : decode cX12_spite 116 = .ok (.ifCond .eq 27, 3) := by decide +kernel
theorem dX12_spite_119 : decode cX12_spite 119 = .ok (.aload_n 0, 1) := by decide +kernel
theorem dX12_spite_120 : decode cX12_spite 120 = .ok (.iconst 5, 1) := by decide +kernel
theorem dX12_spite_121 : decode cX12_spite 121 = .ok (.iload 5, 2) := by decide +kernel
theorem dX12_spite_123 : decode cX12_spite 123 = .ok (.aload_n 0, 1) := by decide +kernel
theorem dX12_spite_124 : decode cX12_spite 124 = .ok (.getfield 7, 3) := by decide +kernel
theorem dX12_spite_127 : decode cX12_spite 127 = .ok (.iconst 0, 1) := by decide +kernel
theorem dX12_spite_128 : decode cX12_spite 128 = .ok (.iaload, 1) := by decide +kernel
theorem dX12_spite_129 : decode cX12_spite 129 = .ok (.iconst 0, 1) := by decide +kernel
theorem dX12_spite_130 : decode cX12_spite 130 = .ok (.invokevirtual 252, 3) := by decide +kernel
theorem dX12_spite_133 : decode cX12_spite 133 = .ok (.ifCond .ne 10, 3) := by decide +kernel
theorem dX12_spite_136 : decode cX12_spite 136 = .ok (.iconst 1, 1) := by decide +kernel
theorem dX12_spite_137 : decode cX12_spite 137 = .ok (.iload 5, 2) := by decide +kernel
theorem dX12_spite_139 : decode cX12_spite 139 = .ok (.ishl, 1) := by decide +kernel
theorem dX12_spite_140 : decode cX12_spite 140 = .ok (.goto 4, 3) := by decide +kernel
theorem dX12_spite_143 : decode cX12_spite 143 = .ok (.iconst 0, 1) := by decide +kernel
theorem dX12_spite_144 : decode cX12_spite 144 = .ok (.ior, 1) := by decide +kernel
theorem dX12_spite_145 : decode cX12_spite 145 = .ok (.istore 4, 2) := by decide +kernel
theorem dX12_spite_147 : decode cX12_spite 147 = .ok (.iinc 5 1, 3) := by decide +kernel
theorem dX12_spite_150 : decode cX12_spite 150 = .ok (.goto (-100), 3) := by decide +kernel
theorem dX12_spite_153 : decode cX12_spite 153 = .ok (.iload_n 3, 1) := by decide +kernel
theorem dX12_spite_154 : decode cX12_spite 154 = .ok (.ifCond .ne 9, 3) := by decide +kernel
theorem dX12_spite_157 : decode cX12_spite 157 = .ok (.iload 4, 2) := by decide +kernel
theorem dX12_spite_159 : decode cX12_spite 159 = .ok (.invokestatic 144, 3) := by decide +kernel
theorem dX12_spite_162 : decode cX12_spite 162 = .ok (.ireturn, 1) := by decide +kernel
theorem dX12_spite_163 : decode cX12_spite 163 = .ok (.aload_n 0, 1) := by decide +kernel
theorem dX12_spite_164 : decode cX12_spite 164 = .ok (.aload_n 0, 1) := by decide +kernel
theorem dX12_spite_165 : decode cX12_spite 165 = .ok (.getfield 7, 3) := by decide +kernel
theorem dX12_spite_168 : decode cX12_spite 168 = .ok (.iconst 0, 1) := by decide +kernel
theorem dX12_spite_169 : decode cX12_spite 169 = .ok (.iaload, 1) := by decide +kernel
theorem dX12_spite_170 : decode cX12_spite 170 = .ok (.iconst (-1), 1) := by decide +kernel
theorem dX12_spite_171 : decode cX12_spite 171 = .ok (.iconst (-1), 1) := by decide +kernel
theorem dX12_spite_172 : decode cX12_spite 172 = .ok (.iload 4, 2) := by decide +kernel
theorem dX12_spite_174 : decode cX12_spite 174 = .ok (.invokevirtual 130, 3) := by decide +kernel
theorem dX12_spite_177 : decode cX12_spite 177 = .ok (.aload_n 0, 1) := by decide +kernel
theorem dX12_spite_178 : decode cX12_spite 178 = .ok (.invokevirtual 262, 3) := by decide +kernel
theorem dX12_spite_181 : decode cX12_spite 181 = .ok (.ifCond .eq 7, 3) := by decide +kernel
theorem dX12_spite_184 : decode cX12_spite 184 = .ok (.iconst 0, 1) := by decide +kernel
theorem dX12_spite_185 : decode cX12_spite 185 = .ok (.goto 4, 3) := by decide +kernel
theorem dX12_spite_188 : decode cX12_spite 188 = .ok (.iconst 1, 1) := by decide +kernel
theorem dX12_spite_189 : decode cX12_spite 189 = .ok (.ireturn, 1) := by decide +kernel
theorem hd_Mo_spite_94 : y_Mo_spite_94.cls ≠ "java/lang/invoke/MethodHandle" ∧ y_Mo_spite_94.cls ≠ "java/lang/invoke/VarHandle" ∧ (parseMethodDescriptor y_Mo_spite_94.desc).map (fun d => d.parameters.length) = some 3 := by decide +kernel
def b_Mo_spite_94_50 (a1 : Int32) (a2 : Int32) (y11 : Int32 × Int32 × Mem) : Option ((Int32 × Int32 × Mem) ⊕ (Int32 × Mem)) :=
  if decide (y11.2.1 < (y11.2.2.1 95 1)) then ((f_Mo_looks_94 (y11.2.2.1 95 0) (-1) (-1) 0 y11.2.2).bind fun q13 => if inb y11.2.1 10 then jn_ (fun (u17 : Bool) => jn_ (fun (u21 : Int32 × Mem) => some (.inl (y11.1 ||| u21.1, y11.2.1 + 1, u21.2))) fun k22 => if u17 then ((f_Mo_ruleFor_94 5 y11.2.1 (q13.1 95 0) 0 q13).bind fun q23 => if decide (q23.1 = 0) then (k22 (1 <<< (y11.2.1 &&& 31), q23.2)) else (k22 (0, q23.2))) else (k22 (0, q13))) fun k25 => if decide ((q13.1 97 y11.2.1.toNatClampNeg) = 5) then (k25 false) else (if inb (164 + y11.2.1) 4700 then (f_Mo_isBetween_94 (q13.1 95 (164 + y11.2.1).toNatClampNeg) a1 a2 q13).bind fun q27 => if q27 then (k25 true) else (k25 false) else none) else none) else (some (.inr (y11.1, y11.2.2)))
def f_Mo_spite_94 (a1 : Int32) (a2 : Int32) (a3 : Int32) (M0 : Mem) : Option (Int32 × Mem) :=
  (f_Mo_isCell a1).bind fun q1 => if q1 then ((f_Mo_isCell a2).bind fun q3 => if q3 then ((f_Mo_in a3 0 1).bind fun q5 => if q5 then ((f_Mo_isOnLine_94 a1 M0).bind fun q7 => if q7 then ((f_Mo_isOnLine_94 a2 M0).bind fun q9 => if q9 then ((itr (b_Mo_spite_94_50 a1 a2) FU (0, 0, M0)).bind fun q29 => if decide (a3 = 0) then ((f_Mo_count1 q29.1).bind fun q31 => some (q31, q29.2)) else ((f_Mo_looks_94 (q29.2.1 95 0) (-1) (-1) q29.1 q29.2).bind fun q32 => (f_Mo_isEnough_94 q32).bind fun q33 => if q33.1 then (some (0, q33.2)) else (some (1, q33.2)))) else (some ((-3), M0))) else (some ((-3), M0))) else (some ((-1), M0))) else (some ((-1), M0))) else (some ((-1), M0))
set_option maxHeartbeats 4000000 in
set_option maxRecDepth 20000 in
theorem C_Mo_spite_94 {D : va_G} {ad adK adV : Nat → Nat} {cI cJ : ClassId} {l : Launch} (a1 : Int32) (a2 : Int32) (a3 : Int32) (M0 : Mem) (o : Int32 × Mem) (h : f_Mo_spite_94 a1 a2 a3 M0 = some o) : Ct D ad adK adV cI cJ l y_Mo_spite_94 cX12_spite 7 (some .int) 515 14339 [.ref (ad 94), .int a1, .int a2, .int a3] M0 (some (.int o.1)) o.2 := by
  refine x_start (lv := [(0, .ref (ad 94)), (1, .int a1), (2, .int a2), (3, .int a3)]) (own := "CurrentFarmsModel") rfl (by decide) (Nat.le_of_ble_eq_true rfl) rfl ?_
  intro p e s m args below meth c Q hQ B
  unfold f_Mo_spite_94 at h
  refine x_iload_n (pc := 0) B 1 dX12_spite_0 rfl rfl ?_
  obtain ⟨q1, hq1, h⟩ := bnd h
  refine x_callS (rest := []) (st' := [.int (bI q1)]) (pc := 1) B (C_Mo_isCell a1 M0 _ hq1) tw_1403 tw_1401 tw_1402 tw_111 hd_Mo_isCell ⟨Nat.le_of_ble_eq_true rfl, Nat.le_of_ble_eq_true rfl⟩ rfl rfl (Nat.le_of_ble_eq_true rfl) rfl dX12_spite_1 ?_
  refine x_if_eq_b (tgt := 23) (pc := 4) B dX12_spite_4 rfl (fun hc2 => ?_) (fun hc2 => ?_)
  · have h := iff_ hc2 h
    refine x_iconst (v := (-1)) (pc := 23) B dX12_spite_23 rfl ?_
    obtain rfl := Option.some.inj h
    exact x_iret (pc := 24) B hQ dX12_spite_24
  · have h := ift hc2 h
    refine x_iload_n (pc := 7) B 2 dX12_spite_7 rfl rfl ?_
    obtain ⟨q3, hq3, h⟩ := bnd h
    refine x_callS (rest := []) (st' := [.int (bI q3)]) (pc := 8) B (C_Mo_isCell a2 M0 _ hq3) tw_1403 tw_1401 tw_1402 tw_111 hd_Mo_isCell ⟨Nat.le_of_ble_eq_true rfl, Nat.le_of_ble_eq_true rfl⟩ rfl rfl (Nat.le_of_ble_eq_true rfl) rfl dX12_spite_8 ?_
    refine x_if_eq_b (tgt := 23) (pc := 11) B dX12_spite_11 rfl (fun hc4 => ?_) (fun hc4 => ?_)
    · have h := iff_ hc4 h
      refine x_iconst (v := (-1)) (pc := 23) B dX12_spite_23 rfl ?_
      obtain rfl := Option.some.inj h
      exact x_iret (pc := 24) B hQ dX12_spite_24
    · have h := ift hc4 h
      refine x_iload_n (pc := 14) B 3 dX12_spite_14 rfl rfl ?_
      refine x_iconst (v := 0) (pc := 15) B dX12_spite_15 rfl ?_
      refine x_iconst (v := 1) (pc := 16) B dX12_spite_16 rfl ?_
      obtain ⟨q5, hq5, h⟩ := bnd h
      refine x_callS (rest := []) (st' := [.int (bI q5)]) (pc := 17) B (C_Mo_in a3 0 1 M0 _ hq5) tw_1406 tw_1404 tw_1405 tw_111 hd_Mo_in ⟨Nat.le_of_ble_eq_true rfl, Nat.le_of_ble_eq_true rfl⟩ rfl rfl (Nat.le_of_ble_eq_true rfl) rfl dX12_spite_17 ?_
      refine x_if_ne_b (tgt := 25) (pc := 20) B dX12_spite_20 rfl (fun hc6 => ?_) (fun hc6 => ?_)
      · have h := ift hc6 h
        refine x_aload_n (pc := 25) B 0 dX12_spite_25 rfl rfl ?_
        refine x_iload_n (pc := 26) B 1 dX12_spite_26 rfl rfl ?_
        obtain ⟨q7, hq7, h⟩ := bnd h
        refine x_callV (rest := []) (st' := [.int (bI q7)]) (pc := 27) B oi_94 rfl (C_Mo_isOnLine_94 a1 M0 _ hq7) tw_1410 tw_1407 tw_1409 tw_43 tw_111 hd_Mo_isOnLine_94 ⟨Nat.le_of_ble_eq_true rfl, Nat.le_of_ble_eq_true rfl⟩ rfl rfl (Nat.le_of_ble_eq_true rfl) rfl dX12_spite_27 ?_
        refine x_if_eq_b (tgt := 41) (pc := 30) B dX12_spite_30 rfl (fun hc8 => ?_) (fun hc8 => ?_)
        · have h := iff_ hc8 h
          refine x_bipush (v := (-3)) (pc := 41) B dX12_spite_41 rfl ?_
          obtain rfl := Option.some.inj h
          exact x_iret (pc := 43) B hQ dX12_spite_43
        · have h := ift hc8 h
          refine x_aload_n (pc := 33) B 0 dX12_spite_33 rfl rfl ?_
          refine x_iload_n (pc := 34) B 2 dX12_spite_34 rfl rfl ?_
          obtain ⟨q9, hq9, h⟩ := bnd h
          refine x_callV (rest := []) (st' := [.int (bI q9)]) (pc := 35) B oi_94 rfl (C_Mo_isOnLine_94 a2 M0 _ hq9) tw_1410 tw_1407 tw_1409 tw_43 tw_111 hd_Mo_isOnLine_94 ⟨Nat.le_of_ble_eq_true rfl, Nat.le_of_ble_eq_true rfl⟩ rfl rfl (Nat.le_of_ble_eq_true rfl) rfl dX12_spite_35 ?_
          refine x_if_ne_b (tgt := 44) (pc := 38) B dX12_spite_38 rfl (fun hc10 => ?_) (fun hc10 => ?_)
          · have h := ift hc10 h
            refine x_iconst (v := 0) (pc := 44) B dX12_spite_44 rfl ?_
            refine x_istore (lv' := [(4, .int 0), (0, .ref (ad 94)), (1, .int a1), (2, .int a2), (3, .int a3)]) (pc := 45) B dX12_spite_45 (by decide) rfl ?_
            refine x_iconst (v := 0) (pc := 47) B dX12_spite_47 rfl ?_
            refine x_istore (lv' := [(5, .int 0), (4, .int 0), (0, .ref (ad 94)), (1, .int a1), (2, .int a2), (3, .int a3)]) (pc := 48) B dX12_spite_48 (by decide) rfl ?_
            refine x_pick (lv' := [(0, .ref (ad 94)), (1, .int a1), (2, .int a2), (3, .int a3), (4, .int 0), (5, .int 0)]) [2, 3, 4, 5, 1, 0] rfl ?_
            obtain ⟨q29, hq29, h⟩ := bnd h
            refine x_loop (Head := fun (y11 : Int32 × Int32 × Mem) => XX D ad cI cJ p l e (Rm 515 14339) s m args below meth c Q 7 y11.2.2 50 [(0, .ref (ad 94)), (1, .int a1), (2, .int a2), (3, .int a3), (4, .int y11.1), (5, .int y11.2.1)] []) (Ex := fun (q29 : Int32 × Mem) => XX D ad cI cJ p l e (Rm 515 14339) s m args below meth c Q 7 q29.2 153 [(0, .ref (ad 94)), (3, .int a3), (4, .int q29.1)] []) (fun y11 r h hback hexit => ?_) FU _ q29 hq29 ?_
            · unfold b_Mo_spite_94_50 at h
              refine x_iload (pc := 50) B 5 dX12_spite_50 rfl ?_
              refine x_aload_n (pc := 52) B 0 dX12_spite_52 rfl rfl ?_
              refine x_get (T := TX12) (pc := 53) B 1 oi_94 rfl uw_12 (by decide) rfl tw_1300 rfl dX12_spite_53 ?_
              refine x_iconst (v := 1) (pc := 56) B dX12_spite_56 rfl ?_
              refine x_iald_c (j := 1) (pc := 57) B ai_95 (by decide) rfl dX12_spite_57 ?_
              refine x_icmp_ge (tgt := 153) (pc := 58) B dX12_spite_58 rfl (fun hc12 => ?_) (fun hc12 => ?_)
              · have h := iff_ hc12 h
                refine x_pick (lv' := [(0, .ref (ad 94)), (3, .int a3), (4, .int y11.1)]) [0, 3, 4] rfl ?_
                have z := hexit (y11.1, y11.2.2) (Option.some.inj h).symm
                exact z
              · have h := ift hc12 h
                refine x_aload_n (pc := 61) B 0 dX12_spite_61 rfl rfl ?_
                refine x_aload_n (pc := 62) B 0 dX12_spite_62 rfl rfl ?_
                refine x_get (T := TX12) (pc := 63) B 1 oi_94 rfl uw_12 (by decide) rfl tw_1300 rfl dX12_spite_63 ?_
                refine x_iconst (v := 0) (pc := 66) B dX12_spite_66 rfl ?_
                refine x_iald_c (j := 0) (pc := 67) B ai_95 (by decide) rfl dX12_spite_67 ?_
                refine x_iconst (v := (-1)) (pc := 68) B dX12_spite_68 rfl ?_
                refine x_iconst (v := (-1)) (pc := 69) B dX12_spite_69 rfl ?_
                refine x_iconst (v := 0) (pc := 70) B dX12_spite_70 rfl ?_
                obtain ⟨q13, hq13, h⟩ := bnd h
                refine x_callV (rest := []) (st' := []) (pc := 71) B oi_94 rfl (C_Mo_looks_94 (y11.2.2.1 95 0) (-1) (-1) 0 y11.2.2 _ hq13) tw_1475 tw_1472 tw_1474 tw_50 tw_111 hd_Mo_looks_94 ⟨Nat.le_of_ble_eq_true rfl, Nat.le_of_ble_eq_true rfl⟩ rfl rfl (Nat.le_of_ble_eq_true rfl) rfl dX12_spite_71 ?_
                refine x_aload_n (pc := 74) B 0 dX12_spite_74 rfl rfl ?_
                refine x_get (T := TX12) (pc := 75) B 4 oi_94 rfl uw_12 (by decide) rfl tw_1303 rfl dX12_spite_75 ?_
                refine x_iload (pc := 78) B 5 dX12_spite_78 rfl ?_
                obtain ⟨hk14, h⟩ := ifn h
                refine x_iald (pc := 80) B ai_97 hk14 dX12_spite_80 ?_
                refine x_iconst (v := 5) (pc := 81) B dX12_spite_81 rfl ?_
                refine jn_k h (fun (u17 : Bool) => XX D ad cI cJ p l e (Rm 515 14339) s m args below meth c Q 7 q13 110 [(0, .ref (ad 94)), (1, .int a1), (2, .int a2), (3, .int a3), (4, .int y11.1), (5, .int y11.2.1)] [.int (bI u17)]) (fun u17 h => ?_) (fun k25 h JJ => ?_)
                · refine x_istore (lv' := [(6, .int (bI u17)), (0, .ref (ad 94)), (1, .int a1), (2, .int a2), (3, .int a3), (4, .int y11.1), (5, .int y11.2.1)]) (pc := 110) B dX12_spite_110 (by decide) rfl ?_
                  refine x_iload (pc := 112) B 5 dX12_spite_112 rfl ?_
                  refine x_iload (pc := 114) B 0 dX12_spite_114 rfl ?_
                  refine jn_k h (fun (u21 : Int32 × Mem) => XX D ad cI cJ p l e (Rm 515 14339) s m args below meth c Q 7 u21.2 144 [(0, .ref (ad 94)), (1, .int a1), (2, .int a2), (3, .int a3), (5, .int y11.2.1)] [.int u21.1, .int y11.1]) (fun u21 h => ?_) (fun k22 h JJ => ?_)
                  · refine x_ior (pc := 144) B dX12_spite_144 ?_
                    refine x_istore (lv' := [(4, .int (y11.1 ||| u21.1)), (0, .ref (ad 94)), (1, .int a1), (2, .int a2), (3, .int a3), (5, .int y11.2.1)]) (pc := 145) B dX12_spite_145 (by decide) rfl ?_
                    refine x_iinc (k := 5) (v := y11.2.1 + 1) (lv' := [(5, .int (y11.2.1 + 1)), (4, .int (y11.1 ||| u21.1)), (0, .ref (ad 94)), (1, .int a1), (2, .int a2), (3, .int a3)]) (pc := 147) B dX12_spite_147 rfl rfl (by decide) rfl ?_
                    refine x_goto (tgt := 50) (pc := 150) B dX12_spite_150 rfl ?_
                    refine x_pick (lv' := [(0, .ref (ad 94)), (1, .int a1), (2, .int a2), (3, .int a3), (4, .int (y11.1 ||| u21.1)), (5, .int (y11.2.1 + 1))]) [2, 3, 4, 5, 1, 0] rfl ?_
                    have z := hback (y11.1 ||| u21.1, y11.2.1 + 1, u21.2) (Option.some.inj h).symm
                    exact z
                  · refine x_if_eq_b (tgt := 143) (pc := 116) B dX12_spite_116 rfl (fun hc18 => ?_) (fun hc18 => ?_)
                    · have h := iff_ hc18 h
                      refine x_iconst (v := 0) (pc := 143) B dX12_spite_143 rfl ?_
                      refine x_pick (lv' := [(0, .ref (ad 94)), (1, .int a1), (2, .int a2), (3, .int a3), (5, .int y11.2.1)]) [1, 2, 3, 4, 6] rfl ?_
                      have z := JJ (0, q13) h
                      exact z
                    · have h := ift hc18 h
                      refine x_aload_n (pc := 119) B 1 dX12_spite_119 rfl rfl ?_
                      refine x_iconst (v := 5) (pc := 120) B dX12_spite_120 rfl ?_
                      refine x_iload (pc := 121) B 6 dX12_spite_121 rfl ?_
                      refine x_aload_n (pc := 123) B 1 dX12_spite_123 rfl rfl ?_
                      refine x_get (T := TX12) (pc := 124) B 1 oi_94 rfl uw_12 (by decide) rfl tw_1300 rfl dX12_spite_124 ?_
                      refine x_iconst (v := 0) (pc := 127) B dX12_spite_127 rfl ?_
                      refine x_iald_c (j := 0) (pc := 128) B ai_95 (by decide) rfl dX12_spite_128 ?_
                      refine x_iconst (v := 0) (pc := 129) B dX12_spite_129 rfl ?_
                      obtain ⟨q23, hq23, h⟩ := bnd h
                      refine x_callV (rest := [.int y11.1]) (st' := [.int q23.1, .int y11.1]) (pc := 130) B oi_94 rfl (C_Mo_ruleFor_94 5 y11.2.1 (q13.1 95 0) 0 q13 _ hq23) tw_1628 tw_1625 tw_1627 tw_77 tw_111 hd_Mo_ruleFor_94 ⟨Nat.le_of_ble_eq_true rfl, Nat.le_of_ble_eq_true rfl⟩ rfl rfl (Nat.le_of_ble_eq_true rfl) rfl dX12_spite_130 ?_
                      refine x_if_ne (tgt := 143) (pc := 133) B dX12_spite_133 rfl (fun hc24 => ?_) (fun hc24 => ?_)
                      · have h := iff_ hc24 h
                        refine x_iconst (v := 0) (pc := 143) B dX12_spite_143 rfl ?_
                        refine x_pick (lv' := [(0, .ref (ad 94)), (1, .int a1), (2, .int a2), (3, .int a3), (5, .int y11.2.1)]) [1, 2, 3, 4, 6] rfl ?_
                        have z := JJ (0, q23.2) h
                        exact z
                      · have h := ift hc24 h
                        refine x_iconst (v := 1) (pc := 136) B dX12_spite_136 rfl ?_
                        refine x_iload (pc := 137) B 6 dX12_spite_137 rfl ?_
                        refine x_ishl (pc := 139) B dX12_spite_139 ?_
                        refine x_goto (tgt := 144) (pc := 140) B dX12_spite_140 rfl ?_
                        refine x_pick (lv' := [(0, .ref (ad 94)), (1, .int a1), (2, .int a2), (3, .int a3), (5, .int y11.2.1)]) [1, 2, 3, 4, 6] rfl ?_
                        have z := JJ (1 <<< (y11.2.1 &&& 31), q23.2) h
                        exact z
                · refine x_icmp_eq (tgt := 109) (pc := 82) B dX12_spite_82 rfl (fun hc15 => ?_) (fun hc15 => ?_)
                  · have h := ift hc15 h
                    refine x_iconst (v := 0) (pc := 109) B dX12_spite_109 rfl ?_
                    have z := JJ false h
                    exact z
                  · have h := iff_ hc15 h
                    refine x_aload_n (pc := 85) B 0 dX12_spite_85 rfl rfl ?_
                    refine x_aload_n (pc := 86) B 0 dX12_spite_86 rfl rfl ?_
                    refine x_get (T := TX12) (pc := 87) B 1 oi_94 rfl uw_12 (by decide) rfl tw_1300 rfl dX12_spite_87 ?_
                    refine x_sipush (v := 164) (pc := 90) B dX12_spite_90 rfl ?_
                    refine x_iload (pc := 93) B 5 dX12_spite_93 rfl ?_
                    refine x_iadd (pc := 95) B dX12_spite_95 ?_
                    obtain ⟨hk26, h⟩ := ifn h
                    refine x_iald (pc := 96) B ai_95 hk26 dX12_spite_96 ?_
                    refine x_iload_n (pc := 97) B 1 dX12_spite_97 rfl rfl ?_
                    refine x_iload_n (pc := 98) B 2 dX12_spite_98 rfl rfl ?_
                    obtain ⟨q27, hq27, h⟩ := bnd h
                    refine x_callV (rest := []) (st' := [.int (bI q27)]) (pc := 99) B oi_94 rfl (C_Mo_isBetween_94 (q13.1 95 (164 + y11.2.1).toNatClampNeg) a1 a2 q13 _ hq27) tw_1797 tw_1794 tw_1796 tw_94 tw_111 hd_Mo_isBetween_94 ⟨Nat.le_of_ble_eq_true rfl, Nat.le_of_ble_eq_true rfl⟩ rfl rfl (Nat.le_of_ble_eq_true rfl) rfl dX12_spite_99 ?_
                    refine x_if_eq_b (tgt := 109) (pc := 102) B dX12_spite_102 rfl (fun hc28 => ?_) (fun hc28 => ?_)
                    · have h := iff_ hc28 h
                      refine x_iconst (v := 0) (pc := 109) B dX12_spite_109 rfl ?_
                      have z := JJ false h
                      exact z
                    · have h := ift hc28 h
                      refine x_iconst (v := 1) (pc := 105) B dX12_spite_105 rfl ?_
                      refine x_goto (tgt := 110) (pc := 106) B dX12_spite_106 rfl ?_
                      have z := JJ true h
                      exact z
            · refine x_iload_n (pc := 153) B 1 dX12_spite_153 rfl rfl ?_
              refine x_if_ne (tgt := 163) (pc := 154) B dX12_spite_154 rfl (fun hc30 => ?_) (fun hc30 => ?_)
              · have h := iff_ hc30 h
                refine x_aload_n (pc := 163) B 0 dX12_spite_163 rfl rfl ?_
                refine x_aload_n (pc := 164) B 0 dX12_spite_164 rfl rfl ?_
                refine x_get (T := TX12) (pc := 165) B 1 oi_94 rfl uw_12 (by decide) rfl tw_1300 rfl dX12_spite_165 ?_
                refine x_iconst (v := 0) (pc := 168) B dX12_spite_168 rfl ?_
                refine x_iald_c (j := 0) (pc := 169) B ai_95 (by decide) rfl dX12_spite_169 ?_
                refine x_iconst (v := (-1)) (pc := 170) B dX12_spite_170 rfl ?_
                refine x_iconst (v := (-1)) (pc := 171) B dX12_spite_171 rfl ?_
                refine x_iload (pc := 172) B 2 dX12_spite_172 rfl ?_
                obtain ⟨q32, hq32, h⟩ := bnd h
                refine x_callV (rest := []) (st' := []) (pc := 174) B oi_94 rfl (C_Mo_looks_94 (q29.2.1 95 0) (-1) (-1) q29.1 q29.2 _ hq32) tw_1475 tw_1472 tw_1474 tw_50 tw_111 hd_Mo_looks_94 ⟨Nat.le_of_ble_eq_true rfl, Nat.le_of_ble_eq_true rfl⟩ rfl rfl (Nat.le_of_ble_eq_true rfl) rfl dX12_spite_174 ?_
                refine x_aload_n (pc := 177) B 0 dX12_spite_177 rfl rfl ?_
                obtain ⟨q33, hq33, h⟩ := bnd h
                refine x_callV (rest := []) (st' := [.int (bI q33.1)]) (pc := 178) B oi_94 rfl (C_Mo_isEnough_94  q32 _ hq33) tw_1657 tw_1654 tw_1656 tw_79 tw_111 hd_Mo_isEnough_94 ⟨Nat.le_of_ble_eq_true rfl, Nat.le_of_ble_eq_true rfl⟩ rfl rfl (Nat.le_of_ble_eq_true rfl) rfl dX12_spite_178 ?_
                refine x_if_eq_b (tgt := 188) (pc := 181) B dX12_spite_181 rfl (fun hc34 => ?_) (fun hc34 => ?_)
                · have h := iff_ hc34 h
                  refine x_iconst (v := 1) (pc := 188) B dX12_spite_188 rfl ?_
                  obtain rfl := Option.some.inj h
                  exact x_iret (pc := 189) B hQ dX12_spite_189
                · have h := ift hc34 h
                  refine x_iconst (v := 0) (pc := 184) B dX12_spite_184 rfl ?_
                  refine x_goto (tgt := 189) (pc := 185) B dX12_spite_185 rfl ?_
                  obtain rfl := Option.some.inj h
                  exact x_iret (pc := 189) B hQ dX12_spite_189
              · have h := ift hc30 h
                refine x_iload (pc := 157) B 2 dX12_spite_157 rfl ?_
                obtain ⟨q31, hq31, h⟩ := bnd h
                refine x_callS (rest := []) (st' := [.int q31]) (pc := 159) B (C_Mo_count1 q29.1 q29.2 _ hq31) tw_1588 tw_1586 tw_1587 tw_111 hd_Mo_count1 ⟨Nat.le_of_ble_eq_true rfl, Nat.le_of_ble_eq_true rfl⟩ rfl rfl (Nat.le_of_ble_eq_true rfl) rfl dX12_spite_159 ?_
                obtain rfl := Option.some.inj h
                exact x_iret (pc := 162) B hQ dX12_spite_162
          · have h := iff_ hc10 h
            refine x_bipush (v := (-3)) (pc := 41) B dX12_spite_41 rfl ?_
            obtain rfl := Option.some.inj h
            exact x_iret (pc := 43) B hQ dX12_spite_43
      · have h := iff_ hc6 h
        refine x_iconst (v := (-1)) (pc := 23) B dX12_spite_23 rfl ?_
        obtain rfl := Option.some.inj h
        exact x_iret (pc := 24) B hQ dX12_spite_24
-- CurrentFarmsModel.brings()I [94]
abbrev y_Mo_brings_94 : MethodName := ⟨"CurrentFarmsModel", "brings", "()I"⟩
abbrev cX12_brings : ByteArray := prog_14_method_100_code
theorem dX12_brings_0 : decode cX12_brings 0 = .ok (.iconst 0, 1) := by decide +kernel
theorem dX12_brings_1 : decode cX12_brings 1 = .ok (.istore_n 1, 1) := by decide +kernel
theorem dX12_brings_2 : decode cX12_brings 2 = .ok (.aload_n 0, 1) := by decide +kernel
theorem dX12_brings_3 : decode cX12_brings 3 = .ok (.getfield 7, 3) := by decide +kernel
theorem dX12_brings_6 : decode cX12_brings 6 = .ok (.iconst 5, 1) := by decide +kernel
theorem dX12_brings_7 : decode cX12_brings 7 = .ok (.iaload, 1) := by decide +kernel
theorem dX12_brings_8 : decode cX12_brings 8 = .ok (.istore_n 2, 1) := by decide +kernel
theorem dX12_brings_9 : decode cX12_brings 9 = .ok (.iconst 0, 1) := by decide +kernel
theorem dX12_brings_10 : decode cX12_brings 10 = .ok (.istore_n 3, 1) := by decide +kernel
theorem dX12_brings_11 : decode cX12_brings 11 = .ok (.iload_n 3, 1) := by decide +kernel
theorem dX12_brings_12 : decode cX12_brings 12 = .ok (.bipush 48, 2) := by decide +kernel
theorem dX12_brings_14 : decode cX12_brings 14 = .ok (.if_icmp .ge 24, 3) := by decide +kernel
theorem dX12_brings_17 : decode cX12_brings 17 = .ok (.aload_n 0, 1) := by decide +kernel
theorem dX12_brings_18 : decode cX12_brings 18 = .ok (.getfield 78, 3) := by decide +kernel
theorem dX12_brings_21 : decode cX12_brings 21 = .ok (.iload_n 3, 1) := by decide +kernel
theorem dX12_brings_22 : decode cX12_brings 22 = .ok (.aload_n 0, 1) := by decide +kernel
theorem dX12_brings_23 : decode cX12_brings 23 = .ok (.getfield 7, 3) := by decide +kernel
theorem dX12_brings_26 : decode cX12_brings 26 = .ok (.bipush 116, 2) := by decide +kernel
theorem dX12_brings_28 : decode cX12_brings 28 = .ok (.iload_n 3, 1) := by decide +kernel
theorem dX12_brings_29 : decode cX12_brings 29 = .ok (.iadd, 1) := by decide +kernel
theorem dX12_brings_30 : decode cX12_brings 30 = .ok (.iaload, 1) := by decide +kernel
theorem dX12_brings_31 : decode cX12_brings 31 = .ok (.iastore, 1) := by decide +kernel
theorem dX12_brings_32 : decode cX12_brings 32 = .ok (.iinc 3 1, 3) := by decide +kernel
theorem dX12_brings_35 : decode cX12_brings 35 = .ok (.goto (-24), 3) := by decide +kernel
theorem dX12_brings_38 : decode cX12_brings 38 = .ok (.iconst 0, 1) := by decide +kernel
theorem dX12_brings_39 : decode cX12_brings 39 = .ok (.istore_n 3, 1) := by decide +kernel
theorem dX12_brings_40 : decode cX12_brings 40 = .ok (.iload_n 3, 1) := by decide +kernel
theorem dX12_brings_41 : decode cX12_brings 41 = .ok (.aload_n 0, 1) := by decide +kernel
theorem dX12_brings_42 : decode cX12_brings 42 = .ok (.getfield 7, 3) := by decide +kernel
theorem dX12_brings_45 : decode cX12_brings 45 = .ok (.iconst 1, 1) := by decide +kernel
theorem dX12_brings_46 : decode cX12_brings 46 = .ok (.iaload, 1) := by decide +kernel
theorem dX12_brings_47 : decode cX12_brings 47 = .ok (.if_icmp .ge 157, 3) := by decide +kernel
theorem dX12_brings_50 : decode cX12_brings 50 = .ok (.aload_n 0, 1) := by decide +kernel
theorem dX12_brings_51 : decode cX12_brings 51 = .ok (.aload_n 0, 1) := by decide +kernel
theorem dX12_brings_52 : decode cX12_brings 52 = .ok (.getfield 7, 3) := by decide +kernel
theorem dX12_brings_55 : decode cX12_brings 55 = .ok (.iconst 0, 1) := by decide +kernel
theorem dX12_brings_56 : decode cX12_brings 56 = .ok (.iaload, 1) := by decide +kernel
theorem dX12_brings_57 : decode cX12_brings 57 = .ok (.iconst (-1), 1) := by decide +kernel
theorem dX12_brings_58 : decode cX12_brings 58 = .ok (.iconst (-1), 1) := by decide +kernel
theorem dX12_brings_59 : decode cX12_brings 59 = .ok (.iconst 0, 1) := by decide +kernel
theorem dX12_brings_60 : decode cX12_brings 60 = .ok (.invokevirtual 130, 3) := by decide +kernel
theorem dX12_brings_63 : decode cX12_brings 63 = .ok (.aload_n 0, 1) := by decide +kernel
theorem dX12_brings_64 : decode cX12_brings 64 = .ok (.invokevirtual 266, 3) := by decide +kernel
theorem dX12_brings_67 : decode cX12_brings 67 = .ok (.iload_n 3, 1) := by decide +kernel
theorem dX12_brings_68 : decode cX12_brings 68 = .ok (.ishr, 1) := by decide +kernel
theorem dX12_brings_69 : decode cX12_brings 69 = .ok (.iconst 1, 1) := by decide +kernel
theorem dX12_brings_70 : decode cX12_brings 70 = .ok (.iand, 1) := by decide +kernel
theorem dX12_brings_71 : decode cX12_brings 71 = .ok (.iconst 1, 1) := by decide +kernel
theorem dX12_brings_72 : decode cX12_brings 72 = .ok (.if_icmp .ne 126, 3) := by decide +kernel
theorem dX12_brings_75 : decode cX12_brings 75 = .ok (.aload_n 0, 1) := by decide +kernel
theorem dX12_brings_76 : decode cX12_brings 76 = .ok (.aload_n 0, 1) := by decide +kernel
theorem dX12_brings_77 : decode cX12_brings 77 = .ok (.getfield 7, 3) := by decide +kernel
theorem dX12_brings_80 : decode cX12_brings 80 = .ok (.sipush 164, 3) := by decide +kernel
theorem dX12_brings_83 : decode cX12_brings 83 = .ok (.iload_n 3, 1) := by decide +kernel
theorem dX12_brings_84 : decode cX12_brings 84 = .ok (.iadd, 1) := by decide +kernel
theorem dX12_brings_85 : decode cX12_brings 85 = .ok (.iaload, 1) := by decide +kernel
theorem dX12_brings_86 : decode cX12_brings 86 = .ok (.invokevirtual 279, 3) := by decide +kernel
theorem dX12_brings_89 : decode cX12_brings 89 = .ok (.aload_n 0, 1) := by decide +kernel
theorem dX12_brings_90 : decode cX12_brings 90 = .ok (.getfield 34, 3) := by decide +kernel
theorem dX12_brings_93 : decode cX12_brings 93 = .ok (.aload_n 0, 1) := by decide +kernel
theorem dX12_brings_94 : decode cX12_brings 94 = .ok (.getfield 7, 3) := by decide +kernel
theorem dX12_brings_97 : decode cX12_brings 97 = .ok (.sipush 164, 3) := by decide +kernel
theorem dX12_brings_100 : decode cX12_brings 100 = .ok (.iload_n 3, 1) := by decide +kernel
theorem dX12_brings_101 : decode cX12_brings 101 = .ok (.iadd, 1) := by decide +kernel
theorem dX12_brings_102 : decode cX12_brings 102 = .ok (.iaload, 1) := by decide +kernel
theorem dX12_brings_103 : decode cX12_brings 103 = .ok (.iaload, 1) := by decide +kernel
theorem dX12_brings_104 : decode cX12_brings 104 = .ok (.iconst (-1), 1) := by decide +kernel
theorem dX12_brings_105 : decode cX12_brings 105 = .ok (.if_icmp .eq 93, 3) := by decide +kernel
theorem dX12_brings_108 : decode cX12_brings 108 = .ok (.aload_n 0, 1) := by decide +kernel
theorem dX12_brings_109 : decode cX12_brings 109 = .ok (.iload_n 3, 1) := by decide +kernel
theorem dX12_brings_110 : decode cX12_brings 110 = .ok (.invokevirtual 282, 3) := by decide +kernel
theorem dX12_brings_113 : decode cX12_brings 113 = .ok (.ifCond .ne 85, 3) := by decide +kernel
theorem dX12_brings_116 : decode cX12_brings 116 = .ok (.iload_n 1, 1) := by decide +kernel
theorem dX12_brings_117 : decode cX12_brings 117 = .ok (.aload_n 0, 1) := by decide +kernel
theorem dX12_brings_118 : decode cX12_brings 118 = .ok (.getfield 34, 3) := by decide +kernel
theorem dX12_brings_121 : decode cX12_brings 121 = .ok (.aload_n 0, 1) := by decide +kernel
theorem dX12_brings_122 : decode cX12_brings 122 = .ok (.getfield 7, 3) := by decide +kernel
theorem dX12_brings_125 : decode cX12_brings 125 = .ok (.sipush 164, 3) := by decide +kernel
theorem dX12_brings_128 : decode cX12_brings 128 = .ok (.iload_n 3, 1) := by decide +kernel
theorem dX12_brings_129 : decode cX12_brings 129 = .ok (.iadd, 1) := by decide +kernel
theorem dX12_brings_130 : decode cX12_brings 130 = .ok (.iaload, 1) := by decide +kernel
theorem dX12_brings_131 : decode cX12_brings 131 = .ok (.iaload, 1) := by decide +kernel
theorem dX12_brings_132 : decode cX12_brings 132 = .ok (.iadd, 1) := by decide +kernel
theorem dX12_brings_133 : decode cX12_brings 133 = .ok (.istore_n 1, 1) := by decide +kernel
theorem dX12_brings_134 : decode cX12_brings 134 = .ok (.iconst 0, 1) := by decide +kernel
theorem dX12_brings_135 : decode cX12_brings 135 = .ok (.istore 4, 2) := by decide +kernel
theorem dX12_brings_137 : decode cX12_brings 137 = .ok (.iload 4, 2) := by decide +kernel
theorem dX12_brings_139 : decode cX12_brings 139 = .ok (.iconst 1, 1) := by decide +kernel
theorem dX12_brings_140 : decode cX12_brings 140 = .ok (.iadd, 1) := by decide +kernel
theorem dX12_brings_141 : decode cX12_brings 141 = .ok (.aload_n 0, 1) := by decide +kernel
theorem dX12_brings_142 : decode cX12_brings 142 = .ok (.getfield 272, 3) := by decide +kernel
theorem dX12_brings_145 : decode cX12_brings 145 = .ok (.if_icmp .ge 43, 3) := by decide +kernel
theorem dX12_brings_148 : decode cX12_brings 148 = .ok (.aload_n 0, 1) := by decide +kernel
theorem dX12_brings_149 : decode cX12_brings 149 = .ok (.getfield 7, 3) := by decide +kernel
theorem dX12_brings_152 : decode cX12_brings 152 = .ok (.bipush 116, 2) := by decide +kernel
theorem dX12_brings_154 : decode cX12_brings 154 = .ok (.aload_n 0, 1) := by decide +kernel
theorem dX12_brings_155 : decode cX12_brings 155 = .ok (.getfield 37, 3) := by decide +kernel
theorem dX12_brings_158 : decode cX12_brings 158 = .ok (.iload 4, 2) := by decide +kernel
theorem dX12_brings_160 : decode cX12_brings 160 = .ok (.iaload, 1) := by decide +kernel
theorem dX12_brings_161 : decode cX12_brings 161 = .ok (.iadd, 1) := by decide +kernel
theorem dX12_brings_162 : decode cX12_brings 162 = .ok (.aload_n 0, 1) := by decide +kernel
theorem dX12_brings_163 : decode cX12_brings 163 = .ok (.getfield 37, 3) := by decide +kernel
theorem dX12_brings_166 : decode cX12_brings 166 = .ok (.iload 4, 2) := by decide +kernel
theorem dX12_brings_168 : decode cX12_brings 168 = .ok (.iconst 1, 1) := by decide +kernel
theorem dX12_brings_169 : decode cX12_brings 169 = .ok (.iadd, 1) := by decide +kernel
theorem dX12_brings_170 : decode cX12_brings 170 = .ok (.iaload, 1) := by decide +kernel
theorem dX12_brings_171 : decode cX12_brings 171 = .ok (.iastore, 1) := by decide +kernel
theorem dX12_brings_172 : decode cX12_brings 172 = .ok (.aload_n 0, 1) := by decide +kernel
theorem dX12_brings_173 : decode cX12_brings 173 = .ok (.getfield 7, 3) := by decide +kernel
theorem dX12_brings_176 : decode cX12_brings 176 = .ok (.iconst 5, 1) := by decide +kernel
theorem dX12_brings_177 : decode cX12_brings 177 = .ok (.dup2, 1) := by decide +kernel
theorem dX12_brings_178 : decode cX12_brings 178 = .ok (.iaload, 1) := by decide +kernel
theorem dX12_brings_179 : decode cX12_brings 179 = .ok (.iconst 1, 1) := by decide +kernel
theorem dX12_brings_180 : decode cX12_brings 180 = .ok (.iadd, 1) := by decide +kernel
theorem dX12_brings_181 : decode cX12_brings 181 = .ok (.iastore, 1) := by decide +kernel
theorem dX12_brings_182 : decode cX12_brings 182 = .ok (.iinc 4 1, 3) := by decide +kernel
theorem dX12_brings_185 : decode cX12_brings 185 = .ok (.goto (-48), 3) := by decide +kernel
theorem dX12_brings_188 : decode cX12_brings 188 = .ok (.aload_n 0, 1) := by decide +kernel
theorem dX12_brings_189 : decode cX12_brings 189 = .ok (.dup, 1) := by decide +kernel
theorem dX12_brings_190 : decode cX12_brings 190 = .ok (.getfield 50, 3) := by decide +kernel
theorem dX12_brings_193 : decode cX12_brings 193 = .ok (.iconst 1, 1) := by decide +kernel
theorem dX12_brings_194 : decode cX12_brings 194 = .ok (.iadd, 1) := by decide +kernel
theorem dX12_brings_195 : decode cX12_brings 195 = .ok (.putfield 50, 3) := by decide +kernel
theorem dX12_brings_198 : decode cX12_brings 198 = .ok (.iinc 3 1, 3) := by decide +kernel
theorem dX12_brings_201 : decode cX12_brings 201 = .ok (.goto (-161), 3) := by decide +kernel
theorem dX12_brings_204 : decode cX12_brings 204 = .ok (.iconst 0, 1) := by decide +kernel
theorem dX12_brings_205 : decode cX12_brings 205 = .ok (.istore_n 3, 1) := by decide +kernel
theorem dX12_brings_206 : decode cX12_brings 206 = .ok (.iload_n 3, 1) := by decide +kernel
theorem dX12_brings_207 : decode cX12_brings 207 = .ok (.bipush 48, 2) := by decide +kernel
theorem dX12_brings_209 : decode cX12_brings 209 = .ok (.if_icmp .ge 24, 3) := by decide +kernel
theorem dX12_brings_212 : decode cX12_brings 212 = .ok (.aload_n 0, 1) := by decide +kernel
theorem dX12_brings_213 : decode cX12_brings 213 = .ok (.getfield 7, 3) := by decide +kernel
theorem dX12_brings_216 : decode cX12_brings 216 = .ok (.bipush 116, 2) := by decide +kernel
theorem dX12_brings_218 : decode cX12_brings 218 = .ok (.iload_n 3, 1) := by decide +kernel
theorem dX12_brings_219 : decode cX12_brings 219 = .ok (.iadd, 1) := by decide +kernel
theorem dX12_brings_220 : decode cX12_brings 220 = .ok (.aload_n 0, 1) := by decide +kernel
theorem dX12_brings_221 : decode cX12_brings 221 = .ok (.getfield 78, 3) := by decide +kernel
theorem dX12_brings_224 : decode cX12_brings 224 = .ok (.iload_n 3, 1) := by decide +kernel
theorem dX12_brings_225 : decode cX12_brings 225 = .ok (.iaload, 1) := by decide +kernel
theorem dX12_brings_226 : decode cX12_brings 226 = .ok (.iastore, 1) := by decide +kernel
theorem dX12_brings_227 : decode cX12_brings 227 = .ok (.iinc 3 1, 3) := by decide +kernel
theorem dX12_brings_230 : decode cX12_brings 230 = .ok (.goto (-24), 3) := by decide +kernel
theorem dX12_brings_233 : decode cX12_brings 233 = .ok (.aload_n 0, 1) := by decide +kernel
theorem dX12_brings_234 : decode cX12_brings 234 = .ok (.getfield 7, 3) := by decide +kernel
theorem dX12_brings_237 : decode cX12_brings 237 = .ok (.iconst 5, 1) := by decide +kernel
theorem dX12_brings_238 : decode cX12_brings 238 = .ok (.iload_n 2, 1) := by decide +kernel
theorem dX12_brings_239 : decode cX12_brings 239 = .ok (.iastore, 1) := by decide +kernel
theorem dX12_brings_240 : decode cX12_brings 240 = .ok (.aload_n 0, 1) := by decide +kernel
theorem dX12_brings_241 : decode cX12_brings 241 = .ok (.dup, 1) := by decide +kernel
theorem dX12_brings_242 : decode cX12_brings 242 = .ok (.getfield 50, 3) := by decide +kernel
theorem dX12_brings_245 : decode cX12_brings 245 = .ok (.iconst 1, 1) := by decide +kernel
theorem dX12_brings_246 : decode cX12_brings 246 = .ok (.iadd, 1) := by decide +kernel
theorem dX12_brings_247 : decode cX12_brings 247 = .ok (.putfield 50, 3) := by decide +kernel
theorem dX12_brings_250 : decode cX12_brings 250 = .ok (.iload_n 1, 1) := by decide +kernel
theorem dX12_brings_251 : decode cX12_brings 251 = .ok (.ireturn, 1) := by decide +kernel
theorem hd_Mo_brings_94 : y_Mo_brings_94.cls ≠ "java/lang/invoke/MethodHandle" ∧ y_Mo_brings_94.cls ≠ "java/lang/invoke/VarHandle" ∧ (parseMethodDescriptor y_Mo_brings_94.desc).map (fun d => d.parameters.length) = some 0 := by decide +kernel
def b_Mo_brings_94_11  (y1 : Int32 × Mem) : Option ((Int32 × Mem) ⊕ (Mem)) :=
  if decide (y1.1 < 48) then (if inb (116 + y1.1) 4700 then if inb y1.1 48 then jv_ (wI y1.2 116 y1.1.toNatClampNeg (y1.2.1 95 (116 + y1.1).toNatClampNeg)) fun M5 => some (.inl (y1.1 + 1, M5)) else none else none) else (some (.inr y1.2))
def b_Mo_brings_94_137  (y22 : Int32 × Mem) : Option ((Int32 × Mem) ⊕ (Mem)) :=
  if decide ((y22.1 + 1) < (y22.2.1 94 15)) then (if inb y22.1 48 then if inb (y22.1 + 1) 48 then if inb (116 + (y22.2.1 104 y22.1.toNatClampNeg)) 4700 then jv_ (wI y22.2 95 (116 + (y22.2.1 104 y22.1.toNatClampNeg)).toNatClampNeg (y22.2.1 104 (y22.1 + 1).toNatClampNeg)) fun M27 => jv_ (wI M27 95 5 ((M27.1 95 5) + 1)) fun M28 => some (.inl (y22.1 + 1, M28)) else none else none else none) else (some (.inr y22.2))
def b_Mo_brings_94_40  (y7 : Int32 × Int32 × Mem) : Option ((Int32 × Int32 × Mem) ⊕ (Int32 × Mem)) :=
  if decide (y7.2.1 < (y7.2.2.1 95 1)) then ((f_Mo_looks_94 (y7.2.2.1 95 0) (-1) (-1) 0 y7.2.2).bind fun q9 => (f_Mo_leftOut_94 q9).bind fun q10 => if decide (((q10 >>> (y7.2.1 &&& 31)) &&& 1) = 1) then (if inb (164 + y7.2.1) 4700 then (f_Mo_leads_94 (q9.1 95 (164 + y7.2.1).toNatClampNeg) q9).bind fun q13 => if inb (164 + y7.2.1) 4700 then if inb (q13.1 95 (164 + y7.2.1).toNatClampNeg) 48 then if decide ((q13.1 103 (q13.1 95 (164 + y7.2.1).toNatClampNeg).toNatClampNeg) = (-1)) then (some (.inl (y7.1, y7.2.1 + 1, q13))) else ((f_Mo_lacks_94 y7.2.1 q13).bind fun q17 => if decide (q17.1 = 0) then (if inb (164 + y7.2.1) 4700 then if inb (q17.2.1 95 (164 + y7.2.1).toNatClampNeg) 48 then jv_ (y7.1 + (q17.2.1 103 (q17.2.1 95 (164 + y7.2.1).toNatClampNeg).toNatClampNeg) : Int32) fun x21 => (itr (b_Mo_brings_94_137) FU (0, q17.2)).bind fun q29 => jv_ (wI q29 94 21 ((q29.1 94 21) + 1)) fun M30 => some (.inl (x21, y7.2.1 + 1, M30)) else none else none) else (some (.inl (y7.1, y7.2.1 + 1, q17.2)))) else none else none else none) else (some (.inl (y7.1, y7.2.1 + 1, q9)))) else (some (.inr (y7.1, y7.2.2)))
def b_Mo_brings_94_206  (y32 : Int32 × Mem) : Option ((Int32 × Mem) ⊕ (Mem)) :=
  if decide (y32.1 < 48) then (if inb y32.1 48 then if inb (116 + y32.1) 4700 then jv_ (wI y32.2 95 (116 + y32.1).toNatClampNeg (y32.2.1 116 y32.1.toNatClampNeg)) fun M36 => some (.inl (y32.1 + 1, M36)) else none else none) else (some (.inr y32.2))
def f_Mo_brings_94  (M0 : Mem) : Option (Int32 × Mem) :=
  (itr (b_Mo_brings_94_11) FU (0, M0)).bind fun q6 => (itr (b_Mo_brings_94_40) FU (0, 0, q6)).bind fun q31 => (itr (b_Mo_brings_94_206) FU (0, q31.2)).bind fun q37 => jv_ (wI q37 95 5 (M0.1 95 5)) fun M38 => jv_ (wI M38 94 21 ((M38.1 94 21) + 1)) fun M39 => some (q31.1, M39)
set_option maxHeartbeats 4000000 in
set_option maxRecDepth 20000 in
theorem C_Mo_brings_94 {D : va_G} {ad adK adV : Nat → Nat} {cI cJ : ClassId} {l : Launch}  (M0 : Mem) (o : Int32 × Mem) (h : f_Mo_brings_94  M0 = some o) : Ct D ad adK adV cI cJ l y_Mo_brings_94 cX12_brings 5 (some .int) 515 14341 [.ref (ad 94)] M0 (some (.int o.1)) o.2 := by
  refine x_start (lv := [(0, .ref (ad 94))]) (own := "CurrentFarmsModel") rfl (by decide) (Nat.le_of_ble_eq_true rfl) rfl ?_
  intro p e s m args below meth c Q hQ B
  unfold f_Mo_brings_94 at h
  refine x_iconst (v := 0) (pc := 0) B dX12_brings_0 rfl ?_
  refine x_istore_n (lv' := [(1, .int 0), (0, .ref (ad 94))]) (pc := 1) B dX12_brings_1 rfl (by decide) rfl ?_
  refine x_aload_n (pc := 2) B 1 dX12_brings_2 rfl rfl ?_
  refine x_get (T := TX12) (pc := 3) B 1 oi_94 rfl uw_12 (by decide) rfl tw_1300 rfl dX12_brings_3 ?_
  refine x_iconst (v := 5) (pc := 6) B dX12_brings_6 rfl ?_
  refine x_iald_c (j := 5) (pc := 7) B ai_95 (by decide) rfl dX12_brings_7 ?_
  refine x_istore_n (lv' := [(2, .int (M0.1 95 5)), (1, .int 0), (0, .ref (ad 94))]) (pc := 8) B dX12_brings_8 rfl (by decide) rfl ?_
  refine x_iconst (v := 0) (pc := 9) B dX12_brings_9 rfl ?_
  refine x_istore_n (lv' := [(3, .int 0), (2, .int (M0.1 95 5)), (1, .int 0), (0, .ref (ad 94))]) (pc := 10) B dX12_brings_10 rfl (by decide) rfl ?_
  refine x_pick (lv' := [(0, .ref (ad 94)), (1, .int 0), (2, .int (M0.1 95 5)), (3, .int 0)]) [3, 2, 1, 0] rfl ?_
  obtain ⟨q6, hq6, h⟩ := bnd h
  refine x_loop (Head := fun (y1 : Int32 × Mem) => XX D ad cI cJ p l e (Rm 515 14341) s m args below meth c Q 5 y1.2 11 [(0, .ref (ad 94)), (1, .int 0), (2, .int (M0.1 95 5)), (3, .int y1.1)] []) (Ex := fun (q6 : Mem) => XX D ad cI cJ p l e (Rm 515 14341) s m args below meth c Q 5 q6 38 [(0, .ref (ad 94)), (1, .int 0), (2, .int (M0.1 95 5))] []) (fun y1 r h hback hexit => ?_) FU _ q6 hq6 ?_
  · unfold b_Mo_brings_94_11 at h
    refine x_iload_n (pc := 11) B 3 dX12_brings_11 rfl rfl ?_
    refine x_bipush (v := 48) (pc := 12) B dX12_brings_12 rfl ?_
    refine x_icmp_ge (tgt := 38) (pc := 14) B dX12_brings_14 rfl (fun hc2 => ?_) (fun hc2 => ?_)
    · have h := iff_ hc2 h
      refine x_pick (lv' := [(0, .ref (ad 94)), (1, .int 0), (2, .int (M0.1 95 5))]) [0, 1, 2] rfl ?_
      have z := hexit y1.2 (Option.some.inj h).symm
      exact z
    · have h := ift hc2 h
      refine x_aload_n (pc := 17) B 0 dX12_brings_17 rfl rfl ?_
      refine x_get (T := TX12) (pc := 18) B 31 oi_94 rfl uw_12 (by decide) rfl tw_1330 rfl dX12_brings_18 ?_
      refine x_iload_n (pc := 21) B 3 dX12_brings_21 rfl rfl ?_
      refine x_aload_n (pc := 22) B 0 dX12_brings_22 rfl rfl ?_
      refine x_get (T := TX12) (pc := 23) B 1 oi_94 rfl uw_12 (by decide) rfl tw_1300 rfl dX12_brings_23 ?_
      refine x_bipush (v := 116) (pc := 26) B dX12_brings_26 rfl ?_
      refine x_iload_n (pc := 28) B 3 dX12_brings_28 rfl rfl ?_
      refine x_iadd (pc := 29) B dX12_brings_29 ?_
      obtain ⟨hk3, h⟩ := ifn h
      refine x_iald (pc := 30) B ai_95 hk3 dX12_brings_30 ?_
      obtain ⟨hk4, h⟩ := ifn h
      refine x_iast (pc := 31) B ai_116 hk4 dX12_brings_31 ?_
      refine jv_m (P := fun M5 => XX D ad cI cJ p l e (Rm 515 14341) s m args below meth c Q 5 M5 32 [(0, .ref (ad 94)), (1, .int 0), (2, .int (M0.1 95 5)), (3, .int y1.1)] []) h (fun M5 h => ?_)
      refine x_iinc (k := 3) (v := y1.1 + 1) (lv' := [(3, .int (y1.1 + 1)), (0, .ref (ad 94)), (1, .int 0), (2, .int (M0.1 95 5))]) (pc := 32) B dX12_brings_32 rfl rfl (by decide) rfl ?_
      refine x_goto (tgt := 11) (pc := 35) B dX12_brings_35 rfl ?_
      refine x_pick (lv' := [(0, .ref (ad 94)), (1, .int 0), (2, .int (M0.1 95 5)), (3, .int (y1.1 + 1))]) [1, 2, 3, 0] rfl ?_
      have z := hback (y1.1 + 1, M5) (Option.some.inj h).symm
      exact z
  · refine x_iconst (v := 0) (pc := 38) B dX12_brings_38 rfl ?_
    refine x_istore_n (lv' := [(3, .int 0), (0, .ref (ad 94)), (1, .int 0), (2, .int (M0.1 95 5))]) (pc := 39) B dX12_brings_39 rfl (by decide) rfl ?_
    refine x_pick (lv' := [(0, .ref (ad 94)), (1, .int 0), (2, .int (M0.1 95 5)), (3, .int 0)]) [1, 2, 3, 0] rfl ?_
    obtain ⟨q31, hq31, h⟩ := bnd h
    refine x_loop (Head := fun (y7 : Int32 × Int32 × Mem) => XX D ad cI cJ p l e (Rm 515 14341) s m args below meth c Q 5 y7.2.2 40 [(0, .ref (ad 94)), (1, .int y7.1), (2, .int (M0.1 95 5)), (3, .int y7.2.1)] []) (Ex := fun (q31 : Int32 × Mem) => XX D ad cI cJ p l e (Rm 515 14341) s m args below meth c Q 5 q31.2 204 [(0, .ref (ad 94)), (1, .int q31.1), (2, .int (M0.1 95 5))] []) (fun y7 r h hback hexit => ?_) FU _ q31 hq31 ?_
    · unfold b_Mo_brings_94_40 at h
      refine x_iload_n (pc := 40) B 3 dX12_brings_40 rfl rfl ?_
      refine x_aload_n (pc := 41) B 0 dX12_brings_41 rfl rfl ?_
      refine x_get (T := TX12) (pc := 42) B 1 oi_94 rfl uw_12 (by decide) rfl tw_1300 rfl dX12_brings_42 ?_
      refine x_iconst (v := 1) (pc := 45) B dX12_brings_45 rfl ?_
      refine x_iald_c (j := 1) (pc := 46) B ai_95 (by decide) rfl dX12_brings_46 ?_
      refine x_icmp_ge (tgt := 204) (pc := 47) B dX12_brings_47 rfl (fun hc8 => ?_) (fun hc8 => ?_)
      · have h := iff_ hc8 h
        refine x_pick (lv' := [(0, .ref (ad 94)), (1, .int y7.1), (2, .int (M0.1 95 5))]) [0, 1, 2] rfl ?_
        have z := hexit (y7.1, y7.2.2) (Option.some.inj h).symm
        exact z
      · have h := ift hc8 h
        refine x_aload_n (pc := 50) B 0 dX12_brings_50 rfl rfl ?_
        refine x_aload_n (pc := 51) B 0 dX12_brings_51 rfl rfl ?_
        refine x_get (T := TX12) (pc := 52) B 1 oi_94 rfl uw_12 (by decide) rfl tw_1300 rfl dX12_brings_52 ?_
        refine x_iconst (v := 0) (pc := 55) B dX12_brings_55 rfl ?_
        refine x_iald_c (j := 0) (pc := 56) B ai_95 (by decide) rfl dX12_brings_56 ?_
        refine x_iconst (v := (-1)) (pc := 57) B dX12_brings_57 rfl ?_
        refine x_iconst (v := (-1)) (pc := 58) B dX12_brings_58 rfl ?_
        refine x_iconst (v := 0) (pc := 59) B dX12_brings_59 rfl ?_
        obtain ⟨q9, hq9, h⟩ := bnd h
        refine x_callV (rest := []) (st' := []) (pc := 60) B oi_94 rfl (C_Mo_looks_94 (y7.2.2.1 95 0) (-1) (-1) 0 y7.2.2 _ hq9) tw_1475 tw_1472 tw_1474 tw_50 tw_111 hd_Mo_looks_94 ⟨Nat.le_of_ble_eq_true rfl, Nat.le_of_ble_eq_true rfl⟩ rfl rfl (Nat.le_of_ble_eq_true rfl) rfl dX12_brings_60 ?_
        refine x_aload_n (pc := 63) B 0 dX12_brings_63 rfl rfl ?_
        obtain ⟨q10, hq10, h⟩ := bnd h
        refine x_callV (rest := []) (st' := [.int q10]) (pc := 64) B oi_94 rfl (C_Mo_leftOut_94  q9 _ hq10) tw_1677 tw_1674 tw_1676 tw_81 tw_111 hd_Mo_leftOut_94 ⟨Nat.le_of_ble_eq_true rfl, Nat.le_of_ble_eq_true rfl⟩ rfl rfl (Nat.le_of_ble_eq_true rfl) rfl dX12_brings_64 ?_
        refine x_iload_n (pc := 67) B 3 dX12_brings_67 rfl rfl ?_
        refine x_ishr (pc := 68) B dX12_brings_68 ?_
        refine x_iconst (v := 1) (pc := 69) B dX12_brings_69 rfl ?_
        refine x_iand (pc := 70) B dX12_brings_70 ?_
        refine x_iconst (v := 1) (pc := 71) B dX12_brings_71 rfl ?_
        refine x_icmp_ne (tgt := 198) (pc := 72) B dX12_brings_72 rfl (fun hc11 => ?_) (fun hc11 => ?_)
        · have h := iff_ hc11 h
          refine x_iinc (k := 3) (v := y7.2.1 + 1) (lv' := [(3, .int (y7.2.1 + 1)), (0, .ref (ad 94)), (1, .int y7.1), (2, .int (M0.1 95 5))]) (pc := 198) B dX12_brings_198 rfl rfl (by decide) rfl ?_
          refine x_goto (tgt := 40) (pc := 201) B dX12_brings_201 rfl ?_
          refine x_pick (lv' := [(0, .ref (ad 94)), (1, .int y7.1), (2, .int (M0.1 95 5)), (3, .int (y7.2.1 + 1))]) [1, 2, 3, 0] rfl ?_
          have z := hback (y7.1, y7.2.1 + 1, q9) (Option.some.inj h).symm
          exact z
        · have h := ift hc11 h
          refine x_aload_n (pc := 75) B 0 dX12_brings_75 rfl rfl ?_
          refine x_aload_n (pc := 76) B 0 dX12_brings_76 rfl rfl ?_
          refine x_get (T := TX12) (pc := 77) B 1 oi_94 rfl uw_12 (by decide) rfl tw_1300 rfl dX12_brings_77 ?_
          refine x_sipush (v := 164) (pc := 80) B dX12_brings_80 rfl ?_
          refine x_iload_n (pc := 83) B 3 dX12_brings_83 rfl rfl ?_
          refine x_iadd (pc := 84) B dX12_brings_84 ?_
          obtain ⟨hk12, h⟩ := ifn h
          refine x_iald (pc := 85) B ai_95 hk12 dX12_brings_85 ?_
          obtain ⟨q13, hq13, h⟩ := bnd h
          refine x_callV (rest := []) (st' := []) (pc := 86) B oi_94 rfl (C_Mo_leads_94 (q9.1 95 (164 + y7.2.1).toNatClampNeg) q9 _ hq13) tw_1685 tw_1682 tw_1684 tw_82 tw_111 hd_Mo_leads_94 ⟨Nat.le_of_ble_eq_true rfl, Nat.le_of_ble_eq_true rfl⟩ rfl rfl (Nat.le_of_ble_eq_true rfl) rfl dX12_brings_86 ?_
          refine x_aload_n (pc := 89) B 0 dX12_brings_89 rfl rfl ?_
          refine x_get (T := TX12) (pc := 90) B 13 oi_94 rfl uw_12 (by decide) rfl tw_1312 rfl dX12_brings_90 ?_
          refine x_aload_n (pc := 93) B 0 dX12_brings_93 rfl rfl ?_
          refine x_get (T := TX12) (pc := 94) B 1 oi_94 rfl uw_12 (by decide) rfl tw_1300 rfl dX12_brings_94 ?_
          refine x_sipush (v := 164) (pc := 97) B dX12_brings_97 rfl ?_
          refine x_iload_n (pc := 100) B 3 dX12_brings_100 rfl rfl ?_
          refine x_iadd (pc := 101) B dX12_brings_101 ?_
          obtain ⟨hk14, h⟩ := ifn h
          refine x_iald (pc := 102) B ai_95 hk14 dX12_brings_102 ?_
          obtain ⟨hk15, h⟩ := ifn h
          refine x_iald (pc := 103) B ai_103 hk15 dX12_brings_103 ?_
          refine x_iconst (v := (-1)) (pc := 104) B dX12_brings_104 rfl ?_
          refine x_icmp_eq (tgt := 198) (pc := 105) B dX12_brings_105 rfl (fun hc16 => ?_) (fun hc16 => ?_)
          · have h := ift hc16 h
            refine x_iinc (k := 3) (v := y7.2.1 + 1) (lv' := [(3, .int (y7.2.1 + 1)), (0, .ref (ad 94)), (1, .int y7.1), (2, .int (M0.1 95 5))]) (pc := 198) B dX12_brings_198 rfl rfl (by decide) rfl ?_
            refine x_goto (tgt := 40) (pc := 201) B dX12_brings_201 rfl ?_
            refine x_pick (lv' := [(0, .ref (ad 94)), (1, .int y7.1), (2, .int (M0.1 95 5)), (3, .int (y7.2.1 + 1))]) [1, 2, 3, 0] rfl ?_
            have z := hback (y7.1, y7.2.1 + 1, q13) (Option.some.inj h).symm
            exact z
          · have h := iff_ hc16 h
            refine x_aload_n (pc := 108) B 0 dX12_brings_108 rfl rfl ?_
            refine x_iload_n (pc := 109) B 3 dX12_brings_109 rfl rfl ?_
            obtain ⟨q17, hq17, h⟩ := bnd h
            refine x_callV (rest := []) (st' := [.int q17.1]) (pc := 110) B oi_94 rfl (C_Mo_lacks_94 y7.2.1 q13 _ hq17) tw_1693 tw_1690 tw_1692 tw_84 tw_111 hd_Mo_lacks_94 ⟨Nat.le_of_ble_eq_true rfl, Nat.le_of_ble_eq_true rfl⟩ rfl rfl (Nat.le_of_ble_eq_true rfl) rfl dX12_brings_110 ?_
            refine x_if_ne (tgt := 198) (pc := 113) B dX12_brings_113 rfl (fun hc18 => ?_) (fun hc18 => ?_)
            · have h := iff_ hc18 h
              refine x_iinc (k := 3) (v := y7.2.1 + 1) (lv' := [(3, .int (y7.2.1 + 1)), (0, .ref (ad 94)), (1, .int y7.1), (2, .int (M0.1 95 5))]) (pc := 198) B dX12_brings_198 rfl rfl (by decide) rfl ?_
              refine x_goto (tgt := 40) (pc := 201) B dX12_brings_201 rfl ?_
              refine x_pick (lv' := [(0, .ref (ad 94)), (1, .int y7.1), (2, .int (M0.1 95 5)), (3, .int (y7.2.1 + 1))]) [1, 2, 3, 0] rfl ?_
              have z := hback (y7.1, y7.2.1 + 1, q17.2) (Option.some.inj h).symm
              exact z
            · have h := ift hc18 h
              refine x_iload_n (pc := 116) B 1 dX12_brings_116 rfl rfl ?_
              refine x_aload_n (pc := 117) B 0 dX12_brings_117 rfl rfl ?_
              refine x_get (T := TX12) (pc := 118) B 13 oi_94 rfl uw_12 (by decide) rfl tw_1312 rfl dX12_brings_118 ?_
              refine x_aload_n (pc := 121) B 0 dX12_brings_121 rfl rfl ?_
              refine x_get (T := TX12) (pc := 122) B 1 oi_94 rfl uw_12 (by decide) rfl tw_1300 rfl dX12_brings_122 ?_
              refine x_sipush (v := 164) (pc := 125) B dX12_brings_125 rfl ?_
              refine x_iload_n (pc := 128) B 3 dX12_brings_128 rfl rfl ?_
              refine x_iadd (pc := 129) B dX12_brings_129 ?_
              obtain ⟨hk19, h⟩ := ifn h
              refine x_iald (pc := 130) B ai_95 hk19 dX12_brings_130 ?_
              obtain ⟨hk20, h⟩ := ifn h
              refine x_iald (pc := 131) B ai_103 hk20 dX12_brings_131 ?_
              refine x_iadd (pc := 132) B dX12_brings_132 ?_
              refine jv_m (P := fun (x21 : Int32) => XX D ad cI cJ p l e (Rm 515 14341) s m args below meth c Q 5 q17.2 133 [(0, .ref (ad 94)), (1, .int y7.1), (2, .int (M0.1 95 5)), (3, .int y7.2.1)] [.int x21]) h (fun x21 h => ?_)
              refine x_istore_n (lv' := [(1, .int x21), (0, .ref (ad 94)), (2, .int (M0.1 95 5)), (3, .int y7.2.1)]) (pc := 133) B dX12_brings_133 rfl (by decide) rfl ?_
              refine x_iconst (v := 0) (pc := 134) B dX12_brings_134 rfl ?_
              refine x_istore (lv' := [(4, .int 0), (1, .int x21), (0, .ref (ad 94)), (2, .int (M0.1 95 5)), (3, .int y7.2.1)]) (pc := 135) B dX12_brings_135 (by decide) rfl ?_
              refine x_pick (lv' := [(0, .ref (ad 94)), (1, .int x21), (2, .int (M0.1 95 5)), (3, .int y7.2.1), (4, .int 0)]) [2, 1, 3, 4, 0] rfl ?_
              obtain ⟨q29, hq29, h⟩ := bnd h
              refine x_loop (Head := fun (y22 : Int32 × Mem) => XX D ad cI cJ p l e (Rm 515 14341) s m args below meth c Q 5 y22.2 137 [(0, .ref (ad 94)), (1, .int x21), (2, .int (M0.1 95 5)), (3, .int y7.2.1), (4, .int y22.1)] []) (Ex := fun (q29 : Mem) => XX D ad cI cJ p l e (Rm 515 14341) s m args below meth c Q 5 q29 188 [(0, .ref (ad 94)), (1, .int x21), (2, .int (M0.1 95 5)), (3, .int y7.2.1)] []) (fun y22 r h hback hexit => ?_) FU _ q29 hq29 ?_
              · unfold b_Mo_brings_94_137 at h
                refine x_iload (pc := 137) B 4 dX12_brings_137 rfl ?_
                refine x_iconst (v := 1) (pc := 139) B dX12_brings_139 rfl ?_
                refine x_iadd (pc := 140) B dX12_brings_140 ?_
                refine x_aload_n (pc := 141) B 0 dX12_brings_141 rfl rfl ?_
                refine x_get (T := TX12) (pc := 142) B 15 oi_94 rfl uw_12 (by decide) rfl tw_1314 rfl dX12_brings_142 ?_
                refine x_icmp_ge (tgt := 188) (pc := 145) B dX12_brings_145 rfl (fun hc23 => ?_) (fun hc23 => ?_)
                · have h := iff_ hc23 h
                  refine x_pick (lv' := [(0, .ref (ad 94)), (1, .int x21), (2, .int (M0.1 95 5)), (3, .int y7.2.1)]) [0, 1, 2, 3] rfl ?_
                  have z := hexit y22.2 (Option.some.inj h).symm
                  exact z
                · have h := ift hc23 h
                  refine x_aload_n (pc := 148) B 0 dX12_brings_148 rfl rfl ?_
                  refine x_get (T := TX12) (pc := 149) B 1 oi_94 rfl uw_12 (by decide) rfl tw_1300 rfl dX12_brings_149 ?_
                  refine x_bipush (v := 116) (pc := 152) B dX12_brings_152 rfl ?_
                  refine x_aload_n (pc := 154) B 0 dX12_brings_154 rfl rfl ?_
                  refine x_get (T := TX12) (pc := 155) B 14 oi_94 rfl uw_12 (by decide) rfl tw_1313 rfl dX12_brings_155 ?_
                  refine x_iload (pc := 158) B 4 dX12_brings_158 rfl ?_
                  obtain ⟨hk24, h⟩ := ifn h
                  refine x_iald (pc := 160) B ai_104 hk24 dX12_brings_160 ?_
                  refine x_iadd (pc := 161) B dX12_brings_161 ?_
                  refine x_aload_n (pc := 162) B 0 dX12_brings_162 rfl rfl ?_
                  refine x_get (T := TX12) (pc := 163) B 14 oi_94 rfl uw_12 (by decide) rfl tw_1313 rfl dX12_brings_163 ?_
                  refine x_iload (pc := 166) B 4 dX12_brings_166 rfl ?_
                  refine x_iconst (v := 1) (pc := 168) B dX12_brings_168 rfl ?_
                  refine x_iadd (pc := 169) B dX12_brings_169 ?_
                  obtain ⟨hk25, h⟩ := ifn h
                  refine x_iald (pc := 170) B ai_104 hk25 dX12_brings_170 ?_
                  obtain ⟨hk26, h⟩ := ifn h
                  refine x_iast (pc := 171) B ai_95 hk26 dX12_brings_171 ?_
                  refine jv_m (P := fun M27 => XX D ad cI cJ p l e (Rm 515 14341) s m args below meth c Q 5 M27 172 [(0, .ref (ad 94)), (1, .int x21), (2, .int (M0.1 95 5)), (3, .int y7.2.1), (4, .int y22.1)] []) h (fun M27 h => ?_)
                  refine x_aload_n (pc := 172) B 0 dX12_brings_172 rfl rfl ?_
                  refine x_get (T := TX12) (pc := 173) B 1 oi_94 rfl uw_12 (by decide) rfl tw_1300 rfl dX12_brings_173 ?_
                  refine x_iconst (v := 5) (pc := 176) B dX12_brings_176 rfl ?_
                  refine x_dup2 (pc := 177) B dX12_brings_177 rfl rfl ?_
                  refine x_iald_c (j := 5) (pc := 178) B ai_95 (by decide) rfl dX12_brings_178 ?_
                  refine x_iconst (v := 1) (pc := 179) B dX12_brings_179 rfl ?_
                  refine x_iadd (pc := 180) B dX12_brings_180 ?_
                  refine x_iast_c (j := 5) (pc := 181) B ai_95 (by decide) rfl dX12_brings_181 ?_
                  refine jv_m (P := fun M28 => XX D ad cI cJ p l e (Rm 515 14341) s m args below meth c Q 5 M28 182 [(0, .ref (ad 94)), (1, .int x21), (2, .int (M0.1 95 5)), (3, .int y7.2.1), (4, .int y22.1)] []) h (fun M28 h => ?_)
                  refine x_iinc (k := 4) (v := y22.1 + 1) (lv' := [(4, .int (y22.1 + 1)), (0, .ref (ad 94)), (1, .int x21), (2, .int (M0.1 95 5)), (3, .int y7.2.1)]) (pc := 182) B dX12_brings_182 rfl rfl (by decide) rfl ?_
                  refine x_goto (tgt := 137) (pc := 185) B dX12_brings_185 rfl ?_
                  refine x_pick (lv' := [(0, .ref (ad 94)), (1, .int x21), (2, .int (M0.1 95 5)), (3, .int y7.2.1), (4, .int (y22.1 + 1))]) [1, 2, 3, 4, 0] rfl ?_
                  have z := hback (y22.1 + 1, M28) (Option.some.inj h).symm
                  exact z
              · refine x_aload_n (pc := 188) B 0 dX12_brings_188 rfl rfl ?_
                refine x_dup (pc := 189) B dX12_brings_189 rfl ?_
                refine x_get (T := TX12) (pc := 190) B 21 oi_94 rfl uw_12 (by decide) rfl tw_1320 rfl dX12_brings_190 ?_
                refine x_iconst (v := 1) (pc := 193) B dX12_brings_193 rfl ?_
                refine x_iadd (pc := 194) B dX12_brings_194 ?_
                refine x_put (T := TX12) (pc := 195) B 21 oi_94 of_94_21 rfl uw_12 tyX12_ok nmX12 (by decide) rfl tw_1320 rfl rfl rfl (Nat.le_of_ble_eq_true rfl) dX12_brings_195 ?_
                refine jv_m (P := fun M30 => XX D ad cI cJ p l e (Rm 515 14341) s m args below meth c Q 5 M30 198 [(0, .ref (ad 94)), (1, .int x21), (2, .int (M0.1 95 5)), (3, .int y7.2.1)] []) h (fun M30 h => ?_)
                refine x_iinc (k := 3) (v := y7.2.1 + 1) (lv' := [(3, .int (y7.2.1 + 1)), (0, .ref (ad 94)), (1, .int x21), (2, .int (M0.1 95 5))]) (pc := 198) B dX12_brings_198 rfl rfl (by decide) rfl ?_
                refine x_goto (tgt := 40) (pc := 201) B dX12_brings_201 rfl ?_
                refine x_pick (lv' := [(0, .ref (ad 94)), (1, .int x21), (2, .int (M0.1 95 5)), (3, .int (y7.2.1 + 1))]) [1, 2, 3, 0] rfl ?_
                have z := hback (x21, y7.2.1 + 1, M30) (Option.some.inj h).symm
                exact z
    · refine x_iconst (v := 0) (pc := 204) B dX12_brings_204 rfl ?_
      refine x_istore_n (lv' := [(3, .int 0), (0, .ref (ad 94)), (1, .int q31.1), (2, .int (M0.1 95 5))]) (pc := 205) B dX12_brings_205 rfl (by decide) rfl ?_
      refine x_pick (lv' := [(0, .ref (ad 94)), (1, .int q31.1), (2, .int (M0.1 95 5)), (3, .int 0)]) [1, 2, 3, 0] rfl ?_
      obtain ⟨q37, hq37, h⟩ := bnd h
      refine x_loop (Head := fun (y32 : Int32 × Mem) => XX D ad cI cJ p l e (Rm 515 14341) s m args below meth c Q 5 y32.2 206 [(0, .ref (ad 94)), (1, .int q31.1), (2, .int (M0.1 95 5)), (3, .int y32.1)] []) (Ex := fun (q37 : Mem) => XX D ad cI cJ p l e (Rm 515 14341) s m args below meth c Q 5 q37 233 [(0, .ref (ad 94)), (1, .int q31.1), (2, .int (M0.1 95 5))] []) (fun y32 r h hback hexit => ?_) FU _ q37 hq37 ?_
      · unfold b_Mo_brings_94_206 at h
        refine x_iload_n (pc := 206) B 3 dX12_brings_206 rfl rfl ?_
        refine x_bipush (v := 48) (pc := 207) B dX12_brings_207 rfl ?_
        refine x_icmp_ge (tgt := 233) (pc := 209) B dX12_brings_209 rfl (fun hc33 => ?_) (fun hc33 => ?_)
        · have h := iff_ hc33 h
          refine x_pick (lv' := [(0, .ref (ad 94)), (1, .int q31.1), (2, .int (M0.1 95 5))]) [0, 1, 2] rfl ?_
          have z := hexit y32.2 (Option.some.inj h).symm
          exact z
        · have h := ift hc33 h
          refine x_aload_n (pc := 212) B 0 dX12_brings_212 rfl rfl ?_
          refine x_get (T := TX12) (pc := 213) B 1 oi_94 rfl uw_12 (by decide) rfl tw_1300 rfl dX12_brings_213 ?_
          refine x_bipush (v := 116) (pc := 216) B dX12_brings_216 rfl ?_
          refine x_iload_n (pc := 218) B 3 dX12_brings_218 rfl rfl ?_
          refine x_iadd (pc := 219) B dX12_brings_219 ?_
          refine x_aload_n (pc := 220) B 0 dX12_brings_220 rfl rfl ?_
          refine x_get (T := TX12) (pc := 221) B 31 oi_94 rfl uw_12 (by decide) rfl tw_1330 rfl dX12_brings_221 ?_
          refine x_iload_n (pc := 224) B 3 dX12_brings_224 rfl rfl ?_
          obtain ⟨hk34, h⟩ := ifn h
          refine x_iald (pc := 225) B ai_116 hk34 dX12_brings_225 ?_
          obtain ⟨hk35, h⟩ := ifn h
          refine x_iast (pc := 226) B ai_95 hk35 dX12_brings_226 ?_
          refine jv_m (P := fun M36 => XX D ad cI cJ p l e (Rm 515 14341) s m args below meth c Q 5 M36 227 [(0, .ref (ad 94)), (1, .int q31.1), (2, .int (M0.1 95 5)), (3, .int y32.1)] []) h (fun M36 h => ?_)
          refine x_iinc (k := 3) (v := y32.1 + 1) (lv' := [(3, .int (y32.1 + 1)), (0, .ref (ad 94)), (1, .int q31.1), (2, .int (M0.1 95 5))]) (pc := 227) B dX12_brings_227 rfl rfl (by decide) rfl ?_
          refine x_goto (tgt := 206) (pc := 230) B dX12_brings_230 rfl ?_
          refine x_pick (lv' := [(0, .ref (ad 94)), (1, .int q31.1), (2, .int (M0.1 95 5)), (3, .int (y32.1 + 1))]) [1, 2, 3, 0] rfl ?_
          have z := hback (y32.1 + 1, M36) (Option.some.inj h).symm
          exact z
      · refine x_aload_n (pc := 233) B 0 dX12_brings_233 rfl rfl ?_
        refine x_get (T := TX12) (pc := 234) B 1 oi_94 rfl uw_12 (by decide) rfl tw_1300 rfl dX12_brings_234 ?_
        refine x_iconst (v := 5) (pc := 237) B dX12_brings_237 rfl ?_
        refine x_iload_n (pc := 238) B 2 dX12_brings_238 rfl rfl ?_
        refine x_iast_c (j := 5) (pc := 239) B ai_95 (by decide) rfl dX12_brings_239 ?_
        refine jv_m (P := fun M38 => XX D ad cI cJ p l e (Rm 515 14341) s m args below meth c Q 5 M38 240 [(0, .ref (ad 94)), (1, .int q31.1), (2, .int (M0.1 95 5))] []) h (fun M38 h => ?_)
        refine x_aload_n (pc := 240) B 0 dX12_brings_240 rfl rfl ?_
        refine x_dup (pc := 241) B dX12_brings_241 rfl ?_
        refine x_get (T := TX12) (pc := 242) B 21 oi_94 rfl uw_12 (by decide) rfl tw_1320 rfl dX12_brings_242 ?_
        refine x_iconst (v := 1) (pc := 245) B dX12_brings_245 rfl ?_
        refine x_iadd (pc := 246) B dX12_brings_246 ?_
        refine x_put (T := TX12) (pc := 247) B 21 oi_94 of_94_21 rfl uw_12 tyX12_ok nmX12 (by decide) rfl tw_1320 rfl rfl rfl (Nat.le_of_ble_eq_true rfl) dX12_brings_247 ?_
        refine jv_m (P := fun M39 => XX D ad cI cJ p l e (Rm 515 14341) s m args below meth c Q 5 M39 250 [(0, .ref (ad 94)), (1, .int q31.1), (2, .int (M0.1 95 5))] []) h (fun M39 h => ?_)
        refine x_iload_n (pc := 250) B 1 dX12_brings_250 rfl rfl ?_
        obtain rfl := Option.some.inj h
        exact x_iret (pc := 251) B hQ dX12_brings_251
-- CurrentFarmsModel.tried(I)I [94]
abbrev y_Mo_tried_94 : MethodName := ⟨"CurrentFarmsModel", "tried", "(I)I"⟩
abbrev cX12_tried : ByteArray := prog_14_method_101_code
theorem dX12_tried_0 : decode cX12_tried 0 = .ok (.iload_n 1, 1) := by decide +kernel
theorem dX12_tried_1 : decode cX12_tried 1 = .ok (.iconst 0, 1) := by decide +kernel
theorem dX12_tried_2 : decode cX12_tried 2 = .ok (.iconst 2, 1) := by decide +kernel
theorem dX12_tried_3 : decode cX12_tried 3 = .ok (.invokestatic 84, 3) := by decide +kernel
theorem dX12_tried_6 : decode cX12_tried 6 = .ok (.ifCond .ne 5, 3) := by decide +kernel
theorem dX12_tried_9 : decode cX12_tried 9 = .ok (.iconst (-1), 1) := by decide +kernel
theorem dX12_tried_10 : decode cX12_tried 10 = .ok (.ireturn, 1) := by decide +kernel
theorem dX12_tried_11 : decode cX12_tried 11 = .ok (.aload_n 0, 1) := by decide +kernel
theorem dX12_tried_12 : decode cX12_tried 12 = .ok (.aload_n 0, 1) := by decide +kernel
theorem dX12_tried_13 : decode cX12_tried 13 = .ok (.getfield 7, 3) := by decide +kernel
theorem dX12_tried_16 : decode cX12_tried 16 = .ok (.iconst 3, 1) := by decide +kernel
theorem dX12_tried_17 : decode cX12_tried 17 = .ok (.iaload, 1) := by decide +kernel
theorem dX12_tried_18 : decode cX12_tried 18 = .ok (.aload_n 0, 1) := by decide +kernel
theorem dX12_tried_19 : decode cX12_tried 19 = .ok (.getfield 7, 3) := by decide +kernel
theorem dX12_tried_22 : decode cX12_tried 22 = .ok (.iconst 0, 1) := by decide +kernel
theorem dX12_tried_23 : decode cX12_tried 23 = .ok (.iaload, 1) := by decide +kernel
theorem dX12_tried_24 : decode cX12_tried 24 = .ok (.invokevirtual 228, 3) := by decide +kernel
theorem dX12_tried_27 : decode cX12_tried 27 = .ok (.ifCond .ne 11, 3) := by decide +kernel
theorem dX12_tried_30 : decode cX12_tried 30 = .ok (.bipush (-10), 2) := by decide +kernel
theorem dX12_tried_32 : decode cX12_tried 32 = .ok (.aload_n 0, 1) := by decide +kernel
theorem dX12_tried_33 : decode cX12_tried 33 = .ok (.getfield 149, 3) := by decide +kernel
theorem dX12_tried_36 : decode cX12_tried 36 = .ok (.isub, 1) := by decide +kernel
theorem dX12_tried_37 : decode cX12_tried 37 = .ok (.ireturn, 1) := by decide +kernel
theorem dX12_tried_38 : decode cX12_tried 38 = .ok (.aload_n 0, 1) := by decide +kernel
theorem dX12_tried_39 : decode cX12_tried 39 = .ok (.getfield 7, 3) := by decide +kernel
theorem dX12_tried_42 : decode cX12_tried 42 = .ok (.iconst 3, 1) := by decide +kernel
theorem dX12_tried_43 : decode cX12_tried 43 = .ok (.dup2, 1) := by decide +kernel
theorem dX12_tried_44 : decode cX12_tried 44 = .ok (.iaload, 1) := by decide +kernel
theorem dX12_tried_45 : decode cX12_tried 45 = .ok (.iconst 1, 1) := by decide +kernel
theorem dX12_tried_46 : decode cX12_tried 46 = .ok (.iadd, 1) := by decide +kernel
theorem dX12_tried_47 : decode cX12_tried 47 = .ok (.iastore, 1) := by decide +kernel
theorem dX12_tried_48 : decode cX12_tried 48 = .ok (.aload_n 0, 1) := by decide +kernel
theorem dX12_tried_49 : decode cX12_tried 49 = .ok (.dup, 1) := by decide +kernel
theorem dX12_tried_50 : decode cX12_tried 50 = .ok (.getfield 50, 3) := by decide +kernel
theorem dX12_tried_53 : decode cX12_tried 53 = .ok (.iconst 1, 1) := by decide +kernel
theorem dX12_tried_54 : decode cX12_tried 54 = .ok (.iadd, 1) := by decide +kernel
theorem dX12_tried_55 : decode cX12_tried 55 = .ok (.putfield 50, 3) := by decide +kernel
theorem dX12_tried_58 : decode cX12_tried 58 = .ok (.iconst 0, 1) := by decide +kernel
theorem dX12_tried_59 : decode cX12_tried 59 = .ok (.istore_n 2, 1) := by decide +kernel
theorem dX12_tried_60 : decode cX12_tried 60 = .ok (.iload_n 1, 1) := by decide +kernel
theorem dX12_tried_61 : decode cX12_tried 61 = .ok (.ifCond .ne 12, 3) := by decide +kernel
theorem dX12_tried_64 : decode cX12_tried 64 = .ok (.aload_n 0, 1) := by decide +kernel
theorem dX12_tried_65 : decode cX12_tried 65 = .ok (.iconst 0, 1) := by decide +kernel
theorem dX12_tried_66 : decode cX12_tried 66 = .ok (.invokevirtual 351, 3) := by decide +kernel
theorem dX12_tried_69 : decode cX12_tried 69 = .ok (.istore_n 2, 1) := by decide +kernel
theorem dX12_tried_70 : decode cX12_tried 70 = .ok (.goto 48, 3) := by decide +kernel
theorem dX12_tried_73 : decode cX12_tried 73 = .ok (.iload_n 1, 1) := by decide +kernel
theorem dX12_tried_74 : decode cX12_tried 74 = .ok (.iconst 1, 1) := by decide +kernel
theorem dX12_tried_75 : decode cX12_tried 75 = .ok (.if_icmp .ne 11, 3) := by decide +kernel
theorem dX12_tried_78 : decode cX12_tried 78 = .ok (.aload_n 0, 1) := by decide +kernel
theorem dX12_tried_79 : decode cX12_tried 79 = .ok (.invokevirtual 354, 3) := by decide +kernel
theorem dX12_tried_82 : decode cX12_tried 82 = .ok (.istore_n 2, 1) := by decide +kernel
theorem dX12_tried_83 : decode cX12_tried 83 = .ok (.goto 35, 3) := by decide +kernel
theorem dX12_tried_86 : decode cX12_tried 86 = .ok (.iconst 0, 1) := by decide +kernel
theorem dX12_tried_87 : decode cX12_tried 87 = .ok (.istore_n 3, 1) := by decide +kernel
theorem dX12_tried_88 : decode cX12_tried 88 = .ok (.iload_n 3, 1) := by decide +kernel
theorem dX12_tried_89 : decode cX12_tried 89 = .ok (.aload_n 0, 1) := by decide +kernel
theorem dX12_tried_90 : decode cX12_tried 90 = .ok (.getfield 7, 3) := by decide +kernel
theorem dX12_tried_93 : decode cX12_tried 93 = .ok (.iconst 1, 1) := by decide +kernel
theorem dX12_tried_94 : decode cX12_tried 94 = .ok (.iaload, 1) := by decide +kernel
theorem dX12_tried_95 : decode cX12_tried 95 = .ok (.if_icmp .ge 23, 3) := by decide +kernel
theorem dX12_tried_98 : decode cX12_tried 98 = .ok (.iload_n 2, 1) := by decide +kernel
theorem dX12_tried_99 : decode cX12_tried 99 = .ok (.aload_n 0, 1) := by decide +kernel
theorem dX12_tried_100 : decode cX12_tried 100 = .ok (.iload_n 3, 1) := by decide +kernel
theorem dX12_tried_101 : decode cX12_tried 101 = .ok (.aload_n 0, 1) := by decide +kernel
theorem dX12_tried_102 : decode cX12_tried 102 = .ok (.getfield 7, 3) := by decide +kernel
theorem dX12_tried_105 : decode cX12_tried 105 = .ok (.iconst 0, 1) := by decide +kernel
theorem dX12_tried_106 : decode cX12_tried 106 = .ok (.iaload, 1) := by decide +kernel
theorem dX12_tried_107 : decode cX12_tried 107 = .ok (.invokevirtual 326, 3) := by decide +kernel
theorem dX12_tried_110 : decode cX12_tried 110 = .ok (.iadd, 1) := by decide +kernel
theorem dX12_tried_111 : decode cX12_tried 111 = .ok (.istore_n 2, 1) := by decide +kernel
theorem dX12_tried_112 : decode cX12_tried 112 = .ok (.iinc 3 1, 3) := by decide +kernel
theorem dX12_tried_115 : decode cX12_tried 115 = .ok (.goto (-27), 3) := by decide +kernel
theorem dX12_tried_118 : decode cX12_tried 118 = .ok (.aload_n 0, 1) := by decide +kernel
theorem dX12_tried_119 : decode cX12_tried 119 = .ok (.getfield 7, 3) := by decide +kernel
theorem dX12_tried_122 : decode cX12_tried 122 = .ok (.iconst 3, 1) := by decide +kernel
theorem dX12_tried_123 : decode cX12_tried 123 = .ok (.dup2, 1) := by decide +kernel
theorem dX12_tried_124 : decode cX12_tried 124 = .ok (.iaload, 1) := by decide +kernel
theorem dX12_tried_125 : decode cX12_tried 125 = .ok (.iconst 1, 1) := by decide +kernel
theorem dX12_tried_126 : decode cX12_tried 126 = .ok (.isub, 1) := by decide +kernel
theorem dX12_tried_127 : decode cX12_tried 127 = .ok (.iastore, 1) := by decide +kernel
theorem dX12_tried_128 : decode cX12_tried 128 = .ok (.aload_n 0, 1) := by decide +kernel
theorem dX12_tried_129 : decode cX12_tried 129 = .ok (.dup, 1) := by decide +kernel
theorem dX12_tried_130 : decode cX12_tried 130 = .ok (.getfield 50, 3) := by decide +kernel
theorem dX12_tried_133 : decode cX12_tried 133 = .ok (.iconst 1, 1) := by decide +kernel
theorem dX12_tried_134 : decode cX12_tried 134 = .ok (.iadd, 1) := by decide +kernel
theorem dX12_tried_135 : decode cX12_tried 135 = .ok (.putfield 50, 3) := by decide +kernel
theorem dX12_tried_138 : decode cX12_tried 138 = .ok (.iload_n 2, 1) := by decide +kernel
theorem dX12_tried_139 : decode cX12_tried 139 = .ok (.ireturn, 1) := by decide +kernel
theorem hd_Mo_tried_94 : y_Mo_tried_94.cls ≠ "java/lang/invoke/MethodHandle" ∧ y_Mo_tried_94.cls ≠ "java/lang/invoke/VarHandle" ∧ (parseMethodDescriptor y_Mo_tried_94.desc).map (fun d => d.parameters.length) = some 1 := by decide +kernel
def b_Mo_tried_94_88  (y17 : Int32 × Int32 × Mem) : Option ((Int32 × Int32 × Mem) ⊕ (Int32 × Mem)) :=
  if decide (y17.2.1 < (y17.2.2.1 95 1)) then ((f_Mo_billIn_94 y17.2.1 (y17.2.2.1 95 0) y17.2.2).bind fun q19 => some (.inl (y17.1 + q19.1, y17.2.1 + 1, q19.2))) else (some (.inr (y17.1, y17.2.2)))
def f_Mo_tried_94 (a1 : Int32) (M0 : Mem) : Option (Int32 × Mem) :=
  (f_Mo_in a1 0 2).bind fun q1 => if q1 then ((f_Mo_readsRule_94 (M0.1 95 3) (M0.1 95 0) M0).bind fun q3 => if q3.1 then (jv_ (wI q3.2 95 3 ((q3.2.1 95 3) + 1)) fun M5 => jv_ (wI M5 94 21 ((M5.1 94 21) + 1)) fun M6 => jn_ (fun (u10 : Int32 × Mem) => jv_ (wI u10.2 95 3 ((u10.2.1 95 3) - 1)) fun M11 => jv_ (wI M11 94 21 ((M11.1 94 21) + 1)) fun M12 => some (u10.1, M12)) fun k13 => if decide (a1 = 0) then ((f_Mo_mile_94 0 M6).bind fun q14 => k13 (q14.1, q14.2)) else (if decide (a1 = 1) then ((f_Mo_brings_94 M6).bind fun q16 => k13 (q16.1, q16.2)) else ((itr (b_Mo_tried_94_88) FU (0, 0, M6)).bind fun q20 => k13 (q20.1, q20.2)))) else (some ((-10) - (q3.2.1 94 7), q3.2))) else (some ((-1), M0))
set_option maxHeartbeats 4000000 in
set_option maxRecDepth 20000 in
theorem C_Mo_tried_94 {D : va_G} {ad adK adV : Nat → Nat} {cI cJ : ClassId} {l : Launch} (a1 : Int32) (M0 : Mem) (o : Int32 × Mem) (h : f_Mo_tried_94 a1 M0 = some o) : Ct D ad adK adV cI cJ l y_Mo_tried_94 cX12_tried 4 (some .int) 516 14365 [.ref (ad 94), .int a1] M0 (some (.int o.1)) o.2 := by
  refine x_start (lv := [(0, .ref (ad 94)), (1, .int a1)]) (own := "CurrentFarmsModel") rfl (by decide) (Nat.le_of_ble_eq_true rfl) rfl ?_
  intro p e s m args below meth c Q hQ B
  unfold f_Mo_tried_94 at h
  refine x_iload_n (pc := 0) B 1 dX12_tried_0 rfl rfl ?_
  refine x_iconst (v := 0) (pc := 1) B dX12_tried_1 rfl ?_
  refine x_iconst (v := 2) (pc := 2) B dX12_tried_2 rfl ?_
  obtain ⟨q1, hq1, h⟩ := bnd h
  refine x_callS (rest := []) (st' := [.int (bI q1)]) (pc := 3) B (C_Mo_in a1 0 2 M0 _ hq1) tw_1406 tw_1404 tw_1405 tw_111 hd_Mo_in ⟨Nat.le_of_ble_eq_true rfl, Nat.le_of_ble_eq_true rfl⟩ rfl rfl (Nat.le_of_ble_eq_true rfl) rfl dX12_tried_3 ?_
  refine x_if_ne_b (tgt := 11) (pc := 6) B dX12_tried_6 rfl (fun hc2 => ?_) (fun hc2 => ?_)
  · have h := ift hc2 h
    refine x_aload_n (pc := 11) B 0 dX12_tried_11 rfl rfl ?_
    refine x_aload_n (pc := 12) B 0 dX12_tried_12 rfl rfl ?_
    refine x_get (T := TX12) (pc := 13) B 1 oi_94 rfl uw_12 (by decide) rfl tw_1300 rfl dX12_tried_13 ?_
    refine x_iconst (v := 3) (pc := 16) B dX12_tried_16 rfl ?_
    refine x_iald_c (j := 3) (pc := 17) B ai_95 (by decide) rfl dX12_tried_17 ?_
    refine x_aload_n (pc := 18) B 0 dX12_tried_18 rfl rfl ?_
    refine x_get (T := TX12) (pc := 19) B 1 oi_94 rfl uw_12 (by decide) rfl tw_1300 rfl dX12_tried_19 ?_
    refine x_iconst (v := 0) (pc := 22) B dX12_tried_22 rfl ?_
    refine x_iald_c (j := 0) (pc := 23) B ai_95 (by decide) rfl dX12_tried_23 ?_
    obtain ⟨q3, hq3, h⟩ := bnd h
    refine x_callV (rest := []) (st' := [.int (bI q3.1)]) (pc := 24) B oi_94 rfl (C_Mo_readsRule_94 (M0.1 95 3) (M0.1 95 0) M0 _ hq3) tw_1601 tw_1598 tw_1600 tw_73 tw_111 hd_Mo_readsRule_94 ⟨Nat.le_of_ble_eq_true rfl, Nat.le_of_ble_eq_true rfl⟩ rfl rfl (Nat.le_of_ble_eq_true rfl) rfl dX12_tried_24 ?_
    refine x_if_ne_b (tgt := 38) (pc := 27) B dX12_tried_27 rfl (fun hc4 => ?_) (fun hc4 => ?_)
    · have h := ift hc4 h
      refine x_aload_n (pc := 38) B 0 dX12_tried_38 rfl rfl ?_
      refine x_get (T := TX12) (pc := 39) B 1 oi_94 rfl uw_12 (by decide) rfl tw_1300 rfl dX12_tried_39 ?_
      refine x_iconst (v := 3) (pc := 42) B dX12_tried_42 rfl ?_
      refine x_dup2 (pc := 43) B dX12_tried_43 rfl rfl ?_
      refine x_iald_c (j := 3) (pc := 44) B ai_95 (by decide) rfl dX12_tried_44 ?_
      refine x_iconst (v := 1) (pc := 45) B dX12_tried_45 rfl ?_
      refine x_iadd (pc := 46) B dX12_tried_46 ?_
      refine x_iast_c (j := 3) (pc := 47) B ai_95 (by decide) rfl dX12_tried_47 ?_
      refine jv_m (P := fun M5 => XX D ad cI cJ p l e (Rm 516 14365) s m args below meth c Q 4 M5 48 [(0, .ref (ad 94)), (1, .int a1)] []) h (fun M5 h => ?_)
      refine x_aload_n (pc := 48) B 0 dX12_tried_48 rfl rfl ?_
      refine x_dup (pc := 49) B dX12_tried_49 rfl ?_
      refine x_get (T := TX12) (pc := 50) B 21 oi_94 rfl uw_12 (by decide) rfl tw_1320 rfl dX12_tried_50 ?_
      refine x_iconst (v := 1) (pc := 53) B dX12_tried_53 rfl ?_
      refine x_iadd (pc := 54) B dX12_tried_54 ?_
      refine x_put (T := TX12) (pc := 55) B 21 oi_94 of_94_21 rfl uw_12 tyX12_ok nmX12 (by decide) rfl tw_1320 rfl rfl rfl (Nat.le_of_ble_eq_true rfl) dX12_tried_55 ?_
      refine jv_m (P := fun M6 => XX D ad cI cJ p l e (Rm 516 14365) s m args below meth c Q 4 M6 58 [(0, .ref (ad 94)), (1, .int a1)] []) h (fun M6 h => ?_)
      refine x_iconst (v := 0) (pc := 58) B dX12_tried_58 rfl ?_
      refine x_istore_n (lv' := [(2, .int 0), (0, .ref (ad 94)), (1, .int a1)]) (pc := 59) B dX12_tried_59 rfl (by decide) rfl ?_
      refine x_iload_n (pc := 60) B 2 dX12_tried_60 rfl rfl ?_
      refine jn_k h (fun (u10 : Int32 × Mem) => XX D ad cI cJ p l e (Rm 516 14365) s m args below meth c Q 4 u10.2 118 [(0, .ref (ad 94)), (2, .int u10.1)] []) (fun u10 h => ?_) (fun k13 h JJ => ?_)
      · refine x_aload_n (pc := 118) B 0 dX12_tried_118 rfl rfl ?_
        refine x_get (T := TX12) (pc := 119) B 1 oi_94 rfl uw_12 (by decide) rfl tw_1300 rfl dX12_tried_119 ?_
        refine x_iconst (v := 3) (pc := 122) B dX12_tried_122 rfl ?_
        refine x_dup2 (pc := 123) B dX12_tried_123 rfl rfl ?_
        refine x_iald_c (j := 3) (pc := 124) B ai_95 (by decide) rfl dX12_tried_124 ?_
        refine x_iconst (v := 1) (pc := 125) B dX12_tried_125 rfl ?_
        refine x_isub (pc := 126) B dX12_tried_126 ?_
        refine x_iast_c (j := 3) (pc := 127) B ai_95 (by decide) rfl dX12_tried_127 ?_
        refine jv_m (P := fun M11 => XX D ad cI cJ p l e (Rm 516 14365) s m args below meth c Q 4 M11 128 [(0, .ref (ad 94)), (2, .int u10.1)] []) h (fun M11 h => ?_)
        refine x_aload_n (pc := 128) B 0 dX12_tried_128 rfl rfl ?_
        refine x_dup (pc := 129) B dX12_tried_129 rfl ?_
        refine x_get (T := TX12) (pc := 130) B 21 oi_94 rfl uw_12 (by decide) rfl tw_1320 rfl dX12_tried_130 ?_
        refine x_iconst (v := 1) (pc := 133) B dX12_tried_133 rfl ?_
        refine x_iadd (pc := 134) B dX12_tried_134 ?_
        refine x_put (T := TX12) (pc := 135) B 21 oi_94 of_94_21 rfl uw_12 tyX12_ok nmX12 (by decide) rfl tw_1320 rfl rfl rfl (Nat.le_of_ble_eq_true rfl) dX12_tried_135 ?_
        refine jv_m (P := fun M12 => XX D ad cI cJ p l e (Rm 516 14365) s m args below meth c Q 4 M12 138 [(0, .ref (ad 94)), (2, .int u10.1)] []) h (fun M12 h => ?_)
        refine x_iload_n (pc := 138) B 1 dX12_tried_138 rfl rfl ?_
        obtain rfl := Option.some.inj h
        exact x_iret (pc := 139) B hQ dX12_tried_139
      · refine x_if_ne (tgt := 73) (pc := 61) B dX12_tried_61 rfl (fun hc7 => ?_) (fun hc7 => ?_)
        · have h := iff_ hc7 h
          refine x_iload_n (pc := 73) B 2 dX12_tried_73 rfl rfl ?_
          refine x_iconst (v := 1) (pc := 74) B dX12_tried_74 rfl ?_
          refine x_icmp_ne (tgt := 86) (pc := 75) B dX12_tried_75 rfl (fun hc15 => ?_) (fun hc15 => ?_)
          · have h := iff_ hc15 h
            refine x_iconst (v := 0) (pc := 86) B dX12_tried_86 rfl ?_
            refine x_istore_n (lv' := [(3, .int 0), (2, .int 0), (0, .ref (ad 94)), (1, .int a1)]) (pc := 87) B dX12_tried_87 rfl (by decide) rfl ?_
            refine x_pick (lv' := [(0, .ref (ad 94)), (2, .int 0), (3, .int 0)]) [2, 1, 0] rfl ?_
            obtain ⟨q20, hq20, h⟩ := bnd h
            refine x_loop (Head := fun (y17 : Int32 × Int32 × Mem) => XX D ad cI cJ p l e (Rm 516 14365) s m args below meth c Q 4 y17.2.2 88 [(0, .ref (ad 94)), (2, .int y17.1), (3, .int y17.2.1)] []) (Ex := fun (q20 : Int32 × Mem) => XX D ad cI cJ p l e (Rm 516 14365) s m args below meth c Q 4 q20.2 118 [(0, .ref (ad 94)), (2, .int q20.1)] []) (fun y17 r h hback hexit => ?_) FU _ q20 hq20 ?_
            · unfold b_Mo_tried_94_88 at h
              refine x_iload_n (pc := 88) B 2 dX12_tried_88 rfl rfl ?_
              refine x_aload_n (pc := 89) B 0 dX12_tried_89 rfl rfl ?_
              refine x_get (T := TX12) (pc := 90) B 1 oi_94 rfl uw_12 (by decide) rfl tw_1300 rfl dX12_tried_90 ?_
              refine x_iconst (v := 1) (pc := 93) B dX12_tried_93 rfl ?_
              refine x_iald_c (j := 1) (pc := 94) B ai_95 (by decide) rfl dX12_tried_94 ?_
              refine x_icmp_ge (tgt := 118) (pc := 95) B dX12_tried_95 rfl (fun hc18 => ?_) (fun hc18 => ?_)
              · have h := iff_ hc18 h
                refine x_pick (lv' := [(0, .ref (ad 94)), (2, .int y17.1)]) [0, 1] rfl ?_
                have z := hexit (y17.1, y17.2.2) (Option.some.inj h).symm
                exact z
              · have h := ift hc18 h
                refine x_iload_n (pc := 98) B 1 dX12_tried_98 rfl rfl ?_
                refine x_aload_n (pc := 99) B 0 dX12_tried_99 rfl rfl ?_
                refine x_iload_n (pc := 100) B 2 dX12_tried_100 rfl rfl ?_
                refine x_aload_n (pc := 101) B 0 dX12_tried_101 rfl rfl ?_
                refine x_get (T := TX12) (pc := 102) B 1 oi_94 rfl uw_12 (by decide) rfl tw_1300 rfl dX12_tried_102 ?_
                refine x_iconst (v := 0) (pc := 105) B dX12_tried_105 rfl ?_
                refine x_iald_c (j := 0) (pc := 106) B ai_95 (by decide) rfl dX12_tried_106 ?_
                obtain ⟨q19, hq19, h⟩ := bnd h
                refine x_callV (rest := [.int y17.1]) (st' := [.int q19.1, .int y17.1]) (pc := 107) B oi_94 rfl (C_Mo_billIn_94 y17.2.1 (y17.2.2.1 95 0) y17.2.2 _ hq19) tw_1744 tw_1741 tw_1743 tw_90 tw_111 hd_Mo_billIn_94 ⟨Nat.le_of_ble_eq_true rfl, Nat.le_of_ble_eq_true rfl⟩ rfl rfl (Nat.le_of_ble_eq_true rfl) rfl dX12_tried_107 ?_
                refine x_iadd (pc := 110) B dX12_tried_110 ?_
                refine x_istore_n (lv' := [(2, .int (y17.1 + q19.1)), (0, .ref (ad 94)), (3, .int y17.2.1)]) (pc := 111) B dX12_tried_111 rfl (by decide) rfl ?_
                refine x_iinc (k := 2) (v := y17.2.1 + 1) (lv' := [(3, .int (y17.2.1 + 1)), (2, .int (y17.1 + q19.1)), (0, .ref (ad 94))]) (pc := 112) B dX12_tried_112 rfl rfl (by decide) rfl ?_
                refine x_goto (tgt := 88) (pc := 115) B dX12_tried_115 rfl ?_
                refine x_pick (lv' := [(0, .ref (ad 94)), (2, .int (y17.1 + q19.1)), (3, .int (y17.2.1 + 1))]) [2, 1, 0] rfl ?_
                have z := hback (y17.1 + q19.1, y17.2.1 + 1, q19.2) (Option.some.inj h).symm
                exact z
            · have z := JJ (q20.1, q20.2) h
              exact z
          · have h := ift hc15 h
            refine x_aload_n (pc := 78) B 1 dX12_tried_78 rfl rfl ?_
            obtain ⟨q16, hq16, h⟩ := bnd h
            refine x_callV (rest := []) (st' := [.int q16.1]) (pc := 79) B oi_94 rfl (C_Mo_brings_94  M6 _ hq16) tw_1810 tw_1807 tw_1809 tw_96 tw_111 hd_Mo_brings_94 ⟨Nat.le_of_ble_eq_true rfl, Nat.le_of_ble_eq_true rfl⟩ rfl rfl (Nat.le_of_ble_eq_true rfl) rfl dX12_tried_79 ?_
            refine x_istore_n (lv' := [(2, .int q16.1), (0, .ref (ad 94)), (1, .int a1)]) (pc := 82) B dX12_tried_82 rfl (by decide) rfl ?_
            refine x_goto (tgt := 118) (pc := 83) B dX12_tried_83 rfl ?_
            refine x_pick (lv' := [(0, .ref (ad 94)), (2, .int q16.1)]) [1, 0] rfl ?_
            have z := JJ (q16.1, q16.2) h
            exact z
        · have h := ift hc7 h
          refine x_aload_n (pc := 64) B 1 dX12_tried_64 rfl rfl ?_
          refine x_iconst (v := 0) (pc := 65) B dX12_tried_65 rfl ?_
          obtain ⟨q14, hq14, h⟩ := bnd h
          refine x_callV (rest := []) (st' := [.int q14.1]) (pc := 66) B oi_94 rfl (C_Mo_mile_94 0 M6 _ hq14) tw_1653 tw_1806 tw_1651 tw_1652 tw_111 hd_Mo_mile_94 ⟨Nat.le_of_ble_eq_true rfl, Nat.le_of_ble_eq_true rfl⟩ rfl rfl (Nat.le_of_ble_eq_true rfl) rfl dX12_tried_66 ?_
          refine x_istore_n (lv' := [(2, .int q14.1), (0, .ref (ad 94)), (1, .int a1)]) (pc := 69) B dX12_tried_69 rfl (by decide) rfl ?_
          refine x_goto (tgt := 118) (pc := 70) B dX12_tried_70 rfl ?_
          refine x_pick (lv' := [(0, .ref (ad 94)), (2, .int q14.1)]) [1, 0] rfl ?_
          have z := JJ (q14.1, q14.2) h
          exact z
    · have h := iff_ hc4 h
      refine x_bipush (v := (-10)) (pc := 30) B dX12_tried_30 rfl ?_
      refine x_aload_n (pc := 32) B 0 dX12_tried_32 rfl rfl ?_
      refine x_get (T := TX12) (pc := 33) B 7 oi_94 rfl uw_12 (by decide) rfl tw_1306 rfl dX12_tried_33 ?_
      refine x_isub (pc := 36) B dX12_tried_36 ?_
      obtain rfl := Option.some.inj h
      exact x_iret (pc := 37) B hQ dX12_tried_37
  · have h := iff_ hc2 h
    refine x_iconst (v := (-1)) (pc := 9) B dX12_tried_9 rfl ?_
    obtain rfl := Option.some.inj h
    exact x_iret (pc := 10) B hQ dX12_tried_10
-- CurrentFarmsModel.image()I [94]
abbrev y_Mo_image_94 : MethodName := ⟨"CurrentFarmsModel", "image", "()I"⟩
abbrev cX12_image : ByteArray := prog_14_method_102_code
theorem dX12_image_0 : decode cX12_image 0 = .ok (.iconst 0, 1) := by decide +kernel
theorem dX12_image_1 : decode cX12_image 1 = .ok (.istore_n 1, 1) := by decide +kernel
theorem dX12_image_2 : decode cX12_image 2 = .ok (.iload_n 1, 1) := by decide +kernel
theorem dX12_image_3 : decode cX12_image 3 = .ok (.sipush 4700, 3) := by decide +kernel
theorem dX12_image_6 : decode cX12_image 6 = .ok (.if_icmp .ge 21, 3) := by decide +kernel
theorem dX12_image_9 : decode cX12_image 9 = .ok (.aload_n 0, 1) := by decide +kernel
theorem dX12_image_10 : decode cX12_image 10 = .ok (.getfield 13, 3) := by decide +kernel
theorem dX12_image_13 : decode cX12_image 13 = .ok (.iload_n 1, 1) := by decide +kernel
theorem dX12_image_14 : decode cX12_image 14 = .ok (.aload_n 0, 1) := by decide +kernel
theorem dX12_image_15 : decode cX12_image 15 = .ok (.getfield 7, 3) := by decide +kernel
theorem dX12_image_18 : decode cX12_image 18 = .ok (.iload_n 1, 1) := by decide +kernel
theorem dX12_image_19 : decode cX12_image 19 = .ok (.iaload, 1) := by decide +kernel
theorem dX12_image_20 : decode cX12_image 20 = .ok (.iastore, 1) := by decide +kernel
theorem dX12_image_21 : decode cX12_image 21 = .ok (.iinc 1 1, 3) := by decide +kernel
theorem dX12_image_24 : decode cX12_image 24 = .ok (.goto (-22), 3) := by decide +kernel
theorem dX12_image_27 : decode cX12_image 27 = .ok (.aload_n 0, 1) := by decide +kernel
theorem dX12_image_28 : decode cX12_image 28 = .ok (.iconst 1, 1) := by decide +kernel
theorem dX12_image_29 : decode cX12_image 29 = .ok (.putfield 357, 3) := by decide +kernel
theorem dX12_image_32 : decode cX12_image 32 = .ok (.aload_n 0, 1) := by decide +kernel
theorem dX12_image_33 : decode cX12_image 33 = .ok (.getfield 7, 3) := by decide +kernel
theorem dX12_image_36 : decode cX12_image 36 = .ok (.iconst 0, 1) := by decide +kernel
theorem dX12_image_37 : decode cX12_image 37 = .ok (.iaload, 1) := by decide +kernel
theorem dX12_image_38 : decode cX12_image 38 = .ok (.ireturn, 1) := by decide +kernel
theorem hd_Mo_image_94 : y_Mo_image_94.cls ≠ "java/lang/invoke/MethodHandle" ∧ y_Mo_image_94.cls ≠ "java/lang/invoke/VarHandle" ∧ (parseMethodDescriptor y_Mo_image_94.desc).map (fun d => d.parameters.length) = some 0 := by decide +kernel
def b_Mo_image_94_2  (y1 : Int32 × Mem) : Option ((Int32 × Mem) ⊕ (Mem)) :=
  if decide (y1.1 < 4700) then (if inb y1.1 4700 then if inb y1.1 4700 then jv_ (wI y1.2 96 y1.1.toNatClampNeg (y1.2.1 95 y1.1.toNatClampNeg)) fun M5 => some (.inl (y1.1 + 1, M5)) else none else none) else (some (.inr y1.2))
def f_Mo_image_94  (M0 : Mem) : Option (Int32 × Mem) :=
  (itr (b_Mo_image_94_2) FU (0, M0)).bind fun q6 => jv_ (wI q6 94 3 1) fun M7 => some (M7.1 95 0, M7)
set_option maxHeartbeats 4000000 in
set_option maxRecDepth 20000 in
theorem C_Mo_image_94 {D : va_G} {ad adK adV : Nat → Nat} {cI cJ : ClassId} {l : Launch}  (M0 : Mem) (o : Int32 × Mem) (h : f_Mo_image_94  M0 = some o) : Ct D ad adK adV cI cJ l y_Mo_image_94 cX12_image 2 (some .int) 0 0 [.ref (ad 94)] M0 (some (.int o.1)) o.2 := by
  refine x_start (lv := [(0, .ref (ad 94))]) (own := "CurrentFarmsModel") rfl (by decide) (Nat.le_of_ble_eq_true rfl) rfl ?_
  intro p e s m args below meth c Q hQ B
  unfold f_Mo_image_94 at h
  refine x_iconst (v := 0) (pc := 0) B dX12_image_0 rfl ?_
  refine x_istore_n (lv' := [(1, .int 0), (0, .ref (ad 94))]) (pc := 1) B dX12_image_1 rfl (by decide) rfl ?_
  refine x_pick (lv' := [(0, .ref (ad 94)), (1, .int 0)]) [1, 0] rfl ?_
  obtain ⟨q6, hq6, h⟩ := bnd h
  refine x_loop (Head := fun (y1 : Int32 × Mem) => XX D ad cI cJ p l e (Rm 0 0) s m args below meth c Q 2 y1.2 2 [(0, .ref (ad 94)), (1, .int y1.1)] []) (Ex := fun (q6 : Mem) => XX D ad cI cJ p l e (Rm 0 0) s m args below meth c Q 2 q6 27 [(0, .ref (ad 94))] []) (fun y1 r h hback hexit => ?_) FU _ q6 hq6 ?_
  · unfold b_Mo_image_94_2 at h
    refine x_iload_n (pc := 2) B 1 dX12_image_2 rfl rfl ?_
    refine x_sipush (v := 4700) (pc := 3) B dX12_image_3 rfl ?_
    refine x_icmp_ge (tgt := 27) (pc := 6) B dX12_image_6 rfl (fun hc2 => ?_) (fun hc2 => ?_)
    · have h := iff_ hc2 h
      refine x_pick (lv' := [(0, .ref (ad 94))]) [0] rfl ?_
      have z := hexit y1.2 (Option.some.inj h).symm
      exact z
    · have h := ift hc2 h
      refine x_aload_n (pc := 9) B 0 dX12_image_9 rfl rfl ?_
      refine x_get (T := TX12) (pc := 10) B 2 oi_94 rfl uw_12 (by decide) rfl tw_1301 rfl dX12_image_10 ?_
      refine x_iload_n (pc := 13) B 1 dX12_image_13 rfl rfl ?_
      refine x_aload_n (pc := 14) B 0 dX12_image_14 rfl rfl ?_
      refine x_get (T := TX12) (pc := 15) B 1 oi_94 rfl uw_12 (by decide) rfl tw_1300 rfl dX12_image_15 ?_
      refine x_iload_n (pc := 18) B 1 dX12_image_18 rfl rfl ?_
      obtain ⟨hk3, h⟩ := ifn h
      refine x_iald (pc := 19) B ai_95 hk3 dX12_image_19 ?_
      obtain ⟨hk4, h⟩ := ifn h
      refine x_iast (pc := 20) B ai_96 hk4 dX12_image_20 ?_
      refine jv_m (P := fun M5 => XX D ad cI cJ p l e (Rm 0 0) s m args below meth c Q 2 M5 21 [(0, .ref (ad 94)), (1, .int y1.1)] []) h (fun M5 h => ?_)
      refine x_iinc (k := 1) (v := y1.1 + 1) (lv' := [(1, .int (y1.1 + 1)), (0, .ref (ad 94))]) (pc := 21) B dX12_image_21 rfl rfl (by decide) rfl ?_
      refine x_goto (tgt := 2) (pc := 24) B dX12_image_24 rfl ?_
      refine x_pick (lv' := [(0, .ref (ad 94)), (1, .int (y1.1 + 1))]) [1, 0] rfl ?_
      have z := hback (y1.1 + 1, M5) (Option.some.inj h).symm
      exact z
  · refine x_aload_n (pc := 27) B 0 dX12_image_27 rfl rfl ?_
    refine x_iconst (v := 1) (pc := 28) B dX12_image_28 rfl ?_
    refine x_put (T := TX12) (pc := 29) B 3 oi_94 of_94_3 rfl uw_12 tyX12_ok nmX12 (by decide) rfl tw_1302 rfl rfl rfl (Nat.le_of_ble_eq_true rfl) dX12_image_29 ?_
    refine jv_m (P := fun M7 => XX D ad cI cJ p l e (Rm 0 0) s m args below meth c Q 2 M7 32 [(0, .ref (ad 94))] []) h (fun M7 h => ?_)
    refine x_aload_n (pc := 32) B 0 dX12_image_32 rfl rfl ?_
    refine x_get (T := TX12) (pc := 33) B 1 oi_94 rfl uw_12 (by decide) rfl tw_1300 rfl dX12_image_33 ?_
    refine x_iconst (v := 0) (pc := 36) B dX12_image_36 rfl ?_
    refine x_iald_c (j := 0) (pc := 37) B ai_95 (by decide) rfl dX12_image_37 ?_
    obtain rfl := Option.some.inj h
    exact x_iret (pc := 38) B hQ dX12_image_38
-- CurrentFarmsModel.undo()I [94]
abbrev y_Mo_undo_94 : MethodName := ⟨"CurrentFarmsModel", "undo", "()I"⟩
abbrev cX12_undo : ByteArray := prog_14_method_103_code
theorem dX12_undo_0 : decode cX12_undo 0 = .ok (.aload_n 0, 1) := by decide +kernel
theorem dX12_undo_1 : decode cX12_undo 1 = .ok (.getfield 357, 3) := by decide +kernel
theorem dX12_undo_4 : decode cX12_undo 4 = .ok (.ifCond .ne 6, 3) := by decide +kernel
theorem dX12_undo_7 : decode cX12_undo 7 = .ok (.bipush (-3), 2) := by decide +kernel
theorem dX12_undo_9 : decode cX12_undo 9 = .ok (.ireturn, 1) := by decide +kernel
theorem dX12_undo_10 : decode cX12_undo 10 = .ok (.iconst 0, 1) := by decide +kernel
theorem dX12_undo_11 : decode cX12_undo 11 = .ok (.istore_n 1, 1) := by decide +kernel
theorem dX12_undo_12 : decode cX12_undo 12 = .ok (.iload_n 1, 1) := by decide +kernel
theorem dX12_undo_13 : decode cX12_undo 13 = .ok (.sipush 4700, 3) := by decide +kernel
theorem dX12_undo_16 : decode cX12_undo 16 = .ok (.if_icmp .ge 21, 3) := by decide +kernel
theorem dX12_undo_19 : decode cX12_undo 19 = .ok (.aload_n 0, 1) := by decide +kernel
theorem dX12_undo_20 : decode cX12_undo 20 = .ok (.getfield 7, 3) := by decide +kernel
theorem dX12_undo_23 : decode cX12_undo 23 = .ok (.iload_n 1, 1) := by decide +kernel
theorem dX12_undo_24 : decode cX12_undo 24 = .ok (.aload_n 0, 1) := by decide +kernel
theorem dX12_undo_25 : decode cX12_undo 25 = .ok (.getfield 13, 3) := by decide +kernel
theorem dX12_undo_28 : decode cX12_undo 28 = .ok (.iload_n 1, 1) := by decide +kernel
theorem dX12_undo_29 : decode cX12_undo 29 = .ok (.iaload, 1) := by decide +kernel
theorem dX12_undo_30 : decode cX12_undo 30 = .ok (.iastore, 1) := by decide +kernel
theorem dX12_undo_31 : decode cX12_undo 31 = .ok (.iinc 1 1, 3) := by decide +kernel
theorem dX12_undo_34 : decode cX12_undo 34 = .ok (.goto (-22), 3) := by decide +kernel
theorem dX12_undo_37 : decode cX12_undo 37 = .ok (.aload_n 0, 1) := by decide +kernel
theorem dX12_undo_38 : decode cX12_undo 38 = .ok (.dup, 1) := by decide +kernel
theorem dX12_undo_39 : decode cX12_undo 39 = .ok (.getfield 50, 3) := by decide +kernel
theorem dX12_undo_42 : decode cX12_undo 42 = .ok (.iconst 1, 1) := by decide +kernel
theorem dX12_undo_43 : decode cX12_undo 43 = .ok (.iadd, 1) := by decide +kernel
theorem dX12_undo_44 : decode cX12_undo 44 = .ok (.putfield 50, 3) := by decide +kernel
theorem dX12_undo_47 : decode cX12_undo 47 = .ok (.aload_n 0, 1) := by decide +kernel
theorem dX12_undo_48 : decode cX12_undo 48 = .ok (.getfield 7, 3) := by decide +kernel
theorem dX12_undo_51 : decode cX12_undo 51 = .ok (.iconst 0, 1) := by decide +kernel
theorem dX12_undo_52 : decode cX12_undo 52 = .ok (.iaload, 1) := by decide +kernel
theorem dX12_undo_53 : decode cX12_undo 53 = .ok (.ireturn, 1) := by decide +kernel
theorem hd_Mo_undo_94 : y_Mo_undo_94.cls ≠ "java/lang/invoke/MethodHandle" ∧ y_Mo_undo_94.cls ≠ "java/lang/invoke/VarHandle" ∧ (parseMethodDescriptor y_Mo_undo_94.desc).map (fun d => d.parameters.length) = some 0 := by decide +kernel
def b_Mo_undo_94_12  (y3 : Int32 × Mem) : Option ((Int32 × Mem) ⊕ (Mem)) :=
  if decide (y3.1 < 4700) then (if inb y3.1 4700 then if inb y3.1 4700 then jv_ (wI y3.2 95 y3.1.toNatClampNeg (y3.2.1 96 y3.1.toNatClampNeg)) fun M7 => some (.inl (y3.1 + 1, M7)) else none else none) else (some (.inr y3.2))
def f_Mo_undo_94  (M0 : Mem) : Option (Int32 × Mem) :=
  if isb (M0.1 94 3) then if decide (M0.1 94 3 = 1) then ((itr (b_Mo_undo_94_12) FU (0, M0)).bind fun q8 => jv_ (wI q8 94 21 ((q8.1 94 21) + 1)) fun M9 => some (M9.1 95 0, M9)) else (some ((-3), M0)) else none
set_option maxHeartbeats 4000000 in
set_option maxRecDepth 20000 in
theorem C_Mo_undo_94 {D : va_G} {ad adK adV : Nat → Nat} {cI cJ : ClassId} {l : Launch}  (M0 : Mem) (o : Int32 × Mem) (h : f_Mo_undo_94  M0 = some o) : Ct D ad adK adV cI cJ l y_Mo_undo_94 cX12_undo 2 (some .int) 0 0 [.ref (ad 94)] M0 (some (.int o.1)) o.2 := by
  refine x_start (lv := [(0, .ref (ad 94))]) (own := "CurrentFarmsModel") rfl (by decide) (Nat.le_of_ble_eq_true rfl) rfl ?_
  intro p e s m args below meth c Q hQ B
  unfold f_Mo_undo_94 at h
  refine x_aload_n (pc := 0) B 0 dX12_undo_0 rfl rfl ?_
  obtain ⟨hk1, h⟩ := ifn h
  refine x_getZ (T := TX12) (pc := 1) B 3 oi_94 rfl uw_12 (by decide) rfl tw_1302 rfl hk1 dX12_undo_1 ?_
  refine x_if_ne_b (tgt := 10) (pc := 4) B dX12_undo_4 rfl (fun hc2 => ?_) (fun hc2 => ?_)
  · have h := ift hc2 h
    refine x_iconst (v := 0) (pc := 10) B dX12_undo_10 rfl ?_
    refine x_istore_n (lv' := [(1, .int 0), (0, .ref (ad 94))]) (pc := 11) B dX12_undo_11 rfl (by decide) rfl ?_
    refine x_pick (lv' := [(0, .ref (ad 94)), (1, .int 0)]) [1, 0] rfl ?_
    obtain ⟨q8, hq8, h⟩ := bnd h
    refine x_loop (Head := fun (y3 : Int32 × Mem) => XX D ad cI cJ p l e (Rm 0 0) s m args below meth c Q 2 y3.2 12 [(0, .ref (ad 94)), (1, .int y3.1)] []) (Ex := fun (q8 : Mem) => XX D ad cI cJ p l e (Rm 0 0) s m args below meth c Q 2 q8 37 [(0, .ref (ad 94))] []) (fun y3 r h hback hexit => ?_) FU _ q8 hq8 ?_
    · unfold b_Mo_undo_94_12 at h
      refine x_iload_n (pc := 12) B 1 dX12_undo_12 rfl rfl ?_
      refine x_sipush (v := 4700) (pc := 13) B dX12_undo_13 rfl ?_
      refine x_icmp_ge (tgt := 37) (pc := 16) B dX12_undo_16 rfl (fun hc4 => ?_) (fun hc4 => ?_)
      · have h := iff_ hc4 h
        refine x_pick (lv' := [(0, .ref (ad 94))]) [0] rfl ?_
        have z := hexit y3.2 (Option.some.inj h).symm
        exact z
      · have h := ift hc4 h
        refine x_aload_n (pc := 19) B 0 dX12_undo_19 rfl rfl ?_
        refine x_get (T := TX12) (pc := 20) B 1 oi_94 rfl uw_12 (by decide) rfl tw_1300 rfl dX12_undo_20 ?_
        refine x_iload_n (pc := 23) B 1 dX12_undo_23 rfl rfl ?_
        refine x_aload_n (pc := 24) B 0 dX12_undo_24 rfl rfl ?_
        refine x_get (T := TX12) (pc := 25) B 2 oi_94 rfl uw_12 (by decide) rfl tw_1301 rfl dX12_undo_25 ?_
        refine x_iload_n (pc := 28) B 1 dX12_undo_28 rfl rfl ?_
        obtain ⟨hk5, h⟩ := ifn h
        refine x_iald (pc := 29) B ai_96 hk5 dX12_undo_29 ?_
        obtain ⟨hk6, h⟩ := ifn h
        refine x_iast (pc := 30) B ai_95 hk6 dX12_undo_30 ?_
        refine jv_m (P := fun M7 => XX D ad cI cJ p l e (Rm 0 0) s m args below meth c Q 2 M7 31 [(0, .ref (ad 94)), (1, .int y3.1)] []) h (fun M7 h => ?_)
        refine x_iinc (k := 1) (v := y3.1 + 1) (lv' := [(1, .int (y3.1 + 1)), (0, .ref (ad 94))]) (pc := 31) B dX12_undo_31 rfl rfl (by decide) rfl ?_
        refine x_goto (tgt := 12) (pc := 34) B dX12_undo_34 rfl ?_
        refine x_pick (lv' := [(0, .ref (ad 94)), (1, .int (y3.1 + 1))]) [1, 0] rfl ?_
        have z := hback (y3.1 + 1, M7) (Option.some.inj h).symm
        exact z
    · refine x_aload_n (pc := 37) B 0 dX12_undo_37 rfl rfl ?_
      refine x_dup (pc := 38) B dX12_undo_38 rfl ?_
      refine x_get (T := TX12) (pc := 39) B 21 oi_94 rfl uw_12 (by decide) rfl tw_1320 rfl dX12_undo_39 ?_
      refine x_iconst (v := 1) (pc := 42) B dX12_undo_42 rfl ?_
      refine x_iadd (pc := 43) B dX12_undo_43 ?_
      refine x_put (T := TX12) (pc := 44) B 21 oi_94 of_94_21 rfl uw_12 tyX12_ok nmX12 (by decide) rfl tw_1320 rfl rfl rfl (Nat.le_of_ble_eq_true rfl) dX12_undo_44 ?_
      refine jv_m (P := fun M9 => XX D ad cI cJ p l e (Rm 0 0) s m args below meth c Q 2 M9 47 [(0, .ref (ad 94))] []) h (fun M9 h => ?_)
      refine x_aload_n (pc := 47) B 0 dX12_undo_47 rfl rfl ?_
      refine x_get (T := TX12) (pc := 48) B 1 oi_94 rfl uw_12 (by decide) rfl tw_1300 rfl dX12_undo_48 ?_
      refine x_iconst (v := 0) (pc := 51) B dX12_undo_51 rfl ?_
      refine x_iald_c (j := 0) (pc := 52) B ai_95 (by decide) rfl dX12_undo_52 ?_
      obtain rfl := Option.some.inj h
      exact x_iret (pc := 53) B hQ dX12_undo_53
  · have h := iff_ hc2 h
    refine x_bipush (v := (-3)) (pc := 7) B dX12_undo_7 rfl ?_
    obtain rfl := Option.some.inj h
    exact x_iret (pc := 9) B hQ dX12_undo_9
-- CurrentFarmsModel.count(I)I [94]
abbrev y_Mo_count_94 : MethodName := ⟨"CurrentFarmsModel", "count", "(I)I"⟩
abbrev cX12_count : ByteArray := prog_14_method_104_code
theorem dX12_count_0 : decode cX12_count 0 = .ok (.iload_n 1, 1) := by decide +kernel
theorem dX12_count_1 : decode cX12_count 1 = .ok (.tableswitch 129 0 9 #[55, 62, 69, 76, 83, 90, 97, 105, 113, 121], 55) := by decide +kernel
theorem dX12_count_56 : decode cX12_count 56 = .ok (.aload_n 0, 1) := by decide +kernel
theorem dX12_count_57 : decode cX12_count 57 = .ok (.getfield 7, 3) := by decide +kernel
theorem dX12_count_60 : decode cX12_count 60 = .ok (.iconst 1, 1) := by decide +kernel
theorem dX12_count_61 : decode cX12_count 61 = .ok (.iaload, 1) := by decide +kernel
theorem dX12_count_62 : decode cX12_count 62 = .ok (.ireturn, 1) := by decide +kernel
theorem dX12_count_63 : decode cX12_count 63 = .ok (.aload_n 0, 1) := by decide +kernel
theorem dX12_count_64 : decode cX12_count 64 = .ok (.getfield 7, 3) := by decide +kernel
theorem dX12_count_67 : decode cX12_count 67 = .ok (.iconst 2, 1) := by decide +kernel
theorem dX12_count_68 : decode cX12_count 68 = .ok (.iaload, 1) := by decide +kernel
theorem dX12_count_69 : decode cX12_count 69 = .ok (.ireturn, 1) := by decide +kernel
theorem dX12_count_70 : decode cX12_count 70 = .ok (.aload_n 0, 1) := by decide +kernel
theorem dX12_count_71 : decode cX12_count 71 = .ok (.getfield 7, 3) := by decide +kernel
theorem dX12_count_74 : decode cX12_count 74 = .ok (.iconst 3, 1) := by decide +kernel
theorem dX12_count_75 : decode cX12_count 75 = .ok (.iaload, 1) := by decide +kernel
theorem dX12_count_76 : decode cX12_count 76 = .ok (.ireturn, 1) := by decide +kernel
theorem dX12_count_77 : decode cX12_count 77 = .ok (.aload_n 0, 1) := by decide +kernel
theorem dX12_count_78 : decode cX12_count 78 = .ok (.getfield 7, 3) := by decide +kernel
theorem dX12_count_81 : decode cX12_count 81 = .ok (.iconst 0, 1) := by decide +kernel
theorem dX12_count_82 : decode cX12_count 82 = .ok (.iaload, 1) := by decide +kernel
theorem dX12_count_83 : decode cX12_count 83 = .ok (.ireturn, 1) := by decide +kernel
theorem dX12_count_84 : decode cX12_count 84 = .ok (.aload_n 0, 1) := by decide +kernel
theorem dX12_count_85 : decode cX12_count 85 = .ok (.getfield 7, 3) := by decide +kernel
theorem dX12_count_88 : decode cX12_count 88 = .ok (.iconst 4, 1) := by decide +kernel
theorem dX12_count_89 : decode cX12_count 89 = .ok (.iaload, 1) := by decide +kernel
theorem dX12_count_90 : decode cX12_count 90 = .ok (.ireturn, 1) := by decide +kernel
theorem dX12_count_91 : decode cX12_count 91 = .ok (.aload_n 0, 1) := by decide +kernel
theorem dX12_count_92 : decode cX12_count 92 = .ok (.getfield 7, 3) := by decide +kernel
theorem dX12_count_95 : decode cX12_count 95 = .ok (.iconst 5, 1) := by decide +kernel
theorem dX12_count_96 : decode cX12_count 96 = .ok (.iaload, 1) := by decide +kernel
theorem dX12_count_97 : decode cX12_count 97 = .ok (.ireturn, 1) := by decide +kernel
theorem dX12_count_98 : decode cX12_count 98 = .ok (.aload_n 0, 1) := by decide +kernel
theorem dX12_count_99 : decode cX12_count 99 = .ok (.getfield 7, 3) := by decide +kernel
theorem dX12_count_102 : decode cX12_count 102 = .ok (.bipush 6, 2) := by decide +kernel
theorem dX12_count_104 : decode cX12_count 104 = .ok (.iaload, 1) := by decide +kernel
theorem dX12_count_105 : decode cX12_count 105 = .ok (.ireturn, 1) := by decide +kernel
theorem dX12_count_106 : decode cX12_count 106 = .ok (.aload_n 0, 1) := by decide +kernel
theorem dX12_count_107 : decode cX12_count 107 = .ok (.getfield 7, 3) := by decide +kernel
theorem dX12_count_110 : decode cX12_count 110 = .ok (.bipush 7, 2) := by decide +kernel
theorem dX12_count_112 : decode cX12_count 112 = .ok (.iaload, 1) := by decide +kernel
theorem dX12_count_113 : decode cX12_count 113 = .ok (.ireturn, 1) := by decide +kernel
theorem dX12_count_114 : decode cX12_count 114 = .ok (.aload_n 0, 1) := by decide +kernel
theorem dX12_count_115 : decode cX12_count 115 = .ok (.getfield 7, 3) := by decide +kernel
theorem dX12_count_118 : decode cX12_count 118 = .ok (.bipush 8, 2) := by decide +kernel
theorem dX12_count_120 : decode cX12_count 120 = .ok (.iaload, 1) := by decide +kernel
theorem dX12_count_121 : decode cX12_count 121 = .ok (.ireturn, 1) := by decide +kernel
theorem dX12_count_122 : decode cX12_count 122 = .ok (.aload_n 0, 1) := by decide +kernel
theorem dX12_count_123 : decode cX12_count 123 = .ok (.getfield 7, 3) := by decide +kernel
theorem dX12_count_126 : decode cX12_count 126 = .ok (.bipush 9, 2) := by decide +kernel
theorem dX12_count_128 : decode cX12_count 128 = .ok (.iaload, 1) := by decide +kernel
theorem dX12_count_129 : decode cX12_count 129 = .ok (.ireturn, 1) := by decide +kernel
theorem dX12_count_130 : decode cX12_count 130 = .ok (.iconst (-1), 1) := by decide +kernel
theorem dX12_count_131 : decode cX12_count 131 = .ok (.ireturn, 1) := by decide +kernel
theorem hd_Mo_count_94 : y_Mo_count_94.cls ≠ "java/lang/invoke/MethodHandle" ∧ y_Mo_count_94.cls ≠ "java/lang/invoke/VarHandle" ∧ (parseMethodDescriptor y_Mo_count_94.desc).map (fun d => d.parameters.length) = some 1 := by decide +kernel
def f_Mo_count_94 (a1 : Int32) (M0 : Mem) : Option (Int32) :=
  if decide (a1 = 0) then (some (M0.1 95 1)) else (if decide (a1 = 1) then (some (M0.1 95 2)) else (if decide (a1 = 2) then (some (M0.1 95 3)) else (if decide (a1 = 3) then (some (M0.1 95 0)) else (if decide (a1 = 4) then (some (M0.1 95 4)) else (if decide (a1 = 5) then (some (M0.1 95 5)) else (if decide (a1 = 6) then (some (M0.1 95 6)) else (if decide (a1 = 7) then (some (M0.1 95 7)) else (if decide (a1 = 8) then (some (M0.1 95 8)) else (if decide (a1 = 9) then (some (M0.1 95 9)) else (some (-1)))))))))))
set_option maxHeartbeats 4000000 in
set_option maxRecDepth 20000 in
theorem C_Mo_count_94 {D : va_G} {ad adK adV : Nat → Nat} {cI cJ : ClassId} {l : Launch} (a1 : Int32) (M0 : Mem) (o : Int32) (h : f_Mo_count_94 a1 M0 = some o) : Ct D ad adK adV cI cJ l y_Mo_count_94 cX12_count 2 (some .int) 0 0 [.ref (ad 94), .int a1] M0 (some (.int o)) M0 := by
  refine x_start (lv := [(0, .ref (ad 94)), (1, .int a1)]) (own := "CurrentFarmsModel") rfl (by decide) (Nat.le_of_ble_eq_true rfl) rfl ?_
  intro p e s m args below meth c Q hQ B
  unfold f_Mo_count_94 at h
  refine x_iload_n (pc := 0) B 1 dX12_count_0 rfl rfl ?_
  rcases bcase (decide (a1 = 0)) with hc1 | hc1
  · have h := ift hc1 h
    refine x_tableIn (cv := 0) (tgt := 56) (pc := 1) B dX12_count_1 (of_decide_eq_true hc1) (by decide) (by decide) rfl rfl ?_
    refine x_aload_n (pc := 56) B 0 dX12_count_56 rfl rfl ?_
    refine x_get (T := TX12) (pc := 57) B 1 oi_94 rfl uw_12 (by decide) rfl tw_1300 rfl dX12_count_57 ?_
    refine x_iconst (v := 1) (pc := 60) B dX12_count_60 rfl ?_
    refine x_iald_c (j := 1) (pc := 61) B ai_95 (by decide) rfl dX12_count_61 ?_
    obtain rfl := Option.some.inj h
    exact x_iret (pc := 62) B hQ dX12_count_62
  · have h := iff_ hc1 h
    rcases bcase (decide (a1 = 1)) with hc2 | hc2
    · have h := ift hc2 h
      refine x_tableIn (cv := 1) (tgt := 63) (pc := 1) B dX12_count_1 (of_decide_eq_true hc2) (by decide) (by decide) rfl rfl ?_
      refine x_aload_n (pc := 63) B 0 dX12_count_63 rfl rfl ?_
      refine x_get (T := TX12) (pc := 64) B 1 oi_94 rfl uw_12 (by decide) rfl tw_1300 rfl dX12_count_64 ?_
      refine x_iconst (v := 2) (pc := 67) B dX12_count_67 rfl ?_
      refine x_iald_c (j := 2) (pc := 68) B ai_95 (by decide) rfl dX12_count_68 ?_
      obtain rfl := Option.some.inj h
      exact x_iret (pc := 69) B hQ dX12_count_69
    · have h := iff_ hc2 h
      rcases bcase (decide (a1 = 2)) with hc3 | hc3
      · have h := ift hc3 h
        refine x_tableIn (cv := 2) (tgt := 70) (pc := 1) B dX12_count_1 (of_decide_eq_true hc3) (by decide) (by decide) rfl rfl ?_
        refine x_aload_n (pc := 70) B 0 dX12_count_70 rfl rfl ?_
        refine x_get (T := TX12) (pc := 71) B 1 oi_94 rfl uw_12 (by decide) rfl tw_1300 rfl dX12_count_71 ?_
        refine x_iconst (v := 3) (pc := 74) B dX12_count_74 rfl ?_
        refine x_iald_c (j := 3) (pc := 75) B ai_95 (by decide) rfl dX12_count_75 ?_
        obtain rfl := Option.some.inj h
        exact x_iret (pc := 76) B hQ dX12_count_76
      · have h := iff_ hc3 h
        rcases bcase (decide (a1 = 3)) with hc4 | hc4
        · have h := ift hc4 h
          refine x_tableIn (cv := 3) (tgt := 77) (pc := 1) B dX12_count_1 (of_decide_eq_true hc4) (by decide) (by decide) rfl rfl ?_
          refine x_aload_n (pc := 77) B 0 dX12_count_77 rfl rfl ?_
          refine x_get (T := TX12) (pc := 78) B 1 oi_94 rfl uw_12 (by decide) rfl tw_1300 rfl dX12_count_78 ?_
          refine x_iconst (v := 0) (pc := 81) B dX12_count_81 rfl ?_
          refine x_iald_c (j := 0) (pc := 82) B ai_95 (by decide) rfl dX12_count_82 ?_
          obtain rfl := Option.some.inj h
          exact x_iret (pc := 83) B hQ dX12_count_83
        · have h := iff_ hc4 h
          rcases bcase (decide (a1 = 4)) with hc5 | hc5
          · have h := ift hc5 h
            refine x_tableIn (cv := 4) (tgt := 84) (pc := 1) B dX12_count_1 (of_decide_eq_true hc5) (by decide) (by decide) rfl rfl ?_
            refine x_aload_n (pc := 84) B 0 dX12_count_84 rfl rfl ?_
            refine x_get (T := TX12) (pc := 85) B 1 oi_94 rfl uw_12 (by decide) rfl tw_1300 rfl dX12_count_85 ?_
            refine x_iconst (v := 4) (pc := 88) B dX12_count_88 rfl ?_
            refine x_iald_c (j := 4) (pc := 89) B ai_95 (by decide) rfl dX12_count_89 ?_
            obtain rfl := Option.some.inj h
            exact x_iret (pc := 90) B hQ dX12_count_90
          · have h := iff_ hc5 h
            rcases bcase (decide (a1 = 5)) with hc6 | hc6
            · have h := ift hc6 h
              refine x_tableIn (cv := 5) (tgt := 91) (pc := 1) B dX12_count_1 (of_decide_eq_true hc6) (by decide) (by decide) rfl rfl ?_
              refine x_aload_n (pc := 91) B 0 dX12_count_91 rfl rfl ?_
              refine x_get (T := TX12) (pc := 92) B 1 oi_94 rfl uw_12 (by decide) rfl tw_1300 rfl dX12_count_92 ?_
              refine x_iconst (v := 5) (pc := 95) B dX12_count_95 rfl ?_
              refine x_iald_c (j := 5) (pc := 96) B ai_95 (by decide) rfl dX12_count_96 ?_
              obtain rfl := Option.some.inj h
              exact x_iret (pc := 97) B hQ dX12_count_97
            · have h := iff_ hc6 h
              rcases bcase (decide (a1 = 6)) with hc7 | hc7
              · have h := ift hc7 h
                refine x_tableIn (cv := 6) (tgt := 98) (pc := 1) B dX12_count_1 (of_decide_eq_true hc7) (by decide) (by decide) rfl rfl ?_
                refine x_aload_n (pc := 98) B 0 dX12_count_98 rfl rfl ?_
                refine x_get (T := TX12) (pc := 99) B 1 oi_94 rfl uw_12 (by decide) rfl tw_1300 rfl dX12_count_99 ?_
                refine x_bipush (v := 6) (pc := 102) B dX12_count_102 rfl ?_
                refine x_iald_c (j := 6) (pc := 104) B ai_95 (by decide) rfl dX12_count_104 ?_
                obtain rfl := Option.some.inj h
                exact x_iret (pc := 105) B hQ dX12_count_105
              · have h := iff_ hc7 h
                rcases bcase (decide (a1 = 7)) with hc8 | hc8
                · have h := ift hc8 h
                  refine x_tableIn (cv := 7) (tgt := 106) (pc := 1) B dX12_count_1 (of_decide_eq_true hc8) (by decide) (by decide) rfl rfl ?_
                  refine x_aload_n (pc := 106) B 0 dX12_count_106 rfl rfl ?_
                  refine x_get (T := TX12) (pc := 107) B 1 oi_94 rfl uw_12 (by decide) rfl tw_1300 rfl dX12_count_107 ?_
                  refine x_bipush (v := 7) (pc := 110) B dX12_count_110 rfl ?_
                  refine x_iald_c (j := 7) (pc := 112) B ai_95 (by decide) rfl dX12_count_112 ?_
                  obtain rfl := Option.some.inj h
                  exact x_iret (pc := 113) B hQ dX12_count_113
                · have h := iff_ hc8 h
                  rcases bcase (decide (a1 = 8)) with hc9 | hc9
                  · have h := ift hc9 h
                    refine x_tableIn (cv := 8) (tgt := 114) (pc := 1) B dX12_count_1 (of_decide_eq_true hc9) (by decide) (by decide) rfl rfl ?_
                    refine x_aload_n (pc := 114) B 0 dX12_count_114 rfl rfl ?_
                    refine x_get (T := TX12) (pc := 115) B 1 oi_94 rfl uw_12 (by decide) rfl tw_1300 rfl dX12_count_115 ?_
                    refine x_bipush (v := 8) (pc := 118) B dX12_count_118 rfl ?_
                    refine x_iald_c (j := 8) (pc := 120) B ai_95 (by decide) rfl dX12_count_120 ?_
                    obtain rfl := Option.some.inj h
                    exact x_iret (pc := 121) B hQ dX12_count_121
                  · have h := iff_ hc9 h
                    rcases bcase (decide (a1 = 9)) with hc10 | hc10
                    · have h := ift hc10 h
                      refine x_tableIn (cv := 9) (tgt := 122) (pc := 1) B dX12_count_1 (of_decide_eq_true hc10) (by decide) (by decide) rfl rfl ?_
                      refine x_aload_n (pc := 122) B 0 dX12_count_122 rfl rfl ?_
                      refine x_get (T := TX12) (pc := 123) B 1 oi_94 rfl uw_12 (by decide) rfl tw_1300 rfl dX12_count_123 ?_
                      refine x_bipush (v := 9) (pc := 126) B dX12_count_126 rfl ?_
                      refine x_iald_c (j := 9) (pc := 128) B ai_95 (by decide) rfl dX12_count_128 ?_
                      obtain rfl := Option.some.inj h
                      exact x_iret (pc := 129) B hQ dX12_count_129
                    · have h := iff_ hc10 h
                      have e0 : ¬ a1.toInt = 0 := fun q => (of_decide_eq_false hc1) (Int32.toInt_inj.mp (q.trans (by decide : (0 : Int) = (0 : Int32).toInt)))
                      have e1 : ¬ a1.toInt = 1 := fun q => (of_decide_eq_false hc2) (Int32.toInt_inj.mp (q.trans (by decide : (1 : Int) = (1 : Int32).toInt)))
                      have e2 : ¬ a1.toInt = 2 := fun q => (of_decide_eq_false hc3) (Int32.toInt_inj.mp (q.trans (by decide : (2 : Int) = (2 : Int32).toInt)))
                      have e3 : ¬ a1.toInt = 3 := fun q => (of_decide_eq_false hc4) (Int32.toInt_inj.mp (q.trans (by decide : (3 : Int) = (3 : Int32).toInt)))
                      have e4 : ¬ a1.toInt = 4 := fun q => (of_decide_eq_false hc5) (Int32.toInt_inj.mp (q.trans (by decide : (4 : Int) = (4 : Int32).toInt)))
                      have e5 : ¬ a1.toInt = 5 := fun q => (of_decide_eq_false hc6) (Int32.toInt_inj.mp (q.trans (by decide : (5 : Int) = (5 : Int32).toInt)))
                      have e6 : ¬ a1.toInt = 6 := fun q => (of_decide_eq_false hc7) (Int32.toInt_inj.mp (q.trans (by decide : (6 : Int) = (6 : Int32).toInt)))
                      have e7 : ¬ a1.toInt = 7 := fun q => (of_decide_eq_false hc8) (Int32.toInt_inj.mp (q.trans (by decide : (7 : Int) = (7 : Int32).toInt)))
                      have e8 : ¬ a1.toInt = 8 := fun q => (of_decide_eq_false hc9) (Int32.toInt_inj.mp (q.trans (by decide : (8 : Int) = (8 : Int32).toInt)))
                      have e9 : ¬ a1.toInt = 9 := fun q => (of_decide_eq_false hc10) (Int32.toInt_inj.mp (q.trans (by decide : (9 : Int) = (9 : Int32).toInt)))
                      refine x_tableOut (tgt := 130) (pc := 1) B dX12_count_1 (by omega) rfl ?_
                      refine x_iconst (v := (-1)) (pc := 130) B dX12_count_130 rfl ?_
                      obtain rfl := Option.some.inj h
                      exact x_iret (pc := 131) B hQ dX12_count_131
