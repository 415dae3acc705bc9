-- CurrentFarmsModel.leads(I)V [94]
abbrev y_Mo_leads_94 : MethodName := ⟨"CurrentFarmsModel", "leads", "(I)V"⟩
abbrev cX12_leads : ByteArray := prog_14_method_67_code
theorem dX12_leads_0 : decode cX12_leads 0 = .ok (.aload_n 0, 1) := by decide +kernel
theorem dX12_leads_1 : decode cX12_leads 1 = .ok (.invokevirtual 269, 3) := by decide +kernel
theorem dX12_leads_4 : decode cX12_leads 4 = .ok (.aload_n 0, 1) := by decide +kernel
theorem dX12_leads_5 : decode cX12_leads 5 = .ok (.iconst 1, 1) := by decide +kernel
theorem dX12_leads_6 : decode cX12_leads 6 = .ok (.putfield 272, 3) := by decide +kernel
theorem dX12_leads_9 : decode cX12_leads 9 = .ok (.aload_n 0, 1) := by decide +kernel
theorem dX12_leads_10 : decode cX12_leads 10 = .ok (.getfield 37, 3) := by decide +kernel
theorem dX12_leads_13 : decode cX12_leads 13 = .ok (.iconst 0, 1) := by decide +kernel
theorem dX12_leads_14 : decode cX12_leads 14 = .ok (.iload_n 1, 1) := by decide +kernel
theorem dX12_leads_15 : decode cX12_leads 15 = .ok (.iastore, 1) := by decide +kernel
theorem dX12_leads_16 : decode cX12_leads 16 = .ok (.aload_n 0, 1) := by decide +kernel
theorem dX12_leads_17 : decode cX12_leads 17 = .ok (.getfield 34, 3) := by decide +kernel
theorem dX12_leads_20 : decode cX12_leads 20 = .ok (.iload_n 1, 1) := by decide +kernel
theorem dX12_leads_21 : decode cX12_leads 21 = .ok (.iaload, 1) := by decide +kernel
theorem dX12_leads_22 : decode cX12_leads 22 = .ok (.iconst (-1), 1) := by decide +kernel
theorem dX12_leads_23 : decode cX12_leads 23 = .ok (.if_icmp .eq 116, 3) := by decide +kernel
theorem dX12_leads_26 : decode cX12_leads 26 = .ok (.aload_n 0, 1) := by decide +kernel
theorem dX12_leads_27 : decode cX12_leads 27 = .ok (.getfield 34, 3) := by decide +kernel
theorem dX12_leads_30 : decode cX12_leads 30 = .ok (.aload_n 0, 1) := by decide +kernel
theorem dX12_leads_31 : decode cX12_leads 31 = .ok (.getfield 37, 3) := by decide +kernel
theorem dX12_leads_34 : decode cX12_leads 34 = .ok (.aload_n 0, 1) := by decide +kernel
theorem dX12_leads_35 : decode cX12_leads 35 = .ok (.getfield 272, 3) := by decide +kernel
theorem dX12_leads_38 : decode cX12_leads 38 = .ok (.iconst 1, 1) := by decide +kernel
theorem dX12_leads_39 : decode cX12_leads 39 = .ok (.isub, 1) := by decide +kernel
theorem dX12_leads_40 : decode cX12_leads 40 = .ok (.iaload, 1) := by decide +kernel
theorem dX12_leads_41 : decode cX12_leads 41 = .ok (.iaload, 1) := by decide +kernel
theorem dX12_leads_42 : decode cX12_leads 42 = .ok (.ifCond .le 97, 3) := by decide +kernel
theorem dX12_leads_45 : decode cX12_leads 45 = .ok (.aload_n 0, 1) := by decide +kernel
theorem dX12_leads_46 : decode cX12_leads 46 = .ok (.getfield 37, 3) := by decide +kernel
theorem dX12_leads_49 : decode cX12_leads 49 = .ok (.aload_n 0, 1) := by decide +kernel
theorem dX12_leads_50 : decode cX12_leads 50 = .ok (.getfield 272, 3) := by decide +kernel
theorem dX12_leads_53 : decode cX12_leads 53 = .ok (.iconst 1, 1) := by decide +kernel
theorem dX12_leads_54 : decode cX12_leads 54 = .ok (.isub, 1) := by decide +kernel
theorem dX12_leads_55 : decode cX12_leads 55 = .ok (.iaload, 1) := by decide +kernel
theorem dX12_leads_56 : decode cX12_leads 56 = .ok (.istore_n 2, 1) := by decide +kernel
theorem dX12_leads_57 : decode cX12_leads 57 = .ok (.iconst 0, 1) := by decide +kernel
theorem dX12_leads_58 : decode cX12_leads 58 = .ok (.istore_n 3, 1) := by decide +kernel
theorem dX12_leads_59 : decode cX12_leads 59 = .ok (.iload_n 2, 1) := by decide +kernel
theorem dX12_leads_60 : decode cX12_leads 60 = .ok (.iload_n 3, 1) := by decide +kernel
theorem dX12_leads_61 : decode cX12_leads 61 = .ok (.invokestatic 102, 3) := by decide +kernel
theorem dX12_leads_64 : decode cX12_leads 64 = .ok (.ifCond .eq 46, 3) := by decide +kernel
theorem dX12_leads_67 : decode cX12_leads 67 = .ok (.aload_n 0, 1) := by decide +kernel
theorem dX12_leads_68 : decode cX12_leads 68 = .ok (.getfield 34, 3) := by decide +kernel
theorem dX12_leads_71 : decode cX12_leads 71 = .ok (.iload_n 3, 1) := by decide +kernel
theorem dX12_leads_72 : decode cX12_leads 72 = .ok (.iaload, 1) := by decide +kernel
theorem dX12_leads_73 : decode cX12_leads 73 = .ok (.iconst (-1), 1) := by decide +kernel
theorem dX12_leads_74 : decode cX12_leads 74 = .ok (.if_icmp .eq 36, 3) := by decide +kernel
theorem dX12_leads_77 : decode cX12_leads 77 = .ok (.aload_n 0, 1) := by decide +kernel
theorem dX12_leads_78 : decode cX12_leads 78 = .ok (.iload_n 2, 1) := by decide +kernel
theorem dX12_leads_79 : decode cX12_leads 79 = .ok (.iload_n 3, 1) := by decide +kernel
theorem dX12_leads_80 : decode cX12_leads 80 = .ok (.invokevirtual 106, 3) := by decide +kernel
theorem dX12_leads_83 : decode cX12_leads 83 = .ok (.bipush (-5), 2) := by decide +kernel
theorem dX12_leads_85 : decode cX12_leads 85 = .ok (.if_icmp .eq 25, 3) := by decide +kernel
theorem dX12_leads_88 : decode cX12_leads 88 = .ok (.aload_n 0, 1) := by decide +kernel
theorem dX12_leads_89 : decode cX12_leads 89 = .ok (.getfield 34, 3) := by decide +kernel
theorem dX12_leads_92 : decode cX12_leads 92 = .ok (.iload_n 3, 1) := by decide +kernel
theorem dX12_leads_93 : decode cX12_leads 93 = .ok (.iaload, 1) := by decide +kernel
theorem dX12_leads_94 : decode cX12_leads 94 = .ok (.aload_n 0, 1) := by decide +kernel
theorem dX12_leads_95 : decode cX12_leads 95 = .ok (.iload_n 2, 1) := by decide +kernel
theorem dX12_leads_96 : decode cX12_leads 96 = .ok (.iload_n 3, 1) := by decide +kernel
theorem dX12_leads_97 : decode cX12_leads 97 = .ok (.invokevirtual 106, 3) := by decide +kernel
theorem dX12_leads_100 : decode cX12_leads 100 = .ok (.iadd, 1) := by decide +kernel
theorem dX12_leads_101 : decode cX12_leads 101 = .ok (.aload_n 0, 1) := by decide +kernel
theorem dX12_leads_102 : decode cX12_leads 102 = .ok (.getfield 34, 3) := by decide +kernel
theorem dX12_leads_105 : decode cX12_leads 105 = .ok (.iload_n 2, 1) := by decide +kernel
theorem dX12_leads_106 : decode cX12_leads 106 = .ok (.iaload, 1) := by decide +kernel
theorem dX12_leads_107 : decode cX12_leads 107 = .ok (.if_icmp .eq 9, 3) := by decide +kernel
theorem dX12_leads_110 : decode cX12_leads 110 = .ok (.iinc 3 1, 3) := by decide +kernel
theorem dX12_leads_113 : decode cX12_leads 113 = .ok (.goto (-54), 3) := by decide +kernel
theorem dX12_leads_116 : decode cX12_leads 116 = .ok (.aload_n 0, 1) := by decide +kernel
theorem dX12_leads_117 : decode cX12_leads 117 = .ok (.getfield 37, 3) := by decide +kernel
theorem dX12_leads_120 : decode cX12_leads 120 = .ok (.aload_n 0, 1) := by decide +kernel
theorem dX12_leads_121 : decode cX12_leads 121 = .ok (.getfield 272, 3) := by decide +kernel
theorem dX12_leads_124 : decode cX12_leads 124 = .ok (.iload_n 3, 1) := by decide +kernel
theorem dX12_leads_125 : decode cX12_leads 125 = .ok (.iastore, 1) := by decide +kernel
theorem dX12_leads_126 : decode cX12_leads 126 = .ok (.aload_n 0, 1) := by decide +kernel
theorem dX12_leads_127 : decode cX12_leads 127 = .ok (.dup, 1) := by decide +kernel
theorem dX12_leads_128 : decode cX12_leads 128 = .ok (.getfield 272, 3) := by decide +kernel
theorem dX12_leads_131 : decode cX12_leads 131 = .ok (.iconst 1, 1) := by decide +kernel
theorem dX12_leads_132 : decode cX12_leads 132 = .ok (.iadd, 1) := by decide +kernel
theorem dX12_leads_133 : decode cX12_leads 133 = .ok (.putfield 272, 3) := by decide +kernel
theorem dX12_leads_136 : decode cX12_leads 136 = .ok (.goto (-120), 3) := by decide +kernel
theorem dX12_leads_139 : decode cX12_leads 139 = .ok (.return_, 1) := by decide +kernel
theorem hd_Mo_leads_94 : y_Mo_leads_94.cls ≠ "java/lang/invoke/MethodHandle" ∧ y_Mo_leads_94.cls ≠ "java/lang/invoke/VarHandle" ∧ (parseMethodDescriptor y_Mo_leads_94.desc).map (fun d => d.parameters.length) = some 1 := by decide +kernel
def b_Mo_leads_94_59 (y4 : Mem) (y11 : Int32) : Option ((Int32) ⊕ (Int32)) :=
  (f_Mo_areBeside (y4.1 104 ((y4.1 94 15) - 1).toNatClampNeg) y11).bind fun q12 => if q12 then (if inb y11 48 then if decide ((y4.1 103 y11.toNatClampNeg) = (-1)) then (some (.inl (y11 + 1))) else ((f_Mo_costOf_94 (y4.1 104 ((y4.1 94 15) - 1).toNatClampNeg) y11 y4).bind fun q16 => if decide (q16 = (-5)) then (some (.inl (y11 + 1))) else (if inb y11 48 then (f_Mo_costOf_94 (y4.1 104 ((y4.1 94 15) - 1).toNatClampNeg) y11 y4).bind fun q19 => if inb (y4.1 104 ((y4.1 94 15) - 1).toNatClampNeg) 48 then if decide (((y4.1 103 y11.toNatClampNeg) + q19) = (y4.1 103 (y4.1 104 ((y4.1 94 15) - 1).toNatClampNeg).toNatClampNeg)) then (some (.inr y11)) else (some (.inl (y11 + 1))) else none else none)) else none) else (some (.inl (y11 + 1)))
def b_Mo_leads_94_16 (a1 : Int32) (y4 : Mem) : Option ((Mem) ⊕ (Mem)) :=
  if inb a1 48 then if decide ((y4.1 103 a1.toNatClampNeg) = (-1)) then (some (.inr y4)) else (if inb ((y4.1 94 15) - 1) 48 then if inb (y4.1 104 ((y4.1 94 15) - 1).toNatClampNeg) 48 then if decide ((y4.1 103 (y4.1 104 ((y4.1 94 15) - 1).toNatClampNeg).toNatClampNeg) ≤ 0) then (some (.inr y4)) else (if inb ((y4.1 94 15) - 1) 48 then (itr (b_Mo_leads_94_59 y4) FU 0).bind fun q22 => if inb (y4.1 94 15) 48 then jv_ (wI y4 104 (y4.1 94 15).toNatClampNeg q22) fun M24 => jv_ (wI M24 94 15 ((M24.1 94 15) + 1)) fun M25 => some (.inl M25) else none else none) else none else none) else none
def f_Mo_leads_94 (a1 : Int32) (M0 : Mem) : Option (Mem) :=
  (f_Mo_works_94 M0).bind fun q1 => jv_ (wI q1 94 15 1) fun M2 => jv_ (wI M2 104 0 a1) fun M3 => (itr (b_Mo_leads_94_16 a1) FU M3).bind fun q26 => some q26
set_option maxHeartbeats 4000000 in
set_option maxRecDepth 20000 in
theorem C_Mo_leads_94 {D : va_G} {ad adK adV : Nat → Nat} {cI cJ : ClassId} {l : Launch} (a1 : Int32) (M0 : Mem) (o : Mem) (h : f_Mo_leads_94 a1 M0 = some o) : Ct D ad adK adV cI cJ l y_Mo_leads_94 cX12_leads 4 none 3 67 [.ref (ad 94), .int a1] M0 none o := by
  refine x_start (lv := [(0, .ref (ad 94)), (1, .int a1)]) (own := "CurrentFarmsModel") rfl (by decide) (Nat.le_of_ble_eq_true rfl) rfl ?_
  intro p e s m args below meth c Q hQ B
  unfold f_Mo_leads_94 at h
  refine x_aload_n (pc := 0) B 0 dX12_leads_0 rfl rfl ?_
  obtain ⟨q1, hq1, h⟩ := bnd h
  refine x_callV (rest := []) (st' := []) (pc := 1) B oi_94 rfl (C_Mo_works_94  M0 _ hq1) tw_1689 tw_1686 tw_1688 tw_83 tw_111 hd_Mo_works_94 ⟨Nat.le_of_ble_eq_true rfl, Nat.le_of_ble_eq_true rfl⟩ rfl rfl (Nat.le_of_ble_eq_true rfl) rfl dX12_leads_1 ?_
  refine x_aload_n (pc := 4) B 0 dX12_leads_4 rfl rfl ?_
  refine x_iconst (v := 1) (pc := 5) B dX12_leads_5 rfl ?_
  refine x_put (T := TX12) (pc := 6) B 15 oi_94 of_94_15 rfl uw_12 tyX12_ok nmX12 (by decide) rfl tw_1314 rfl rfl rfl (Nat.le_of_ble_eq_true rfl) dX12_leads_6 ?_
  refine jv_m (P := fun M2 => XX D ad cI cJ p l e (Rm 3 67) s m args below meth c Q 4 M2 9 [(0, .ref (ad 94)), (1, .int a1)] []) h (fun M2 h => ?_)
  refine x_aload_n (pc := 9) B 0 dX12_leads_9 rfl rfl ?_
  refine x_get (T := TX12) (pc := 10) B 14 oi_94 rfl uw_12 (by decide) rfl tw_1313 rfl dX12_leads_10 ?_
  refine x_iconst (v := 0) (pc := 13) B dX12_leads_13 rfl ?_
  refine x_iload_n (pc := 14) B 1 dX12_leads_14 rfl rfl ?_
  refine x_iast_c (j := 0) (pc := 15) B ai_104 (by decide) rfl dX12_leads_15 ?_
  refine jv_m (P := fun M3 => XX D ad cI cJ p l e (Rm 3 67) s m args below meth c Q 4 M3 16 [(0, .ref (ad 94)), (1, .int a1)] []) h (fun M3 h => ?_)
  obtain ⟨q26, hq26, h⟩ := bnd h
  refine x_loop (Head := fun (y4 : Mem) => XX D ad cI cJ p l e (Rm 3 67) s m args below meth c Q 4 y4 16 [(0, .ref (ad 94)), (1, .int a1)] []) (Ex := fun (q26 : Mem) => XX D ad cI cJ p l e (Rm 3 67) s m args below meth c Q 4 q26 139 [] []) (fun y4 r h hback hexit => ?_) FU _ q26 hq26 ?_
  · unfold b_Mo_leads_94_16 at h
    refine x_aload_n (pc := 16) B 0 dX12_leads_16 rfl rfl ?_
    refine x_get (T := TX12) (pc := 17) B 13 oi_94 rfl uw_12 (by decide) rfl tw_1312 rfl dX12_leads_17 ?_
    refine x_iload_n (pc := 20) B 1 dX12_leads_20 rfl rfl ?_
    obtain ⟨hk5, h⟩ := ifn h
    refine x_iald (pc := 21) B ai_103 hk5 dX12_leads_21 ?_
    refine x_iconst (v := (-1)) (pc := 22) B dX12_leads_22 rfl ?_
    refine x_icmp_eq (tgt := 139) (pc := 23) B dX12_leads_23 rfl (fun hc6 => ?_) (fun hc6 => ?_)
    · have h := ift hc6 h
      refine x_pick (lv' := []) [] rfl ?_
      have z := hexit y4 (Option.some.inj h).symm
      exact z
    · have h := iff_ hc6 h
      refine x_aload_n (pc := 26) B 0 dX12_leads_26 rfl rfl ?_
      refine x_get (T := TX12) (pc := 27) B 13 oi_94 rfl uw_12 (by decide) rfl tw_1312 rfl dX12_leads_27 ?_
      refine x_aload_n (pc := 30) B 0 dX12_leads_30 rfl rfl ?_
      refine x_get (T := TX12) (pc := 31) B 14 oi_94 rfl uw_12 (by decide) rfl tw_1313 rfl dX12_leads_31 ?_
      refine x_aload_n (pc := 34) B 0 dX12_leads_34 rfl rfl ?_
      refine x_get (T := TX12) (pc := 35) B 15 oi_94 rfl uw_12 (by decide) rfl tw_1314 rfl dX12_leads_35 ?_
      refine x_iconst (v := 1) (pc := 38) B dX12_leads_38 rfl ?_
      refine x_isub (pc := 39) B dX12_leads_39 ?_
      obtain ⟨hk7, h⟩ := ifn h
      refine x_iald (pc := 40) B ai_104 hk7 dX12_leads_40 ?_
      obtain ⟨hk8, h⟩ := ifn h
      refine x_iald (pc := 41) B ai_103 hk8 dX12_leads_41 ?_
      refine x_if_le (tgt := 139) (pc := 42) B dX12_leads_42 rfl (fun hc9 => ?_) (fun hc9 => ?_)
      · have h := ift hc9 h
        refine x_pick (lv' := []) [] rfl ?_
        have z := hexit y4 (Option.some.inj h).symm
        exact z
      · have h := iff_ hc9 h
        refine x_aload_n (pc := 45) B 0 dX12_leads_45 rfl rfl ?_
        refine x_get (T := TX12) (pc := 46) B 14 oi_94 rfl uw_12 (by decide) rfl tw_1313 rfl dX12_leads_46 ?_
        refine x_aload_n (pc := 49) B 0 dX12_leads_49 rfl rfl ?_
        refine x_get (T := TX12) (pc := 50) B 15 oi_94 rfl uw_12 (by decide) rfl tw_1314 rfl dX12_leads_50 ?_
        refine x_iconst (v := 1) (pc := 53) B dX12_leads_53 rfl ?_
        refine x_isub (pc := 54) B dX12_leads_54 ?_
        obtain ⟨hk10, h⟩ := ifn h
        refine x_iald (pc := 55) B ai_104 hk10 dX12_leads_55 ?_
        refine x_istore_n (lv' := [(2, .int (y4.1 104 ((y4.1 94 15) - 1).toNatClampNeg)), (0, .ref (ad 94)), (1, .int a1)]) (pc := 56) B dX12_leads_56 rfl (by decide) rfl ?_
        refine x_iconst (v := 0) (pc := 57) B dX12_leads_57 rfl ?_
        refine x_istore_n (lv' := [(3, .int 0), (2, .int (y4.1 104 ((y4.1 94 15) - 1).toNatClampNeg)), (0, .ref (ad 94)), (1, .int a1)]) (pc := 58) B dX12_leads_58 rfl (by decide) rfl ?_
        refine x_pick (lv' := [(0, .ref (ad 94)), (1, .int a1), (2, .int (y4.1 104 ((y4.1 94 15) - 1).toNatClampNeg)), (3, .int 0)]) [2, 3, 1, 0] rfl ?_
        obtain ⟨q22, hq22, h⟩ := bnd h
        refine x_loop (Head := fun (y11 : Int32) => XX D ad cI cJ p l e (Rm 3 67) s m args below meth c Q 4 y4 59 [(0, .ref (ad 94)), (1, .int a1), (2, .int (y4.1 104 ((y4.1 94 15) - 1).toNatClampNeg)), (3, .int y11)] []) (Ex := fun (q22 : Int32) => XX D ad cI cJ p l e (Rm 3 67) s m args below meth c Q 4 y4 116 [(0, .ref (ad 94)), (1, .int a1), (3, .int q22)] []) (fun y11 r h hback hexit => ?_) FU _ q22 hq22 ?_
        · unfold b_Mo_leads_94_59 at h
          refine x_iload_n (pc := 59) B 2 dX12_leads_59 rfl rfl ?_
          refine x_iload_n (pc := 60) B 3 dX12_leads_60 rfl rfl ?_
          obtain ⟨q12, hq12, h⟩ := bnd h
          refine x_callS (rest := []) (st' := [.int (bI q12)]) (pc := 61) B (C_Mo_areBeside (y4.1 104 ((y4.1 94 15) - 1).toNatClampNeg) y11 y4 _ hq12) tw_1417 tw_1415 tw_1416 tw_111 hd_Mo_areBeside ⟨Nat.le_of_ble_eq_true rfl, Nat.le_of_ble_eq_true rfl⟩ rfl rfl (Nat.le_of_ble_eq_true rfl) rfl dX12_leads_61 ?_
          refine x_if_eq_b (tgt := 110) (pc := 64) B dX12_leads_64 rfl (fun hc13 => ?_) (fun hc13 => ?_)
          · have h := iff_ hc13 h
            refine x_iinc (k := 3) (v := y11 + 1) (lv' := [(3, .int (y11 + 1)), (0, .ref (ad 94)), (1, .int a1), (2, .int (y4.1 104 ((y4.1 94 15) - 1).toNatClampNeg))]) (pc := 110) B dX12_leads_110 rfl rfl (by decide) rfl ?_
            refine x_goto (tgt := 59) (pc := 113) B dX12_leads_113 rfl ?_
            refine x_pick (lv' := [(0, .ref (ad 94)), (1, .int a1), (2, .int (y4.1 104 ((y4.1 94 15) - 1).toNatClampNeg)), (3, .int (y11 + 1))]) [1, 2, 3, 0] rfl ?_
            have z := hback (y11 + 1) (Option.some.inj h).symm
            exact z
          · have h := ift hc13 h
            refine x_aload_n (pc := 67) B 0 dX12_leads_67 rfl rfl ?_
            refine x_get (T := TX12) (pc := 68) B 13 oi_94 rfl uw_12 (by decide) rfl tw_1312 rfl dX12_leads_68 ?_
            refine x_iload_n (pc := 71) B 3 dX12_leads_71 rfl rfl ?_
            obtain ⟨hk14, h⟩ := ifn h
            refine x_iald (pc := 72) B ai_103 hk14 dX12_leads_72 ?_
            refine x_iconst (v := (-1)) (pc := 73) B dX12_leads_73 rfl ?_
            refine x_icmp_eq (tgt := 110) (pc := 74) B dX12_leads_74 rfl (fun hc15 => ?_) (fun hc15 => ?_)
            · have h := ift hc15 h
              refine x_iinc (k := 3) (v := y11 + 1) (lv' := [(3, .int (y11 + 1)), (0, .ref (ad 94)), (1, .int a1), (2, .int (y4.1 104 ((y4.1 94 15) - 1).toNatClampNeg))]) (pc := 110) B dX12_leads_110 rfl rfl (by decide) rfl ?_
              refine x_goto (tgt := 59) (pc := 113) B dX12_leads_113 rfl ?_
              refine x_pick (lv' := [(0, .ref (ad 94)), (1, .int a1), (2, .int (y4.1 104 ((y4.1 94 15) - 1).toNatClampNeg)), (3, .int (y11 + 1))]) [1, 2, 3, 0] rfl ?_
              have z := hback (y11 + 1) (Option.some.inj h).symm
              exact z
            · have h := iff_ hc15 h
              refine x_aload_n (pc := 77) B 0 dX12_leads_77 rfl rfl ?_
              refine x_iload_n (pc := 78) B 2 dX12_leads_78 rfl rfl ?_
              refine x_iload_n (pc := 79) B 3 dX12_leads_79 rfl rfl ?_
              obtain ⟨q16, hq16, h⟩ := bnd h
              refine x_callV (rest := []) (st' := [.int q16]) (pc := 80) B oi_94 rfl (C_Mo_costOf_94 (y4.1 104 ((y4.1 94 15) - 1).toNatClampNeg) y11 y4 _ hq16) tw_1421 tw_1418 tw_1420 tw_44 tw_111 hd_Mo_costOf_94 ⟨Nat.le_of_ble_eq_true rfl, Nat.le_of_ble_eq_true rfl⟩ rfl rfl (Nat.le_of_ble_eq_true rfl) rfl dX12_leads_80 ?_
              refine x_bipush (v := (-5)) (pc := 83) B dX12_leads_83 rfl ?_
              refine x_icmp_eq (tgt := 110) (pc := 85) B dX12_leads_85 rfl (fun hc17 => ?_) (fun hc17 => ?_)
              · have h := ift hc17 h
                refine x_iinc (k := 3) (v := y11 + 1) (lv' := [(3, .int (y11 + 1)), (0, .ref (ad 94)), (1, .int a1), (2, .int (y4.1 104 ((y4.1 94 15) - 1).toNatClampNeg))]) (pc := 110) B dX12_leads_110 rfl rfl (by decide) rfl ?_
                refine x_goto (tgt := 59) (pc := 113) B dX12_leads_113 rfl ?_
                refine x_pick (lv' := [(0, .ref (ad 94)), (1, .int a1), (2, .int (y4.1 104 ((y4.1 94 15) - 1).toNatClampNeg)), (3, .int (y11 + 1))]) [1, 2, 3, 0] rfl ?_
                have z := hback (y11 + 1) (Option.some.inj h).symm
                exact z
              · have h := iff_ hc17 h
                refine x_aload_n (pc := 88) B 0 dX12_leads_88 rfl rfl ?_
                refine x_get (T := TX12) (pc := 89) B 13 oi_94 rfl uw_12 (by decide) rfl tw_1312 rfl dX12_leads_89 ?_
                refine x_iload_n (pc := 92) B 3 dX12_leads_92 rfl rfl ?_
                obtain ⟨hk18, h⟩ := ifn h
                refine x_iald (pc := 93) B ai_103 hk18 dX12_leads_93 ?_
                refine x_aload_n (pc := 94) B 0 dX12_leads_94 rfl rfl ?_
                refine x_iload_n (pc := 95) B 2 dX12_leads_95 rfl rfl ?_
                refine x_iload_n (pc := 96) B 3 dX12_leads_96 rfl rfl ?_
                obtain ⟨q19, hq19, h⟩ := bnd h
                refine x_callV (rest := [.int (y4.1 103 y11.toNatClampNeg)]) (st' := [.int q19, .int (y4.1 103 y11.toNatClampNeg)]) (pc := 97) B oi_94 rfl (C_Mo_costOf_94 (y4.1 104 ((y4.1 94 15) - 1).toNatClampNeg) y11 y4 _ hq19) tw_1421 tw_1418 tw_1420 tw_44 tw_111 hd_Mo_costOf_94 ⟨Nat.le_of_ble_eq_true rfl, Nat.le_of_ble_eq_true rfl⟩ rfl rfl (Nat.le_of_ble_eq_true rfl) rfl dX12_leads_97 ?_
                refine x_iadd (pc := 100) B dX12_leads_100 ?_
                refine x_aload_n (pc := 101) B 0 dX12_leads_101 rfl rfl ?_
                refine x_get (T := TX12) (pc := 102) B 13 oi_94 rfl uw_12 (by decide) rfl tw_1312 rfl dX12_leads_102 ?_
                refine x_iload_n (pc := 105) B 2 dX12_leads_105 rfl rfl ?_
                obtain ⟨hk20, h⟩ := ifn h
                refine x_iald (pc := 106) B ai_103 hk20 dX12_leads_106 ?_
                refine x_icmp_eq (tgt := 116) (pc := 107) B dX12_leads_107 rfl (fun hc21 => ?_) (fun hc21 => ?_)
                · have h := ift hc21 h
                  refine x_pick (lv' := [(0, .ref (ad 94)), (1, .int a1), (3, .int y11)]) [0, 1, 3] rfl ?_
                  have z := hexit y11 (Option.some.inj h).symm
                  exact z
                · have h := iff_ hc21 h
                  refine x_iinc (k := 3) (v := y11 + 1) (lv' := [(3, .int (y11 + 1)), (0, .ref (ad 94)), (1, .int a1), (2, .int (y4.1 104 ((y4.1 94 15) - 1).toNatClampNeg))]) (pc := 110) B dX12_leads_110 rfl rfl (by decide) rfl ?_
                  refine x_goto (tgt := 59) (pc := 113) B dX12_leads_113 rfl ?_
                  refine x_pick (lv' := [(0, .ref (ad 94)), (1, .int a1), (2, .int (y4.1 104 ((y4.1 94 15) - 1).toNatClampNeg)), (3, .int (y11 + 1))]) [1, 2, 3, 0] rfl ?_
                  have z := hback (y11 + 1) (Option.some.inj h).symm
                  exact z
        · refine x_aload_n (pc := 116) B 0 dX12_leads_116 rfl rfl ?_
          refine x_get (T := TX12) (pc := 117) B 14 oi_94 rfl uw_12 (by decide) rfl tw_1313 rfl dX12_leads_117 ?_
          refine x_aload_n (pc := 120) B 0 dX12_leads_120 rfl rfl ?_
          refine x_get (T := TX12) (pc := 121) B 15 oi_94 rfl uw_12 (by decide) rfl tw_1314 rfl dX12_leads_121 ?_
          refine x_iload_n (pc := 124) B 2 dX12_leads_124 rfl rfl ?_
          obtain ⟨hk23, h⟩ := ifn h
          refine x_iast (pc := 125) B ai_104 hk23 dX12_leads_125 ?_
          refine jv_m (P := fun M24 => XX D ad cI cJ p l e (Rm 3 67) s m args below meth c Q 4 M24 126 [(0, .ref (ad 94)), (1, .int a1), (3, .int q22)] []) h (fun M24 h => ?_)
          refine x_aload_n (pc := 126) B 0 dX12_leads_126 rfl rfl ?_
          refine x_dup (pc := 127) B dX12_leads_127 rfl ?_
          refine x_get (T := TX12) (pc := 128) B 15 oi_94 rfl uw_12 (by decide) rfl tw_1314 rfl dX12_leads_128 ?_
          refine x_iconst (v := 1) (pc := 131) B dX12_leads_131 rfl ?_
          refine x_iadd (pc := 132) B dX12_leads_132 ?_
          refine x_put (T := TX12) (pc := 133) B 15 oi_94 of_94_15 rfl uw_12 tyX12_ok nmX12 (by decide) rfl tw_1314 rfl rfl rfl (Nat.le_of_ble_eq_true rfl) dX12_leads_133 ?_
          refine jv_m (P := fun M25 => XX D ad cI cJ p l e (Rm 3 67) s m args below meth c Q 4 M25 136 [(0, .ref (ad 94)), (1, .int a1), (3, .int q22)] []) h (fun M25 h => ?_)
          refine x_goto (tgt := 16) (pc := 136) B dX12_leads_136 rfl ?_
          refine x_pick (lv' := [(0, .ref (ad 94)), (1, .int a1)]) [0, 1] rfl ?_
          have z := hback M25 (Option.some.inj h).symm
          exact z
  · obtain rfl := Option.some.inj h
    exact x_vret (pc := 139) B hQ dX12_leads_139
-- CurrentFarmsModel.onWay(Z)I [94]
abbrev y_Mo_onWay_94 : MethodName := ⟨"CurrentFarmsModel", "onWay", "(Z)I"⟩
abbrev cX12_onWay : ByteArray := prog_14_method_68_code
theorem dX12_onWay_0 : decode cX12_onWay 0 = .ok (.aload_n 0, 1) := by decide +kernel
theorem dX12_onWay_1 : decode cX12_onWay 1 = .ok (.invokevirtual 140, 3) := by decide +kernel
theorem dX12_onWay_4 : decode cX12_onWay 4 = .ok (.istore_n 2, 1) := by decide +kernel
theorem dX12_onWay_5 : decode cX12_onWay 5 = .ok (.iconst 0, 1) := by decide +kernel
theorem dX12_onWay_6 : decode cX12_onWay 6 = .ok (.istore_n 3, 1) := by decide +kernel
theorem dX12_onWay_7 : decode cX12_onWay 7 = .ok (.iconst 0, 1) := by decide +kernel
theorem dX12_onWay_8 : decode cX12_onWay 8 = .ok (.istore 4, 2) := by decide +kernel
theorem dX12_onWay_10 : decode cX12_onWay 10 = .ok (.iload 4, 2) := by decide +kernel
theorem dX12_onWay_12 : decode cX12_onWay 12 = .ok (.aload_n 0, 1) := by decide +kernel
theorem dX12_onWay_13 : decode cX12_onWay 13 = .ok (.getfield 7, 3) := by decide +kernel
theorem dX12_onWay_16 : decode cX12_onWay 16 = .ok (.iconst 1, 1) := by decide +kernel
theorem dX12_onWay_17 : decode cX12_onWay 17 = .ok (.iaload, 1) := by decide +kernel
theorem dX12_onWay_18 : decode cX12_onWay 18 = .ok (.if_icmp .ge 96, 3) := by decide +kernel
theorem dX12_onWay_21 : decode cX12_onWay 21 = .ok (.iconst 0, 1) := by decide +kernel
theorem dX12_onWay_22 : decode cX12_onWay 22 = .ok (.istore 5, 2) := by decide +kernel
theorem dX12_onWay_24 : decode cX12_onWay 24 = .ok (.iconst 0, 1) := by decide +kernel
theorem dX12_onWay_25 : decode cX12_onWay 25 = .ok (.istore 6, 2) := by decide +kernel
theorem dX12_onWay_27 : decode cX12_onWay 27 = .ok (.iload 6, 2) := by decide +kernel
theorem dX12_onWay_29 : decode cX12_onWay 29 = .ok (.aload_n 0, 1) := by decide +kernel
theorem dX12_onWay_30 : decode cX12_onWay 30 = .ok (.getfield 272, 3) := by decide +kernel
theorem dX12_onWay_33 : decode cX12_onWay 33 = .ok (.iconst 1, 1) := by decide +kernel
theorem dX12_onWay_34 : decode cX12_onWay 34 = .ok (.isub, 1) := by decide +kernel
theorem dX12_onWay_35 : decode cX12_onWay 35 = .ok (.if_icmp .ge 42, 3) := by decide +kernel
theorem dX12_onWay_38 : decode cX12_onWay 38 = .ok (.iload 5, 2) := by decide +kernel
theorem dX12_onWay_40 : decode cX12_onWay 40 = .ok (.ifCond .ne 24, 3) := by decide +kernel
theorem dX12_onWay_43 : decode cX12_onWay 43 = .ok (.aload_n 0, 1) := by decide +kernel
theorem dX12_onWay_44 : decode cX12_onWay 44 = .ok (.getfield 37, 3) := by decide +kernel
theorem dX12_onWay_47 : decode cX12_onWay 47 = .ok (.iload 6, 2) := by decide +kernel
theorem dX12_onWay_49 : decode cX12_onWay 49 = .ok (.iaload, 1) := by decide +kernel
theorem dX12_onWay_50 : decode cX12_onWay 50 = .ok (.aload_n 0, 1) := by decide +kernel
theorem dX12_onWay_51 : decode cX12_onWay 51 = .ok (.getfield 7, 3) := by decide +kernel
theorem dX12_onWay_54 : decode cX12_onWay 54 = .ok (.sipush 164, 3) := by decide +kernel
theorem dX12_onWay_57 : decode cX12_onWay 57 = .ok (.iload 4, 2) := by decide +kernel
theorem dX12_onWay_59 : decode cX12_onWay 59 = .ok (.iadd, 1) := by decide +kernel
theorem dX12_onWay_60 : decode cX12_onWay 60 = .ok (.iaload, 1) := by decide +kernel
theorem dX12_onWay_61 : decode cX12_onWay 61 = .ok (.if_icmp .ne 7, 3) := by decide +kernel
theorem dX12_onWay_64 : decode cX12_onWay 64 = .ok (.iconst 1, 1) := by decide +kernel
theorem dX12_onWay_65 : decode cX12_onWay 65 = .ok (.goto 4, 3) := by decide +kernel
theorem dX12_onWay_68 : decode cX12_onWay 68 = .ok (.iconst 0, 1) := by decide +kernel
theorem dX12_onWay_69 : decode cX12_onWay 69 = .ok (.istore 5, 2) := by decide +kernel
theorem dX12_onWay_71 : decode cX12_onWay 71 = .ok (.iinc 6 1, 3) := by decide +kernel
theorem dX12_onWay_74 : decode cX12_onWay 74 = .ok (.goto (-47), 3) := by decide +kernel
theorem dX12_onWay_77 : decode cX12_onWay 77 = .ok (.iload_n 3, 1) := by decide +kernel
theorem dX12_onWay_78 : decode cX12_onWay 78 = .ok (.iload 5, 2) := by decide +kernel
theorem dX12_onWay_80 : decode cX12_onWay 80 = .ok (.ifCond .eq 25, 3) := by decide +kernel
theorem dX12_onWay_83 : decode cX12_onWay 83 = .ok (.iload_n 2, 1) := by decide +kernel
theorem dX12_onWay_84 : decode cX12_onWay 84 = .ok (.iload 4, 2) := by decide +kernel
theorem dX12_onWay_86 : decode cX12_onWay 86 = .ok (.ishr, 1) := by decide +kernel
theorem dX12_onWay_87 : decode cX12_onWay 87 = .ok (.iconst 1, 1) := by decide +kernel
theorem dX12_onWay_88 : decode cX12_onWay 88 = .ok (.iand, 1) := by decide +kernel
theorem dX12_onWay_89 : decode cX12_onWay 89 = .ok (.iload_n 1, 1) := by decide +kernel
theorem dX12_onWay_90 : decode cX12_onWay 90 = .ok (.ifCond .eq 7, 3) := by decide +kernel
theorem dX12_onWay_93 : decode cX12_onWay 93 = .ok (.iconst 1, 1) := by decide +kernel
theorem dX12_onWay_94 : decode cX12_onWay 94 = .ok (.goto 4, 3) := by decide +kernel
theorem dX12_onWay_97 : decode cX12_onWay 97 = .ok (.iconst 0, 1) := by decide +kernel
theorem dX12_onWay_98 : decode cX12_onWay 98 = .ok (.if_icmp .ne 7, 3) := by decide +kernel
theorem dX12_onWay_101 : decode cX12_onWay 101 = .ok (.iconst 1, 1) := by decide +kernel
theorem dX12_onWay_102 : decode cX12_onWay 102 = .ok (.goto 4, 3) := by decide +kernel
theorem dX12_onWay_105 : decode cX12_onWay 105 = .ok (.iconst 0, 1) := by decide +kernel
theorem dX12_onWay_106 : decode cX12_onWay 106 = .ok (.iadd, 1) := by decide +kernel
theorem dX12_onWay_107 : decode cX12_onWay 107 = .ok (.istore_n 3, 1) := by decide +kernel
theorem dX12_onWay_108 : decode cX12_onWay 108 = .ok (.iinc 4 1, 3) := by decide +kernel
theorem dX12_onWay_111 : decode cX12_onWay 111 = .ok (.goto (-101), 3) := by decide +kernel
theorem dX12_onWay_114 : decode cX12_onWay 114 = .ok (.iload_n 3, 1) := by decide +kernel
theorem dX12_onWay_115 : decode cX12_onWay 115 = .ok (.ireturn, 1) := by decide +kernel
theorem hd_Mo_onWay_94 : y_Mo_onWay_94.cls ≠ "java/lang/invoke/MethodHandle" ∧ y_Mo_onWay_94.cls ≠ "java/lang/invoke/VarHandle" ∧ (parseMethodDescriptor y_Mo_onWay_94.desc).map (fun d => d.parameters.length) = some 1 := by decide +kernel
def b_Mo_onWay_94_27 (M0 : Mem) (y2 : Int32 × Int32) (y4 : Int32 × Int32) : Option ((Int32 × Int32) ⊕ (Int32)) :=
  if decide (y4.2 < ((M0.1 94 15) - 1)) then (if decide (y4.1 = 0) then (if inb y4.2 48 then if inb (164 + y2.2) 4700 then if decide ((M0.1 104 y4.2.toNatClampNeg) = (M0.1 95 (164 + y2.2).toNatClampNeg)) then (some (.inl (1, y4.2 + 1))) else (some (.inl (0, y4.2 + 1))) else none else none) else (some (.inl (1, y4.2 + 1)))) else (some (.inr y4.1))
def b_Mo_onWay_94_10 (a1 : Bool) (M0 : Mem) (q1 : Int32) (y2 : Int32 × Int32) : Option ((Int32 × Int32) ⊕ (Int32)) :=
  if decide (y2.2 < (M0.1 95 1)) then ((itr (b_Mo_onWay_94_27 M0 y2) FU (0, 0)).bind fun q10 => jv_ ((!(decide (q10 = 0)) && (if a1 then (decide (((q1 >>> (y2.2 &&& 31)) &&& 1) = 1)) else (decide (((q1 >>> (y2.2 &&& 31)) &&& 1) = 0)))) : Bool) fun u13 => some (.inl (y2.1 + (bI u13), y2.2 + 1))) else (some (.inr y2.1))
def f_Mo_onWay_94 (a1 : Bool) (M0 : Mem) : Option (Int32) :=
  (f_Mo_members_94 M0).bind fun q1 => (itr (b_Mo_onWay_94_10 a1 M0 q1) FU (0, 0)).bind fun q17 => some q17
set_option maxHeartbeats 4000000 in
set_option maxRecDepth 20000 in
theorem C_Mo_onWay_94 {D : va_G} {ad adK adV : Nat → Nat} {cI cJ : ClassId} {l : Launch} (a1 : Bool) (M0 : Mem) (o : Int32) (h : f_Mo_onWay_94 a1 M0 = some o) : Ct D ad adK adV cI cJ l y_Mo_onWay_94 cX12_onWay 7 (some .int) 1 22 [.ref (ad 94), .int (bI a1)] M0 (some (.int o)) M0 := by
  refine x_start (lv := [(0, .ref (ad 94)), (1, .int (bI a1))]) (own := "CurrentFarmsModel") rfl (by decide) (Nat.le_of_ble_eq_true rfl) rfl ?_
  intro p e s m args below meth c Q hQ B
  unfold f_Mo_onWay_94 at h
  refine x_aload_n (pc := 0) B 0 dX12_onWay_0 rfl rfl ?_
  obtain ⟨q1, hq1, h⟩ := bnd h
  refine x_callV (rest := []) (st' := [.int q1]) (pc := 1) B oi_94 rfl (C_Mo_members_94  M0 _ hq1) tw_1585 tw_1582 tw_1584 tw_72 tw_111 hd_Mo_members_94 ⟨Nat.le_of_ble_eq_true rfl, Nat.le_of_ble_eq_true rfl⟩ rfl rfl (Nat.le_of_ble_eq_true rfl) rfl dX12_onWay_1 ?_
  refine x_istore_n (lv' := [(2, .int q1), (0, .ref (ad 94)), (1, .int (bI a1))]) (pc := 4) B dX12_onWay_4 rfl (by decide) rfl ?_
  refine x_iconst (v := 0) (pc := 5) B dX12_onWay_5 rfl ?_
  refine x_istore_n (lv' := [(3, .int 0), (2, .int q1), (0, .ref (ad 94)), (1, .int (bI a1))]) (pc := 6) B dX12_onWay_6 rfl (by decide) rfl ?_
  refine x_iconst (v := 0) (pc := 7) B dX12_onWay_7 rfl ?_
  refine x_istore (lv' := [(4, .int 0), (3, .int 0), (2, .int q1), (0, .ref (ad 94)), (1, .int (bI a1))]) (pc := 8) B dX12_onWay_8 (by decide) rfl ?_
  refine x_pick (lv' := [(0, .ref (ad 94)), (1, .int (bI a1)), (2, .int q1), (3, .int 0), (4, .int 0)]) [3, 4, 2, 1, 0] rfl ?_
  obtain ⟨q17, hq17, h⟩ := bnd h
  refine x_loop (Head := fun (y2 : Int32 × Int32) => XX D ad cI cJ p l e (Rm 1 22) s m args below meth c Q 7 M0 10 [(0, .ref (ad 94)), (1, .int (bI a1)), (2, .int q1), (3, .int y2.1), (4, .int y2.2)] []) (Ex := fun (q17 : Int32) => XX D ad cI cJ p l e (Rm 1 22) s m args below meth c Q 7 M0 114 [(3, .int q17)] []) (fun y2 r h hback hexit => ?_) FU _ q17 hq17 ?_
  · unfold b_Mo_onWay_94_10 at h
    refine x_iload (pc := 10) B 4 dX12_onWay_10 rfl ?_
    refine x_aload_n (pc := 12) B 0 dX12_onWay_12 rfl rfl ?_
    refine x_get (T := TX12) (pc := 13) B 1 oi_94 rfl uw_12 (by decide) rfl tw_1300 rfl dX12_onWay_13 ?_
    refine x_iconst (v := 1) (pc := 16) B dX12_onWay_16 rfl ?_
    refine x_iald_c (j := 1) (pc := 17) B ai_95 (by decide) rfl dX12_onWay_17 ?_
    refine x_icmp_ge (tgt := 114) (pc := 18) B dX12_onWay_18 rfl (fun hc3 => ?_) (fun hc3 => ?_)
    · have h := iff_ hc3 h
      refine x_pick (lv' := [(3, .int y2.1)]) [3] rfl ?_
      have z := hexit y2.1 (Option.some.inj h).symm
      exact z
    · have h := ift hc3 h
      refine x_iconst (v := 0) (pc := 21) B dX12_onWay_21 rfl ?_
      refine x_istore (lv' := [(5, .int 0), (0, .ref (ad 94)), (1, .int (bI a1)), (2, .int q1), (3, .int y2.1), (4, .int y2.2)]) (pc := 22) B dX12_onWay_22 (by decide) rfl ?_
      refine x_iconst (v := 0) (pc := 24) B dX12_onWay_24 rfl ?_
      refine x_istore (lv' := [(6, .int 0), (5, .int 0), (0, .ref (ad 94)), (1, .int (bI a1)), (2, .int q1), (3, .int y2.1), (4, .int y2.2)]) (pc := 25) B dX12_onWay_25 (by decide) rfl ?_
      refine x_pick (lv' := [(0, .ref (ad 94)), (1, .int (bI a1)), (2, .int q1), (3, .int y2.1), (4, .int y2.2), (5, .int 0), (6, .int 0)]) [2, 3, 4, 5, 6, 1, 0] rfl ?_
      obtain ⟨q10, hq10, h⟩ := bnd h
      refine x_loop (Head := fun (y4 : Int32 × Int32) => XX D ad cI cJ p l e (Rm 1 22) s m args below meth c Q 7 M0 27 [(0, .ref (ad 94)), (1, .int (bI a1)), (2, .int q1), (3, .int y2.1), (4, .int y2.2), (5, .int y4.1), (6, .int y4.2)] []) (Ex := fun (q10 : Int32) => XX D ad cI cJ p l e (Rm 1 22) s m args below meth c Q 7 M0 77 [(0, .ref (ad 94)), (1, .int (bI a1)), (2, .int q1), (3, .int y2.1), (4, .int y2.2), (5, .int q10)] []) (fun y4 r h hback hexit => ?_) FU _ q10 hq10 ?_
      · unfold b_Mo_onWay_94_27 at h
        refine x_iload (pc := 27) B 6 dX12_onWay_27 rfl ?_
        refine x_aload_n (pc := 29) B 0 dX12_onWay_29 rfl rfl ?_
        refine x_get (T := TX12) (pc := 30) B 15 oi_94 rfl uw_12 (by decide) rfl tw_1314 rfl dX12_onWay_30 ?_
        refine x_iconst (v := 1) (pc := 33) B dX12_onWay_33 rfl ?_
        refine x_isub (pc := 34) B dX12_onWay_34 ?_
        refine x_icmp_ge (tgt := 77) (pc := 35) B dX12_onWay_35 rfl (fun hc5 => ?_) (fun hc5 => ?_)
        · have h := iff_ hc5 h
          refine x_pick (lv' := [(0, .ref (ad 94)), (1, .int (bI a1)), (2, .int q1), (3, .int y2.1), (4, .int y2.2), (5, .int y4.1)]) [0, 1, 2, 3, 4, 5] rfl ?_
          have z := hexit y4.1 (Option.some.inj h).symm
          exact z
        · have h := ift hc5 h
          refine x_iload (pc := 38) B 5 dX12_onWay_38 rfl ?_
          refine x_if_ne (tgt := 64) (pc := 40) B dX12_onWay_40 rfl (fun hc6 => ?_) (fun hc6 => ?_)
          · have h := iff_ hc6 h
            refine x_iconst (v := 1) (pc := 64) B dX12_onWay_64 rfl ?_
            refine x_goto (tgt := 69) (pc := 65) B dX12_onWay_65 rfl ?_
            refine x_istore (lv' := [(5, .int 1), (0, .ref (ad 94)), (1, .int (bI a1)), (2, .int q1), (3, .int y2.1), (4, .int y2.2), (6, .int y4.2)]) (pc := 69) B dX12_onWay_69 (by decide) rfl ?_
            refine x_iinc (k := 6) (v := y4.2 + 1) (lv' := [(6, .int (y4.2 + 1)), (5, .int 1), (0, .ref (ad 94)), (1, .int (bI a1)), (2, .int q1), (3, .int y2.1), (4, .int y2.2)]) (pc := 71) B dX12_onWay_71 rfl rfl (by decide) rfl ?_
            refine x_goto (tgt := 27) (pc := 74) B dX12_onWay_74 rfl ?_
            refine x_pick (lv' := [(0, .ref (ad 94)), (1, .int (bI a1)), (2, .int q1), (3, .int y2.1), (4, .int y2.2), (5, .int 1), (6, .int (y4.2 + 1))]) [2, 3, 4, 5, 6, 1, 0] rfl ?_
            have z := hback (1, y4.2 + 1) (Option.some.inj h).symm
            exact z
          · have h := ift hc6 h
            refine x_aload_n (pc := 43) B 0 dX12_onWay_43 rfl rfl ?_
            refine x_get (T := TX12) (pc := 44) B 14 oi_94 rfl uw_12 (by decide) rfl tw_1313 rfl dX12_onWay_44 ?_
            refine x_iload (pc := 47) B 6 dX12_onWay_47 rfl ?_
            obtain ⟨hk7, h⟩ := ifn h
            refine x_iald (pc := 49) B ai_104 hk7 dX12_onWay_49 ?_
            refine x_aload_n (pc := 50) B 0 dX12_onWay_50 rfl rfl ?_
            refine x_get (T := TX12) (pc := 51) B 1 oi_94 rfl uw_12 (by decide) rfl tw_1300 rfl dX12_onWay_51 ?_
            refine x_sipush (v := 164) (pc := 54) B dX12_onWay_54 rfl ?_
            refine x_iload (pc := 57) B 4 dX12_onWay_57 rfl ?_
            refine x_iadd (pc := 59) B dX12_onWay_59 ?_
            obtain ⟨hk8, h⟩ := ifn h
            refine x_iald (pc := 60) B ai_95 hk8 dX12_onWay_60 ?_
            refine x_icmp_ne (tgt := 68) (pc := 61) B dX12_onWay_61 rfl (fun hc9 => ?_) (fun hc9 => ?_)
            · have h := iff_ hc9 h
              refine x_iconst (v := 0) (pc := 68) B dX12_onWay_68 rfl ?_
              refine x_istore (lv' := [(5, .int 0), (0, .ref (ad 94)), (1, .int (bI a1)), (2, .int q1), (3, .int y2.1), (4, .int y2.2), (6, .int y4.2)]) (pc := 69) B dX12_onWay_69 (by decide) rfl ?_
              refine x_iinc (k := 6) (v := y4.2 + 1) (lv' := [(6, .int (y4.2 + 1)), (5, .int 0), (0, .ref (ad 94)), (1, .int (bI a1)), (2, .int q1), (3, .int y2.1), (4, .int y2.2)]) (pc := 71) B dX12_onWay_71 rfl rfl (by decide) rfl ?_
              refine x_goto (tgt := 27) (pc := 74) B dX12_onWay_74 rfl ?_
              refine x_pick (lv' := [(0, .ref (ad 94)), (1, .int (bI a1)), (2, .int q1), (3, .int y2.1), (4, .int y2.2), (5, .int 0), (6, .int (y4.2 + 1))]) [2, 3, 4, 5, 6, 1, 0] rfl ?_
              have z := hback (0, y4.2 + 1) (Option.some.inj h).symm
              exact z
            · have h := ift hc9 h
              refine x_iconst (v := 1) (pc := 64) B dX12_onWay_64 rfl ?_
              refine x_goto (tgt := 69) (pc := 65) B dX12_onWay_65 rfl ?_
              refine x_istore (lv' := [(5, .int 1), (0, .ref (ad 94)), (1, .int (bI a1)), (2, .int q1), (3, .int y2.1), (4, .int y2.2), (6, .int y4.2)]) (pc := 69) B dX12_onWay_69 (by decide) rfl ?_
              refine x_iinc (k := 6) (v := y4.2 + 1) (lv' := [(6, .int (y4.2 + 1)), (5, .int 1), (0, .ref (ad 94)), (1, .int (bI a1)), (2, .int q1), (3, .int y2.1), (4, .int y2.2)]) (pc := 71) B dX12_onWay_71 rfl rfl (by decide) rfl ?_
              refine x_goto (tgt := 27) (pc := 74) B dX12_onWay_74 rfl ?_
              refine x_pick (lv' := [(0, .ref (ad 94)), (1, .int (bI a1)), (2, .int q1), (3, .int y2.1), (4, .int y2.2), (5, .int 1), (6, .int (y4.2 + 1))]) [2, 3, 4, 5, 6, 1, 0] rfl ?_
              have z := hback (1, y4.2 + 1) (Option.some.inj h).symm
              exact z
      · refine x_iload_n (pc := 77) B 3 dX12_onWay_77 rfl rfl ?_
        refine x_iload (pc := 78) B 5 dX12_onWay_78 rfl ?_
        refine jv_k h (fun (u13 : Bool) => XX D ad cI cJ p l e (Rm 1 22) s m args below meth c Q 7 M0 106 [(0, .ref (ad 94)), (1, .int (bI a1)), (2, .int q1), (4, .int y2.2)] [.int (bI u13), .int y2.1]) (fun u13 h => ?_) (fun JJ => ?_)
        · refine x_iadd (pc := 106) B dX12_onWay_106 ?_
          refine x_istore_n (lv' := [(3, .int (y2.1 + (bI u13))), (0, .ref (ad 94)), (1, .int (bI a1)), (2, .int q1), (4, .int y2.2)]) (pc := 107) B dX12_onWay_107 rfl (by decide) rfl ?_
          refine x_iinc (k := 4) (v := y2.2 + 1) (lv' := [(4, .int (y2.2 + 1)), (3, .int (y2.1 + (bI u13))), (0, .ref (ad 94)), (1, .int (bI a1)), (2, .int q1)]) (pc := 108) B dX12_onWay_108 rfl rfl (by decide) rfl ?_
          refine x_goto (tgt := 10) (pc := 111) B dX12_onWay_111 rfl ?_
          refine x_pick (lv' := [(0, .ref (ad 94)), (1, .int (bI a1)), (2, .int q1), (3, .int (y2.1 + (bI u13))), (4, .int (y2.2 + 1))]) [2, 3, 4, 1, 0] rfl ?_
          have z := hback (y2.1 + (bI u13), y2.2 + 1) (Option.some.inj h).symm
          exact z
        · refine x_if_eq (tgt := 105) (pc := 80) B dX12_onWay_80 rfl (fun hc11 => ?_) (fun hc11 => ?_)
          · refine x_iconst (v := 0) (pc := 105) B dX12_onWay_105 rfl ?_
            refine x_pick (lv' := [(0, .ref (ad 94)), (1, .int (bI a1)), (2, .int q1), (4, .int y2.2)]) [0, 1, 2, 4] rfl ?_
            have z := JJ false (znand_t hc11)
            exact z
          · refine x_iload_n (pc := 83) B 2 dX12_onWay_83 rfl rfl ?_
            refine x_iload (pc := 84) B 4 dX12_onWay_84 rfl ?_
            refine x_ishr (pc := 86) B dX12_onWay_86 ?_
            refine x_iconst (v := 1) (pc := 87) B dX12_onWay_87 rfl ?_
            refine x_iand (pc := 88) B dX12_onWay_88 ?_
            refine x_iload_n (pc := 89) B 1 dX12_onWay_89 rfl rfl ?_
            refine x_if_eq_b (tgt := 97) (pc := 90) B dX12_onWay_90 rfl (fun hc14 => ?_) (fun hc14 => ?_)
            · refine x_iconst (v := 0) (pc := 97) B dX12_onWay_97 rfl ?_
              refine x_icmp_ne (tgt := 105) (pc := 98) B dX12_onWay_98 rfl (fun hc16 => ?_) (fun hc16 => ?_)
              · refine x_iconst (v := 0) (pc := 105) B dX12_onWay_105 rfl ?_
                refine x_pick (lv' := [(0, .ref (ad 94)), (1, .int (bI a1)), (2, .int q1), (4, .int y2.2)]) [0, 1, 2, 4] rfl ?_
                have z := JJ false ((znand_f hc11).trans ((zif_f hc14).trans hc16))
                exact z
              · refine x_iconst (v := 1) (pc := 101) B dX12_onWay_101 rfl ?_
                refine x_goto (tgt := 106) (pc := 102) B dX12_onWay_102 rfl ?_
                refine x_pick (lv' := [(0, .ref (ad 94)), (1, .int (bI a1)), (2, .int q1), (4, .int y2.2)]) [0, 1, 2, 4] rfl ?_
                have z := JJ true ((znand_f hc11).trans ((zif_f hc14).trans hc16))
                exact z
            · refine x_iconst (v := 1) (pc := 93) B dX12_onWay_93 rfl ?_
              refine x_goto (tgt := 98) (pc := 94) B dX12_onWay_94 rfl ?_
              refine x_icmp_ne (tgt := 105) (pc := 98) B dX12_onWay_98 rfl (fun hc15 => ?_) (fun hc15 => ?_)
              · refine x_iconst (v := 0) (pc := 105) B dX12_onWay_105 rfl ?_
                refine x_pick (lv' := [(0, .ref (ad 94)), (1, .int (bI a1)), (2, .int q1), (4, .int y2.2)]) [0, 1, 2, 4] rfl ?_
                have z := JJ false ((znand_f hc11).trans ((zif_t hc14).trans hc15))
                exact z
              · refine x_iconst (v := 1) (pc := 101) B dX12_onWay_101 rfl ?_
                refine x_goto (tgt := 106) (pc := 102) B dX12_onWay_102 rfl ?_
                refine x_pick (lv' := [(0, .ref (ad 94)), (1, .int (bI a1)), (2, .int q1), (4, .int y2.2)]) [0, 1, 2, 4] rfl ?_
                have z := JJ true ((znand_f hc11).trans ((zif_t hc14).trans hc15))
                exact z
  · refine x_iload_n (pc := 114) B 0 dX12_onWay_114 rfl rfl ?_
    obtain rfl := Option.some.inj h
    exact x_iret (pc := 115) B hQ dX12_onWay_115
-- CurrentFarmsModel.lacks(I)I [94]
abbrev y_Mo_lacks_94 : MethodName := ⟨"CurrentFarmsModel", "lacks", "(I)I"⟩
abbrev cX12_lacks : ByteArray := prog_14_method_69_code
theorem dX12_lacks_0 : decode cX12_lacks 0 = .ok (.aload_n 0, 1) := by decide +kernel
theorem dX12_lacks_1 : decode cX12_lacks 1 = .ok (.iconst 4, 1) := by decide +kernel
theorem dX12_lacks_2 : decode cX12_lacks 2 = .ok (.iload_n 1, 1) := by decide +kernel
theorem dX12_lacks_3 : decode cX12_lacks 3 = .ok (.aload_n 0, 1) := by decide +kernel
theorem dX12_lacks_4 : decode cX12_lacks 4 = .ok (.getfield 7, 3) := by decide +kernel
theorem dX12_lacks_7 : decode cX12_lacks 7 = .ok (.iconst 0, 1) := by decide +kernel
theorem dX12_lacks_8 : decode cX12_lacks 8 = .ok (.iaload, 1) := by decide +kernel
theorem dX12_lacks_9 : decode cX12_lacks 9 = .ok (.iconst 0, 1) := by decide +kernel
theorem dX12_lacks_10 : decode cX12_lacks 10 = .ok (.invokevirtual 252, 3) := by decide +kernel
theorem dX12_lacks_13 : decode cX12_lacks 13 = .ok (.istore_n 2, 1) := by decide +kernel
theorem dX12_lacks_14 : decode cX12_lacks 14 = .ok (.aload_n 0, 1) := by decide +kernel
theorem dX12_lacks_15 : decode cX12_lacks 15 = .ok (.aload_n 0, 1) := by decide +kernel
theorem dX12_lacks_16 : decode cX12_lacks 16 = .ok (.getfield 7, 3) := by decide +kernel
theorem dX12_lacks_19 : decode cX12_lacks 19 = .ok (.iconst 0, 1) := by decide +kernel
theorem dX12_lacks_20 : decode cX12_lacks 20 = .ok (.iaload, 1) := by decide +kernel
theorem dX12_lacks_21 : decode cX12_lacks 21 = .ok (.iconst (-1), 1) := by decide +kernel
theorem dX12_lacks_22 : decode cX12_lacks 22 = .ok (.iconst (-1), 1) := by decide +kernel
theorem dX12_lacks_23 : decode cX12_lacks 23 = .ok (.iconst 0, 1) := by decide +kernel
theorem dX12_lacks_24 : decode cX12_lacks 24 = .ok (.invokevirtual 130, 3) := by decide +kernel
theorem dX12_lacks_27 : decode cX12_lacks 27 = .ok (.aload_n 0, 1) := by decide +kernel
theorem dX12_lacks_28 : decode cX12_lacks 28 = .ok (.getfield 34, 3) := by decide +kernel
theorem dX12_lacks_31 : decode cX12_lacks 31 = .ok (.aload_n 0, 1) := by decide +kernel
theorem dX12_lacks_32 : decode cX12_lacks 32 = .ok (.getfield 7, 3) := by decide +kernel
theorem dX12_lacks_35 : decode cX12_lacks 35 = .ok (.sipush 164, 3) := by decide +kernel
theorem dX12_lacks_38 : decode cX12_lacks 38 = .ok (.iload_n 1, 1) := by decide +kernel
theorem dX12_lacks_39 : decode cX12_lacks 39 = .ok (.iadd, 1) := by decide +kernel
theorem dX12_lacks_40 : decode cX12_lacks 40 = .ok (.iaload, 1) := by decide +kernel
theorem dX12_lacks_41 : decode cX12_lacks 41 = .ok (.iaload, 1) := by decide +kernel
theorem dX12_lacks_42 : decode cX12_lacks 42 = .ok (.iload_n 2, 1) := by decide +kernel
theorem dX12_lacks_43 : decode cX12_lacks 43 = .ok (.isub, 1) := by decide +kernel
theorem dX12_lacks_44 : decode cX12_lacks 44 = .ok (.bipush 20, 2) := by decide +kernel
theorem dX12_lacks_46 : decode cX12_lacks 46 = .ok (.aload_n 0, 1) := by decide +kernel
theorem dX12_lacks_47 : decode cX12_lacks 47 = .ok (.iconst 1, 1) := by decide +kernel
theorem dX12_lacks_48 : decode cX12_lacks 48 = .ok (.invokevirtual 275, 3) := by decide +kernel
theorem dX12_lacks_51 : decode cX12_lacks 51 = .ok (.imul, 1) := by decide +kernel
theorem dX12_lacks_52 : decode cX12_lacks 52 = .ok (.isub, 1) := by decide +kernel
theorem dX12_lacks_53 : decode cX12_lacks 53 = .ok (.istore_n 3, 1) := by decide +kernel
theorem dX12_lacks_54 : decode cX12_lacks 54 = .ok (.iload_n 3, 1) := by decide +kernel
theorem dX12_lacks_55 : decode cX12_lacks 55 = .ok (.ifCond .gt 7, 3) := by decide +kernel
theorem dX12_lacks_58 : decode cX12_lacks 58 = .ok (.iconst 0, 1) := by decide +kernel
theorem dX12_lacks_59 : decode cX12_lacks 59 = .ok (.goto 10, 3) := by decide +kernel
theorem dX12_lacks_62 : decode cX12_lacks 62 = .ok (.iload_n 3, 1) := by decide +kernel
theorem dX12_lacks_63 : decode cX12_lacks 63 = .ok (.bipush 19, 2) := by decide +kernel
theorem dX12_lacks_65 : decode cX12_lacks 65 = .ok (.iadd, 1) := by decide +kernel
theorem dX12_lacks_66 : decode cX12_lacks 66 = .ok (.bipush 20, 2) := by decide +kernel
theorem dX12_lacks_68 : decode cX12_lacks 68 = .ok (.idiv, 1) := by decide +kernel
theorem dX12_lacks_69 : decode cX12_lacks 69 = .ok (.ireturn, 1) := by decide +kernel
theorem hd_Mo_lacks_94 : y_Mo_lacks_94.cls ≠ "java/lang/invoke/MethodHandle" ∧ y_Mo_lacks_94.cls ≠ "java/lang/invoke/VarHandle" ∧ (parseMethodDescriptor y_Mo_lacks_94.desc).map (fun d => d.parameters.length) = some 1 := by decide +kernel
def f_Mo_lacks_94 (a1 : Int32) (M0 : Mem) : Option (Int32 × Mem) :=
  (f_Mo_ruleFor_94 4 a1 (M0.1 95 0) 0 M0).bind fun q1 => (f_Mo_looks_94 (q1.2.1 95 0) (-1) (-1) 0 q1.2).bind fun q2 => if inb (164 + a1) 4700 then if inb (q2.1 95 (164 + a1).toNatClampNeg) 48 then (f_Mo_onWay_94 true q2).bind fun q5 => jv_ (((q2.1 103 (q2.1 95 (164 + a1).toNatClampNeg).toNatClampNeg) - q1.1) - (20 * q5) : Int32) fun x6 => if decide (x6 ≤ 0) then (some (0, q2)) else (some ((x6 + 19) / 20, q2)) else none else none
set_option maxHeartbeats 4000000 in
set_option maxRecDepth 20000 in
theorem C_Mo_lacks_94 {D : va_G} {ad adK adV : Nat → Nat} {cI cJ : ClassId} {l : Launch} (a1 : Int32) (M0 : Mem) (o : Int32 × Mem) (h : f_Mo_lacks_94 a1 M0 = some o) : Ct D ad adK adV cI cJ l y_Mo_lacks_94 cX12_lacks 4 (some .int) 514 14318 [.ref (ad 94), .int a1] M0 (some (.int o.1)) o.2 := by
  refine x_start (lv := [(0, .ref (ad 94)), (1, .int a1)]) (own := "CurrentFarmsModel") rfl (by decide) (Nat.le_of_ble_eq_true rfl) rfl ?_
  intro p e s m args below meth c Q hQ B
  unfold f_Mo_lacks_94 at h
  refine x_aload_n (pc := 0) B 0 dX12_lacks_0 rfl rfl ?_
  refine x_iconst (v := 4) (pc := 1) B dX12_lacks_1 rfl ?_
  refine x_iload_n (pc := 2) B 1 dX12_lacks_2 rfl rfl ?_
  refine x_aload_n (pc := 3) B 0 dX12_lacks_3 rfl rfl ?_
  refine x_get (T := TX12) (pc := 4) B 1 oi_94 rfl uw_12 (by decide) rfl tw_1300 rfl dX12_lacks_4 ?_
  refine x_iconst (v := 0) (pc := 7) B dX12_lacks_7 rfl ?_
  refine x_iald_c (j := 0) (pc := 8) B ai_95 (by decide) rfl dX12_lacks_8 ?_
  refine x_iconst (v := 0) (pc := 9) B dX12_lacks_9 rfl ?_
  obtain ⟨q1, hq1, h⟩ := bnd h
  refine x_callV (rest := []) (st' := [.int q1.1]) (pc := 10) B oi_94 rfl (C_Mo_ruleFor_94 4 a1 (M0.1 95 0) 0 M0 _ hq1) tw_1628 tw_1625 tw_1627 tw_77 tw_111 hd_Mo_ruleFor_94 ⟨Nat.le_of_ble_eq_true rfl, Nat.le_of_ble_eq_true rfl⟩ rfl rfl (Nat.le_of_ble_eq_true rfl) rfl dX12_lacks_10 ?_
  refine x_istore_n (lv' := [(2, .int q1.1), (0, .ref (ad 94)), (1, .int a1)]) (pc := 13) B dX12_lacks_13 rfl (by decide) rfl ?_
  refine x_aload_n (pc := 14) B 1 dX12_lacks_14 rfl rfl ?_
  refine x_aload_n (pc := 15) B 1 dX12_lacks_15 rfl rfl ?_
  refine x_get (T := TX12) (pc := 16) B 1 oi_94 rfl uw_12 (by decide) rfl tw_1300 rfl dX12_lacks_16 ?_
  refine x_iconst (v := 0) (pc := 19) B dX12_lacks_19 rfl ?_
  refine x_iald_c (j := 0) (pc := 20) B ai_95 (by decide) rfl dX12_lacks_20 ?_
  refine x_iconst (v := (-1)) (pc := 21) B dX12_lacks_21 rfl ?_
  refine x_iconst (v := (-1)) (pc := 22) B dX12_lacks_22 rfl ?_
  refine x_iconst (v := 0) (pc := 23) B dX12_lacks_23 rfl ?_
  obtain ⟨q2, hq2, h⟩ := bnd h
  refine x_callV (rest := []) (st' := []) (pc := 24) B oi_94 rfl (C_Mo_looks_94 (q1.2.1 95 0) (-1) (-1) 0 q1.2 _ hq2) tw_1475 tw_1472 tw_1474 tw_50 tw_111 hd_Mo_looks_94 ⟨Nat.le_of_ble_eq_true rfl, Nat.le_of_ble_eq_true rfl⟩ rfl rfl (Nat.le_of_ble_eq_true rfl) rfl dX12_lacks_24 ?_
  refine x_aload_n (pc := 27) B 1 dX12_lacks_27 rfl rfl ?_
  refine x_get (T := TX12) (pc := 28) B 13 oi_94 rfl uw_12 (by decide) rfl tw_1312 rfl dX12_lacks_28 ?_
  refine x_aload_n (pc := 31) B 1 dX12_lacks_31 rfl rfl ?_
  refine x_get (T := TX12) (pc := 32) B 1 oi_94 rfl uw_12 (by decide) rfl tw_1300 rfl dX12_lacks_32 ?_
  refine x_sipush (v := 164) (pc := 35) B dX12_lacks_35 rfl ?_
  refine x_iload_n (pc := 38) B 2 dX12_lacks_38 rfl rfl ?_
  refine x_iadd (pc := 39) B dX12_lacks_39 ?_
  obtain ⟨hk3, h⟩ := ifn h
  refine x_iald (pc := 40) B ai_95 hk3 dX12_lacks_40 ?_
  obtain ⟨hk4, h⟩ := ifn h
  refine x_iald (pc := 41) B ai_103 hk4 dX12_lacks_41 ?_
  refine x_iload_n (pc := 42) B 0 dX12_lacks_42 rfl rfl ?_
  refine x_isub (pc := 43) B dX12_lacks_43 ?_
  refine x_bipush (v := 20) (pc := 44) B dX12_lacks_44 rfl ?_
  refine x_aload_n (pc := 46) B 1 dX12_lacks_46 rfl rfl ?_
  refine x_iconst (v := 1) (pc := 47) B dX12_lacks_47 rfl ?_
  obtain ⟨q5, hq5, h⟩ := bnd h
  refine x_callV (rest := [.int 20, .int ((q2.1 103 (q2.1 95 (164 + a1).toNatClampNeg).toNatClampNeg) - q1.1)]) (st' := [.int q5, .int 20, .int ((q2.1 103 (q2.1 95 (164 + a1).toNatClampNeg).toNatClampNeg) - q1.1)]) (pc := 48) B oi_94 rfl (C_Mo_onWay_94 true q2 _ hq5) tw_1697 tw_1694 tw_1696 tw_85 tw_111 hd_Mo_onWay_94 ⟨Nat.le_of_ble_eq_true rfl, Nat.le_of_ble_eq_true rfl⟩ rfl rfl (Nat.le_of_ble_eq_true rfl) rfl dX12_lacks_48 ?_
  refine x_imul (pc := 51) B dX12_lacks_51 ?_
  refine x_isub (pc := 52) B dX12_lacks_52 ?_
  refine jv_m (P := fun (x6 : Int32) => XX D ad cI cJ p l e (Rm 514 14318) s m args below meth c Q 4 q2 53 [(2, .int q1.1), (0, .ref (ad 94)), (1, .int a1)] [.int x6]) h (fun x6 h => ?_)
  refine x_istore_n (lv' := [(3, .int x6), (2, .int q1.1), (0, .ref (ad 94)), (1, .int a1)]) (pc := 53) B dX12_lacks_53 rfl (by decide) rfl ?_
  refine x_iload_n (pc := 54) B 0 dX12_lacks_54 rfl rfl ?_
  refine x_if_gt (tgt := 62) (pc := 55) B dX12_lacks_55 rfl (fun hc7 => ?_) (fun hc7 => ?_)
  · have h := iff_ hc7 h
    refine x_iload_n (pc := 62) B 0 dX12_lacks_62 rfl rfl ?_
    refine x_bipush (v := 19) (pc := 63) B dX12_lacks_63 rfl ?_
    refine x_iadd (pc := 65) B dX12_lacks_65 ?_
    refine x_bipush (v := 20) (pc := 66) B dX12_lacks_66 rfl ?_
    refine x_idiv (pc := 68) B dX12_lacks_68 (by decide) ?_
    obtain rfl := Option.some.inj h
    exact x_iret (pc := 69) B hQ dX12_lacks_69
  · have h := ift hc7 h
    refine x_iconst (v := 0) (pc := 58) B dX12_lacks_58 rfl ?_
    refine x_goto (tgt := 69) (pc := 59) B dX12_lacks_59 rfl ?_
    obtain rfl := Option.some.inj h
    exact x_iret (pc := 69) B hQ dX12_lacks_69
-- CurrentFarmsModel.next(II)I [94]
abbrev y_Mo_next_94 : MethodName := ⟨"CurrentFarmsModel", "next", "(II)I"⟩
abbrev cX12_next : ByteArray := prog_14_method_70_code
theorem dX12_next_0 : decode cX12_next 0 = .ok (.aload_n 0, 1) := by decide +kernel
theorem dX12_next_1 : decode cX12_next 1 = .ok (.iload_n 1, 1) := by decide +kernel
theorem dX12_next_2 : decode cX12_next 2 = .ok (.invokevirtual 110, 3) := by decide +kernel
theorem dX12_next_5 : decode cX12_next 5 = .ok (.ifCond .eq 12, 3) := by decide +kernel
theorem dX12_next_8 : decode cX12_next 8 = .ok (.iload_n 2, 1) := by decide +kernel
theorem dX12_next_9 : decode cX12_next 9 = .ok (.iconst 0, 1) := by decide +kernel
theorem dX12_next_10 : decode cX12_next 10 = .ok (.iconst 2, 1) := by decide +kernel
theorem dX12_next_11 : decode cX12_next 11 = .ok (.invokestatic 84, 3) := by decide +kernel
theorem dX12_next_14 : decode cX12_next 14 = .ok (.ifCond .ne 5, 3) := by decide +kernel
theorem dX12_next_17 : decode cX12_next 17 = .ok (.iconst (-1), 1) := by decide +kernel
theorem dX12_next_18 : decode cX12_next 18 = .ok (.ireturn, 1) := by decide +kernel
theorem dX12_next_19 : decode cX12_next 19 = .ok (.aload_n 0, 1) := by decide +kernel
theorem dX12_next_20 : decode cX12_next 20 = .ok (.aload_n 0, 1) := by decide +kernel
theorem dX12_next_21 : decode cX12_next 21 = .ok (.getfield 7, 3) := by decide +kernel
theorem dX12_next_24 : decode cX12_next 24 = .ok (.iconst 0, 1) := by decide +kernel
theorem dX12_next_25 : decode cX12_next 25 = .ok (.iaload, 1) := by decide +kernel
theorem dX12_next_26 : decode cX12_next 26 = .ok (.iconst (-1), 1) := by decide +kernel
theorem dX12_next_27 : decode cX12_next 27 = .ok (.iconst (-1), 1) := by decide +kernel
theorem dX12_next_28 : decode cX12_next 28 = .ok (.iconst 0, 1) := by decide +kernel
theorem dX12_next_29 : decode cX12_next 29 = .ok (.invokevirtual 130, 3) := by decide +kernel
theorem dX12_next_32 : decode cX12_next 32 = .ok (.aload_n 0, 1) := by decide +kernel
theorem dX12_next_33 : decode cX12_next 33 = .ok (.invokevirtual 266, 3) := by decide +kernel
theorem dX12_next_36 : decode cX12_next 36 = .ok (.iload_n 1, 1) := by decide +kernel
theorem dX12_next_37 : decode cX12_next 37 = .ok (.ishr, 1) := by decide +kernel
theorem dX12_next_38 : decode cX12_next 38 = .ok (.iconst 1, 1) := by decide +kernel
theorem dX12_next_39 : decode cX12_next 39 = .ok (.iand, 1) := by decide +kernel
theorem dX12_next_40 : decode cX12_next 40 = .ok (.ifCond .ne 6, 3) := by decide +kernel
theorem dX12_next_43 : decode cX12_next 43 = .ok (.bipush (-3), 2) := by decide +kernel
theorem dX12_next_45 : decode cX12_next 45 = .ok (.ireturn, 1) := by decide +kernel
theorem dX12_next_46 : decode cX12_next 46 = .ok (.aload_n 0, 1) := by decide +kernel
theorem dX12_next_47 : decode cX12_next 47 = .ok (.aload_n 0, 1) := by decide +kernel
theorem dX12_next_48 : decode cX12_next 48 = .ok (.getfield 7, 3) := by decide +kernel
theorem dX12_next_51 : decode cX12_next 51 = .ok (.sipush 164, 3) := by decide +kernel
theorem dX12_next_54 : decode cX12_next 54 = .ok (.iload_n 1, 1) := by decide +kernel
theorem dX12_next_55 : decode cX12_next 55 = .ok (.iadd, 1) := by decide +kernel
theorem dX12_next_56 : decode cX12_next 56 = .ok (.iaload, 1) := by decide +kernel
theorem dX12_next_57 : decode cX12_next 57 = .ok (.invokevirtual 279, 3) := by decide +kernel
theorem dX12_next_60 : decode cX12_next 60 = .ok (.aload_n 0, 1) := by decide +kernel
theorem dX12_next_61 : decode cX12_next 61 = .ok (.getfield 34, 3) := by decide +kernel
theorem dX12_next_64 : decode cX12_next 64 = .ok (.aload_n 0, 1) := by decide +kernel
theorem dX12_next_65 : decode cX12_next 65 = .ok (.getfield 7, 3) := by decide +kernel
theorem dX12_next_68 : decode cX12_next 68 = .ok (.sipush 164, 3) := by decide +kernel
theorem dX12_next_71 : decode cX12_next 71 = .ok (.iload_n 1, 1) := by decide +kernel
theorem dX12_next_72 : decode cX12_next 72 = .ok (.iadd, 1) := by decide +kernel
theorem dX12_next_73 : decode cX12_next 73 = .ok (.iaload, 1) := by decide +kernel
theorem dX12_next_74 : decode cX12_next 74 = .ok (.iaload, 1) := by decide +kernel
theorem dX12_next_75 : decode cX12_next 75 = .ok (.istore_n 3, 1) := by decide +kernel
theorem dX12_next_76 : decode cX12_next 76 = .ok (.iload_n 3, 1) := by decide +kernel
theorem dX12_next_77 : decode cX12_next 77 = .ok (.iconst (-1), 1) := by decide +kernel
theorem dX12_next_78 : decode cX12_next 78 = .ok (.if_icmp .ne 15, 3) := by decide +kernel
theorem dX12_next_81 : decode cX12_next 81 = .ok (.iload_n 2, 1) := by decide +kernel
theorem dX12_next_82 : decode cX12_next 82 = .ok (.iconst 1, 1) := by decide +kernel
theorem dX12_next_83 : decode cX12_next 83 = .ok (.if_icmp .ne 7, 3) := by decide +kernel
theorem dX12_next_86 : decode cX12_next 86 = .ok (.iconst 0, 1) := by decide +kernel
theorem dX12_next_87 : decode cX12_next 87 = .ok (.goto 5, 3) := by decide +kernel
theorem dX12_next_90 : decode cX12_next 90 = .ok (.bipush (-5), 2) := by decide +kernel
theorem dX12_next_92 : decode cX12_next 92 = .ok (.ireturn, 1) := by decide +kernel
theorem dX12_next_93 : decode cX12_next 93 = .ok (.iload_n 2, 1) := by decide +kernel
theorem dX12_next_94 : decode cX12_next 94 = .ok (.ifCond .ne 5, 3) := by decide +kernel
theorem dX12_next_97 : decode cX12_next 97 = .ok (.iload_n 3, 1) := by decide +kernel
theorem dX12_next_98 : decode cX12_next 98 = .ok (.ireturn, 1) := by decide +kernel
theorem dX12_next_99 : decode cX12_next 99 = .ok (.aload_n 0, 1) := by decide +kernel
theorem dX12_next_100 : decode cX12_next 100 = .ok (.iload_n 1, 1) := by decide +kernel
theorem dX12_next_101 : decode cX12_next 101 = .ok (.invokevirtual 282, 3) := by decide +kernel
theorem dX12_next_104 : decode cX12_next 104 = .ok (.istore 4, 2) := by decide +kernel
theorem dX12_next_106 : decode cX12_next 106 = .ok (.iload_n 2, 1) := by decide +kernel
theorem dX12_next_107 : decode cX12_next 107 = .ok (.iconst 1, 1) := by decide +kernel
theorem dX12_next_108 : decode cX12_next 108 = .ok (.if_icmp .ne 16, 3) := by decide +kernel
theorem dX12_next_111 : decode cX12_next 111 = .ok (.iload 4, 2) := by decide +kernel
theorem dX12_next_113 : decode cX12_next 113 = .ok (.ifCond .ne 7, 3) := by decide +kernel
theorem dX12_next_116 : decode cX12_next 116 = .ok (.iconst 1, 1) := by decide +kernel
theorem dX12_next_117 : decode cX12_next 117 = .ok (.goto 24, 3) := by decide +kernel
theorem dX12_next_120 : decode cX12_next 120 = .ok (.iconst 0, 1) := by decide +kernel
theorem dX12_next_121 : decode cX12_next 121 = .ok (.goto 20, 3) := by decide +kernel
theorem dX12_next_124 : decode cX12_next 124 = .ok (.iload 4, 2) := by decide +kernel
theorem dX12_next_126 : decode cX12_next 126 = .ok (.aload_n 0, 1) := by decide +kernel
theorem dX12_next_127 : decode cX12_next 127 = .ok (.iconst 0, 1) := by decide +kernel
theorem dX12_next_128 : decode cX12_next 128 = .ok (.invokevirtual 275, 3) := by decide +kernel
theorem dX12_next_131 : decode cX12_next 131 = .ok (.if_icmp .gt 8, 3) := by decide +kernel
theorem dX12_next_134 : decode cX12_next 134 = .ok (.iload 4, 2) := by decide +kernel
theorem dX12_next_136 : decode cX12_next 136 = .ok (.goto 5, 3) := by decide +kernel
theorem dX12_next_139 : decode cX12_next 139 = .ok (.bipush (-5), 2) := by decide +kernel
theorem dX12_next_141 : decode cX12_next 141 = .ok (.ireturn, 1) := by decide +kernel
theorem hd_Mo_next_94 : y_Mo_next_94.cls ≠ "java/lang/invoke/MethodHandle" ∧ y_Mo_next_94.cls ≠ "java/lang/invoke/VarHandle" ∧ (parseMethodDescriptor y_Mo_next_94.desc).map (fun d => d.parameters.length) = some 2 := by decide +kernel
def f_Mo_next_94 (a1 : Int32) (a2 : Int32) (M0 : Mem) : Option (Int32 × Mem) :=
  (f_Mo_isFarm_94 a1 M0).bind fun q1 => if q1 then ((f_Mo_in a2 0 2).bind fun q3 => if q3 then ((f_Mo_looks_94 (M0.1 95 0) (-1) (-1) 0 M0).bind fun q5 => (f_Mo_leftOut_94 q5).bind fun q6 => if decide (((q6 >>> (a1 &&& 31)) &&& 1) = 0) then (some ((-3), q5)) else (if inb (164 + a1) 4700 then (f_Mo_leads_94 (q5.1 95 (164 + a1).toNatClampNeg) q5).bind fun q9 => if inb (164 + a1) 4700 then if inb (q9.1 95 (164 + a1).toNatClampNeg) 48 then if decide ((q9.1 103 (q9.1 95 (164 + a1).toNatClampNeg).toNatClampNeg) = (-1)) then (if decide (a2 = 1) then (some (0, q9)) else (some ((-5), q9))) else (if decide (a2 = 0) then (some (q9.1 103 (q9.1 95 (164 + a1).toNatClampNeg).toNatClampNeg, q9)) else ((f_Mo_lacks_94 a1 q9).bind fun q15 => if decide (a2 = 1) then (if decide (q15.1 = 0) then (some (1, q15.2)) else (some (0, q15.2))) else ((f_Mo_onWay_94 false q15.2).bind fun q18 => if decide (q15.1 ≤ q18) then (some (q15.1, q15.2)) else (some ((-5), q15.2))))) else none else none else none)) else (some ((-1), M0))) else (some ((-1), M0))
set_option maxHeartbeats 4000000 in
set_option maxRecDepth 20000 in
theorem C_Mo_next_94 {D : va_G} {ad adK adV : Nat → Nat} {cI cJ : ClassId} {l : Launch} (a1 : Int32) (a2 : Int32) (M0 : Mem) (o : Int32 × Mem) (h : f_Mo_next_94 a1 a2 M0 = some o) : Ct D ad adK adV cI cJ l y_Mo_next_94 cX12_next 5 (some .int) 515 14341 [.ref (ad 94), .int a1, .int a2] M0 (some (.int o.1)) o.2 := by
  refine x_start (lv := [(0, .ref (ad 94)), (1, .int a1), (2, .int a2)]) (own := "CurrentFarmsModel") rfl (by decide) (Nat.le_of_ble_eq_true rfl) rfl ?_
  intro p e s m args below meth c Q hQ B
  unfold f_Mo_next_94 at h
  refine x_aload_n (pc := 0) B 0 dX12_next_0 rfl rfl ?_
  refine x_iload_n (pc := 1) B 1 dX12_next_1 rfl rfl ?_
  obtain ⟨q1, hq1, h⟩ := bnd h
  refine x_callV (rest := []) (st' := [.int (bI q1)]) (pc := 2) B oi_94 rfl (C_Mo_isFarm_94 a1 M0 _ hq1) tw_1448 tw_1445 tw_1447 tw_46 tw_111 hd_Mo_isFarm_94 ⟨Nat.le_of_ble_eq_true rfl, Nat.le_of_ble_eq_true rfl⟩ rfl rfl (Nat.le_of_ble_eq_true rfl) rfl dX12_next_2 ?_
  refine x_if_eq_b (tgt := 17) (pc := 5) B dX12_next_5 rfl (fun hc2 => ?_) (fun hc2 => ?_)
  · have h := iff_ hc2 h
    refine x_iconst (v := (-1)) (pc := 17) B dX12_next_17 rfl ?_
    obtain rfl := Option.some.inj h
    exact x_iret (pc := 18) B hQ dX12_next_18
  · have h := ift hc2 h
    refine x_iload_n (pc := 8) B 2 dX12_next_8 rfl rfl ?_
    refine x_iconst (v := 0) (pc := 9) B dX12_next_9 rfl ?_
    refine x_iconst (v := 2) (pc := 10) B dX12_next_10 rfl ?_
    obtain ⟨q3, hq3, h⟩ := bnd h
    refine x_callS (rest := []) (st' := [.int (bI q3)]) (pc := 11) B (C_Mo_in a2 0 2 M0 _ hq3) tw_1406 tw_1404 tw_1405 tw_111 hd_Mo_in ⟨Nat.le_of_ble_eq_true rfl, Nat.le_of_ble_eq_true rfl⟩ rfl rfl (Nat.le_of_ble_eq_true rfl) rfl dX12_next_11 ?_
    refine x_if_ne_b (tgt := 19) (pc := 14) B dX12_next_14 rfl (fun hc4 => ?_) (fun hc4 => ?_)
    · have h := ift hc4 h
      refine x_aload_n (pc := 19) B 0 dX12_next_19 rfl rfl ?_
      refine x_aload_n (pc := 20) B 0 dX12_next_20 rfl rfl ?_
      refine x_get (T := TX12) (pc := 21) B 1 oi_94 rfl uw_12 (by decide) rfl tw_1300 rfl dX12_next_21 ?_
      refine x_iconst (v := 0) (pc := 24) B dX12_next_24 rfl ?_
      refine x_iald_c (j := 0) (pc := 25) B ai_95 (by decide) rfl dX12_next_25 ?_
      refine x_iconst (v := (-1)) (pc := 26) B dX12_next_26 rfl ?_
      refine x_iconst (v := (-1)) (pc := 27) B dX12_next_27 rfl ?_
      refine x_iconst (v := 0) (pc := 28) B dX12_next_28 rfl ?_
      obtain ⟨q5, hq5, h⟩ := bnd h
      refine x_callV (rest := []) (st' := []) (pc := 29) B oi_94 rfl (C_Mo_looks_94 (M0.1 95 0) (-1) (-1) 0 M0 _ hq5) tw_1475 tw_1472 tw_1474 tw_50 tw_111 hd_Mo_looks_94 ⟨Nat.le_of_ble_eq_true rfl, Nat.le_of_ble_eq_true rfl⟩ rfl rfl (Nat.le_of_ble_eq_true rfl) rfl dX12_next_29 ?_
      refine x_aload_n (pc := 32) B 0 dX12_next_32 rfl rfl ?_
      obtain ⟨q6, hq6, h⟩ := bnd h
      refine x_callV (rest := []) (st' := [.int q6]) (pc := 33) B oi_94 rfl (C_Mo_leftOut_94  q5 _ hq6) tw_1677 tw_1674 tw_1676 tw_81 tw_111 hd_Mo_leftOut_94 ⟨Nat.le_of_ble_eq_true rfl, Nat.le_of_ble_eq_true rfl⟩ rfl rfl (Nat.le_of_ble_eq_true rfl) rfl dX12_next_33 ?_
      refine x_iload_n (pc := 36) B 1 dX12_next_36 rfl rfl ?_
      refine x_ishr (pc := 37) B dX12_next_37 ?_
      refine x_iconst (v := 1) (pc := 38) B dX12_next_38 rfl ?_
      refine x_iand (pc := 39) B dX12_next_39 ?_
      refine x_if_ne (tgt := 46) (pc := 40) B dX12_next_40 rfl (fun hc7 => ?_) (fun hc7 => ?_)
      · have h := iff_ hc7 h
        refine x_aload_n (pc := 46) B 0 dX12_next_46 rfl rfl ?_
        refine x_aload_n (pc := 47) B 0 dX12_next_47 rfl rfl ?_
        refine x_get (T := TX12) (pc := 48) B 1 oi_94 rfl uw_12 (by decide) rfl tw_1300 rfl dX12_next_48 ?_
        refine x_sipush (v := 164) (pc := 51) B dX12_next_51 rfl ?_
        refine x_iload_n (pc := 54) B 1 dX12_next_54 rfl rfl ?_
        refine x_iadd (pc := 55) B dX12_next_55 ?_
        obtain ⟨hk8, h⟩ := ifn h
        refine x_iald (pc := 56) B ai_95 hk8 dX12_next_56 ?_
        obtain ⟨q9, hq9, h⟩ := bnd h
        refine x_callV (rest := []) (st' := []) (pc := 57) B oi_94 rfl (C_Mo_leads_94 (q5.1 95 (164 + a1).toNatClampNeg) q5 _ hq9) tw_1685 tw_1682 tw_1684 tw_82 tw_111 hd_Mo_leads_94 ⟨Nat.le_of_ble_eq_true rfl, Nat.le_of_ble_eq_true rfl⟩ rfl rfl (Nat.le_of_ble_eq_true rfl) rfl dX12_next_57 ?_
        refine x_aload_n (pc := 60) B 0 dX12_next_60 rfl rfl ?_
        refine x_get (T := TX12) (pc := 61) B 13 oi_94 rfl uw_12 (by decide) rfl tw_1312 rfl dX12_next_61 ?_
        refine x_aload_n (pc := 64) B 0 dX12_next_64 rfl rfl ?_
        refine x_get (T := TX12) (pc := 65) B 1 oi_94 rfl uw_12 (by decide) rfl tw_1300 rfl dX12_next_65 ?_
        refine x_sipush (v := 164) (pc := 68) B dX12_next_68 rfl ?_
        refine x_iload_n (pc := 71) B 1 dX12_next_71 rfl rfl ?_
        refine x_iadd (pc := 72) B dX12_next_72 ?_
        obtain ⟨hk10, h⟩ := ifn h
        refine x_iald (pc := 73) B ai_95 hk10 dX12_next_73 ?_
        obtain ⟨hk11, h⟩ := ifn h
        refine x_iald (pc := 74) B ai_103 hk11 dX12_next_74 ?_
        refine x_istore_n (lv' := [(3, .int (q9.1 103 (q9.1 95 (164 + a1).toNatClampNeg).toNatClampNeg)), (0, .ref (ad 94)), (1, .int a1), (2, .int a2)]) (pc := 75) B dX12_next_75 rfl (by decide) rfl ?_
        refine x_iload_n (pc := 76) B 0 dX12_next_76 rfl rfl ?_
        refine x_iconst (v := (-1)) (pc := 77) B dX12_next_77 rfl ?_
        refine x_icmp_ne (tgt := 93) (pc := 78) B dX12_next_78 rfl (fun hc12 => ?_) (fun hc12 => ?_)
        · have h := iff_ hc12 h
          refine x_iload_n (pc := 93) B 3 dX12_next_93 rfl rfl ?_
          refine x_if_ne (tgt := 99) (pc := 94) B dX12_next_94 rfl (fun hc14 => ?_) (fun hc14 => ?_)
          · have h := iff_ hc14 h
            refine x_aload_n (pc := 99) B 1 dX12_next_99 rfl rfl ?_
            refine x_iload_n (pc := 100) B 2 dX12_next_100 rfl rfl ?_
            obtain ⟨q15, hq15, h⟩ := bnd h
            refine x_callV (rest := []) (st' := [.int q15.1]) (pc := 101) B oi_94 rfl (C_Mo_lacks_94 a1 q9 _ hq15) tw_1693 tw_1690 tw_1692 tw_84 tw_111 hd_Mo_lacks_94 ⟨Nat.le_of_ble_eq_true rfl, Nat.le_of_ble_eq_true rfl⟩ rfl rfl (Nat.le_of_ble_eq_true rfl) rfl dX12_next_101 ?_
            refine x_istore (lv' := [(4, .int q15.1), (3, .int (q9.1 103 (q9.1 95 (164 + a1).toNatClampNeg).toNatClampNeg)), (0, .ref (ad 94)), (1, .int a1), (2, .int a2)]) (pc := 104) B dX12_next_104 (by decide) rfl ?_
            refine x_iload_n (pc := 106) B 4 dX12_next_106 rfl rfl ?_
            refine x_iconst (v := 1) (pc := 107) B dX12_next_107 rfl ?_
            refine x_icmp_ne (tgt := 124) (pc := 108) B dX12_next_108 rfl (fun hc16 => ?_) (fun hc16 => ?_)
            · have h := iff_ hc16 h
              refine x_iload (pc := 124) B 0 dX12_next_124 rfl ?_
              refine x_aload_n (pc := 126) B 2 dX12_next_126 rfl rfl ?_
              refine x_iconst (v := 0) (pc := 127) B dX12_next_127 rfl ?_
              obtain ⟨q18, hq18, h⟩ := bnd h
              refine x_callV (rest := [.int q15.1]) (st' := [.int q18, .int q15.1]) (pc := 128) B oi_94 rfl (C_Mo_onWay_94 false q15.2 _ hq18) tw_1697 tw_1694 tw_1696 tw_85 tw_111 hd_Mo_onWay_94 ⟨Nat.le_of_ble_eq_true rfl, Nat.le_of_ble_eq_true rfl⟩ rfl rfl (Nat.le_of_ble_eq_true rfl) rfl dX12_next_128 ?_
              refine x_icmp_gt (tgt := 139) (pc := 131) B dX12_next_131 rfl (fun hc19 => ?_) (fun hc19 => ?_)
              · have h := iff_ hc19 h
                refine x_bipush (v := (-5)) (pc := 139) B dX12_next_139 rfl ?_
                obtain rfl := Option.some.inj h
                exact x_iret (pc := 141) B hQ dX12_next_141
              · have h := ift hc19 h
                refine x_iload (pc := 134) B 0 dX12_next_134 rfl ?_
                refine x_goto (tgt := 141) (pc := 136) B dX12_next_136 rfl ?_
                obtain rfl := Option.some.inj h
                exact x_iret (pc := 141) B hQ dX12_next_141
            · have h := ift hc16 h
              refine x_iload (pc := 111) B 0 dX12_next_111 rfl ?_
              refine x_if_ne (tgt := 120) (pc := 113) B dX12_next_113 rfl (fun hc17 => ?_) (fun hc17 => ?_)
              · have h := iff_ hc17 h
                refine x_iconst (v := 0) (pc := 120) B dX12_next_120 rfl ?_
                refine x_goto (tgt := 141) (pc := 121) B dX12_next_121 rfl ?_
                obtain rfl := Option.some.inj h
                exact x_iret (pc := 141) B hQ dX12_next_141
              · have h := ift hc17 h
                refine x_iconst (v := 1) (pc := 116) B dX12_next_116 rfl ?_
                refine x_goto (tgt := 141) (pc := 117) B dX12_next_117 rfl ?_
                obtain rfl := Option.some.inj h
                exact x_iret (pc := 141) B hQ dX12_next_141
          · have h := ift hc14 h
            refine x_iload_n (pc := 97) B 0 dX12_next_97 rfl rfl ?_
            obtain rfl := Option.some.inj h
            exact x_iret (pc := 98) B hQ dX12_next_98
        · have h := ift hc12 h
          refine x_iload_n (pc := 81) B 3 dX12_next_81 rfl rfl ?_
          refine x_iconst (v := 1) (pc := 82) B dX12_next_82 rfl ?_
          refine x_icmp_ne (tgt := 90) (pc := 83) B dX12_next_83 rfl (fun hc13 => ?_) (fun hc13 => ?_)
          · have h := iff_ hc13 h
            refine x_bipush (v := (-5)) (pc := 90) B dX12_next_90 rfl ?_
            obtain rfl := Option.some.inj h
            exact x_iret (pc := 92) B hQ dX12_next_92
          · have h := ift hc13 h
            refine x_iconst (v := 0) (pc := 86) B dX12_next_86 rfl ?_
            refine x_goto (tgt := 92) (pc := 87) B dX12_next_87 rfl ?_
            obtain rfl := Option.some.inj h
            exact x_iret (pc := 92) B hQ dX12_next_92
      · have h := ift hc7 h
        refine x_bipush (v := (-3)) (pc := 43) B dX12_next_43 rfl ?_
        obtain rfl := Option.some.inj h
        exact x_iret (pc := 45) B hQ dX12_next_45
    · have h := iff_ hc4 h
      refine x_iconst (v := (-1)) (pc := 17) B dX12_next_17 rfl ?_
      obtain rfl := Option.some.inj h
      exact x_iret (pc := 18) B hQ dX12_next_18
-- CurrentFarmsModel.wire(I)I [94]
abbrev y_Mo_wire_94 : MethodName := ⟨"CurrentFarmsModel", "wire", "(I)I"⟩
abbrev cX12_wire : ByteArray := prog_14_method_71_code
theorem dX12_wire_0 : decode cX12_wire 0 = .ok (.iload_n 1, 1) := by decide +kernel
theorem dX12_wire_1 : decode cX12_wire 1 = .ok (.iconst 1, 1) := by decide +kernel
theorem dX12_wire_2 : decode cX12_wire 2 = .ok (.bipush 9, 2) := by decide +kernel
theorem dX12_wire_4 : decode cX12_wire 4 = .ok (.invokestatic 84, 3) := by decide +kernel
theorem dX12_wire_7 : decode cX12_wire 7 = .ok (.ifCond .ne 6, 3) := by decide +kernel
theorem dX12_wire_10 : decode cX12_wire 10 = .ok (.bipush (-2), 2) := by decide +kernel
theorem dX12_wire_12 : decode cX12_wire 12 = .ok (.ireturn, 1) := by decide +kernel
theorem dX12_wire_13 : decode cX12_wire 13 = .ok (.aload_n 0, 1) := by decide +kernel
theorem dX12_wire_14 : decode cX12_wire 14 = .ok (.getfield 7, 3) := by decide +kernel
theorem dX12_wire_17 : decode cX12_wire 17 = .ok (.bipush 8, 2) := by decide +kernel
theorem dX12_wire_19 : decode cX12_wire 19 = .ok (.iaload, 1) := by decide +kernel
theorem dX12_wire_20 : decode cX12_wire 20 = .ok (.istore_n 2, 1) := by decide +kernel
theorem dX12_wire_21 : decode cX12_wire 21 = .ok (.aload_n 0, 1) := by decide +kernel
theorem dX12_wire_22 : decode cX12_wire 22 = .ok (.getfield 7, 3) := by decide +kernel
theorem dX12_wire_25 : decode cX12_wire 25 = .ok (.bipush 8, 2) := by decide +kernel
theorem dX12_wire_27 : decode cX12_wire 27 = .ok (.iload_n 1, 1) := by decide +kernel
theorem dX12_wire_28 : decode cX12_wire 28 = .ok (.iastore, 1) := by decide +kernel
theorem dX12_wire_29 : decode cX12_wire 29 = .ok (.iload_n 2, 1) := by decide +kernel
theorem dX12_wire_30 : decode cX12_wire 30 = .ok (.ireturn, 1) := by decide +kernel
theorem hd_Mo_wire_94 : y_Mo_wire_94.cls ≠ "java/lang/invoke/MethodHandle" ∧ y_Mo_wire_94.cls ≠ "java/lang/invoke/VarHandle" ∧ (parseMethodDescriptor y_Mo_wire_94.desc).map (fun d => d.parameters.length) = some 1 := by decide +kernel
def f_Mo_wire_94 (a1 : Int32) (M0 : Mem) : Option (Int32 × Mem) :=
  (f_Mo_in a1 1 9).bind fun q1 => if q1 then (jv_ (wI M0 95 8 a1) fun M3 => some (M0.1 95 8, M3)) else (some ((-2), M0))
set_option maxHeartbeats 4000000 in
set_option maxRecDepth 20000 in
theorem C_Mo_wire_94 {D : va_G} {ad adK adV : Nat → Nat} {cI cJ : ClassId} {l : Launch} (a1 : Int32) (M0 : Mem) (o : Int32 × Mem) (h : f_Mo_wire_94 a1 M0 = some o) : Ct D ad adK adV cI cJ l y_Mo_wire_94 cX12_wire 3 (some .int) 1 22 [.ref (ad 94), .int a1] M0 (some (.int o.1)) o.2 := by
  refine x_start (lv := [(0, .ref (ad 94)), (1, .int a1)]) (own := "CurrentFarmsModel") rfl (by decide) (Nat.le_of_ble_eq_true rfl) rfl ?_
  intro p e s m args below meth c Q hQ B
  unfold f_Mo_wire_94 at h
  refine x_iload_n (pc := 0) B 1 dX12_wire_0 rfl rfl ?_
  refine x_iconst (v := 1) (pc := 1) B dX12_wire_1 rfl ?_
  refine x_bipush (v := 9) (pc := 2) B dX12_wire_2 rfl ?_
  obtain ⟨q1, hq1, h⟩ := bnd h
  refine x_callS (rest := []) (st' := [.int (bI q1)]) (pc := 4) B (C_Mo_in a1 1 9 M0 _ hq1) tw_1406 tw_1404 tw_1405 tw_111 hd_Mo_in ⟨Nat.le_of_ble_eq_true rfl, Nat.le_of_ble_eq_true rfl⟩ rfl rfl (Nat.le_of_ble_eq_true rfl) rfl dX12_wire_4 ?_
  refine x_if_ne_b (tgt := 13) (pc := 7) B dX12_wire_7 rfl (fun hc2 => ?_) (fun hc2 => ?_)
  · have h := ift hc2 h
    refine x_aload_n (pc := 13) B 0 dX12_wire_13 rfl rfl ?_
    refine x_get (T := TX12) (pc := 14) B 1 oi_94 rfl uw_12 (by decide) rfl tw_1300 rfl dX12_wire_14 ?_
    refine x_bipush (v := 8) (pc := 17) B dX12_wire_17 rfl ?_
    refine x_iald_c (j := 8) (pc := 19) B ai_95 (by decide) rfl dX12_wire_19 ?_
    refine x_istore_n (lv' := [(2, .int (M0.1 95 8)), (0, .ref (ad 94)), (1, .int a1)]) (pc := 20) B dX12_wire_20 rfl (by decide) rfl ?_
    refine x_aload_n (pc := 21) B 1 dX12_wire_21 rfl rfl ?_
    refine x_get (T := TX12) (pc := 22) B 1 oi_94 rfl uw_12 (by decide) rfl tw_1300 rfl dX12_wire_22 ?_
    refine x_bipush (v := 8) (pc := 25) B dX12_wire_25 rfl ?_
    refine x_iload_n (pc := 27) B 2 dX12_wire_27 rfl rfl ?_
    refine x_iast_c (j := 8) (pc := 28) B ai_95 (by decide) rfl dX12_wire_28 ?_
    refine jv_m (P := fun M3 => XX D ad cI cJ p l e (Rm 1 22) s m args below meth c Q 3 M3 29 [(2, .int (M0.1 95 8)), (0, .ref (ad 94)), (1, .int a1)] []) h (fun M3 h => ?_)
    refine x_iload_n (pc := 29) B 0 dX12_wire_29 rfl rfl ?_
    obtain rfl := Option.some.inj h
    exact x_iret (pc := 30) B hQ dX12_wire_30
  · have h := iff_ hc2 h
    refine x_bipush (v := (-2)) (pc := 10) B dX12_wire_10 rfl ?_
    obtain rfl := Option.some.inj h
    exact x_iret (pc := 12) B hQ dX12_wire_12
-- CurrentFarmsModel.rows()I [94]
abbrev y_Mo_rows_94 : MethodName := ⟨"CurrentFarmsModel", "rows", "()I"⟩
abbrev cX12_rows : ByteArray := prog_14_method_72_code
theorem dX12_rows_0 : decode cX12_rows 0 = .ok (.iconst 0, 1) := by decide +kernel
theorem dX12_rows_1 : decode cX12_rows 1 = .ok (.istore_n 1, 1) := by decide +kernel
theorem dX12_rows_2 : decode cX12_rows 2 = .ok (.aload_n 0, 1) := by decide +kernel
theorem dX12_rows_3 : decode cX12_rows 3 = .ok (.getfield 43, 3) := by decide +kernel
theorem dX12_rows_6 : decode cX12_rows 6 = .ok (.iload_n 1, 1) := by decide +kernel
theorem dX12_rows_7 : decode cX12_rows 7 = .ok (.aload_n 0, 1) := by decide +kernel
theorem dX12_rows_8 : decode cX12_rows 8 = .ok (.getfield 7, 3) := by decide +kernel
theorem dX12_rows_11 : decode cX12_rows 11 = .ok (.bipush 9, 2) := by decide +kernel
theorem dX12_rows_13 : decode cX12_rows 13 = .ok (.iaload, 1) := by decide +kernel
theorem dX12_rows_14 : decode cX12_rows 14 = .ok (.iastore, 1) := by decide +kernel
theorem dX12_rows_15 : decode cX12_rows 15 = .ok (.iinc 1 1, 3) := by decide +kernel
theorem dX12_rows_18 : decode cX12_rows 18 = .ok (.iconst 0, 1) := by decide +kernel
theorem dX12_rows_19 : decode cX12_rows 19 = .ok (.istore_n 2, 1) := by decide +kernel
theorem dX12_rows_20 : decode cX12_rows 20 = .ok (.iload_n 2, 1) := by decide +kernel
theorem dX12_rows_21 : decode cX12_rows 21 = .ok (.iload_n 1, 1) := by decide +kernel
theorem dX12_rows_22 : decode cX12_rows 22 = .ok (.if_icmp .ge 51, 3) := by decide +kernel
theorem dX12_rows_25 : decode cX12_rows 25 = .ok (.iconst 0, 1) := by decide +kernel
theorem dX12_rows_26 : decode cX12_rows 26 = .ok (.istore_n 3, 1) := by decide +kernel
theorem dX12_rows_27 : decode cX12_rows 27 = .ok (.iload_n 3, 1) := by decide +kernel
theorem dX12_rows_28 : decode cX12_rows 28 = .ok (.bipush 48, 2) := by decide +kernel
theorem dX12_rows_30 : decode cX12_rows 30 = .ok (.if_icmp .ge 37, 3) := by decide +kernel
theorem dX12_rows_33 : decode cX12_rows 33 = .ok (.aload_n 0, 1) := by decide +kernel
theorem dX12_rows_34 : decode cX12_rows 34 = .ok (.getfield 7, 3) := by decide +kernel
theorem dX12_rows_37 : decode cX12_rows 37 = .ok (.bipush 116, 2) := by decide +kernel
theorem dX12_rows_39 : decode cX12_rows 39 = .ok (.iload_n 3, 1) := by decide +kernel
theorem dX12_rows_40 : decode cX12_rows 40 = .ok (.iadd, 1) := by decide +kernel
theorem dX12_rows_41 : decode cX12_rows 41 = .ok (.iaload, 1) := by decide +kernel
theorem dX12_rows_42 : decode cX12_rows 42 = .ok (.aload_n 0, 1) := by decide +kernel
theorem dX12_rows_43 : decode cX12_rows 43 = .ok (.getfield 43, 3) := by decide +kernel
theorem dX12_rows_46 : decode cX12_rows 46 = .ok (.iload_n 2, 1) := by decide +kernel
theorem dX12_rows_47 : decode cX12_rows 47 = .ok (.iaload, 1) := by decide +kernel
theorem dX12_rows_48 : decode cX12_rows 48 = .ok (.if_icmp .ne 13, 3) := by decide +kernel
theorem dX12_rows_51 : decode cX12_rows 51 = .ok (.aload_n 0, 1) := by decide +kernel
theorem dX12_rows_52 : decode cX12_rows 52 = .ok (.getfield 43, 3) := by decide +kernel
theorem dX12_rows_55 : decode cX12_rows 55 = .ok (.iload_n 1, 1) := by decide +kernel
theorem dX12_rows_56 : decode cX12_rows 56 = .ok (.iload_n 3, 1) := by decide +kernel
theorem dX12_rows_57 : decode cX12_rows 57 = .ok (.iastore, 1) := by decide +kernel
theorem dX12_rows_58 : decode cX12_rows 58 = .ok (.iinc 1 1, 3) := by decide +kernel
theorem dX12_rows_61 : decode cX12_rows 61 = .ok (.iinc 3 1, 3) := by decide +kernel
theorem dX12_rows_64 : decode cX12_rows 64 = .ok (.goto (-37), 3) := by decide +kernel
theorem dX12_rows_67 : decode cX12_rows 67 = .ok (.iinc 2 1, 3) := by decide +kernel
theorem dX12_rows_70 : decode cX12_rows 70 = .ok (.goto (-50), 3) := by decide +kernel
theorem dX12_rows_73 : decode cX12_rows 73 = .ok (.iload_n 1, 1) := by decide +kernel
theorem dX12_rows_74 : decode cX12_rows 74 = .ok (.ireturn, 1) := by decide +kernel
theorem hd_Mo_rows_94 : y_Mo_rows_94.cls ≠ "java/lang/invoke/MethodHandle" ∧ y_Mo_rows_94.cls ≠ "java/lang/invoke/VarHandle" ∧ (parseMethodDescriptor y_Mo_rows_94.desc).map (fun d => d.parameters.length) = some 0 := by decide +kernel
def b_Mo_rows_94_27 (y2 : Int32 × Int32 × Mem) (y4 : Int32 × Int32 × Mem) : Option ((Int32 × Int32 × Mem) ⊕ (Int32 × Mem)) :=
  if decide (y4.2.1 < 48) then (if inb (116 + y4.2.1) 4700 then if inb y2.2.1 48 then if decide ((y4.2.2.1 95 (116 + y4.2.1).toNatClampNeg) = (y4.2.2.1 106 y2.2.1.toNatClampNeg)) then (if inb y4.1 48 then jv_ (wI y4.2.2 106 y4.1.toNatClampNeg y4.2.1) fun M10 => some (.inl (y4.1 + 1, y4.2.1 + 1, M10)) else none) else (some (.inl (y4.1, y4.2.1 + 1, y4.2.2))) else none else none) else (some (.inr (y4.1, y4.2.2)))
def b_Mo_rows_94_20  (y2 : Int32 × Int32 × Mem) : Option ((Int32 × Int32 × Mem) ⊕ (Int32 × Mem)) :=
  if decide (y2.2.1 < y2.1) then ((itr (b_Mo_rows_94_27 y2) FU (y2.1, 0, y2.2.2)).bind fun q11 => some (.inl (q11.1, y2.2.1 + 1, q11.2))) else (some (.inr (y2.1, y2.2.2)))
def f_Mo_rows_94  (M0 : Mem) : Option (Int32 × Mem) :=
  jv_ (wI M0 106 0 (M0.1 95 9)) fun M1 => (itr (b_Mo_rows_94_20) FU (0 + 1, 0, M1)).bind fun q12 => some (q12.1, q12.2)
set_option maxHeartbeats 4000000 in
set_option maxRecDepth 20000 in
theorem C_Mo_rows_94 {D : va_G} {ad adK adV : Nat → Nat} {cI cJ : ClassId} {l : Launch}  (M0 : Mem) (o : Int32 × Mem) (h : f_Mo_rows_94  M0 = some o) : Ct D ad adK adV cI cJ l y_Mo_rows_94 cX12_rows 4 (some .int) 0 0 [.ref (ad 94)] M0 (some (.int o.1)) o.2 := by
  refine x_start (lv := [(0, .ref (ad 94))]) (own := "CurrentFarmsModel") rfl (by decide) (Nat.le_of_ble_eq_true rfl) rfl ?_
  intro p e s m args below meth c Q hQ B
  unfold f_Mo_rows_94 at h
  refine x_iconst (v := 0) (pc := 0) B dX12_rows_0 rfl ?_
  refine x_istore_n (lv' := [(1, .int 0), (0, .ref (ad 94))]) (pc := 1) B dX12_rows_1 rfl (by decide) rfl ?_
  refine x_aload_n (pc := 2) B 1 dX12_rows_2 rfl rfl ?_
  refine x_get (T := TX12) (pc := 3) B 17 oi_94 rfl uw_12 (by decide) rfl tw_1316 rfl dX12_rows_3 ?_
  refine x_iload_n (pc := 6) B 0 dX12_rows_6 rfl rfl ?_
  refine x_aload_n (pc := 7) B 1 dX12_rows_7 rfl rfl ?_
  refine x_get (T := TX12) (pc := 8) B 1 oi_94 rfl uw_12 (by decide) rfl tw_1300 rfl dX12_rows_8 ?_
  refine x_bipush (v := 9) (pc := 11) B dX12_rows_11 rfl ?_
  refine x_iald_c (j := 9) (pc := 13) B ai_95 (by decide) rfl dX12_rows_13 ?_
  refine x_iast_c (j := 0) (pc := 14) B ai_106 (by decide) rfl dX12_rows_14 ?_
  refine jv_m (P := fun M1 => XX D ad cI cJ p l e (Rm 0 0) s m args below meth c Q 4 M1 15 [(1, .int 0), (0, .ref (ad 94))] []) h (fun M1 h => ?_)
  refine x_iinc (k := 0) (v := 0 + 1) (lv' := [(1, .int (0 + 1)), (0, .ref (ad 94))]) (pc := 15) B dX12_rows_15 rfl rfl (by decide) rfl ?_
  refine x_iconst (v := 0) (pc := 18) B dX12_rows_18 rfl ?_
  refine x_istore_n (lv' := [(2, .int 0), (1, .int (0 + 1)), (0, .ref (ad 94))]) (pc := 19) B dX12_rows_19 rfl (by decide) rfl ?_
  refine x_pick (lv' := [(0, .ref (ad 94)), (1, .int (0 + 1)), (2, .int 0)]) [2, 1, 0] rfl ?_
  obtain ⟨q12, hq12, h⟩ := bnd h
  refine x_loop (Head := fun (y2 : Int32 × Int32 × Mem) => XX D ad cI cJ p l e (Rm 0 0) s m args below meth c Q 4 y2.2.2 20 [(0, .ref (ad 94)), (1, .int y2.1), (2, .int y2.2.1)] []) (Ex := fun (q12 : Int32 × Mem) => XX D ad cI cJ p l e (Rm 0 0) s m args below meth c Q 4 q12.2 73 [(1, .int q12.1)] []) (fun y2 r h hback hexit => ?_) FU _ q12 hq12 ?_
  · unfold b_Mo_rows_94_20 at h
    refine x_iload_n (pc := 20) B 2 dX12_rows_20 rfl rfl ?_
    refine x_iload_n (pc := 21) B 1 dX12_rows_21 rfl rfl ?_
    refine x_icmp_ge (tgt := 73) (pc := 22) B dX12_rows_22 rfl (fun hc3 => ?_) (fun hc3 => ?_)
    · have h := iff_ hc3 h
      refine x_pick (lv' := [(1, .int y2.1)]) [1] rfl ?_
      have z := hexit (y2.1, y2.2.2) (Option.some.inj h).symm
      exact z
    · have h := ift hc3 h
      refine x_iconst (v := 0) (pc := 25) B dX12_rows_25 rfl ?_
      refine x_istore_n (lv' := [(3, .int 0), (0, .ref (ad 94)), (1, .int y2.1), (2, .int y2.2.1)]) (pc := 26) B dX12_rows_26 rfl (by decide) rfl ?_
      refine x_pick (lv' := [(0, .ref (ad 94)), (1, .int y2.1), (2, .int y2.2.1), (3, .int 0)]) [1, 2, 3, 0] rfl ?_
      obtain ⟨q11, hq11, h⟩ := bnd h
      refine x_loop (Head := fun (y4 : Int32 × Int32 × Mem) => XX D ad cI cJ p l e (Rm 0 0) s m args below meth c Q 4 y4.2.2 27 [(0, .ref (ad 94)), (1, .int y4.1), (2, .int y2.2.1), (3, .int y4.2.1)] []) (Ex := fun (q11 : Int32 × Mem) => XX D ad cI cJ p l e (Rm 0 0) s m args below meth c Q 4 q11.2 67 [(0, .ref (ad 94)), (1, .int q11.1), (2, .int y2.2.1)] []) (fun y4 r h hback hexit => ?_) FU _ q11 hq11 ?_
      · unfold b_Mo_rows_94_27 at h
        refine x_iload_n (pc := 27) B 3 dX12_rows_27 rfl rfl ?_
        refine x_bipush (v := 48) (pc := 28) B dX12_rows_28 rfl ?_
        refine x_icmp_ge (tgt := 67) (pc := 30) B dX12_rows_30 rfl (fun hc5 => ?_) (fun hc5 => ?_)
        · have h := iff_ hc5 h
          refine x_pick (lv' := [(0, .ref (ad 94)), (1, .int y4.1), (2, .int y2.2.1)]) [0, 1, 2] rfl ?_
          have z := hexit (y4.1, y4.2.2) (Option.some.inj h).symm
          exact z
        · have h := ift hc5 h
          refine x_aload_n (pc := 33) B 0 dX12_rows_33 rfl rfl ?_
          refine x_get (T := TX12) (pc := 34) B 1 oi_94 rfl uw_12 (by decide) rfl tw_1300 rfl dX12_rows_34 ?_
          refine x_bipush (v := 116) (pc := 37) B dX12_rows_37 rfl ?_
          refine x_iload_n (pc := 39) B 3 dX12_rows_39 rfl rfl ?_
          refine x_iadd (pc := 40) B dX12_rows_40 ?_
          obtain ⟨hk6, h⟩ := ifn h
          refine x_iald (pc := 41) B ai_95 hk6 dX12_rows_41 ?_
          refine x_aload_n (pc := 42) B 0 dX12_rows_42 rfl rfl ?_
          refine x_get (T := TX12) (pc := 43) B 17 oi_94 rfl uw_12 (by decide) rfl tw_1316 rfl dX12_rows_43 ?_
          refine x_iload_n (pc := 46) B 2 dX12_rows_46 rfl rfl ?_
          obtain ⟨hk7, h⟩ := ifn h
          refine x_iald (pc := 47) B ai_106 hk7 dX12_rows_47 ?_
          refine x_icmp_ne (tgt := 61) (pc := 48) B dX12_rows_48 rfl (fun hc8 => ?_) (fun hc8 => ?_)
          · have h := iff_ hc8 h
            refine x_iinc (k := 3) (v := y4.2.1 + 1) (lv' := [(3, .int (y4.2.1 + 1)), (0, .ref (ad 94)), (1, .int y4.1), (2, .int y2.2.1)]) (pc := 61) B dX12_rows_61 rfl rfl (by decide) rfl ?_
            refine x_goto (tgt := 27) (pc := 64) B dX12_rows_64 rfl ?_
            refine x_pick (lv' := [(0, .ref (ad 94)), (1, .int y4.1), (2, .int y2.2.1), (3, .int (y4.2.1 + 1))]) [1, 2, 3, 0] rfl ?_
            have z := hback (y4.1, y4.2.1 + 1, y4.2.2) (Option.some.inj h).symm
            exact z
          · have h := ift hc8 h
            refine x_aload_n (pc := 51) B 0 dX12_rows_51 rfl rfl ?_
            refine x_get (T := TX12) (pc := 52) B 17 oi_94 rfl uw_12 (by decide) rfl tw_1316 rfl dX12_rows_52 ?_
            refine x_iload_n (pc := 55) B 1 dX12_rows_55 rfl rfl ?_
            refine x_iload_n (pc := 56) B 3 dX12_rows_56 rfl rfl ?_
            obtain ⟨hk9, h⟩ := ifn h
            refine x_iast (pc := 57) B ai_106 hk9 dX12_rows_57 ?_
            refine jv_m (P := fun M10 => XX D ad cI cJ p l e (Rm 0 0) s m args below meth c Q 4 M10 58 [(0, .ref (ad 94)), (1, .int y4.1), (2, .int y2.2.1), (3, .int y4.2.1)] []) h (fun M10 h => ?_)
            refine x_iinc (k := 1) (v := y4.1 + 1) (lv' := [(1, .int (y4.1 + 1)), (0, .ref (ad 94)), (2, .int y2.2.1), (3, .int y4.2.1)]) (pc := 58) B dX12_rows_58 rfl rfl (by decide) rfl ?_
            refine x_iinc (k := 3) (v := y4.2.1 + 1) (lv' := [(3, .int (y4.2.1 + 1)), (1, .int (y4.1 + 1)), (0, .ref (ad 94)), (2, .int y2.2.1)]) (pc := 61) B dX12_rows_61 rfl rfl (by decide) rfl ?_
            refine x_goto (tgt := 27) (pc := 64) B dX12_rows_64 rfl ?_
            refine x_pick (lv' := [(0, .ref (ad 94)), (1, .int (y4.1 + 1)), (2, .int y2.2.1), (3, .int (y4.2.1 + 1))]) [2, 1, 3, 0] rfl ?_
            have z := hback (y4.1 + 1, y4.2.1 + 1, M10) (Option.some.inj h).symm
            exact z
      · refine x_iinc (k := 2) (v := y2.2.1 + 1) (lv' := [(2, .int (y2.2.1 + 1)), (0, .ref (ad 94)), (1, .int q11.1)]) (pc := 67) B dX12_rows_67 rfl rfl (by decide) rfl ?_
        refine x_goto (tgt := 20) (pc := 70) B dX12_rows_70 rfl ?_
        refine x_pick (lv' := [(0, .ref (ad 94)), (1, .int q11.1), (2, .int (y2.2.1 + 1))]) [1, 2, 0] rfl ?_
        have z := hback (q11.1, y2.2.1 + 1, q11.2) (Option.some.inj h).symm
        exact z
  · refine x_iload_n (pc := 73) B 0 dX12_rows_73 rfl rfl ?_
    obtain rfl := Option.some.inj h
    exact x_iret (pc := 74) B hQ dX12_rows_74
-- CurrentFarmsModel.sweep(I)Z [94]
abbrev y_Mo_sweep_94 : MethodName := ⟨"CurrentFarmsModel", "sweep", "(I)Z"⟩
abbrev cX12_sweep : ByteArray := prog_14_method_73_code
theorem dX12_sweep_0 : decode cX12_sweep 0 = .ok (.iconst 0, 1) := by decide +kernel
theorem dX12_sweep_1 : decode cX12_sweep 1 = .ok (.istore_n 2, 1) := by decide +kernel
theorem dX12_sweep_2 : decode cX12_sweep 2 = .ok (.iload_n 2, 1) := by decide +kernel
theorem dX12_sweep_3 : decode cX12_sweep 3 = .ok (.bipush 48, 2) := by decide +kernel
theorem dX12_sweep_5 : decode cX12_sweep 5 = .ok (.if_icmp .ge 16, 3) := by decide +kernel
theorem dX12_sweep_8 : decode cX12_sweep 8 = .ok (.aload_n 0, 1) := by decide +kernel
theorem dX12_sweep_9 : decode cX12_sweep 9 = .ok (.getfield 46, 3) := by decide +kernel
theorem dX12_sweep_12 : decode cX12_sweep 12 = .ok (.iload_n 2, 1) := by decide +kernel
theorem dX12_sweep_13 : decode cX12_sweep 13 = .ok (.lconst 0, 1) := by decide +kernel
theorem dX12_sweep_14 : decode cX12_sweep 14 = .ok (.lastore, 1) := by decide +kernel
theorem dX12_sweep_15 : decode cX12_sweep 15 = .ok (.iinc 2 1, 3) := by decide +kernel
theorem dX12_sweep_18 : decode cX12_sweep 18 = .ok (.goto (-16), 3) := by decide +kernel
theorem dX12_sweep_21 : decode cX12_sweep 21 = .ok (.iconst 0, 1) := by decide +kernel
theorem dX12_sweep_22 : decode cX12_sweep 22 = .ok (.istore_n 2, 1) := by decide +kernel
theorem dX12_sweep_23 : decode cX12_sweep 23 = .ok (.iload_n 2, 1) := by decide +kernel
theorem dX12_sweep_24 : decode cX12_sweep 24 = .ok (.aload_n 0, 1) := by decide +kernel
theorem dX12_sweep_25 : decode cX12_sweep 25 = .ok (.getfield 7, 3) := by decide +kernel
theorem dX12_sweep_28 : decode cX12_sweep 28 = .ok (.iconst 1, 1) := by decide +kernel
theorem dX12_sweep_29 : decode cX12_sweep 29 = .ok (.iaload, 1) := by decide +kernel
theorem dX12_sweep_30 : decode cX12_sweep 30 = .ok (.if_icmp .ge 98, 3) := by decide +kernel
theorem dX12_sweep_33 : decode cX12_sweep 33 = .ok (.aload_n 0, 1) := by decide +kernel
theorem dX12_sweep_34 : decode cX12_sweep 34 = .ok (.getfield 7, 3) := by decide +kernel
theorem dX12_sweep_37 : decode cX12_sweep 37 = .ok (.sipush 164, 3) := by decide +kernel
theorem dX12_sweep_40 : decode cX12_sweep 40 = .ok (.iload_n 2, 1) := by decide +kernel
theorem dX12_sweep_41 : decode cX12_sweep 41 = .ok (.iadd, 1) := by decide +kernel
theorem dX12_sweep_42 : decode cX12_sweep 42 = .ok (.iaload, 1) := by decide +kernel
theorem dX12_sweep_43 : decode cX12_sweep 43 = .ok (.istore_n 3, 1) := by decide +kernel
theorem dX12_sweep_44 : decode cX12_sweep 44 = .ok (.aload_n 0, 1) := by decide +kernel
theorem dX12_sweep_45 : decode cX12_sweep 45 = .ok (.iload_n 3, 1) := by decide +kernel
theorem dX12_sweep_46 : decode cX12_sweep 46 = .ok (.invokevirtual 92, 3) := by decide +kernel
theorem dX12_sweep_49 : decode cX12_sweep 49 = .ok (.ifCond .eq 30, 3) := by decide +kernel
theorem dX12_sweep_52 : decode cX12_sweep 52 = .ok (.aload_n 0, 1) := by decide +kernel
theorem dX12_sweep_53 : decode cX12_sweep 53 = .ok (.iload_n 2, 1) := by decide +kernel
theorem dX12_sweep_54 : decode cX12_sweep 54 = .ok (.aload_n 0, 1) := by decide +kernel
theorem dX12_sweep_55 : decode cX12_sweep 55 = .ok (.getfield 7, 3) := by decide +kernel
theorem dX12_sweep_58 : decode cX12_sweep 58 = .ok (.iconst 0, 1) := by decide +kernel
theorem dX12_sweep_59 : decode cX12_sweep 59 = .ok (.iaload, 1) := by decide +kernel
theorem dX12_sweep_60 : decode cX12_sweep 60 = .ok (.invokevirtual 285, 3) := by decide +kernel
theorem dX12_sweep_63 : decode cX12_sweep 63 = .ok (.ifCond .eq 16, 3) := by decide +kernel
theorem dX12_sweep_66 : decode cX12_sweep 66 = .ok (.aload_n 0, 1) := by decide +kernel
theorem dX12_sweep_67 : decode cX12_sweep 67 = .ok (.getfield 40, 3) := by decide +kernel
theorem dX12_sweep_70 : decode cX12_sweep 70 = .ok (.iload_n 3, 1) := by decide +kernel
theorem dX12_sweep_71 : decode cX12_sweep 71 = .ok (.iaload, 1) := by decide +kernel
theorem dX12_sweep_72 : decode cX12_sweep 72 = .ok (.ifCond .le 7, 3) := by decide +kernel
theorem dX12_sweep_75 : decode cX12_sweep 75 = .ok (.iconst 1, 1) := by decide +kernel
theorem dX12_sweep_76 : decode cX12_sweep 76 = .ok (.goto 4, 3) := by decide +kernel
theorem dX12_sweep_79 : decode cX12_sweep 79 = .ok (.iconst 0, 1) := by decide +kernel
theorem dX12_sweep_80 : decode cX12_sweep 80 = .ok (.istore 4, 2) := by decide +kernel
theorem dX12_sweep_82 : decode cX12_sweep 82 = .ok (.aload_n 0, 1) := by decide +kernel
theorem dX12_sweep_83 : decode cX12_sweep 83 = .ok (.getfield 46, 3) := by decide +kernel
theorem dX12_sweep_86 : decode cX12_sweep 86 = .ok (.iload_n 3, 1) := by decide +kernel
theorem dX12_sweep_87 : decode cX12_sweep 87 = .ok (.dup2, 1) := by decide +kernel
theorem dX12_sweep_88 : decode cX12_sweep 88 = .ok (.laload, 1) := by decide +kernel
theorem dX12_sweep_89 : decode cX12_sweep 89 = .ok (.iload 4, 2) := by decide +kernel
theorem dX12_sweep_91 : decode cX12_sweep 91 = .ok (.ifCond .eq 28, 3) := by decide +kernel
theorem dX12_sweep_94 : decode cX12_sweep 94 = .ok (.aload_n 0, 1) := by decide +kernel
theorem dX12_sweep_95 : decode cX12_sweep 95 = .ok (.getfield 7, 3) := by decide +kernel
theorem dX12_sweep_98 : decode cX12_sweep 98 = .ok (.sipush 174, 3) := by decide +kernel
theorem dX12_sweep_101 : decode cX12_sweep 101 = .ok (.iload_n 2, 1) := by decide +kernel
theorem dX12_sweep_102 : decode cX12_sweep 102 = .ok (.iadd, 1) := by decide +kernel
theorem dX12_sweep_103 : decode cX12_sweep 103 = .ok (.iaload, 1) := by decide +kernel
theorem dX12_sweep_104 : decode cX12_sweep 104 = .ok (.sipush 1000, 3) := by decide +kernel
theorem dX12_sweep_107 : decode cX12_sweep 107 = .ok (.imul, 1) := by decide +kernel
theorem dX12_sweep_108 : decode cX12_sweep 108 = .ok (.aload_n 0, 1) := by decide +kernel
theorem dX12_sweep_109 : decode cX12_sweep 109 = .ok (.getfield 40, 3) := by decide +kernel
theorem dX12_sweep_112 : decode cX12_sweep 112 = .ok (.iload_n 3, 1) := by decide +kernel
theorem dX12_sweep_113 : decode cX12_sweep 113 = .ok (.iaload, 1) := by decide +kernel
theorem dX12_sweep_114 : decode cX12_sweep 114 = .ok (.idiv, 1) := by decide +kernel
theorem dX12_sweep_115 : decode cX12_sweep 115 = .ok (.i2l, 1) := by decide +kernel
theorem dX12_sweep_116 : decode cX12_sweep 116 = .ok (.goto 4, 3) := by decide +kernel
theorem dX12_sweep_119 : decode cX12_sweep 119 = .ok (.lconst 0, 1) := by decide +kernel
theorem dX12_sweep_120 : decode cX12_sweep 120 = .ok (.ladd, 1) := by decide +kernel
theorem dX12_sweep_121 : decode cX12_sweep 121 = .ok (.lastore, 1) := by decide +kernel
theorem dX12_sweep_122 : decode cX12_sweep 122 = .ok (.iinc 2 1, 3) := by decide +kernel
theorem dX12_sweep_125 : decode cX12_sweep 125 = .ok (.goto (-102), 3) := by decide +kernel
theorem dX12_sweep_128 : decode cX12_sweep 128 = .ok (.iload_n 1, 1) := by decide +kernel
theorem dX12_sweep_129 : decode cX12_sweep 129 = .ok (.iconst 1, 1) := by decide +kernel
theorem dX12_sweep_130 : decode cX12_sweep 130 = .ok (.isub, 1) := by decide +kernel
theorem dX12_sweep_131 : decode cX12_sweep 131 = .ok (.istore_n 2, 1) := by decide +kernel
theorem dX12_sweep_132 : decode cX12_sweep 132 = .ok (.iload_n 2, 1) := by decide +kernel
theorem dX12_sweep_133 : decode cX12_sweep 133 = .ok (.ifCond .le 42, 3) := by decide +kernel
theorem dX12_sweep_136 : decode cX12_sweep 136 = .ok (.aload_n 0, 1) := by decide +kernel
theorem dX12_sweep_137 : decode cX12_sweep 137 = .ok (.getfield 46, 3) := by decide +kernel
theorem dX12_sweep_140 : decode cX12_sweep 140 = .ok (.aload_n 0, 1) := by decide +kernel
theorem dX12_sweep_141 : decode cX12_sweep 141 = .ok (.getfield 7, 3) := by decide +kernel
theorem dX12_sweep_144 : decode cX12_sweep 144 = .ok (.bipush 116, 2) := by decide +kernel
theorem dX12_sweep_146 : decode cX12_sweep 146 = .ok (.aload_n 0, 1) := by decide +kernel
theorem dX12_sweep_147 : decode cX12_sweep 147 = .ok (.getfield 43, 3) := by decide +kernel
theorem dX12_sweep_150 : decode cX12_sweep 150 = .ok (.iload_n 2, 1) := by decide +kernel
theorem dX12_sweep_151 : decode cX12_sweep 151 = .ok (.iaload, 1) := by decide +kernel
theorem dX12_sweep_152 : decode cX12_sweep 152 = .ok (.iadd, 1) := by decide +kernel
theorem dX12_sweep_153 : decode cX12_sweep 153 = .ok (.iaload, 1) := by decide +kernel
theorem dX12_sweep_154 : decode cX12_sweep 154 = .ok (.dup2, 1) := by decide +kernel
theorem dX12_sweep_155 : decode cX12_sweep 155 = .ok (.laload, 1) := by decide +kernel
theorem dX12_sweep_156 : decode cX12_sweep 156 = .ok (.aload_n 0, 1) := by decide +kernel
theorem dX12_sweep_157 : decode cX12_sweep 157 = .ok (.getfield 46, 3) := by decide +kernel
theorem dX12_sweep_160 : decode cX12_sweep 160 = .ok (.aload_n 0, 1) := by decide +kernel
theorem dX12_sweep_161 : decode cX12_sweep 161 = .ok (.getfield 43, 3) := by decide +kernel
theorem dX12_sweep_164 : decode cX12_sweep 164 = .ok (.iload_n 2, 1) := by decide +kernel
theorem dX12_sweep_165 : decode cX12_sweep 165 = .ok (.iaload, 1) := by decide +kernel
theorem dX12_sweep_166 : decode cX12_sweep 166 = .ok (.laload, 1) := by decide +kernel
theorem dX12_sweep_167 : decode cX12_sweep 167 = .ok (.ladd, 1) := by decide +kernel
theorem dX12_sweep_168 : decode cX12_sweep 168 = .ok (.lastore, 1) := by decide +kernel
theorem dX12_sweep_169 : decode cX12_sweep 169 = .ok (.iinc 2 (-1), 3) := by decide +kernel
theorem dX12_sweep_172 : decode cX12_sweep 172 = .ok (.goto (-40), 3) := by decide +kernel
theorem dX12_sweep_175 : decode cX12_sweep 175 = .ok (.iconst 1, 1) := by decide +kernel
theorem dX12_sweep_176 : decode cX12_sweep 176 = .ok (.istore_n 2, 1) := by decide +kernel
theorem dX12_sweep_177 : decode cX12_sweep 177 = .ok (.iconst 1, 1) := by decide +kernel
theorem dX12_sweep_178 : decode cX12_sweep 178 = .ok (.istore_n 3, 1) := by decide +kernel
theorem dX12_sweep_179 : decode cX12_sweep 179 = .ok (.iload_n 3, 1) := by decide +kernel
theorem dX12_sweep_180 : decode cX12_sweep 180 = .ok (.iload_n 1, 1) := by decide +kernel
theorem dX12_sweep_181 : decode cX12_sweep 181 = .ok (.if_icmp .ge 93, 3) := by decide +kernel
theorem dX12_sweep_184 : decode cX12_sweep 184 = .ok (.aload_n 0, 1) := by decide +kernel
theorem dX12_sweep_185 : decode cX12_sweep 185 = .ok (.getfield 43, 3) := by decide +kernel
theorem dX12_sweep_188 : decode cX12_sweep 188 = .ok (.iload_n 3, 1) := by decide +kernel
theorem dX12_sweep_189 : decode cX12_sweep 189 = .ok (.iaload, 1) := by decide +kernel
theorem dX12_sweep_190 : decode cX12_sweep 190 = .ok (.istore 4, 2) := by decide +kernel
theorem dX12_sweep_192 : decode cX12_sweep 192 = .ok (.aload_n 0, 1) := by decide +kernel
theorem dX12_sweep_193 : decode cX12_sweep 193 = .ok (.getfield 40, 3) := by decide +kernel
theorem dX12_sweep_196 : decode cX12_sweep 196 = .ok (.aload_n 0, 1) := by decide +kernel
theorem dX12_sweep_197 : decode cX12_sweep 197 = .ok (.getfield 7, 3) := by decide +kernel
theorem dX12_sweep_200 : decode cX12_sweep 200 = .ok (.bipush 116, 2) := by decide +kernel
theorem dX12_sweep_202 : decode cX12_sweep 202 = .ok (.iload 4, 2) := by decide +kernel
theorem dX12_sweep_204 : decode cX12_sweep 204 = .ok (.iadd, 1) := by decide +kernel
theorem dX12_sweep_205 : decode cX12_sweep 205 = .ok (.iaload, 1) := by decide +kernel
theorem dX12_sweep_206 : decode cX12_sweep 206 = .ok (.iaload, 1) := by decide +kernel
theorem dX12_sweep_207 : decode cX12_sweep 207 = .ok (.i2l, 1) := by decide +kernel
theorem dX12_sweep_208 : decode cX12_sweep 208 = .ok (.aload_n 0, 1) := by decide +kernel
theorem dX12_sweep_209 : decode cX12_sweep 209 = .ok (.getfield 7, 3) := by decide +kernel
theorem dX12_sweep_212 : decode cX12_sweep 212 = .ok (.bipush 8, 2) := by decide +kernel
theorem dX12_sweep_214 : decode cX12_sweep 214 = .ok (.iaload, 1) := by decide +kernel
theorem dX12_sweep_215 : decode cX12_sweep 215 = .ok (.i2l, 1) := by decide +kernel
theorem dX12_sweep_216 : decode cX12_sweep 216 = .ok (.aload_n 0, 1) := by decide +kernel
theorem dX12_sweep_217 : decode cX12_sweep 217 = .ok (.getfield 46, 3) := by decide +kernel
theorem dX12_sweep_220 : decode cX12_sweep 220 = .ok (.iload 4, 2) := by decide +kernel
theorem dX12_sweep_222 : decode cX12_sweep 222 = .ok (.laload, 1) := by decide +kernel
theorem dX12_sweep_223 : decode cX12_sweep 223 = .ok (.lmul, 1) := by decide +kernel
theorem dX12_sweep_224 : decode cX12_sweep 224 = .ok (.ldc2_w 288, 3) := by decide +kernel
theorem dX12_sweep_227 : decode cX12_sweep 227 = .ok (.ldiv, 1) := by decide +kernel
theorem dX12_sweep_228 : decode cX12_sweep 228 = .ok (.lsub, 1) := by decide +kernel
theorem dX12_sweep_229 : decode cX12_sweep 229 = .ok (.l2i, 1) := by decide +kernel
theorem dX12_sweep_230 : decode cX12_sweep 230 = .ok (.istore 5, 2) := by decide +kernel
theorem dX12_sweep_232 : decode cX12_sweep 232 = .ok (.iload_n 2, 1) := by decide +kernel
theorem dX12_sweep_233 : decode cX12_sweep 233 = .ok (.ifCond .eq 24, 3) := by decide +kernel
theorem dX12_sweep_236 : decode cX12_sweep 236 = .ok (.iload 5, 2) := by decide +kernel
theorem dX12_sweep_238 : decode cX12_sweep 238 = .ok (.aload_n 0, 1) := by decide +kernel
theorem dX12_sweep_239 : decode cX12_sweep 239 = .ok (.getfield 40, 3) := by decide +kernel
theorem dX12_sweep_242 : decode cX12_sweep 242 = .ok (.iload 4, 2) := by decide +kernel
theorem dX12_sweep_244 : decode cX12_sweep 244 = .ok (.iaload, 1) := by decide +kernel
theorem dX12_sweep_245 : decode cX12_sweep 245 = .ok (.isub, 1) := by decide +kernel
theorem dX12_sweep_246 : decode cX12_sweep 246 = .ok (.invokestatic 95, 3) := by decide +kernel
theorem dX12_sweep_249 : decode cX12_sweep 249 = .ok (.iconst 1, 1) := by decide +kernel
theorem dX12_sweep_250 : decode cX12_sweep 250 = .ok (.if_icmp .gt 7, 3) := by decide +kernel
theorem dX12_sweep_253 : decode cX12_sweep 253 = .ok (.iconst 1, 1) := by decide +kernel
theorem dX12_sweep_254 : decode cX12_sweep 254 = .ok (.goto 4, 3) := by decide +kernel
theorem dX12_sweep_257 : decode cX12_sweep 257 = .ok (.iconst 0, 1) := by decide +kernel
theorem dX12_sweep_258 : decode cX12_sweep 258 = .ok (.istore_n 2, 1) := by decide +kernel
theorem dX12_sweep_259 : decode cX12_sweep 259 = .ok (.aload_n 0, 1) := by decide +kernel
theorem dX12_sweep_260 : decode cX12_sweep 260 = .ok (.getfield 40, 3) := by decide +kernel
theorem dX12_sweep_263 : decode cX12_sweep 263 = .ok (.iload 4, 2) := by decide +kernel
theorem dX12_sweep_265 : decode cX12_sweep 265 = .ok (.iload 5, 2) := by decide +kernel
theorem dX12_sweep_267 : decode cX12_sweep 267 = .ok (.iastore, 1) := by decide +kernel
theorem dX12_sweep_268 : decode cX12_sweep 268 = .ok (.iinc 3 1, 3) := by decide +kernel
theorem dX12_sweep_271 : decode cX12_sweep 271 = .ok (.goto (-92), 3) := by decide +kernel
theorem dX12_sweep_274 : decode cX12_sweep 274 = .ok (.iload_n 2, 1) := by decide +kernel
theorem dX12_sweep_275 : decode cX12_sweep 275 = .ok (.ireturn, 1) := by decide +kernel
theorem hd_Mo_sweep_94 : y_Mo_sweep_94.cls ≠ "java/lang/invoke/MethodHandle" ∧ y_Mo_sweep_94.cls ≠ "java/lang/invoke/VarHandle" ∧ (parseMethodDescriptor y_Mo_sweep_94.desc).map (fun d => d.parameters.length) = some 1 := by decide +kernel
def b_Mo_sweep_94_2  (y1 : Int32 × Mem) : Option ((Int32 × Mem) ⊕ (Mem)) :=
  if decide (y1.1 < 48) then (if inb y1.1 48 then jv_ (wL y1.2 107 y1.1.toNatClampNeg 0) fun M4 => some (.inl (y1.1 + 1, M4)) else none) else (some (.inr y1.2))
def b_Mo_sweep_94_23  (y6 : Int32 × Mem) : Option ((Int32 × Mem) ⊕ (Mem)) :=
  if decide (y6.1 < (y6.2.1 95 1)) then (if inb (164 + y6.1) 4700 then (f_Mo_isOnLine_94 (y6.2.1 95 (164 + y6.1).toNatClampNeg) y6.2).bind fun q9 => jn_ (fun (u12 : Bool) => if inb (y6.2.1 95 (164 + y6.1).toNatClampNeg) 48 then jn_ (fun (u16 : Int64) => if inb (y6.2.1 95 (164 + y6.1).toNatClampNeg) 48 then jv_ (wL y6.2 107 (y6.2.1 95 (164 + y6.1).toNatClampNeg).toNatClampNeg ((y6.2.2 107 (y6.2.1 95 (164 + y6.1).toNatClampNeg).toNatClampNeg) + u16)) fun M18 => some (.inl (y6.1 + 1, M18)) else none) fun k19 => if u12 then (if inb (174 + y6.1) 4700 then if inb (y6.2.1 95 (164 + y6.1).toNatClampNeg) 48 then if !decide ((y6.2.1 105 (y6.2.1 95 (164 + y6.1).toNatClampNeg).toNatClampNeg) = 0) then k19 ((((y6.2.1 95 (174 + y6.1).toNatClampNeg) * 1000) / (y6.2.1 105 (y6.2.1 95 (164 + y6.1).toNatClampNeg).toNatClampNeg)).toInt64) else none else none else none) else (k19 0) else none) fun k23 => if q9 then ((f_Mo_isServed_94 y6.1 (y6.2.1 95 0) y6.2).bind fun q24 => if q24 then (if inb (y6.2.1 95 (164 + y6.1).toNatClampNeg) 48 then if decide ((y6.2.1 105 (y6.2.1 95 (164 + y6.1).toNatClampNeg).toNatClampNeg) ≤ 0) then (k23 false) else (k23 true) else none) else (k23 false)) else (k23 false) else none) else (some (.inr y6.2))
def b_Mo_sweep_94_132  (y29 : Int32 × Mem) : Option ((Int32 × Mem) ⊕ (Mem)) :=
  if decide (y29.1 ≤ 0) then (some (.inr y29.2)) else (if inb y29.1 48 then if inb (116 + (y29.2.1 106 y29.1.toNatClampNeg)) 4700 then if inb (y29.2.1 95 (116 + (y29.2.1 106 y29.1.toNatClampNeg)).toNatClampNeg) 48 then if inb y29.1 48 then if inb (y29.2.1 106 y29.1.toNatClampNeg) 48 then if inb (y29.2.1 95 (116 + (y29.2.1 106 y29.1.toNatClampNeg)).toNatClampNeg) 48 then jv_ (wL y29.2 107 (y29.2.1 95 (116 + (y29.2.1 106 y29.1.toNatClampNeg)).toNatClampNeg).toNatClampNeg ((y29.2.2 107 (y29.2.1 95 (116 + (y29.2.1 106 y29.1.toNatClampNeg)).toNatClampNeg).toNatClampNeg) + (y29.2.2 107 (y29.2.1 106 y29.1.toNatClampNeg).toNatClampNeg))) fun M37 => some (.inl (y29.1 + (-1), M37)) else none else none else none else none else none else none)
def b_Mo_sweep_94_179 (a1 : Int32) (y39 : Bool × Int32 × Mem) : Option ((Bool × Int32 × Mem) ⊕ (Bool × Mem)) :=
  if decide (y39.2.1 < a1) then (if inb y39.2.1 48 then if inb (116 + (y39.2.2.1 106 y39.2.1.toNatClampNeg)) 4700 then if inb (y39.2.2.1 95 (116 + (y39.2.2.1 106 y39.2.1.toNatClampNeg)).toNatClampNeg) 48 then if inb (y39.2.2.1 106 y39.2.1.toNatClampNeg) 48 then jv_ ((((y39.2.2.1 105 (y39.2.2.1 95 (116 + (y39.2.2.1 106 y39.2.1.toNatClampNeg)).toNatClampNeg).toNatClampNeg).toInt64) - ((((y39.2.2.1 95 8).toInt64) * (y39.2.2.2 107 (y39.2.2.1 106 y39.2.1.toNatClampNeg).toNatClampNeg)) / 10)).toInt32 : Int32) fun x45 => jn_ (fun (u48 : Bool) => if inb (y39.2.2.1 106 y39.2.1.toNatClampNeg) 48 then jv_ (wI y39.2.2 105 (y39.2.2.1 106 y39.2.1.toNatClampNeg).toNatClampNeg x45) fun M50 => some (.inl (u48, y39.2.1 + 1, M50)) else none) fun k51 => if y39.1 then (if inb (y39.2.2.1 106 y39.2.1.toNatClampNeg) 48 then (f_Mo_size (x45 - (y39.2.2.1 105 (y39.2.2.1 106 y39.2.1.toNatClampNeg).toNatClampNeg))).bind fun q53 => if decide (q53 ≤ 1) then (k51 true) else (k51 false) else none) else (k51 false) else none else none else none else none) else (some (.inr (y39.1, y39.2.2)))
def f_Mo_sweep_94 (a1 : Int32) (M0 : Mem) : Option (Bool × Mem) :=
  (itr (b_Mo_sweep_94_2) FU (0, M0)).bind fun q5 => (itr (b_Mo_sweep_94_23) FU (0, q5)).bind fun q28 => (itr (b_Mo_sweep_94_132) FU (a1 - 1, q28)).bind fun q38 => (itr (b_Mo_sweep_94_179 a1) FU (true, 1, q38)).bind fun q55 => some (q55.1, q55.2)
set_option maxHeartbeats 4000000 in
set_option maxRecDepth 20000 in
theorem C_Mo_sweep_94 {D : va_G} {ad adK adV : Nat → Nat} {cI cJ : ClassId} {l : Launch} (a1 : Int32) (M0 : Mem) (o : Bool × Mem) (h : f_Mo_sweep_94 a1 M0 = some o) : Ct D ad adK adV cI cJ l y_Mo_sweep_94 cX12_sweep 6 (some .boolean) 2 50 [.ref (ad 94), .int a1] M0 (some (.int (bI o.1))) o.2 := by
  refine x_start (lv := [(0, .ref (ad 94)), (1, .int a1)]) (own := "CurrentFarmsModel") rfl (by decide) (Nat.le_of_ble_eq_true rfl) rfl ?_
  intro p e s m args below meth c Q hQ B
  unfold f_Mo_sweep_94 at h
  refine x_iconst (v := 0) (pc := 0) B dX12_sweep_0 rfl ?_
  refine x_istore_n (lv' := [(2, .int 0), (0, .ref (ad 94)), (1, .int a1)]) (pc := 1) B dX12_sweep_1 rfl (by decide) rfl ?_
  refine x_pick (lv' := [(0, .ref (ad 94)), (1, .int a1), (2, .int 0)]) [1, 2, 0] rfl ?_
  obtain ⟨q5, hq5, h⟩ := bnd h
  refine x_loop (Head := fun (y1 : Int32 × Mem) => XX D ad cI cJ p l e (Rm 2 50) s m args below meth c Q 6 y1.2 2 [(0, .ref (ad 94)), (1, .int a1), (2, .int y1.1)] []) (Ex := fun (q5 : Mem) => XX D ad cI cJ p l e (Rm 2 50) s m args below meth c Q 6 q5 21 [(0, .ref (ad 94)), (1, .int a1)] []) (fun y1 r h hback hexit => ?_) FU _ q5 hq5 ?_
  · unfold b_Mo_sweep_94_2 at h
    refine x_iload_n (pc := 2) B 2 dX12_sweep_2 rfl rfl ?_
    refine x_bipush (v := 48) (pc := 3) B dX12_sweep_3 rfl ?_
    refine x_icmp_ge (tgt := 21) (pc := 5) B dX12_sweep_5 rfl (fun hc2 => ?_) (fun hc2 => ?_)
    · have h := iff_ hc2 h
      refine x_pick (lv' := [(0, .ref (ad 94)), (1, .int a1)]) [0, 1] rfl ?_
      have z := hexit y1.2 (Option.some.inj h).symm
      exact z
    · have h := ift hc2 h
      refine x_aload_n (pc := 8) B 0 dX12_sweep_8 rfl rfl ?_
      refine x_get (T := TX12) (pc := 9) B 18 oi_94 rfl uw_12 (by decide) rfl tw_1317 rfl dX12_sweep_9 ?_
      refine x_iload_n (pc := 12) B 2 dX12_sweep_12 rfl rfl ?_
      refine x_lconst (v := 0) (pc := 13) B dX12_sweep_13 rfl ?_
      obtain ⟨hk3, h⟩ := ifn h
      refine x_last (pc := 14) B ai_107 hk3 dX12_sweep_14 ?_
      refine jv_m (P := fun M4 => XX D ad cI cJ p l e (Rm 2 50) s m args below meth c Q 6 M4 15 [(0, .ref (ad 94)), (1, .int a1), (2, .int y1.1)] []) h (fun M4 h => ?_)
      refine x_iinc (k := 2) (v := y1.1 + 1) (lv' := [(2, .int (y1.1 + 1)), (0, .ref (ad 94)), (1, .int a1)]) (pc := 15) B dX12_sweep_15 rfl rfl (by decide) rfl ?_
      refine x_goto (tgt := 2) (pc := 18) B dX12_sweep_18 rfl ?_
      refine x_pick (lv' := [(0, .ref (ad 94)), (1, .int a1), (2, .int (y1.1 + 1))]) [1, 2, 0] rfl ?_
      have z := hback (y1.1 + 1, M4) (Option.some.inj h).symm
      exact z
  · refine x_iconst (v := 0) (pc := 21) B dX12_sweep_21 rfl ?_
    refine x_istore_n (lv' := [(2, .int 0), (0, .ref (ad 94)), (1, .int a1)]) (pc := 22) B dX12_sweep_22 rfl (by decide) rfl ?_
    refine x_pick (lv' := [(0, .ref (ad 94)), (1, .int a1), (2, .int 0)]) [1, 2, 0] rfl ?_
    obtain ⟨q28, hq28, h⟩ := bnd h
    refine x_loop (Head := fun (y6 : Int32 × Mem) => XX D ad cI cJ p l e (Rm 2 50) s m args below meth c Q 6 y6.2 23 [(0, .ref (ad 94)), (1, .int a1), (2, .int y6.1)] []) (Ex := fun (q28 : Mem) => XX D ad cI cJ p l e (Rm 2 50) s m args below meth c Q 6 q28 128 [(0, .ref (ad 94)), (1, .int a1)] []) (fun y6 r h hback hexit => ?_) FU _ q28 hq28 ?_
    · unfold b_Mo_sweep_94_23 at h
      refine x_iload_n (pc := 23) B 2 dX12_sweep_23 rfl rfl ?_
      refine x_aload_n (pc := 24) B 0 dX12_sweep_24 rfl rfl ?_
      refine x_get (T := TX12) (pc := 25) B 1 oi_94 rfl uw_12 (by decide) rfl tw_1300 rfl dX12_sweep_25 ?_
      refine x_iconst (v := 1) (pc := 28) B dX12_sweep_28 rfl ?_
      refine x_iald_c (j := 1) (pc := 29) B ai_95 (by decide) rfl dX12_sweep_29 ?_
      refine x_icmp_ge (tgt := 128) (pc := 30) B dX12_sweep_30 rfl (fun hc7 => ?_) (fun hc7 => ?_)
      · have h := iff_ hc7 h
        refine x_pick (lv' := [(0, .ref (ad 94)), (1, .int a1)]) [0, 1] rfl ?_
        have z := hexit y6.2 (Option.some.inj h).symm
        exact z
      · have h := ift hc7 h
        refine x_aload_n (pc := 33) B 0 dX12_sweep_33 rfl rfl ?_
        refine x_get (T := TX12) (pc := 34) B 1 oi_94 rfl uw_12 (by decide) rfl tw_1300 rfl dX12_sweep_34 ?_
        refine x_sipush (v := 164) (pc := 37) B dX12_sweep_37 rfl ?_
        refine x_iload_n (pc := 40) B 2 dX12_sweep_40 rfl rfl ?_
        refine x_iadd (pc := 41) B dX12_sweep_41 ?_
        obtain ⟨hk8, h⟩ := ifn h
        refine x_iald (pc := 42) B ai_95 hk8 dX12_sweep_42 ?_
        refine x_istore_n (lv' := [(3, .int (y6.2.1 95 (164 + y6.1).toNatClampNeg)), (0, .ref (ad 94)), (1, .int a1), (2, .int y6.1)]) (pc := 43) B dX12_sweep_43 rfl (by decide) rfl ?_
        refine x_aload_n (pc := 44) B 1 dX12_sweep_44 rfl rfl ?_
        refine x_iload_n (pc := 45) B 0 dX12_sweep_45 rfl rfl ?_
        obtain ⟨q9, hq9, h⟩ := bnd h
        refine x_callV (rest := []) (st' := [.int (bI q9)]) (pc := 46) B oi_94 rfl (C_Mo_isOnLine_94 (y6.2.1 95 (164 + y6.1).toNatClampNeg) y6.2 _ hq9) tw_1410 tw_1407 tw_1409 tw_43 tw_111 hd_Mo_isOnLine_94 ⟨Nat.le_of_ble_eq_true rfl, Nat.le_of_ble_eq_true rfl⟩ rfl rfl (Nat.le_of_ble_eq_true rfl) rfl dX12_sweep_46 ?_
        refine jn_k h (fun (u12 : Bool) => XX D ad cI cJ p l e (Rm 2 50) s m args below meth c Q 6 y6.2 80 [(0, .ref (ad 94)), (1, .int a1), (2, .int y6.1), (3, .int (y6.2.1 95 (164 + y6.1).toNatClampNeg))] [.int (bI u12)]) (fun u12 h => ?_) (fun k23 h JJ => ?_)
        · refine x_istore (lv' := [(4, .int (bI u12)), (0, .ref (ad 94)), (1, .int a1), (2, .int y6.1), (3, .int (y6.2.1 95 (164 + y6.1).toNatClampNeg))]) (pc := 80) B dX12_sweep_80 (by decide) rfl ?_
          refine x_aload_n (pc := 82) B 1 dX12_sweep_82 rfl rfl ?_
          refine x_get (T := TX12) (pc := 83) B 18 oi_94 rfl uw_12 (by decide) rfl tw_1317 rfl dX12_sweep_83 ?_
          refine x_iload_n (pc := 86) B 4 dX12_sweep_86 rfl rfl ?_
          refine x_dup2 (pc := 87) B dX12_sweep_87 rfl rfl ?_
          obtain ⟨hk13, h⟩ := ifn h
          refine x_lald (pc := 88) B ai_107 hk13 dX12_sweep_88 ?_
          refine x_iload (pc := 89) B 0 dX12_sweep_89 rfl ?_
          refine jn_k h (fun (u16 : Int64) => XX D ad cI cJ p l e (Rm 2 50) s m args below meth c Q 6 y6.2 120 [(0, .ref (ad 94)), (1, .int a1), (2, .int y6.1)] [.long u16, .long (y6.2.2 107 (y6.2.1 95 (164 + y6.1).toNatClampNeg).toNatClampNeg), .int (y6.2.1 95 (164 + y6.1).toNatClampNeg), .ref (ad 107)]) (fun u16 h => ?_) (fun k19 h JJ => ?_)
          · refine x_ladd (pc := 120) B dX12_sweep_120 ?_
            obtain ⟨hk17, h⟩ := ifn h
            refine x_last (pc := 121) B ai_107 hk17 dX12_sweep_121 ?_
            refine jv_m (P := fun M18 => XX D ad cI cJ p l e (Rm 2 50) s m args below meth c Q 6 M18 122 [(0, .ref (ad 94)), (1, .int a1), (2, .int y6.1)] []) h (fun M18 h => ?_)
            refine x_iinc (k := 2) (v := y6.1 + 1) (lv' := [(2, .int (y6.1 + 1)), (0, .ref (ad 94)), (1, .int a1)]) (pc := 122) B dX12_sweep_122 rfl rfl (by decide) rfl ?_
            refine x_goto (tgt := 23) (pc := 125) B dX12_sweep_125 rfl ?_
            refine x_pick (lv' := [(0, .ref (ad 94)), (1, .int a1), (2, .int (y6.1 + 1))]) [1, 2, 0] rfl ?_
            have z := hback (y6.1 + 1, M18) (Option.some.inj h).symm
            exact z
          · refine x_if_eq_b (tgt := 119) (pc := 91) B dX12_sweep_91 rfl (fun hc14 => ?_) (fun hc14 => ?_)
            · have h := iff_ hc14 h
              refine x_lconst (v := 0) (pc := 119) B dX12_sweep_119 rfl ?_
              refine x_pick (lv' := [(0, .ref (ad 94)), (1, .int a1), (2, .int y6.1)]) [1, 2, 3] rfl ?_
              have z := JJ 0 h
              exact z
            · have h := ift hc14 h
              refine x_aload_n (pc := 94) B 1 dX12_sweep_94 rfl rfl ?_
              refine x_get (T := TX12) (pc := 95) B 1 oi_94 rfl uw_12 (by decide) rfl tw_1300 rfl dX12_sweep_95 ?_
              refine x_sipush (v := 174) (pc := 98) B dX12_sweep_98 rfl ?_
              refine x_iload_n (pc := 101) B 3 dX12_sweep_101 rfl rfl ?_
              refine x_iadd (pc := 102) B dX12_sweep_102 ?_
              obtain ⟨hk20, h⟩ := ifn h
              refine x_iald (pc := 103) B ai_95 hk20 dX12_sweep_103 ?_
              refine x_sipush (v := 1000) (pc := 104) B dX12_sweep_104 rfl ?_
              refine x_imul (pc := 107) B dX12_sweep_107 ?_
              refine x_aload_n (pc := 108) B 1 dX12_sweep_108 rfl rfl ?_
              refine x_get (T := TX12) (pc := 109) B 16 oi_94 rfl uw_12 (by decide) rfl tw_1315 rfl dX12_sweep_109 ?_
              refine x_iload_n (pc := 112) B 4 dX12_sweep_112 rfl rfl ?_
              obtain ⟨hk21, h⟩ := ifn h
              refine x_iald (pc := 113) B ai_105 hk21 dX12_sweep_113 ?_
              obtain ⟨hk22, h⟩ := ifn h
              refine x_idiv (pc := 114) B dX12_sweep_114 (nz hk22) ?_
              refine x_i2l (pc := 115) B dX12_sweep_115 ?_
              refine x_goto (tgt := 120) (pc := 116) B dX12_sweep_116 rfl ?_
              refine x_pick (lv' := [(0, .ref (ad 94)), (1, .int a1), (2, .int y6.1)]) [1, 2, 3] rfl ?_
              have z := JJ ((((y6.2.1 95 (174 + y6.1).toNatClampNeg) * 1000) / (y6.2.1 105 (y6.2.1 95 (164 + y6.1).toNatClampNeg).toNatClampNeg)).toInt64) h
              exact z
        · refine x_if_eq_b (tgt := 79) (pc := 49) B dX12_sweep_49 rfl (fun hc10 => ?_) (fun hc10 => ?_)
          · have h := iff_ hc10 h
            refine x_iconst (v := 0) (pc := 79) B dX12_sweep_79 rfl ?_
            refine x_pick (lv' := [(0, .ref (ad 94)), (1, .int a1), (2, .int y6.1), (3, .int (y6.2.1 95 (164 + y6.1).toNatClampNeg))]) [1, 2, 3, 0] rfl ?_
            have z := JJ false h
            exact z
          · have h := ift hc10 h
            refine x_aload_n (pc := 52) B 1 dX12_sweep_52 rfl rfl ?_
            refine x_iload_n (pc := 53) B 3 dX12_sweep_53 rfl rfl ?_
            refine x_aload_n (pc := 54) B 1 dX12_sweep_54 rfl rfl ?_
            refine x_get (T := TX12) (pc := 55) B 1 oi_94 rfl uw_12 (by decide) rfl tw_1300 rfl dX12_sweep_55 ?_
            refine x_iconst (v := 0) (pc := 58) B dX12_sweep_58 rfl ?_
            refine x_iald_c (j := 0) (pc := 59) B ai_95 (by decide) rfl dX12_sweep_59 ?_
            obtain ⟨q24, hq24, h⟩ := bnd h
            refine x_callV (rest := []) (st' := [.int (bI q24)]) (pc := 60) B oi_94 rfl (C_Mo_isServed_94 y6.1 (y6.2.1 95 0) y6.2 _ hq24) tw_1491 tw_1488 tw_1490 tw_54 tw_111 hd_Mo_isServed_94 ⟨Nat.le_of_ble_eq_true rfl, Nat.le_of_ble_eq_true rfl⟩ rfl rfl (Nat.le_of_ble_eq_true rfl) rfl dX12_sweep_60 ?_
            refine x_if_eq_b (tgt := 79) (pc := 63) B dX12_sweep_63 rfl (fun hc25 => ?_) (fun hc25 => ?_)
            · have h := iff_ hc25 h
              refine x_iconst (v := 0) (pc := 79) B dX12_sweep_79 rfl ?_
              refine x_pick (lv' := [(0, .ref (ad 94)), (1, .int a1), (2, .int y6.1), (3, .int (y6.2.1 95 (164 + y6.1).toNatClampNeg))]) [1, 2, 3, 0] rfl ?_
              have z := JJ false h
              exact z
            · have h := ift hc25 h
              refine x_aload_n (pc := 66) B 1 dX12_sweep_66 rfl rfl ?_
              refine x_get (T := TX12) (pc := 67) B 16 oi_94 rfl uw_12 (by decide) rfl tw_1315 rfl dX12_sweep_67 ?_
              refine x_iload_n (pc := 70) B 0 dX12_sweep_70 rfl rfl ?_
              obtain ⟨hk26, h⟩ := ifn h
              refine x_iald (pc := 71) B ai_105 hk26 dX12_sweep_71 ?_
              refine x_if_le (tgt := 79) (pc := 72) B dX12_sweep_72 rfl (fun hc27 => ?_) (fun hc27 => ?_)
              · have h := ift hc27 h
                refine x_iconst (v := 0) (pc := 79) B dX12_sweep_79 rfl ?_
                refine x_pick (lv' := [(0, .ref (ad 94)), (1, .int a1), (2, .int y6.1), (3, .int (y6.2.1 95 (164 + y6.1).toNatClampNeg))]) [1, 2, 3, 0] rfl ?_
                have z := JJ false h
                exact z
              · have h := iff_ hc27 h
                refine x_iconst (v := 1) (pc := 75) B dX12_sweep_75 rfl ?_
                refine x_goto (tgt := 80) (pc := 76) B dX12_sweep_76 rfl ?_
                refine x_pick (lv' := [(0, .ref (ad 94)), (1, .int a1), (2, .int y6.1), (3, .int (y6.2.1 95 (164 + y6.1).toNatClampNeg))]) [1, 2, 3, 0] rfl ?_
                have z := JJ true h
                exact z
    · refine x_iload_n (pc := 128) B 1 dX12_sweep_128 rfl rfl ?_
      refine x_iconst (v := 1) (pc := 129) B dX12_sweep_129 rfl ?_
      refine x_isub (pc := 130) B dX12_sweep_130 ?_
      refine x_istore_n (lv' := [(2, .int (a1 - 1)), (0, .ref (ad 94)), (1, .int a1)]) (pc := 131) B dX12_sweep_131 rfl (by decide) rfl ?_
      refine x_pick (lv' := [(0, .ref (ad 94)), (1, .int a1), (2, .int (a1 - 1))]) [1, 2, 0] rfl ?_
      obtain ⟨q38, hq38, h⟩ := bnd h
      refine x_loop (Head := fun (y29 : Int32 × Mem) => XX D ad cI cJ p l e (Rm 2 50) s m args below meth c Q 6 y29.2 132 [(0, .ref (ad 94)), (1, .int a1), (2, .int y29.1)] []) (Ex := fun (q38 : Mem) => XX D ad cI cJ p l e (Rm 2 50) s m args below meth c Q 6 q38 175 [(0, .ref (ad 94)), (1, .int a1)] []) (fun y29 r h hback hexit => ?_) FU _ q38 hq38 ?_
      · unfold b_Mo_sweep_94_132 at h
        refine x_iload_n (pc := 132) B 2 dX12_sweep_132 rfl rfl ?_
        refine x_if_le (tgt := 175) (pc := 133) B dX12_sweep_133 rfl (fun hc30 => ?_) (fun hc30 => ?_)
        · have h := ift hc30 h
          refine x_pick (lv' := [(0, .ref (ad 94)), (1, .int a1)]) [0, 1] rfl ?_
          have z := hexit y29.2 (Option.some.inj h).symm
          exact z
        · have h := iff_ hc30 h
          refine x_aload_n (pc := 136) B 0 dX12_sweep_136 rfl rfl ?_
          refine x_get (T := TX12) (pc := 137) B 18 oi_94 rfl uw_12 (by decide) rfl tw_1317 rfl dX12_sweep_137 ?_
          refine x_aload_n (pc := 140) B 0 dX12_sweep_140 rfl rfl ?_
          refine x_get (T := TX12) (pc := 141) B 1 oi_94 rfl uw_12 (by decide) rfl tw_1300 rfl dX12_sweep_141 ?_
          refine x_bipush (v := 116) (pc := 144) B dX12_sweep_144 rfl ?_
          refine x_aload_n (pc := 146) B 0 dX12_sweep_146 rfl rfl ?_
          refine x_get (T := TX12) (pc := 147) B 17 oi_94 rfl uw_12 (by decide) rfl tw_1316 rfl dX12_sweep_147 ?_
          refine x_iload_n (pc := 150) B 2 dX12_sweep_150 rfl rfl ?_
          obtain ⟨hk31, h⟩ := ifn h
          refine x_iald (pc := 151) B ai_106 hk31 dX12_sweep_151 ?_
          refine x_iadd (pc := 152) B dX12_sweep_152 ?_
          obtain ⟨hk32, h⟩ := ifn h
          refine x_iald (pc := 153) B ai_95 hk32 dX12_sweep_153 ?_
          refine x_dup2 (pc := 154) B dX12_sweep_154 rfl rfl ?_
          obtain ⟨hk33, h⟩ := ifn h
          refine x_lald (pc := 155) B ai_107 hk33 dX12_sweep_155 ?_
          refine x_aload_n (pc := 156) B 0 dX12_sweep_156 rfl rfl ?_
          refine x_get (T := TX12) (pc := 157) B 18 oi_94 rfl uw_12 (by decide) rfl tw_1317 rfl dX12_sweep_157 ?_
          refine x_aload_n (pc := 160) B 0 dX12_sweep_160 rfl rfl ?_
          refine x_get (T := TX12) (pc := 161) B 17 oi_94 rfl uw_12 (by decide) rfl tw_1316 rfl dX12_sweep_161 ?_
          refine x_iload_n (pc := 164) B 2 dX12_sweep_164 rfl rfl ?_
          obtain ⟨hk34, h⟩ := ifn h
          refine x_iald (pc := 165) B ai_106 hk34 dX12_sweep_165 ?_
          obtain ⟨hk35, h⟩ := ifn h
          refine x_lald (pc := 166) B ai_107 hk35 dX12_sweep_166 ?_
          refine x_ladd (pc := 167) B dX12_sweep_167 ?_
          obtain ⟨hk36, h⟩ := ifn h
          refine x_last (pc := 168) B ai_107 hk36 dX12_sweep_168 ?_
          refine jv_m (P := fun M37 => XX D ad cI cJ p l e (Rm 2 50) s m args below meth c Q 6 M37 169 [(0, .ref (ad 94)), (1, .int a1), (2, .int y29.1)] []) h (fun M37 h => ?_)
          refine x_iinc (k := 2) (v := y29.1 + (-1)) (lv' := [(2, .int (y29.1 + (-1))), (0, .ref (ad 94)), (1, .int a1)]) (pc := 169) B dX12_sweep_169 rfl rfl (by decide) rfl ?_
          refine x_goto (tgt := 132) (pc := 172) B dX12_sweep_172 rfl ?_
          refine x_pick (lv' := [(0, .ref (ad 94)), (1, .int a1), (2, .int (y29.1 + (-1)))]) [1, 2, 0] rfl ?_
          have z := hback (y29.1 + (-1), M37) (Option.some.inj h).symm
          exact z
      · refine x_iconst (v := 1) (pc := 175) B dX12_sweep_175 rfl ?_
        refine x_istore_n (lv' := [(2, .int 1), (0, .ref (ad 94)), (1, .int a1)]) (pc := 176) B dX12_sweep_176 rfl (by decide) rfl ?_
        refine x_iconst (v := 1) (pc := 177) B dX12_sweep_177 rfl ?_
        refine x_istore_n (lv' := [(3, .int 1), (2, .int 1), (0, .ref (ad 94)), (1, .int a1)]) (pc := 178) B dX12_sweep_178 rfl (by decide) rfl ?_
        refine x_pick (lv' := [(0, .ref (ad 94)), (1, .int a1), (2, .int 1), (3, .int 1)]) [2, 3, 1, 0] rfl ?_
        obtain ⟨q55, hq55, h⟩ := bnd h
        refine x_loop (Head := fun (y39 : Bool × Int32 × Mem) => XX D ad cI cJ p l e (Rm 2 50) s m args below meth c Q 6 y39.2.2 179 [(0, .ref (ad 94)), (1, .int a1), (2, .int (bI y39.1)), (3, .int y39.2.1)] []) (Ex := fun (q55 : Bool × Mem) => XX D ad cI cJ p l e (Rm 2 50) s m args below meth c Q 6 q55.2 274 [(2, .int (bI q55.1))] []) (fun y39 r h hback hexit => ?_) FU _ q55 hq55 ?_
        · unfold b_Mo_sweep_94_179 at h
          refine x_iload_n (pc := 179) B 3 dX12_sweep_179 rfl rfl ?_
          refine x_iload_n (pc := 180) B 1 dX12_sweep_180 rfl rfl ?_
          refine x_icmp_ge (tgt := 274) (pc := 181) B dX12_sweep_181 rfl (fun hc40 => ?_) (fun hc40 => ?_)
          · have h := iff_ hc40 h
            refine x_pick (lv' := [(2, .int (bI y39.1))]) [2] rfl ?_
            have z := hexit (y39.1, y39.2.2) (Option.some.inj h).symm
            exact z
          · have h := ift hc40 h
            refine x_aload_n (pc := 184) B 0 dX12_sweep_184 rfl rfl ?_
            refine x_get (T := TX12) (pc := 185) B 17 oi_94 rfl uw_12 (by decide) rfl tw_1316 rfl dX12_sweep_185 ?_
            refine x_iload_n (pc := 188) B 3 dX12_sweep_188 rfl rfl ?_
            obtain ⟨hk41, h⟩ := ifn h
            refine x_iald (pc := 189) B ai_106 hk41 dX12_sweep_189 ?_
            refine x_istore (lv' := [(4, .int (y39.2.2.1 106 y39.2.1.toNatClampNeg)), (0, .ref (ad 94)), (1, .int a1), (2, .int (bI y39.1)), (3, .int y39.2.1)]) (pc := 190) B dX12_sweep_190 (by decide) rfl ?_
            refine x_aload_n (pc := 192) B 1 dX12_sweep_192 rfl rfl ?_
            refine x_get (T := TX12) (pc := 193) B 16 oi_94 rfl uw_12 (by decide) rfl tw_1315 rfl dX12_sweep_193 ?_
            refine x_aload_n (pc := 196) B 1 dX12_sweep_196 rfl rfl ?_
            refine x_get (T := TX12) (pc := 197) B 1 oi_94 rfl uw_12 (by decide) rfl tw_1300 rfl dX12_sweep_197 ?_
            refine x_bipush (v := 116) (pc := 200) B dX12_sweep_200 rfl ?_
            refine x_iload (pc := 202) B 0 dX12_sweep_202 rfl ?_
            refine x_iadd (pc := 204) B dX12_sweep_204 ?_
            obtain ⟨hk42, h⟩ := ifn h
            refine x_iald (pc := 205) B ai_95 hk42 dX12_sweep_205 ?_
            obtain ⟨hk43, h⟩ := ifn h
            refine x_iald (pc := 206) B ai_105 hk43 dX12_sweep_206 ?_
            refine x_i2l (pc := 207) B dX12_sweep_207 ?_
            refine x_aload_n (pc := 208) B 1 dX12_sweep_208 rfl rfl ?_
            refine x_get (T := TX12) (pc := 209) B 1 oi_94 rfl uw_12 (by decide) rfl tw_1300 rfl dX12_sweep_209 ?_
            refine x_bipush (v := 8) (pc := 212) B dX12_sweep_212 rfl ?_
            refine x_iald_c (j := 8) (pc := 214) B ai_95 (by decide) rfl dX12_sweep_214 ?_
            refine x_i2l (pc := 215) B dX12_sweep_215 ?_
            refine x_aload_n (pc := 216) B 1 dX12_sweep_216 rfl rfl ?_
            refine x_get (T := TX12) (pc := 217) B 18 oi_94 rfl uw_12 (by decide) rfl tw_1317 rfl dX12_sweep_217 ?_
            refine x_iload (pc := 220) B 0 dX12_sweep_220 rfl ?_
            obtain ⟨hk44, h⟩ := ifn h
            refine x_lald (pc := 222) B ai_107 hk44 dX12_sweep_222 ?_
            refine x_lmul (pc := 223) B dX12_sweep_223 ?_
            refine x_ldc2 (v := 10) (pc := 224) B tw_1718 dX12_sweep_224 ?_
            refine x_ldiv (pc := 227) B dX12_sweep_227 (by decide) ?_
            refine x_lsub (pc := 228) B dX12_sweep_228 ?_
            refine x_l2i (pc := 229) B dX12_sweep_229 ?_
            refine jv_m (P := fun (x45 : Int32) => XX D ad cI cJ p l e (Rm 2 50) s m args below meth c Q 6 y39.2.2 230 [(4, .int (y39.2.2.1 106 y39.2.1.toNatClampNeg)), (0, .ref (ad 94)), (1, .int a1), (2, .int (bI y39.1)), (3, .int y39.2.1)] [.int x45]) h (fun x45 h => ?_)
            refine x_istore (lv' := [(5, .int x45), (4, .int (y39.2.2.1 106 y39.2.1.toNatClampNeg)), (0, .ref (ad 94)), (1, .int a1), (2, .int (bI y39.1)), (3, .int y39.2.1)]) (pc := 230) B dX12_sweep_230 (by decide) rfl ?_
            refine x_iload_n (pc := 232) B 4 dX12_sweep_232 rfl rfl ?_
            refine jn_k h (fun (u48 : Bool) => XX D ad cI cJ p l e (Rm 2 50) s m args below meth c Q 6 y39.2.2 258 [(0, .ref (ad 94)), (1, .int a1), (3, .int y39.2.1), (4, .int (y39.2.2.1 106 y39.2.1.toNatClampNeg)), (5, .int x45)] [.int (bI u48)]) (fun u48 h => ?_) (fun k51 h JJ => ?_)
            · refine x_istore_n (lv' := [(2, .int (bI u48)), (0, .ref (ad 94)), (1, .int a1), (3, .int y39.2.1), (4, .int (y39.2.2.1 106 y39.2.1.toNatClampNeg)), (5, .int x45)]) (pc := 258) B dX12_sweep_258 rfl (by decide) rfl ?_
              refine x_aload_n (pc := 259) B 1 dX12_sweep_259 rfl rfl ?_
              refine x_get (T := TX12) (pc := 260) B 16 oi_94 rfl uw_12 (by decide) rfl tw_1315 rfl dX12_sweep_260 ?_
              refine x_iload (pc := 263) B 4 dX12_sweep_263 rfl ?_
              refine x_iload (pc := 265) B 5 dX12_sweep_265 rfl ?_
              obtain ⟨hk49, h⟩ := ifn h
              refine x_iast (pc := 267) B ai_105 hk49 dX12_sweep_267 ?_
              refine jv_m (P := fun M50 => XX D ad cI cJ p l e (Rm 2 50) s m args below meth c Q 6 M50 268 [(2, .int (bI u48)), (0, .ref (ad 94)), (1, .int a1), (3, .int y39.2.1), (4, .int (y39.2.2.1 106 y39.2.1.toNatClampNeg)), (5, .int x45)] []) h (fun M50 h => ?_)
              refine x_iinc (k := 3) (v := y39.2.1 + 1) (lv' := [(3, .int (y39.2.1 + 1)), (2, .int (bI u48)), (0, .ref (ad 94)), (1, .int a1), (4, .int (y39.2.2.1 106 y39.2.1.toNatClampNeg)), (5, .int x45)]) (pc := 268) B dX12_sweep_268 rfl rfl (by decide) rfl ?_
              refine x_goto (tgt := 179) (pc := 271) B dX12_sweep_271 rfl ?_
              refine x_pick (lv' := [(0, .ref (ad 94)), (1, .int a1), (2, .int (bI u48)), (3, .int (y39.2.1 + 1))]) [2, 3, 1, 0] rfl ?_
              have z := hback (u48, y39.2.1 + 1, M50) (Option.some.inj h).symm
              exact z
            · refine x_if_eq_b (tgt := 257) (pc := 233) B dX12_sweep_233 rfl (fun hc46 => ?_) (fun hc46 => ?_)
              · have h := iff_ hc46 h
                refine x_iconst (v := 0) (pc := 257) B dX12_sweep_257 rfl ?_
                refine x_pick (lv' := [(0, .ref (ad 94)), (1, .int a1), (3, .int y39.2.1), (4, .int (y39.2.2.1 106 y39.2.1.toNatClampNeg)), (5, .int x45)]) [2, 3, 5, 1, 0] rfl ?_
                have z := JJ false h
                exact z
              · have h := ift hc46 h
                refine x_iload (pc := 236) B 0 dX12_sweep_236 rfl ?_
                refine x_aload_n (pc := 238) B 2 dX12_sweep_238 rfl rfl ?_
                refine x_get (T := TX12) (pc := 239) B 16 oi_94 rfl uw_12 (by decide) rfl tw_1315 rfl dX12_sweep_239 ?_
                refine x_iload (pc := 242) B 1 dX12_sweep_242 rfl ?_
                obtain ⟨hk52, h⟩ := ifn h
                refine x_iald (pc := 244) B ai_105 hk52 dX12_sweep_244 ?_
                refine x_isub (pc := 245) B dX12_sweep_245 ?_
                obtain ⟨q53, hq53, h⟩ := bnd h
                refine x_callS (rest := []) (st' := [.int q53]) (pc := 246) B (C_Mo_size (x45 - (y39.2.2.1 105 (y39.2.2.1 106 y39.2.1.toNatClampNeg).toNatClampNeg)) y39.2.2 _ hq53) tw_1424 tw_1422 tw_1423 tw_111 hd_Mo_size ⟨Nat.le_of_ble_eq_true rfl, Nat.le_of_ble_eq_true rfl⟩ rfl rfl (Nat.le_of_ble_eq_true rfl) rfl dX12_sweep_246 ?_
                refine x_iconst (v := 1) (pc := 249) B dX12_sweep_249 rfl ?_
                refine x_icmp_gt (tgt := 257) (pc := 250) B dX12_sweep_250 rfl (fun hc54 => ?_) (fun hc54 => ?_)
                · have h := iff_ hc54 h
                  refine x_iconst (v := 0) (pc := 257) B dX12_sweep_257 rfl ?_
                  refine x_pick (lv' := [(0, .ref (ad 94)), (1, .int a1), (3, .int y39.2.1), (4, .int (y39.2.2.1 106 y39.2.1.toNatClampNeg)), (5, .int x45)]) [2, 3, 5, 1, 0] rfl ?_
                  have z := JJ false h
                  exact z
                · have h := ift hc54 h
                  refine x_iconst (v := 1) (pc := 253) B dX12_sweep_253 rfl ?_
                  refine x_goto (tgt := 258) (pc := 254) B dX12_sweep_254 rfl ?_
                  refine x_pick (lv' := [(0, .ref (ad 94)), (1, .int a1), (3, .int y39.2.1), (4, .int (y39.2.2.1 106 y39.2.1.toNatClampNeg)), (5, .int x45)]) [2, 3, 5, 1, 0] rfl ?_
                  have z := JJ true h
                  exact z
        · refine x_iload_n (pc := 274) B 0 dX12_sweep_274 rfl rfl ?_
          obtain rfl := Option.some.inj h
          exact x_zret (v := q55.1) (pc := 275) B hQ dX12_sweep_275
-- CurrentFarmsModel.settles()I [94]
abbrev y_Mo_settles_94 : MethodName := ⟨"CurrentFarmsModel", "settles", "()I"⟩
abbrev cX12_settles : ByteArray := prog_14_method_74_code
theorem dX12_settles_0 : decode cX12_settles 0 = .ok (.aload_n 0, 1) := by decide +kernel
theorem dX12_settles_1 : decode cX12_settles 1 = .ok (.invokevirtual 290, 3) := by decide +kernel
theorem dX12_settles_4 : decode cX12_settles 4 = .ok (.istore_n 1, 1) := by decide +kernel
theorem dX12_settles_5 : decode cX12_settles 5 = .ok (.iconst 0, 1) := by decide +kernel
theorem dX12_settles_6 : decode cX12_settles 6 = .ok (.istore_n 2, 1) := by decide +kernel
theorem dX12_settles_7 : decode cX12_settles 7 = .ok (.iload_n 2, 1) := by decide +kernel
theorem dX12_settles_8 : decode cX12_settles 8 = .ok (.bipush 48, 2) := by decide +kernel
theorem dX12_settles_10 : decode cX12_settles 10 = .ok (.if_icmp .ge 18, 3) := by decide +kernel
theorem dX12_settles_13 : decode cX12_settles 13 = .ok (.aload_n 0, 1) := by decide +kernel
theorem dX12_settles_14 : decode cX12_settles 14 = .ok (.getfield 40, 3) := by decide +kernel
theorem dX12_settles_17 : decode cX12_settles 17 = .ok (.iload_n 2, 1) := by decide +kernel
theorem dX12_settles_18 : decode cX12_settles 18 = .ok (.sipush 1000, 3) := by decide +kernel
theorem dX12_settles_21 : decode cX12_settles 21 = .ok (.iastore, 1) := by decide +kernel
theorem dX12_settles_22 : decode cX12_settles 22 = .ok (.iinc 2 1, 3) := by decide +kernel
theorem dX12_settles_25 : decode cX12_settles 25 = .ok (.goto (-18), 3) := by decide +kernel
theorem dX12_settles_28 : decode cX12_settles 28 = .ok (.aload_n 0, 1) := by decide +kernel
theorem dX12_settles_29 : decode cX12_settles 29 = .ok (.iconst 0, 1) := by decide +kernel
theorem dX12_settles_30 : decode cX12_settles 30 = .ok (.putfield 293, 3) := by decide +kernel
theorem dX12_settles_33 : decode cX12_settles 33 = .ok (.aload_n 0, 1) := by decide +kernel
theorem dX12_settles_34 : decode cX12_settles 34 = .ok (.iconst 0, 1) := by decide +kernel
theorem dX12_settles_35 : decode cX12_settles 35 = .ok (.putfield 296, 3) := by decide +kernel
theorem dX12_settles_38 : decode cX12_settles 38 = .ok (.aload_n 0, 1) := by decide +kernel
theorem dX12_settles_39 : decode cX12_settles 39 = .ok (.getfield 296, 3) := by decide +kernel
theorem dX12_settles_42 : decode cX12_settles 42 = .ok (.bipush 30, 2) := by decide +kernel
theorem dX12_settles_44 : decode cX12_settles 44 = .ok (.if_icmp .ge 32, 3) := by decide +kernel
theorem dX12_settles_47 : decode cX12_settles 47 = .ok (.aload_n 0, 1) := by decide +kernel
theorem dX12_settles_48 : decode cX12_settles 48 = .ok (.getfield 293, 3) := by decide +kernel
theorem dX12_settles_51 : decode cX12_settles 51 = .ok (.ifCond .ne 25, 3) := by decide +kernel
theorem dX12_settles_54 : decode cX12_settles 54 = .ok (.aload_n 0, 1) := by decide +kernel
theorem dX12_settles_55 : decode cX12_settles 55 = .ok (.aload_n 0, 1) := by decide +kernel
theorem dX12_settles_56 : decode cX12_settles 56 = .ok (.iload_n 1, 1) := by decide +kernel
theorem dX12_settles_57 : decode cX12_settles 57 = .ok (.invokevirtual 299, 3) := by decide +kernel
theorem dX12_settles_60 : decode cX12_settles 60 = .ok (.putfield 293, 3) := by decide +kernel
theorem dX12_settles_63 : decode cX12_settles 63 = .ok (.aload_n 0, 1) := by decide +kernel
theorem dX12_settles_64 : decode cX12_settles 64 = .ok (.dup, 1) := by decide +kernel
theorem dX12_settles_65 : decode cX12_settles 65 = .ok (.getfield 296, 3) := by decide +kernel
theorem dX12_settles_68 : decode cX12_settles 68 = .ok (.iconst 1, 1) := by decide +kernel
theorem dX12_settles_69 : decode cX12_settles 69 = .ok (.iadd, 1) := by decide +kernel
theorem dX12_settles_70 : decode cX12_settles 70 = .ok (.putfield 296, 3) := by decide +kernel
theorem dX12_settles_73 : decode cX12_settles 73 = .ok (.goto (-35), 3) := by decide +kernel
theorem dX12_settles_76 : decode cX12_settles 76 = .ok (.iload_n 1, 1) := by decide +kernel
theorem dX12_settles_77 : decode cX12_settles 77 = .ok (.ireturn, 1) := by decide +kernel
theorem hd_Mo_settles_94 : y_Mo_settles_94.cls ≠ "java/lang/invoke/MethodHandle" ∧ y_Mo_settles_94.cls ≠ "java/lang/invoke/VarHandle" ∧ (parseMethodDescriptor y_Mo_settles_94.desc).map (fun d => d.parameters.length) = some 0 := by decide +kernel
def b_Mo_settles_94_7  (y2 : Int32 × Mem) : Option ((Int32 × Mem) ⊕ (Mem)) :=
  if decide (y2.1 < 48) then (if inb y2.1 48 then jv_ (wI y2.2 105 y2.1.toNatClampNeg 1000) fun M5 => some (.inl (y2.1 + 1, M5)) else none) else (some (.inr y2.2))
def b_Mo_settles_94_38 (q1 : Int32 × Mem) (y9 : Mem) : Option ((Mem) ⊕ (Mem)) :=
  if decide ((y9.1 94 19) < 30) then (if isb (y9.1 94 20) then if decide (y9.1 94 20 = 1) then (some (.inr y9)) else ((f_Mo_sweep_94 q1.1 y9).bind fun q13 => jv_ (wI q13.2 94 20 (bI q13.1)) fun M14 => jv_ (wI M14 94 19 ((M14.1 94 19) + 1)) fun M15 => some (.inl M15)) else none) else (some (.inr y9))
def f_Mo_settles_94  (M0 : Mem) : Option (Int32 × Mem) :=
  (f_Mo_rows_94 M0).bind fun q1 => (itr (b_Mo_settles_94_7) FU (0, q1.2)).bind fun q6 => jv_ (wI q6 94 20 0) fun M7 => jv_ (wI M7 94 19 0) fun M8 => (itr (b_Mo_settles_94_38 q1) FU M8).bind fun q16 => some (q1.1, q16)
set_option maxHeartbeats 4000000 in
set_option maxRecDepth 20000 in
theorem C_Mo_settles_94 {D : va_G} {ad adK adV : Nat → Nat} {cI cJ : ClassId} {l : Launch}  (M0 : Mem) (o : Int32 × Mem) (h : f_Mo_settles_94  M0 = some o) : Ct D ad adK adV cI cJ l y_Mo_settles_94 cX12_settles 3 (some .int) 3 75 [.ref (ad 94)] M0 (some (.int o.1)) o.2 := by
  refine x_start (lv := [(0, .ref (ad 94))]) (own := "CurrentFarmsModel") rfl (by decide) (Nat.le_of_ble_eq_true rfl) rfl ?_
  intro p e s m args below meth c Q hQ B
  unfold f_Mo_settles_94 at h
  refine x_aload_n (pc := 0) B 0 dX12_settles_0 rfl rfl ?_
  obtain ⟨q1, hq1, h⟩ := bnd h
  refine x_callV (rest := []) (st' := [.int q1.1]) (pc := 1) B oi_94 rfl (C_Mo_rows_94  M0 _ hq1) tw_1713 tw_1710 tw_1712 tw_87 tw_111 hd_Mo_rows_94 ⟨Nat.le_of_ble_eq_true rfl, Nat.le_of_ble_eq_true rfl⟩ rfl rfl (Nat.le_of_ble_eq_true rfl) rfl dX12_settles_1 ?_
  refine x_istore_n (lv' := [(1, .int q1.1), (0, .ref (ad 94))]) (pc := 4) B dX12_settles_4 rfl (by decide) rfl ?_
  refine x_iconst (v := 0) (pc := 5) B dX12_settles_5 rfl ?_
  refine x_istore_n (lv' := [(2, .int 0), (1, .int q1.1), (0, .ref (ad 94))]) (pc := 6) B dX12_settles_6 rfl (by decide) rfl ?_
  refine x_pick (lv' := [(0, .ref (ad 94)), (1, .int q1.1), (2, .int 0)]) [2, 1, 0] rfl ?_
  obtain ⟨q6, hq6, h⟩ := bnd h
  refine x_loop (Head := fun (y2 : Int32 × Mem) => XX D ad cI cJ p l e (Rm 3 75) s m args below meth c Q 3 y2.2 7 [(0, .ref (ad 94)), (1, .int q1.1), (2, .int y2.1)] []) (Ex := fun (q6 : Mem) => XX D ad cI cJ p l e (Rm 3 75) s m args below meth c Q 3 q6 28 [(0, .ref (ad 94)), (1, .int q1.1)] []) (fun y2 r h hback hexit => ?_) FU _ q6 hq6 ?_
  · unfold b_Mo_settles_94_7 at h
    refine x_iload_n (pc := 7) B 2 dX12_settles_7 rfl rfl ?_
    refine x_bipush (v := 48) (pc := 8) B dX12_settles_8 rfl ?_
    refine x_icmp_ge (tgt := 28) (pc := 10) B dX12_settles_10 rfl (fun hc3 => ?_) (fun hc3 => ?_)
    · have h := iff_ hc3 h
      refine x_pick (lv' := [(0, .ref (ad 94)), (1, .int q1.1)]) [0, 1] rfl ?_
      have z := hexit y2.2 (Option.some.inj h).symm
      exact z
    · have h := ift hc3 h
      refine x_aload_n (pc := 13) B 0 dX12_settles_13 rfl rfl ?_
      refine x_get (T := TX12) (pc := 14) B 16 oi_94 rfl uw_12 (by decide) rfl tw_1315 rfl dX12_settles_14 ?_
      refine x_iload_n (pc := 17) B 2 dX12_settles_17 rfl rfl ?_
      refine x_sipush (v := 1000) (pc := 18) B dX12_settles_18 rfl ?_
      obtain ⟨hk4, h⟩ := ifn h
      refine x_iast (pc := 21) B ai_105 hk4 dX12_settles_21 ?_
      refine jv_m (P := fun M5 => XX D ad cI cJ p l e (Rm 3 75) s m args below meth c Q 3 M5 22 [(0, .ref (ad 94)), (1, .int q1.1), (2, .int y2.1)] []) h (fun M5 h => ?_)
      refine x_iinc (k := 2) (v := y2.1 + 1) (lv' := [(2, .int (y2.1 + 1)), (0, .ref (ad 94)), (1, .int q1.1)]) (pc := 22) B dX12_settles_22 rfl rfl (by decide) rfl ?_
      refine x_goto (tgt := 7) (pc := 25) B dX12_settles_25 rfl ?_
      refine x_pick (lv' := [(0, .ref (ad 94)), (1, .int q1.1), (2, .int (y2.1 + 1))]) [1, 2, 0] rfl ?_
      have z := hback (y2.1 + 1, M5) (Option.some.inj h).symm
      exact z
  · refine x_aload_n (pc := 28) B 0 dX12_settles_28 rfl rfl ?_
    refine x_iconst (v := 0) (pc := 29) B dX12_settles_29 rfl ?_
    refine x_put (T := TX12) (pc := 30) B 20 oi_94 of_94_20 rfl uw_12 tyX12_ok nmX12 (by decide) rfl tw_1319 rfl rfl rfl (Nat.le_of_ble_eq_true rfl) dX12_settles_30 ?_
    refine jv_m (P := fun M7 => XX D ad cI cJ p l e (Rm 3 75) s m args below meth c Q 3 M7 33 [(0, .ref (ad 94)), (1, .int q1.1)] []) h (fun M7 h => ?_)
    refine x_aload_n (pc := 33) B 0 dX12_settles_33 rfl rfl ?_
    refine x_iconst (v := 0) (pc := 34) B dX12_settles_34 rfl ?_
    refine x_put (T := TX12) (pc := 35) B 19 oi_94 of_94_19 rfl uw_12 tyX12_ok nmX12 (by decide) rfl tw_1318 rfl rfl rfl (Nat.le_of_ble_eq_true rfl) dX12_settles_35 ?_
    refine jv_m (P := fun M8 => XX D ad cI cJ p l e (Rm 3 75) s m args below meth c Q 3 M8 38 [(0, .ref (ad 94)), (1, .int q1.1)] []) h (fun M8 h => ?_)
    obtain ⟨q16, hq16, h⟩ := bnd h
    refine x_loop (Head := fun (y9 : Mem) => XX D ad cI cJ p l e (Rm 3 75) s m args below meth c Q 3 y9 38 [(0, .ref (ad 94)), (1, .int q1.1)] []) (Ex := fun (q16 : Mem) => XX D ad cI cJ p l e (Rm 3 75) s m args below meth c Q 3 q16 76 [(1, .int q1.1)] []) (fun y9 r h hback hexit => ?_) FU _ q16 hq16 ?_
    · unfold b_Mo_settles_94_38 at h
      refine x_aload_n (pc := 38) B 0 dX12_settles_38 rfl rfl ?_
      refine x_get (T := TX12) (pc := 39) B 19 oi_94 rfl uw_12 (by decide) rfl tw_1318 rfl dX12_settles_39 ?_
      refine x_bipush (v := 30) (pc := 42) B dX12_settles_42 rfl ?_
      refine x_icmp_ge (tgt := 76) (pc := 44) B dX12_settles_44 rfl (fun hc10 => ?_) (fun hc10 => ?_)
      · have h := iff_ hc10 h
        refine x_pick (lv' := [(1, .int q1.1)]) [1] rfl ?_
        have z := hexit y9 (Option.some.inj h).symm
        exact z
      · have h := ift hc10 h
        refine x_aload_n (pc := 47) B 0 dX12_settles_47 rfl rfl ?_
        obtain ⟨hk11, h⟩ := ifn h
        refine x_getZ (T := TX12) (pc := 48) B 20 oi_94 rfl uw_12 (by decide) rfl tw_1319 rfl hk11 dX12_settles_48 ?_
        refine x_if_ne_b (tgt := 76) (pc := 51) B dX12_settles_51 rfl (fun hc12 => ?_) (fun hc12 => ?_)
        · have h := ift hc12 h
          refine x_pick (lv' := [(1, .int q1.1)]) [1] rfl ?_
          have z := hexit y9 (Option.some.inj h).symm
          exact z
        · have h := iff_ hc12 h
          refine x_aload_n (pc := 54) B 0 dX12_settles_54 rfl rfl ?_
          refine x_aload_n (pc := 55) B 0 dX12_settles_55 rfl rfl ?_
          refine x_iload_n (pc := 56) B 1 dX12_settles_56 rfl rfl ?_
          obtain ⟨q13, hq13, h⟩ := bnd h
          refine x_callV (rest := [.ref (ad 94)]) (st' := [.int (bI q13.1), .ref (ad 94)]) (pc := 57) B oi_94 rfl (C_Mo_sweep_94 q1.1 y9 _ hq13) tw_1717 tw_1714 tw_1716 tw_88 tw_111 hd_Mo_sweep_94 ⟨Nat.le_of_ble_eq_true rfl, Nat.le_of_ble_eq_true rfl⟩ rfl rfl (Nat.le_of_ble_eq_true rfl) rfl dX12_settles_57 ?_
          refine x_put (T := TX12) (pc := 60) B 20 oi_94 of_94_20 rfl uw_12 tyX12_ok nmX12 (by decide) rfl tw_1319 rfl (nrw_b _) (fts_b _) (Nat.le_of_ble_eq_true rfl) dX12_settles_60 ?_
          refine jv_m (P := fun M14 => XX D ad cI cJ p l e (Rm 3 75) s m args below meth c Q 3 M14 63 [(0, .ref (ad 94)), (1, .int q1.1)] []) h (fun M14 h => ?_)
          refine x_aload_n (pc := 63) B 0 dX12_settles_63 rfl rfl ?_
          refine x_dup (pc := 64) B dX12_settles_64 rfl ?_
          refine x_get (T := TX12) (pc := 65) B 19 oi_94 rfl uw_12 (by decide) rfl tw_1318 rfl dX12_settles_65 ?_
          refine x_iconst (v := 1) (pc := 68) B dX12_settles_68 rfl ?_
          refine x_iadd (pc := 69) B dX12_settles_69 ?_
          refine x_put (T := TX12) (pc := 70) B 19 oi_94 of_94_19 rfl uw_12 tyX12_ok nmX12 (by decide) rfl tw_1318 rfl rfl rfl (Nat.le_of_ble_eq_true rfl) dX12_settles_70 ?_
          refine jv_m (P := fun M15 => XX D ad cI cJ p l e (Rm 3 75) s m args below meth c Q 3 M15 73 [(0, .ref (ad 94)), (1, .int q1.1)] []) h (fun M15 h => ?_)
          refine x_goto (tgt := 38) (pc := 73) B dX12_settles_73 rfl ?_
          have z := hback M15 (Option.some.inj h).symm
          exact z
    · refine x_iload_n (pc := 76) B 0 dX12_settles_76 rfl rfl ?_
      obtain rfl := Option.some.inj h
      exact x_iret (pc := 77) B hQ dX12_settles_77
-- CurrentFarmsModel.volt(I)I [94]
abbrev y_Mo_volt_94 : MethodName := ⟨"CurrentFarmsModel", "volt", "(I)I"⟩
abbrev cX12_volt : ByteArray := prog_14_method_75_code
theorem dX12_volt_0 : decode cX12_volt 0 = .ok (.iload_n 1, 1) := by decide +kernel
theorem dX12_volt_1 : decode cX12_volt 1 = .ok (.invokestatic 88, 3) := by decide +kernel
theorem dX12_volt_4 : decode cX12_volt 4 = .ok (.ifCond .eq 11, 3) := by decide +kernel
theorem dX12_volt_7 : decode cX12_volt 7 = .ok (.aload_n 0, 1) := by decide +kernel
theorem dX12_volt_8 : decode cX12_volt 8 = .ok (.iload_n 1, 1) := by decide +kernel
theorem dX12_volt_9 : decode cX12_volt 9 = .ok (.invokevirtual 92, 3) := by decide +kernel
theorem dX12_volt_12 : decode cX12_volt 12 = .ok (.ifCond .ne 5, 3) := by decide +kernel
theorem dX12_volt_15 : decode cX12_volt 15 = .ok (.iconst (-1), 1) := by decide +kernel
theorem dX12_volt_16 : decode cX12_volt 16 = .ok (.ireturn, 1) := by decide +kernel
theorem dX12_volt_17 : decode cX12_volt 17 = .ok (.aload_n 0, 1) := by decide +kernel
theorem dX12_volt_18 : decode cX12_volt 18 = .ok (.invokevirtual 302, 3) := by decide +kernel
theorem dX12_volt_21 : decode cX12_volt 21 = .ok (.istore_n 2, 1) := by decide +kernel
theorem dX12_volt_22 : decode cX12_volt 22 = .ok (.aload_n 0, 1) := by decide +kernel
theorem dX12_volt_23 : decode cX12_volt 23 = .ok (.getfield 40, 3) := by decide +kernel
theorem dX12_volt_26 : decode cX12_volt 26 = .ok (.iload_n 1, 1) := by decide +kernel
theorem dX12_volt_27 : decode cX12_volt 27 = .ok (.iaload, 1) := by decide +kernel
theorem dX12_volt_28 : decode cX12_volt 28 = .ok (.ireturn, 1) := by decide +kernel
theorem hd_Mo_volt_94 : y_Mo_volt_94.cls ≠ "java/lang/invoke/MethodHandle" ∧ y_Mo_volt_94.cls ≠ "java/lang/invoke/VarHandle" ∧ (parseMethodDescriptor y_Mo_volt_94.desc).map (fun d => d.parameters.length) = some 1 := by decide +kernel
def f_Mo_volt_94 (a1 : Int32) (M0 : Mem) : Option (Int32 × Mem) :=
  (f_Mo_isCell a1).bind fun q1 => if q1 then ((f_Mo_isOnLine_94 a1 M0).bind fun q3 => if q3 then ((f_Mo_settles_94 M0).bind fun q5 => if inb a1 48 then some (q5.2.1 105 a1.toNatClampNeg, q5.2) else none) else (some ((-1), M0))) else (some ((-1), M0))
set_option maxHeartbeats 4000000 in
set_option maxRecDepth 20000 in
theorem C_Mo_volt_94 {D : va_G} {ad adK adV : Nat → Nat} {cI cJ : ClassId} {l : Launch} (a1 : Int32) (M0 : Mem) (o : Int32 × Mem) (h : f_Mo_volt_94 a1 M0 = some o) : Ct D ad adK adV cI cJ l y_Mo_volt_94 cX12_volt 3 (some .int) 4 97 [.ref (ad 94), .int a1] M0 (some (.int o.1)) o.2 := by
  refine x_start (lv := [(0, .ref (ad 94)), (1, .int a1)]) (own := "CurrentFarmsModel") rfl (by decide) (Nat.le_of_ble_eq_true rfl) rfl ?_
  intro p e s m args below meth c Q hQ B
  unfold f_Mo_volt_94 at h
  refine x_iload_n (pc := 0) B 1 dX12_volt_0 rfl rfl ?_
  obtain ⟨q1, hq1, h⟩ := bnd h
  refine x_callS (rest := []) (st' := [.int (bI q1)]) (pc := 1) B (C_Mo_isCell a1 M0 _ hq1) tw_1403 tw_1401 tw_1402 tw_111 hd_Mo_isCell ⟨Nat.le_of_ble_eq_true rfl, Nat.le_of_ble_eq_true rfl⟩ rfl rfl (Nat.le_of_ble_eq_true rfl) rfl dX12_volt_1 ?_
  refine x_if_eq_b (tgt := 15) (pc := 4) B dX12_volt_4 rfl (fun hc2 => ?_) (fun hc2 => ?_)
  · have h := iff_ hc2 h
    refine x_iconst (v := (-1)) (pc := 15) B dX12_volt_15 rfl ?_
    obtain rfl := Option.some.inj h
    exact x_iret (pc := 16) B hQ dX12_volt_16
  · have h := ift hc2 h
    refine x_aload_n (pc := 7) B 0 dX12_volt_7 rfl rfl ?_
    refine x_iload_n (pc := 8) B 1 dX12_volt_8 rfl rfl ?_
    obtain ⟨q3, hq3, h⟩ := bnd h
    refine x_callV (rest := []) (st' := [.int (bI q3)]) (pc := 9) B oi_94 rfl (C_Mo_isOnLine_94 a1 M0 _ hq3) tw_1410 tw_1407 tw_1409 tw_43 tw_111 hd_Mo_isOnLine_94 ⟨Nat.le_of_ble_eq_true rfl, Nat.le_of_ble_eq_true rfl⟩ rfl rfl (Nat.le_of_ble_eq_true rfl) rfl dX12_volt_9 ?_
    refine x_if_ne_b (tgt := 17) (pc := 12) B dX12_volt_12 rfl (fun hc4 => ?_) (fun hc4 => ?_)
    · have h := ift hc4 h
      refine x_aload_n (pc := 17) B 0 dX12_volt_17 rfl rfl ?_
      obtain ⟨q5, hq5, h⟩ := bnd h
      refine x_callV (rest := []) (st' := [.int q5.1]) (pc := 18) B oi_94 rfl (C_Mo_settles_94  M0 _ hq5) tw_1709 tw_1706 tw_1708 tw_86 tw_111 hd_Mo_settles_94 ⟨Nat.le_of_ble_eq_true rfl, Nat.le_of_ble_eq_true rfl⟩ rfl rfl (Nat.le_of_ble_eq_true rfl) rfl dX12_volt_18 ?_
      refine x_istore_n (lv' := [(2, .int q5.1), (0, .ref (ad 94)), (1, .int a1)]) (pc := 21) B dX12_volt_21 rfl (by decide) rfl ?_
      refine x_aload_n (pc := 22) B 1 dX12_volt_22 rfl rfl ?_
      refine x_get (T := TX12) (pc := 23) B 16 oi_94 rfl uw_12 (by decide) rfl tw_1315 rfl dX12_volt_23 ?_
      refine x_iload_n (pc := 26) B 2 dX12_volt_26 rfl rfl ?_
      obtain ⟨hk6, h⟩ := ifn h
      refine x_iald (pc := 27) B ai_105 hk6 dX12_volt_27 ?_
      obtain rfl := Option.some.inj h
      exact x_iret (pc := 28) B hQ dX12_volt_28
    · have h := iff_ hc4 h
      refine x_iconst (v := (-1)) (pc := 15) B dX12_volt_15 rfl ?_
      obtain rfl := Option.some.inj h
      exact x_iret (pc := 16) B hQ dX12_volt_16
-- CurrentFarmsModel.lose(I)I [94]
abbrev y_Mo_lose_94 : MethodName := ⟨"CurrentFarmsModel", "lose", "(I)I"⟩
abbrev cX12_lose : ByteArray := prog_14_method_76_code
theorem dX12_lose_0 : decode cX12_lose 0 = .ok (.iload_n 1, 1) := by decide +kernel
theorem dX12_lose_1 : decode cX12_lose 1 = .ok (.iconst 0, 1) := by decide +kernel
theorem dX12_lose_2 : decode cX12_lose 2 = .ok (.iconst 2, 1) := by decide +kernel
theorem dX12_lose_3 : decode cX12_lose 3 = .ok (.invokestatic 84, 3) := by decide +kernel
theorem dX12_lose_6 : decode cX12_lose 6 = .ok (.ifCond .ne 5, 3) := by decide +kernel
theorem dX12_lose_9 : decode cX12_lose 9 = .ok (.iconst (-1), 1) := by decide +kernel
theorem dX12_lose_10 : decode cX12_lose 10 = .ok (.ireturn, 1) := by decide +kernel
theorem dX12_lose_11 : decode cX12_lose 11 = .ok (.aload_n 0, 1) := by decide +kernel
theorem dX12_lose_12 : decode cX12_lose 12 = .ok (.invokevirtual 302, 3) := by decide +kernel
theorem dX12_lose_15 : decode cX12_lose 15 = .ok (.istore_n 2, 1) := by decide +kernel
theorem dX12_lose_16 : decode cX12_lose 16 = .ok (.iload_n 1, 1) := by decide +kernel
theorem dX12_lose_17 : decode cX12_lose 17 = .ok (.iconst 2, 1) := by decide +kernel
theorem dX12_lose_18 : decode cX12_lose 18 = .ok (.if_icmp .ge 27, 3) := by decide +kernel
theorem dX12_lose_21 : decode cX12_lose 21 = .ok (.iload_n 1, 1) := by decide +kernel
theorem dX12_lose_22 : decode cX12_lose 22 = .ok (.ifCond .ne 10, 3) := by decide +kernel
theorem dX12_lose_25 : decode cX12_lose 25 = .ok (.aload_n 0, 1) := by decide +kernel
theorem dX12_lose_26 : decode cX12_lose 26 = .ok (.getfield 296, 3) := by decide +kernel
theorem dX12_lose_29 : decode cX12_lose 29 = .ok (.goto 15, 3) := by decide +kernel
theorem dX12_lose_32 : decode cX12_lose 32 = .ok (.aload_n 0, 1) := by decide +kernel
theorem dX12_lose_33 : decode cX12_lose 33 = .ok (.getfield 293, 3) := by decide +kernel
theorem dX12_lose_36 : decode cX12_lose 36 = .ok (.ifCond .eq 7, 3) := by decide +kernel
theorem dX12_lose_39 : decode cX12_lose 39 = .ok (.iconst 1, 1) := by decide +kernel
theorem dX12_lose_40 : decode cX12_lose 40 = .ok (.goto 4, 3) := by decide +kernel
theorem dX12_lose_43 : decode cX12_lose 43 = .ok (.iconst 0, 1) := by decide +kernel
theorem dX12_lose_44 : decode cX12_lose 44 = .ok (.ireturn, 1) := by decide +kernel
theorem dX12_lose_45 : decode cX12_lose 45 = .ok (.lconst 0, 1) := by decide +kernel
theorem dX12_lose_46 : decode cX12_lose 46 = .ok (.lstore_n 3, 1) := by decide +kernel
theorem dX12_lose_47 : decode cX12_lose 47 = .ok (.iconst 1, 1) := by decide +kernel
theorem dX12_lose_48 : decode cX12_lose 48 = .ok (.istore 5, 2) := by decide +kernel
theorem dX12_lose_50 : decode cX12_lose 50 = .ok (.iload 5, 2) := by decide +kernel
theorem dX12_lose_52 : decode cX12_lose 52 = .ok (.iload_n 2, 1) := by decide +kernel
theorem dX12_lose_53 : decode cX12_lose 53 = .ok (.if_icmp .ge 46, 3) := by decide +kernel
theorem dX12_lose_56 : decode cX12_lose 56 = .ok (.lload_n 3, 1) := by decide +kernel
theorem dX12_lose_57 : decode cX12_lose 57 = .ok (.aload_n 0, 1) := by decide +kernel
theorem dX12_lose_58 : decode cX12_lose 58 = .ok (.getfield 7, 3) := by decide +kernel
theorem dX12_lose_61 : decode cX12_lose 61 = .ok (.bipush 8, 2) := by decide +kernel
theorem dX12_lose_63 : decode cX12_lose 63 = .ok (.iaload, 1) := by decide +kernel
theorem dX12_lose_64 : decode cX12_lose 64 = .ok (.i2l, 1) := by decide +kernel
theorem dX12_lose_65 : decode cX12_lose 65 = .ok (.aload_n 0, 1) := by decide +kernel
theorem dX12_lose_66 : decode cX12_lose 66 = .ok (.getfield 46, 3) := by decide +kernel
theorem dX12_lose_69 : decode cX12_lose 69 = .ok (.aload_n 0, 1) := by decide +kernel
theorem dX12_lose_70 : decode cX12_lose 70 = .ok (.getfield 43, 3) := by decide +kernel
theorem dX12_lose_73 : decode cX12_lose 73 = .ok (.iload 5, 2) := by decide +kernel
theorem dX12_lose_75 : decode cX12_lose 75 = .ok (.iaload, 1) := by decide +kernel
theorem dX12_lose_76 : decode cX12_lose 76 = .ok (.laload, 1) := by decide +kernel
theorem dX12_lose_77 : decode cX12_lose 77 = .ok (.lmul, 1) := by decide +kernel
theorem dX12_lose_78 : decode cX12_lose 78 = .ok (.aload_n 0, 1) := by decide +kernel
theorem dX12_lose_79 : decode cX12_lose 79 = .ok (.getfield 46, 3) := by decide +kernel
theorem dX12_lose_82 : decode cX12_lose 82 = .ok (.aload_n 0, 1) := by decide +kernel
theorem dX12_lose_83 : decode cX12_lose 83 = .ok (.getfield 43, 3) := by decide +kernel
theorem dX12_lose_86 : decode cX12_lose 86 = .ok (.iload 5, 2) := by decide +kernel
theorem dX12_lose_88 : decode cX12_lose 88 = .ok (.iaload, 1) := by decide +kernel
theorem dX12_lose_89 : decode cX12_lose 89 = .ok (.laload, 1) := by decide +kernel
theorem dX12_lose_90 : decode cX12_lose 90 = .ok (.lmul, 1) := by decide +kernel
theorem dX12_lose_91 : decode cX12_lose 91 = .ok (.ladd, 1) := by decide +kernel
theorem dX12_lose_92 : decode cX12_lose 92 = .ok (.lstore_n 3, 1) := by decide +kernel
theorem dX12_lose_93 : decode cX12_lose 93 = .ok (.iinc 5 1, 3) := by decide +kernel
theorem dX12_lose_96 : decode cX12_lose 96 = .ok (.goto (-46), 3) := by decide +kernel
theorem dX12_lose_99 : decode cX12_lose 99 = .ok (.lload_n 3, 1) := by decide +kernel
theorem dX12_lose_100 : decode cX12_lose 100 = .ok (.ldc2_w 305, 3) := by decide +kernel
theorem dX12_lose_103 : decode cX12_lose 103 = .ok (.ldiv, 1) := by decide +kernel
theorem dX12_lose_104 : decode cX12_lose 104 = .ok (.lstore_n 3, 1) := by decide +kernel
theorem dX12_lose_105 : decode cX12_lose 105 = .ok (.lload_n 3, 1) := by decide +kernel
theorem dX12_lose_106 : decode cX12_lose 106 = .ok (.ldc2_w 307, 3) := by decide +kernel
theorem dX12_lose_109 : decode cX12_lose 109 = .ok (.lcmp, 1) := by decide +kernel
theorem dX12_lose_110 : decode cX12_lose 110 = .ok (.ifCond .le 9, 3) := by decide +kernel
theorem dX12_lose_113 : decode cX12_lose 113 = .ok (.ldc_w 309, 3) := by decide +kernel
theorem dX12_lose_116 : decode cX12_lose 116 = .ok (.goto 5, 3) := by decide +kernel
theorem dX12_lose_119 : decode cX12_lose 119 = .ok (.lload_n 3, 1) := by decide +kernel
theorem dX12_lose_120 : decode cX12_lose 120 = .ok (.l2i, 1) := by decide +kernel
theorem dX12_lose_121 : decode cX12_lose 121 = .ok (.ireturn, 1) := by decide +kernel
theorem hd_Mo_lose_94 : y_Mo_lose_94.cls ≠ "java/lang/invoke/MethodHandle" ∧ y_Mo_lose_94.cls ≠ "java/lang/invoke/VarHandle" ∧ (parseMethodDescriptor y_Mo_lose_94.desc).map (fun d => d.parameters.length) = some 1 := by decide +kernel
def b_Mo_lose_94_50 (q3 : Int32 × Mem) (y8 : Int64 × Int32) : Option ((Int64 × Int32) ⊕ (Int64)) :=
  if decide (y8.2 < q3.1) then (if inb y8.2 48 then if inb (q3.2.1 106 y8.2.toNatClampNeg) 48 then if inb y8.2 48 then if inb (q3.2.1 106 y8.2.toNatClampNeg) 48 then jv_ (y8.1 + ((((q3.2.1 95 8).toInt64) * (q3.2.2 107 (q3.2.1 106 y8.2.toNatClampNeg).toNatClampNeg)) * (q3.2.2 107 (q3.2.1 106 y8.2.toNatClampNeg).toNatClampNeg)) : Int64) fun x14 => some (.inl (x14, y8.2 + 1)) else none else none else none else none) else (some (.inr y8.1))
def f_Mo_lose_94 (a1 : Int32) (M0 : Mem) : Option (Int32 × Mem) :=
  (f_Mo_in a1 0 2).bind fun q1 => if q1 then ((f_Mo_settles_94 M0).bind fun q3 => if decide (a1 < 2) then (if decide (a1 = 0) then (some (q3.2.1 94 19, q3.2)) else (if isb (q3.2.1 94 20) then if decide (q3.2.1 94 20 = 1) then (some (1, q3.2)) else (some (0, q3.2)) else none)) else ((itr (b_Mo_lose_94_50 q3) FU (0, 1)).bind fun q15 => if decide ((lg_cmp (q15 / 1000) 1000000000) ≤ 0) then (some ((q15 / 1000).toInt32, q3.2)) else (some (1000000000, q3.2)))) else (some ((-1), M0))
set_option maxHeartbeats 4000000 in
set_option maxRecDepth 20000 in
theorem C_Mo_lose_94 {D : va_G} {ad adK adV : Nat → Nat} {cI cJ : ClassId} {l : Launch} (a1 : Int32) (M0 : Mem) (o : Int32 × Mem) (h : f_Mo_lose_94 a1 M0 = some o) : Ct D ad adK adV cI cJ l y_Mo_lose_94 cX12_lose 6 (some .int) 4 97 [.ref (ad 94), .int a1] M0 (some (.int o.1)) o.2 := by
  refine x_start (lv := [(0, .ref (ad 94)), (1, .int a1)]) (own := "CurrentFarmsModel") rfl (by decide) (Nat.le_of_ble_eq_true rfl) rfl ?_
  intro p e s m args below meth c Q hQ B
  unfold f_Mo_lose_94 at h
  refine x_iload_n (pc := 0) B 1 dX12_lose_0 rfl rfl ?_
  refine x_iconst (v := 0) (pc := 1) B dX12_lose_1 rfl ?_
  refine x_iconst (v := 2) (pc := 2) B dX12_lose_2 rfl ?_
  obtain ⟨q1, hq1, h⟩ := bnd h
  refine x_callS (rest := []) (st' := [.int (bI q1)]) (pc := 3) B (C_Mo_in a1 0 2 M0 _ hq1) tw_1406 tw_1404 tw_1405 tw_111 hd_Mo_in ⟨Nat.le_of_ble_eq_true rfl, Nat.le_of_ble_eq_true rfl⟩ rfl rfl (Nat.le_of_ble_eq_true rfl) rfl dX12_lose_3 ?_
  refine x_if_ne_b (tgt := 11) (pc := 6) B dX12_lose_6 rfl (fun hc2 => ?_) (fun hc2 => ?_)
  · have h := ift hc2 h
    refine x_aload_n (pc := 11) B 0 dX12_lose_11 rfl rfl ?_
    obtain ⟨q3, hq3, h⟩ := bnd h
    refine x_callV (rest := []) (st' := [.int q3.1]) (pc := 12) B oi_94 rfl (C_Mo_settles_94  M0 _ hq3) tw_1709 tw_1706 tw_1708 tw_86 tw_111 hd_Mo_settles_94 ⟨Nat.le_of_ble_eq_true rfl, Nat.le_of_ble_eq_true rfl⟩ rfl rfl (Nat.le_of_ble_eq_true rfl) rfl dX12_lose_12 ?_
    refine x_istore_n (lv' := [(2, .int q3.1), (0, .ref (ad 94)), (1, .int a1)]) (pc := 15) B dX12_lose_15 rfl (by decide) rfl ?_
    refine x_iload_n (pc := 16) B 2 dX12_lose_16 rfl rfl ?_
    refine x_iconst (v := 2) (pc := 17) B dX12_lose_17 rfl ?_
    refine x_icmp_ge (tgt := 45) (pc := 18) B dX12_lose_18 rfl (fun hc4 => ?_) (fun hc4 => ?_)
    · have h := iff_ hc4 h
      refine x_lconst (v := 0) (pc := 45) B dX12_lose_45 rfl ?_
      refine x_lstore_n (lv' := [(3, .long 0), (2, .int q3.1), (0, .ref (ad 94)), (1, .int a1)]) (pc := 46) B dX12_lose_46 rfl (by decide) rfl ?_
      refine x_iconst (v := 1) (pc := 47) B dX12_lose_47 rfl ?_
      refine x_istore (lv' := [(5, .int 1), (3, .long 0), (2, .int q3.1), (0, .ref (ad 94)), (1, .int a1)]) (pc := 48) B dX12_lose_48 (by decide) rfl ?_
      refine x_pick (lv' := [(0, .ref (ad 94)), (2, .int q3.1), (3, .long 0), (5, .int 1)]) [3, 2, 1, 0] rfl ?_
      obtain ⟨q15, hq15, h⟩ := bnd h
      refine x_loop (Head := fun (y8 : Int64 × Int32) => XX D ad cI cJ p l e (Rm 4 97) s m args below meth c Q 6 q3.2 50 [(0, .ref (ad 94)), (2, .int q3.1), (3, .long y8.1), (5, .int y8.2)] []) (Ex := fun (q15 : Int64) => XX D ad cI cJ p l e (Rm 4 97) s m args below meth c Q 6 q3.2 99 [(3, .long q15)] []) (fun y8 r h hback hexit => ?_) FU _ q15 hq15 ?_
      · unfold b_Mo_lose_94_50 at h
        refine x_iload (pc := 50) B 3 dX12_lose_50 rfl ?_
        refine x_iload_n (pc := 52) B 1 dX12_lose_52 rfl rfl ?_
        refine x_icmp_ge (tgt := 99) (pc := 53) B dX12_lose_53 rfl (fun hc9 => ?_) (fun hc9 => ?_)
        · have h := iff_ hc9 h
          refine x_pick (lv' := [(3, .long y8.1)]) [2] rfl ?_
          have z := hexit y8.1 (Option.some.inj h).symm
          exact z
        · have h := ift hc9 h
          refine x_lload_n (pc := 56) B 2 dX12_lose_56 rfl rfl ?_
          refine x_aload_n (pc := 57) B 0 dX12_lose_57 rfl rfl ?_
          refine x_get (T := TX12) (pc := 58) B 1 oi_94 rfl uw_12 (by decide) rfl tw_1300 rfl dX12_lose_58 ?_
          refine x_bipush (v := 8) (pc := 61) B dX12_lose_61 rfl ?_
          refine x_iald_c (j := 8) (pc := 63) B ai_95 (by decide) rfl dX12_lose_63 ?_
          refine x_i2l (pc := 64) B dX12_lose_64 ?_
          refine x_aload_n (pc := 65) B 0 dX12_lose_65 rfl rfl ?_
          refine x_get (T := TX12) (pc := 66) B 18 oi_94 rfl uw_12 (by decide) rfl tw_1317 rfl dX12_lose_66 ?_
          refine x_aload_n (pc := 69) B 0 dX12_lose_69 rfl rfl ?_
          refine x_get (T := TX12) (pc := 70) B 17 oi_94 rfl uw_12 (by decide) rfl tw_1316 rfl dX12_lose_70 ?_
          refine x_iload (pc := 73) B 3 dX12_lose_73 rfl ?_
          obtain ⟨hk10, h⟩ := ifn h
          refine x_iald (pc := 75) B ai_106 hk10 dX12_lose_75 ?_
          obtain ⟨hk11, h⟩ := ifn h
          refine x_lald (pc := 76) B ai_107 hk11 dX12_lose_76 ?_
          refine x_lmul (pc := 77) B dX12_lose_77 ?_
          refine x_aload_n (pc := 78) B 0 dX12_lose_78 rfl rfl ?_
          refine x_get (T := TX12) (pc := 79) B 18 oi_94 rfl uw_12 (by decide) rfl tw_1317 rfl dX12_lose_79 ?_
          refine x_aload_n (pc := 82) B 0 dX12_lose_82 rfl rfl ?_
          refine x_get (T := TX12) (pc := 83) B 17 oi_94 rfl uw_12 (by decide) rfl tw_1316 rfl dX12_lose_83 ?_
          refine x_iload (pc := 86) B 3 dX12_lose_86 rfl ?_
          obtain ⟨hk12, h⟩ := ifn h
          refine x_iald (pc := 88) B ai_106 hk12 dX12_lose_88 ?_
          obtain ⟨hk13, h⟩ := ifn h
          refine x_lald (pc := 89) B ai_107 hk13 dX12_lose_89 ?_
          refine x_lmul (pc := 90) B dX12_lose_90 ?_
          refine x_ladd (pc := 91) B dX12_lose_91 ?_
          refine jv_m (P := fun (x14 : Int64) => XX D ad cI cJ p l e (Rm 4 97) s m args below meth c Q 6 q3.2 92 [(0, .ref (ad 94)), (2, .int q3.1), (3, .long y8.1), (5, .int y8.2)] [.long x14]) h (fun x14 h => ?_)
          refine x_lstore_n (lv' := [(3, .long x14), (0, .ref (ad 94)), (2, .int q3.1), (5, .int y8.2)]) (pc := 92) B dX12_lose_92 rfl (by decide) rfl ?_
          refine x_iinc (k := 3) (v := y8.2 + 1) (lv' := [(5, .int (y8.2 + 1)), (3, .long x14), (0, .ref (ad 94)), (2, .int q3.1)]) (pc := 93) B dX12_lose_93 rfl rfl (by decide) rfl ?_
          refine x_goto (tgt := 50) (pc := 96) B dX12_lose_96 rfl ?_
          refine x_pick (lv' := [(0, .ref (ad 94)), (2, .int q3.1), (3, .long x14), (5, .int (y8.2 + 1))]) [2, 3, 1, 0] rfl ?_
          have z := hback (x14, y8.2 + 1) (Option.some.inj h).symm
          exact z
      · refine x_lload_n (pc := 99) B 0 dX12_lose_99 rfl rfl ?_
        refine x_ldc2 (v := 1000) (pc := 100) B tw_1723 dX12_lose_100 ?_
        refine x_ldiv (pc := 103) B dX12_lose_103 (by decide) ?_
        refine x_lstore_n (lv' := [(3, .long (q15 / 1000))]) (pc := 104) B dX12_lose_104 rfl (by decide) rfl ?_
        refine x_lload_n (pc := 105) B 0 dX12_lose_105 rfl rfl ?_
        refine x_ldc2 (v := 1000000000) (pc := 106) B tw_1569 dX12_lose_106 ?_
        refine x_lcmp (pc := 109) B dX12_lose_109 ?_
        refine x_if_le (tgt := 119) (pc := 110) B dX12_lose_110 rfl (fun hc16 => ?_) (fun hc16 => ?_)
        · have h := ift hc16 h
          refine x_lload_n (pc := 119) B 0 dX12_lose_119 rfl rfl ?_
          refine x_l2i (pc := 120) B dX12_lose_120 ?_
          obtain rfl := Option.some.inj h
          exact x_iret (pc := 121) B hQ dX12_lose_121
        · have h := iff_ hc16 h
          refine x_ldcw (v := 1000000000) (pc := 113) B tw_1724 dX12_lose_113 ?_
          refine x_goto (tgt := 121) (pc := 116) B dX12_lose_116 rfl ?_
          obtain rfl := Option.some.inj h
          exact x_iret (pc := 121) B hQ dX12_lose_121
    · have h := ift hc4 h
      refine x_iload_n (pc := 21) B 2 dX12_lose_21 rfl rfl ?_
      refine x_if_ne (tgt := 32) (pc := 22) B dX12_lose_22 rfl (fun hc5 => ?_) (fun hc5 => ?_)
      · have h := iff_ hc5 h
        refine x_aload_n (pc := 32) B 1 dX12_lose_32 rfl rfl ?_
        obtain ⟨hk6, h⟩ := ifn h
        refine x_getZ (T := TX12) (pc := 33) B 20 oi_94 rfl uw_12 (by decide) rfl tw_1319 rfl hk6 dX12_lose_33 ?_
        refine x_if_eq_b (tgt := 43) (pc := 36) B dX12_lose_36 rfl (fun hc7 => ?_) (fun hc7 => ?_)
        · have h := iff_ hc7 h
          refine x_iconst (v := 0) (pc := 43) B dX12_lose_43 rfl ?_
          obtain rfl := Option.some.inj h
          exact x_iret (pc := 44) B hQ dX12_lose_44
        · have h := ift hc7 h
          refine x_iconst (v := 1) (pc := 39) B dX12_lose_39 rfl ?_
          refine x_goto (tgt := 44) (pc := 40) B dX12_lose_40 rfl ?_
          obtain rfl := Option.some.inj h
          exact x_iret (pc := 44) B hQ dX12_lose_44
      · have h := ift hc5 h
        refine x_aload_n (pc := 25) B 1 dX12_lose_25 rfl rfl ?_
        refine x_get (T := TX12) (pc := 26) B 19 oi_94 rfl uw_12 (by decide) rfl tw_1318 rfl dX12_lose_26 ?_
        refine x_goto (tgt := 44) (pc := 29) B dX12_lose_29 rfl ?_
        obtain rfl := Option.some.inj h
        exact x_iret (pc := 44) B hQ dX12_lose_44
  · have h := iff_ hc2 h
    refine x_iconst (v := (-1)) (pc := 9) B dX12_lose_9 rfl ?_
    obtain rfl := Option.some.inj h
    exact x_iret (pc := 10) B hQ dX12_lose_10
-- CurrentFarmsModel.isGone(I)Z [94]
abbrev y_Mo_isGone_94 : MethodName := ⟨"CurrentFarmsModel", "isGone", "(I)Z"⟩
abbrev cX12_isGone : ByteArray := prog_14_method_77_code
theorem dX12_isGone_0 : decode cX12_isGone 0 = .ok (.iload_n 1, 1) := by decide +kernel
theorem dX12_isGone_1 : decode cX12_isGone 1 = .ok (.iconst 0, 1) := by decide +kernel
theorem dX12_isGone_2 : decode cX12_isGone 2 = .ok (.aload_n 0, 1) := by decide +kernel
theorem dX12_isGone_3 : decode cX12_isGone 3 = .ok (.getfield 7, 3) := by decide +kernel
theorem dX12_isGone_6 : decode cX12_isGone 6 = .ok (.iconst 0, 1) := by decide +kernel
theorem dX12_isGone_7 : decode cX12_isGone 7 = .ok (.iaload, 1) := by decide +kernel
theorem dX12_isGone_8 : decode cX12_isGone 8 = .ok (.invokestatic 84, 3) := by decide +kernel
theorem dX12_isGone_11 : decode cX12_isGone 11 = .ok (.ireturn, 1) := by decide +kernel
theorem hd_Mo_isGone_94 : y_Mo_isGone_94.cls ≠ "java/lang/invoke/MethodHandle" ∧ y_Mo_isGone_94.cls ≠ "java/lang/invoke/VarHandle" ∧ (parseMethodDescriptor y_Mo_isGone_94.desc).map (fun d => d.parameters.length) = some 1 := by decide +kernel
def f_Mo_isGone_94 (a1 : Int32) (M0 : Mem) : Option (Bool) :=
  (f_Mo_in a1 0 (M0.1 95 0)).bind fun q1 => some q1
set_option maxHeartbeats 4000000 in
set_option maxRecDepth 20000 in
theorem C_Mo_isGone_94 {D : va_G} {ad adK adV : Nat → Nat} {cI cJ : ClassId} {l : Launch} (a1 : Int32) (M0 : Mem) (o : Bool) (h : f_Mo_isGone_94 a1 M0 = some o) : Ct D ad adK adV cI cJ l y_Mo_isGone_94 cX12_isGone 2 (some .boolean) 1 22 [.ref (ad 94), .int a1] M0 (some (.int (bI o))) M0 := by
  refine x_start (lv := [(0, .ref (ad 94)), (1, .int a1)]) (own := "CurrentFarmsModel") rfl (by decide) (Nat.le_of_ble_eq_true rfl) rfl ?_
  intro p e s m args below meth c Q hQ B
  unfold f_Mo_isGone_94 at h
  refine x_iload_n (pc := 0) B 1 dX12_isGone_0 rfl rfl ?_
  refine x_iconst (v := 0) (pc := 1) B dX12_isGone_1 rfl ?_
  refine x_aload_n (pc := 2) B 0 dX12_isGone_2 rfl rfl ?_
  refine x_get (T := TX12) (pc := 3) B 1 oi_94 rfl uw_12 (by decide) rfl tw_1300 rfl dX12_isGone_3 ?_
  refine x_iconst (v := 0) (pc := 6) B dX12_isGone_6 rfl ?_
  refine x_iald_c (j := 0) (pc := 7) B ai_95 (by decide) rfl dX12_isGone_7 ?_
  obtain ⟨q1, hq1, h⟩ := bnd h
  refine x_callS (rest := []) (st' := [.int (bI q1)]) (pc := 8) B (C_Mo_in a1 0 (M0.1 95 0) M0 _ hq1) tw_1406 tw_1404 tw_1405 tw_111 hd_Mo_in ⟨Nat.le_of_ble_eq_true rfl, Nat.le_of_ble_eq_true rfl⟩ rfl rfl (Nat.le_of_ble_eq_true rfl) rfl dX12_isGone_8 ?_
  obtain rfl := Option.some.inj h
  exact x_zret (v := q1) (pc := 11) B hQ dX12_isGone_11
-- CurrentFarmsModel.read(III)I [94]
abbrev y_Mo_read_94 : MethodName := ⟨"CurrentFarmsModel", "read", "(III)I"⟩
abbrev cX12_read : ByteArray := prog_14_method_78_code
theorem dX12_read_0 : decode cX12_read 0 = .ok (.aload_n 0, 1) := by decide +kernel
theorem dX12_read_1 : decode cX12_read 1 = .ok (.iload_n 1, 1) := by decide +kernel
theorem dX12_read_2 : decode cX12_read 2 = .ok (.invokevirtual 110, 3) := by decide +kernel
theorem dX12_read_5 : decode cX12_read 5 = .ok (.ifCond .eq 11, 3) := by decide +kernel
theorem dX12_read_8 : decode cX12_read 8 = .ok (.aload_n 0, 1) := by decide +kernel
theorem dX12_read_9 : decode cX12_read 9 = .ok (.iload_n 2, 1) := by decide +kernel
theorem dX12_read_10 : decode cX12_read 10 = .ok (.invokevirtual 310, 3) := by decide +kernel
theorem dX12_read_13 : decode cX12_read 13 = .ok (.ifCond .ne 5, 3) := by decide +kernel
theorem dX12_read_16 : decode cX12_read 16 = .ok (.iconst (-1), 1) := by decide +kernel
theorem dX12_read_17 : decode cX12_read 17 = .ok (.ireturn, 1) := by decide +kernel
theorem dX12_read_18 : decode cX12_read 18 = .ok (.iload_n 3, 1) := by decide +kernel
theorem dX12_read_19 : decode cX12_read 19 = .ok (.iconst 0, 1) := by decide +kernel
theorem dX12_read_20 : decode cX12_read 20 = .ok (.sipush 9999, 3) := by decide +kernel
theorem dX12_read_23 : decode cX12_read 23 = .ok (.invokestatic 84, 3) := by decide +kernel
theorem dX12_read_26 : decode cX12_read 26 = .ok (.ifCond .ne 6, 3) := by decide +kernel
theorem dX12_read_29 : decode cX12_read 29 = .ok (.bipush (-2), 2) := by decide +kernel
theorem dX12_read_31 : decode cX12_read 31 = .ok (.ireturn, 1) := by decide +kernel
theorem dX12_read_32 : decode cX12_read 32 = .ok (.aload_n 0, 1) := by decide +kernel
theorem dX12_read_33 : decode cX12_read 33 = .ok (.iload_n 1, 1) := by decide +kernel
theorem dX12_read_34 : decode cX12_read 34 = .ok (.iload_n 2, 1) := by decide +kernel
theorem dX12_read_35 : decode cX12_read 35 = .ok (.invokevirtual 285, 3) := by decide +kernel
theorem dX12_read_38 : decode cX12_read 38 = .ok (.ifCond .ne 6, 3) := by decide +kernel
theorem dX12_read_41 : decode cX12_read 41 = .ok (.bipush (-3), 2) := by decide +kernel
theorem dX12_read_43 : decode cX12_read 43 = .ok (.ireturn, 1) := by decide +kernel
theorem dX12_read_44 : decode cX12_read 44 = .ok (.aload_n 0, 1) := by decide +kernel
theorem dX12_read_45 : decode cX12_read 45 = .ok (.getfield 7, 3) := by decide +kernel
theorem dX12_read_48 : decode cX12_read 48 = .ok (.sipush 2280, 3) := by decide +kernel
theorem dX12_read_51 : decode cX12_read 51 = .ok (.bipush 121, 2) := by decide +kernel
theorem dX12_read_53 : decode cX12_read 53 = .ok (.iload_n 1, 1) := by decide +kernel
theorem dX12_read_54 : decode cX12_read 54 = .ok (.imul, 1) := by decide +kernel
theorem dX12_read_55 : decode cX12_read 55 = .ok (.iadd, 1) := by decide +kernel
theorem dX12_read_56 : decode cX12_read 56 = .ok (.iload_n 2, 1) := by decide +kernel
theorem dX12_read_57 : decode cX12_read 57 = .ok (.iadd, 1) := by decide +kernel
theorem dX12_read_58 : decode cX12_read 58 = .ok (.iaload, 1) := by decide +kernel
theorem dX12_read_59 : decode cX12_read 59 = .ok (.istore 4, 2) := by decide +kernel
theorem dX12_read_61 : decode cX12_read 61 = .ok (.aload_n 0, 1) := by decide +kernel
theorem dX12_read_62 : decode cX12_read 62 = .ok (.getfield 7, 3) := by decide +kernel
theorem dX12_read_65 : decode cX12_read 65 = .ok (.sipush 2280, 3) := by decide +kernel
theorem dX12_read_68 : decode cX12_read 68 = .ok (.bipush 121, 2) := by decide +kernel
theorem dX12_read_70 : decode cX12_read 70 = .ok (.iload_n 1, 1) := by decide +kernel
theorem dX12_read_71 : decode cX12_read 71 = .ok (.imul, 1) := by decide +kernel
theorem dX12_read_72 : decode cX12_read 72 = .ok (.iadd, 1) := by decide +kernel
theorem dX12_read_73 : decode cX12_read 73 = .ok (.iload_n 2, 1) := by decide +kernel
theorem dX12_read_74 : decode cX12_read 74 = .ok (.iadd, 1) := by decide +kernel
theorem dX12_read_75 : decode cX12_read 75 = .ok (.iload_n 3, 1) := by decide +kernel
theorem dX12_read_76 : decode cX12_read 76 = .ok (.iastore, 1) := by decide +kernel
theorem dX12_read_77 : decode cX12_read 77 = .ok (.aload_n 0, 1) := by decide +kernel
theorem dX12_read_78 : decode cX12_read 78 = .ok (.dup, 1) := by decide +kernel
theorem dX12_read_79 : decode cX12_read 79 = .ok (.getfield 50, 3) := by decide +kernel
theorem dX12_read_82 : decode cX12_read 82 = .ok (.iconst 1, 1) := by decide +kernel
theorem dX12_read_83 : decode cX12_read 83 = .ok (.iadd, 1) := by decide +kernel
theorem dX12_read_84 : decode cX12_read 84 = .ok (.putfield 50, 3) := by decide +kernel
theorem dX12_read_87 : decode cX12_read 87 = .ok (.iload 4, 2) := by decide +kernel
theorem dX12_read_89 : decode cX12_read 89 = .ok (.iconst (-1), 1) := by decide +kernel
theorem dX12_read_90 : decode cX12_read 90 = .ok (.if_icmp .ne 8, 3) := by decide +kernel
theorem dX12_read_93 : decode cX12_read 93 = .ok (.bipush (-5), 2) := by decide +kernel
theorem dX12_read_95 : decode cX12_read 95 = .ok (.goto 5, 3) := by decide +kernel
theorem dX12_read_98 : decode cX12_read 98 = .ok (.iload 4, 2) := by decide +kernel
theorem dX12_read_100 : decode cX12_read 100 = .ok (.ireturn, 1) := by decide +kernel
theorem hd_Mo_read_94 : y_Mo_read_94.cls ≠ "java/lang/invoke/MethodHandle" ∧ y_Mo_read_94.cls ≠ "java/lang/invoke/VarHandle" ∧ (parseMethodDescriptor y_Mo_read_94.desc).map (fun d => d.parameters.length) = some 3 := by decide +kernel
def f_Mo_read_94 (a1 : Int32) (a2 : Int32) (a3 : Int32) (M0 : Mem) : Option (Int32 × Mem) :=
  (f_Mo_isFarm_94 a1 M0).bind fun q1 => if q1 then ((f_Mo_isGone_94 a2 M0).bind fun q3 => if q3 then ((f_Mo_in a3 0 9999).bind fun q5 => if q5 then ((f_Mo_isServed_94 a1 a2 M0).bind fun q7 => if q7 then (if inb ((2280 + (121 * a1)) + a2) 4700 then if inb ((2280 + (121 * a1)) + a2) 4700 then jv_ (wI M0 95 ((2280 + (121 * a1)) + a2).toNatClampNeg a3) fun M11 => jv_ (wI M11 94 21 ((M11.1 94 21) + 1)) fun M12 => if decide ((M0.1 95 ((2280 + (121 * a1)) + a2).toNatClampNeg) = (-1)) then (some ((-5), M12)) else (some (M0.1 95 ((2280 + (121 * a1)) + a2).toNatClampNeg, M12)) else none else none) else (some ((-3), M0))) else (some ((-2), M0))) else (some ((-1), M0))) else (some ((-1), M0))
set_option maxHeartbeats 4000000 in
set_option maxRecDepth 20000 in
theorem C_Mo_read_94 {D : va_G} {ad adK adV : Nat → Nat} {cI cJ : ClassId} {l : Launch} (a1 : Int32) (a2 : Int32) (a3 : Int32) (M0 : Mem) (o : Int32 × Mem) (h : f_Mo_read_94 a1 a2 a3 M0 = some o) : Ct D ad adK adV cI cJ l y_Mo_read_94 cX12_read 5 (some .int) 2 50 [.ref (ad 94), .int a1, .int a2, .int a3] M0 (some (.int o.1)) o.2 := by
  refine x_start (lv := [(0, .ref (ad 94)), (1, .int a1), (2, .int a2), (3, .int a3)]) (own := "CurrentFarmsModel") rfl (by decide) (Nat.le_of_ble_eq_true rfl) rfl ?_
  intro p e s m args below meth c Q hQ B
  unfold f_Mo_read_94 at h
  refine x_aload_n (pc := 0) B 0 dX12_read_0 rfl rfl ?_
  refine x_iload_n (pc := 1) B 1 dX12_read_1 rfl rfl ?_
  obtain ⟨q1, hq1, h⟩ := bnd h
  refine x_callV (rest := []) (st' := [.int (bI q1)]) (pc := 2) B oi_94 rfl (C_Mo_isFarm_94 a1 M0 _ hq1) tw_1448 tw_1445 tw_1447 tw_46 tw_111 hd_Mo_isFarm_94 ⟨Nat.le_of_ble_eq_true rfl, Nat.le_of_ble_eq_true rfl⟩ rfl rfl (Nat.le_of_ble_eq_true rfl) rfl dX12_read_2 ?_
  refine x_if_eq_b (tgt := 16) (pc := 5) B dX12_read_5 rfl (fun hc2 => ?_) (fun hc2 => ?_)
  · have h := iff_ hc2 h
    refine x_iconst (v := (-1)) (pc := 16) B dX12_read_16 rfl ?_
    obtain rfl := Option.some.inj h
    exact x_iret (pc := 17) B hQ dX12_read_17
  · have h := ift hc2 h
    refine x_aload_n (pc := 8) B 0 dX12_read_8 rfl rfl ?_
    refine x_iload_n (pc := 9) B 2 dX12_read_9 rfl rfl ?_
    obtain ⟨q3, hq3, h⟩ := bnd h
    refine x_callV (rest := []) (st' := [.int (bI q3)]) (pc := 10) B oi_94 rfl (C_Mo_isGone_94 a2 M0 _ hq3) tw_1732 tw_1729 tw_1731 tw_89 tw_111 hd_Mo_isGone_94 ⟨Nat.le_of_ble_eq_true rfl, Nat.le_of_ble_eq_true rfl⟩ rfl rfl (Nat.le_of_ble_eq_true rfl) rfl dX12_read_10 ?_
    refine x_if_ne_b (tgt := 18) (pc := 13) B dX12_read_13 rfl (fun hc4 => ?_) (fun hc4 => ?_)
    · have h := ift hc4 h
      refine x_iload_n (pc := 18) B 3 dX12_read_18 rfl rfl ?_
      refine x_iconst (v := 0) (pc := 19) B dX12_read_19 rfl ?_
      refine x_sipush (v := 9999) (pc := 20) B dX12_read_20 rfl ?_
      obtain ⟨q5, hq5, h⟩ := bnd h
      refine x_callS (rest := []) (st' := [.int (bI q5)]) (pc := 23) B (C_Mo_in a3 0 9999 M0 _ hq5) tw_1406 tw_1404 tw_1405 tw_111 hd_Mo_in ⟨Nat.le_of_ble_eq_true rfl, Nat.le_of_ble_eq_true rfl⟩ rfl rfl (Nat.le_of_ble_eq_true rfl) rfl dX12_read_23 ?_
      refine x_if_ne_b (tgt := 32) (pc := 26) B dX12_read_26 rfl (fun hc6 => ?_) (fun hc6 => ?_)
      · have h := ift hc6 h
        refine x_aload_n (pc := 32) B 0 dX12_read_32 rfl rfl ?_
        refine x_iload_n (pc := 33) B 1 dX12_read_33 rfl rfl ?_
        refine x_iload_n (pc := 34) B 2 dX12_read_34 rfl rfl ?_
        obtain ⟨q7, hq7, h⟩ := bnd h
        refine x_callV (rest := []) (st' := [.int (bI q7)]) (pc := 35) B oi_94 rfl (C_Mo_isServed_94 a1 a2 M0 _ hq7) tw_1491 tw_1488 tw_1490 tw_54 tw_111 hd_Mo_isServed_94 ⟨Nat.le_of_ble_eq_true rfl, Nat.le_of_ble_eq_true rfl⟩ rfl rfl (Nat.le_of_ble_eq_true rfl) rfl dX12_read_35 ?_
        refine x_if_ne_b (tgt := 44) (pc := 38) B dX12_read_38 rfl (fun hc8 => ?_) (fun hc8 => ?_)
        · have h := ift hc8 h
          refine x_aload_n (pc := 44) B 0 dX12_read_44 rfl rfl ?_
          refine x_get (T := TX12) (pc := 45) B 1 oi_94 rfl uw_12 (by decide) rfl tw_1300 rfl dX12_read_45 ?_
          refine x_sipush (v := 2280) (pc := 48) B dX12_read_48 rfl ?_
          refine x_bipush (v := 121) (pc := 51) B dX12_read_51 rfl ?_
          refine x_iload_n (pc := 53) B 1 dX12_read_53 rfl rfl ?_
          refine x_imul (pc := 54) B dX12_read_54 ?_
          refine x_iadd (pc := 55) B dX12_read_55 ?_
          refine x_iload_n (pc := 56) B 2 dX12_read_56 rfl rfl ?_
          refine x_iadd (pc := 57) B dX12_read_57 ?_
          obtain ⟨hk9, h⟩ := ifn h
          refine x_iald (pc := 58) B ai_95 hk9 dX12_read_58 ?_
          refine x_istore (lv' := [(4, .int (M0.1 95 ((2280 + (121 * a1)) + a2).toNatClampNeg)), (0, .ref (ad 94)), (1, .int a1), (2, .int a2), (3, .int a3)]) (pc := 59) B dX12_read_59 (by decide) rfl ?_
          refine x_aload_n (pc := 61) B 1 dX12_read_61 rfl rfl ?_
          refine x_get (T := TX12) (pc := 62) B 1 oi_94 rfl uw_12 (by decide) rfl tw_1300 rfl dX12_read_62 ?_
          refine x_sipush (v := 2280) (pc := 65) B dX12_read_65 rfl ?_
          refine x_bipush (v := 121) (pc := 68) B dX12_read_68 rfl ?_
          refine x_iload_n (pc := 70) B 2 dX12_read_70 rfl rfl ?_
          refine x_imul (pc := 71) B dX12_read_71 ?_
          refine x_iadd (pc := 72) B dX12_read_72 ?_
          refine x_iload_n (pc := 73) B 3 dX12_read_73 rfl rfl ?_
          refine x_iadd (pc := 74) B dX12_read_74 ?_
          refine x_iload_n (pc := 75) B 4 dX12_read_75 rfl rfl ?_
          obtain ⟨hk10, h⟩ := ifn h
          refine x_iast (pc := 76) B ai_95 hk10 dX12_read_76 ?_
          refine jv_m (P := fun M11 => XX D ad cI cJ p l e (Rm 2 50) s m args below meth c Q 5 M11 77 [(4, .int (M0.1 95 ((2280 + (121 * a1)) + a2).toNatClampNeg)), (0, .ref (ad 94)), (1, .int a1), (2, .int a2), (3, .int a3)] []) h (fun M11 h => ?_)
          refine x_aload_n (pc := 77) B 1 dX12_read_77 rfl rfl ?_
          refine x_dup (pc := 78) B dX12_read_78 rfl ?_
          refine x_get (T := TX12) (pc := 79) B 21 oi_94 rfl uw_12 (by decide) rfl tw_1320 rfl dX12_read_79 ?_
          refine x_iconst (v := 1) (pc := 82) B dX12_read_82 rfl ?_
          refine x_iadd (pc := 83) B dX12_read_83 ?_
          refine x_put (T := TX12) (pc := 84) B 21 oi_94 of_94_21 rfl uw_12 tyX12_ok nmX12 (by decide) rfl tw_1320 rfl rfl rfl (Nat.le_of_ble_eq_true rfl) dX12_read_84 ?_
          refine jv_m (P := fun M12 => XX D ad cI cJ p l e (Rm 2 50) s m args below meth c Q 5 M12 87 [(4, .int (M0.1 95 ((2280 + (121 * a1)) + a2).toNatClampNeg)), (0, .ref (ad 94)), (1, .int a1), (2, .int a2), (3, .int a3)] []) h (fun M12 h => ?_)
          refine x_iload (pc := 87) B 0 dX12_read_87 rfl ?_
          refine x_iconst (v := (-1)) (pc := 89) B dX12_read_89 rfl ?_
          refine x_icmp_ne (tgt := 98) (pc := 90) B dX12_read_90 rfl (fun hc13 => ?_) (fun hc13 => ?_)
          · have h := iff_ hc13 h
            refine x_iload (pc := 98) B 0 dX12_read_98 rfl ?_
            obtain rfl := Option.some.inj h
            exact x_iret (pc := 100) B hQ dX12_read_100
          · have h := ift hc13 h
            refine x_bipush (v := (-5)) (pc := 93) B dX12_read_93 rfl ?_
            refine x_goto (tgt := 100) (pc := 95) B dX12_read_95 rfl ?_
            obtain rfl := Option.some.inj h
            exact x_iret (pc := 100) B hQ dX12_read_100
        · have h := iff_ hc8 h
          refine x_bipush (v := (-3)) (pc := 41) B dX12_read_41 rfl ?_
          obtain rfl := Option.some.inj h
          exact x_iret (pc := 43) B hQ dX12_read_43
      · have h := iff_ hc6 h
        refine x_bipush (v := (-2)) (pc := 29) B dX12_read_29 rfl ?_
        obtain rfl := Option.some.inj h
        exact x_iret (pc := 31) B hQ dX12_read_31
    · have h := iff_ hc4 h
      refine x_iconst (v := (-1)) (pc := 16) B dX12_read_16 rfl ?_
      obtain rfl := Option.some.inj h
      exact x_iret (pc := 17) B hQ dX12_read_17
-- CurrentFarmsModel.units(II)I [94]
abbrev y_Mo_units_94 : MethodName := ⟨"CurrentFarmsModel", "units", "(II)I"⟩
abbrev cX12_units : ByteArray := prog_14_method_81_code
theorem dX12_units_0 : decode cX12_units 0 = .ok (.aload_n 0, 1) := by decide +kernel
theorem dX12_units_1 : decode cX12_units 1 = .ok (.iload_n 1, 1) := by decide +kernel
theorem dX12_units_2 : decode cX12_units 2 = .ok (.invokevirtual 110, 3) := by decide +kernel
theorem dX12_units_5 : decode cX12_units 5 = .ok (.ifCond .eq 20, 3) := by decide +kernel
theorem dX12_units_8 : decode cX12_units 8 = .ok (.aload_n 0, 1) := by decide +kernel
theorem dX12_units_9 : decode cX12_units 9 = .ok (.iload_n 2, 1) := by decide +kernel
theorem dX12_units_10 : decode cX12_units 10 = .ok (.invokevirtual 310, 3) := by decide +kernel
theorem dX12_units_13 : decode cX12_units 13 = .ok (.ifCond .eq 12, 3) := by decide +kernel
theorem dX12_units_16 : decode cX12_units 16 = .ok (.aload_n 0, 1) := by decide +kernel
theorem dX12_units_17 : decode cX12_units 17 = .ok (.iload_n 1, 1) := by decide +kernel
theorem dX12_units_18 : decode cX12_units 18 = .ok (.iload_n 2, 1) := by decide +kernel
theorem dX12_units_19 : decode cX12_units 19 = .ok (.invokevirtual 316, 3) := by decide +kernel
theorem dX12_units_22 : decode cX12_units 22 = .ok (.goto 4, 3) := by decide +kernel
theorem dX12_units_25 : decode cX12_units 25 = .ok (.iconst (-1), 1) := by decide +kernel
theorem dX12_units_26 : decode cX12_units 26 = .ok (.ireturn, 1) := by decide +kernel
theorem hd_Mo_units_94 : y_Mo_units_94.cls ≠ "java/lang/invoke/MethodHandle" ∧ y_Mo_units_94.cls ≠ "java/lang/invoke/VarHandle" ∧ (parseMethodDescriptor y_Mo_units_94.desc).map (fun d => d.parameters.length) = some 2 := by decide +kernel
def f_Mo_units_94 (a1 : Int32) (a2 : Int32) (M0 : Mem) : Option (Int32 × Mem) :=
  (f_Mo_isFarm_94 a1 M0).bind fun q1 => if q1 then ((f_Mo_isGone_94 a2 M0).bind fun q3 => if q3 then ((f_Mo_unitsIn_94 a1 a2 M0).bind fun q5 => some (q5.1, q5.2)) else (some ((-1), M0))) else (some ((-1), M0))
set_option maxHeartbeats 4000000 in
set_option maxRecDepth 20000 in
theorem C_Mo_units_94 {D : va_G} {ad adK adV : Nat → Nat} {cI cJ : ClassId} {l : Launch} (a1 : Int32) (a2 : Int32) (M0 : Mem) (o : Int32 × Mem) (h : f_Mo_units_94 a1 a2 M0 = some o) : Ct D ad adK adV cI cJ l y_Mo_units_94 cX12_units 3 (some .int) 4 102 [.ref (ad 94), .int a1, .int a2] M0 (some (.int o.1)) o.2 := by
  refine x_start (lv := [(0, .ref (ad 94)), (1, .int a1), (2, .int a2)]) (own := "CurrentFarmsModel") rfl (by decide) (Nat.le_of_ble_eq_true rfl) rfl ?_
  intro p e s m args below meth c Q hQ B
  unfold f_Mo_units_94 at h
  refine x_aload_n (pc := 0) B 0 dX12_units_0 rfl rfl ?_
  refine x_iload_n (pc := 1) B 1 dX12_units_1 rfl rfl ?_
  obtain ⟨q1, hq1, h⟩ := bnd h
  refine x_callV (rest := []) (st' := [.int (bI q1)]) (pc := 2) B oi_94 rfl (C_Mo_isFarm_94 a1 M0 _ hq1) tw_1448 tw_1445 tw_1447 tw_46 tw_111 hd_Mo_isFarm_94 ⟨Nat.le_of_ble_eq_true rfl, Nat.le_of_ble_eq_true rfl⟩ rfl rfl (Nat.le_of_ble_eq_true rfl) rfl dX12_units_2 ?_
  refine x_if_eq_b (tgt := 25) (pc := 5) B dX12_units_5 rfl (fun hc2 => ?_) (fun hc2 => ?_)
  · have h := iff_ hc2 h
    refine x_iconst (v := (-1)) (pc := 25) B dX12_units_25 rfl ?_
    obtain rfl := Option.some.inj h
    exact x_iret (pc := 26) B hQ dX12_units_26
  · have h := ift hc2 h
    refine x_aload_n (pc := 8) B 0 dX12_units_8 rfl rfl ?_
    refine x_iload_n (pc := 9) B 2 dX12_units_9 rfl rfl ?_
    obtain ⟨q3, hq3, h⟩ := bnd h
    refine x_callV (rest := []) (st' := [.int (bI q3)]) (pc := 10) B oi_94 rfl (C_Mo_isGone_94 a2 M0 _ hq3) tw_1732 tw_1729 tw_1731 tw_89 tw_111 hd_Mo_isGone_94 ⟨Nat.le_of_ble_eq_true rfl, Nat.le_of_ble_eq_true rfl⟩ rfl rfl (Nat.le_of_ble_eq_true rfl) rfl dX12_units_10 ?_
    refine x_if_eq_b (tgt := 25) (pc := 13) B dX12_units_13 rfl (fun hc4 => ?_) (fun hc4 => ?_)
    · have h := iff_ hc4 h
      refine x_iconst (v := (-1)) (pc := 25) B dX12_units_25 rfl ?_
      obtain rfl := Option.some.inj h
      exact x_iret (pc := 26) B hQ dX12_units_26
    · have h := ift hc4 h
      refine x_aload_n (pc := 16) B 0 dX12_units_16 rfl rfl ?_
      refine x_iload_n (pc := 17) B 1 dX12_units_17 rfl rfl ?_
      refine x_iload_n (pc := 18) B 2 dX12_units_18 rfl rfl ?_
      obtain ⟨q5, hq5, h⟩ := bnd h
      refine x_callV (rest := []) (st' := [.int q5.1]) (pc := 19) B oi_94 rfl (C_Mo_unitsIn_94 a1 a2 M0 _ hq5) tw_1495 tw_1492 tw_1494 tw_55 tw_111 hd_Mo_unitsIn_94 ⟨Nat.le_of_ble_eq_true rfl, Nat.le_of_ble_eq_true rfl⟩ rfl rfl (Nat.le_of_ble_eq_true rfl) rfl dX12_units_19 ?_
      refine x_goto (tgt := 26) (pc := 22) B dX12_units_22 rfl ?_
      obtain rfl := Option.some.inj h
      exact x_iret (pc := 26) B hQ dX12_units_26
-- CurrentFarmsModel.billIn(II)I [94]
abbrev y_Mo_billIn_94 : MethodName := ⟨"CurrentFarmsModel", "billIn", "(II)I"⟩
abbrev cX12_billIn : ByteArray := prog_14_method_84_code
theorem dX12_billIn_0 : decode cX12_billIn 0 = .ok (.aload_n 0, 1) := by decide +kernel
theorem dX12_billIn_1 : decode cX12_billIn 1 = .ok (.iload_n 1, 1) := by decide +kernel
theorem dX12_billIn_2 : decode cX12_billIn 2 = .ok (.iload_n 2, 1) := by decide +kernel
theorem dX12_billIn_3 : decode cX12_billIn 3 = .ok (.iload_n 2, 1) := by decide +kernel
theorem dX12_billIn_4 : decode cX12_billIn 4 = .ok (.ifCond .ne 7, 3) := by decide +kernel
theorem dX12_billIn_7 : decode cX12_billIn 7 = .ok (.iconst 0, 1) := by decide +kernel
theorem dX12_billIn_8 : decode cX12_billIn 8 = .ok (.goto 11, 3) := by decide +kernel
theorem dX12_billIn_11 : decode cX12_billIn 11 = .ok (.aload_n 0, 1) := by decide +kernel
theorem dX12_billIn_12 : decode cX12_billIn 12 = .ok (.iload_n 1, 1) := by decide +kernel
theorem dX12_billIn_13 : decode cX12_billIn 13 = .ok (.iload_n 2, 1) := by decide +kernel
theorem dX12_billIn_14 : decode cX12_billIn 14 = .ok (.iconst 1, 1) := by decide +kernel
theorem dX12_billIn_15 : decode cX12_billIn 15 = .ok (.isub, 1) := by decide +kernel
theorem dX12_billIn_16 : decode cX12_billIn 16 = .ok (.invokevirtual 134, 3) := by decide +kernel
theorem dX12_billIn_19 : decode cX12_billIn 19 = .ok (.invokevirtual 319, 3) := by decide +kernel
theorem dX12_billIn_22 : decode cX12_billIn 22 = .ok (.ireturn, 1) := by decide +kernel
theorem hd_Mo_billIn_94 : y_Mo_billIn_94.cls ≠ "java/lang/invoke/MethodHandle" ∧ y_Mo_billIn_94.cls ≠ "java/lang/invoke/VarHandle" ∧ (parseMethodDescriptor y_Mo_billIn_94.desc).map (fun d => d.parameters.length) = some 2 := by decide +kernel
def f_Mo_billIn_94 (a1 : Int32) (a2 : Int32) (M0 : Mem) : Option (Int32 × Mem) :=
  jn_ (fun (u4 : Int32 × Mem) => (f_Mo_billOf_94 a1 a2 u4.1 u4.2).bind fun q5 => some (q5.1, q5.2)) fun k6 => if decide (a2 = 0) then (k6 (0, M0)) else ((f_Mo_arrears_94 a1 (a2 - 1) M0).bind fun q7 => k6 (q7.1, q7.2))
set_option maxHeartbeats 4000000 in
set_option maxRecDepth 20000 in
theorem C_Mo_billIn_94 {D : va_G} {ad adK adV : Nat → Nat} {cI cJ : ClassId} {l : Launch} (a1 : Int32) (a2 : Int32) (M0 : Mem) (o : Int32 × Mem) (h : f_Mo_billIn_94 a1 a2 M0 = some o) : Ct D ad adK adV cI cJ l y_Mo_billIn_94 cX12_billIn 3 (some .int) 513 14294 [.ref (ad 94), .int a1, .int a2] M0 (some (.int o.1)) o.2 := by
  refine x_start (lv := [(0, .ref (ad 94)), (1, .int a1), (2, .int a2)]) (own := "CurrentFarmsModel") rfl (by decide) (Nat.le_of_ble_eq_true rfl) rfl ?_
  intro p e s m args below meth c Q hQ B
  unfold f_Mo_billIn_94 at h
  refine x_aload_n (pc := 0) B 0 dX12_billIn_0 rfl rfl ?_
  refine x_iload_n (pc := 1) B 1 dX12_billIn_1 rfl rfl ?_
  refine x_iload_n (pc := 2) B 2 dX12_billIn_2 rfl rfl ?_
  refine x_iload_n (pc := 3) B 2 dX12_billIn_3 rfl rfl ?_
  refine jn_k h (fun (u4 : Int32 × Mem) => XX D ad cI cJ p l e (Rm 513 14294) s m args below meth c Q 3 u4.2 19 [] [.int u4.1, .int a2, .int a1, .ref (ad 94)]) (fun u4 h => ?_) (fun k6 h JJ => ?_)
  · obtain ⟨q5, hq5, h⟩ := bnd h
    refine x_callV (rest := []) (st' := [.int q5.1]) (pc := 19) B oi_94 rfl (C_Mo_billOf_94 a1 a2 u4.1 u4.2 _ hq5) tw_1487 tw_1484 tw_1486 tw_53 tw_111 hd_Mo_billOf_94 ⟨Nat.le_of_ble_eq_true rfl, Nat.le_of_ble_eq_true rfl⟩ rfl rfl (Nat.le_of_ble_eq_true rfl) rfl dX12_billIn_19 ?_
    obtain rfl := Option.some.inj h
    exact x_iret (pc := 22) B hQ dX12_billIn_22
  · refine x_if_ne (tgt := 11) (pc := 4) B dX12_billIn_4 rfl (fun hc1 => ?_) (fun hc1 => ?_)
    · have h := iff_ hc1 h
      refine x_aload_n (pc := 11) B 0 dX12_billIn_11 rfl rfl ?_
      refine x_iload_n (pc := 12) B 1 dX12_billIn_12 rfl rfl ?_
      refine x_iload_n (pc := 13) B 2 dX12_billIn_13 rfl rfl ?_
      refine x_iconst (v := 1) (pc := 14) B dX12_billIn_14 rfl ?_
      refine x_isub (pc := 15) B dX12_billIn_15 ?_
      obtain ⟨q7, hq7, h⟩ := bnd h
      refine x_callV (rest := [.int a2, .int a1, .ref (ad 94)]) (st' := [.int q7.1, .int a2, .int a1, .ref (ad 94)]) (pc := 16) B oi_94 rfl (C_Mo_arrears_94 a1 (a2 - 1) M0 _ hq7) tw_1483 tw_1480 tw_1482 tw_52 tw_111 hd_Mo_arrears_94 ⟨Nat.le_of_ble_eq_true rfl, Nat.le_of_ble_eq_true rfl⟩ rfl rfl (Nat.le_of_ble_eq_true rfl) rfl dX12_billIn_16 ?_
      refine x_pick (lv' := []) [] rfl ?_
      have z := JJ (q7.1, q7.2) h
      exact z
    · have h := ift hc1 h
      refine x_iconst (v := 0) (pc := 7) B dX12_billIn_7 rfl ?_
      refine x_goto (tgt := 19) (pc := 8) B dX12_billIn_8 rfl ?_
      refine x_pick (lv' := []) [] rfl ?_
      have z := JJ (0, M0) h
      exact z
-- CurrentFarmsModel.bill(II)I [94]
abbrev y_Mo_bill_94 : MethodName := ⟨"CurrentFarmsModel", "bill", "(II)I"⟩
abbrev cX12_bill : ByteArray := prog_14_method_85_code
theorem dX12_bill_0 : decode cX12_bill 0 = .ok (.aload_n 0, 1) := by decide +kernel
theorem dX12_bill_1 : decode cX12_bill 1 = .ok (.iload_n 1, 1) := by decide +kernel
theorem dX12_bill_2 : decode cX12_bill 2 = .ok (.invokevirtual 110, 3) := by decide +kernel
theorem dX12_bill_5 : decode cX12_bill 5 = .ok (.ifCond .eq 20, 3) := by decide +kernel
theorem dX12_bill_8 : decode cX12_bill 8 = .ok (.aload_n 0, 1) := by decide +kernel
theorem dX12_bill_9 : decode cX12_bill 9 = .ok (.iload_n 2, 1) := by decide +kernel
theorem dX12_bill_10 : decode cX12_bill 10 = .ok (.invokevirtual 310, 3) := by decide +kernel
theorem dX12_bill_13 : decode cX12_bill 13 = .ok (.ifCond .eq 12, 3) := by decide +kernel
theorem dX12_bill_16 : decode cX12_bill 16 = .ok (.aload_n 0, 1) := by decide +kernel
theorem dX12_bill_17 : decode cX12_bill 17 = .ok (.iload_n 1, 1) := by decide +kernel
theorem dX12_bill_18 : decode cX12_bill 18 = .ok (.iload_n 2, 1) := by decide +kernel
theorem dX12_bill_19 : decode cX12_bill 19 = .ok (.invokevirtual 326, 3) := by decide +kernel
theorem dX12_bill_22 : decode cX12_bill 22 = .ok (.goto 4, 3) := by decide +kernel
theorem dX12_bill_25 : decode cX12_bill 25 = .ok (.iconst (-1), 1) := by decide +kernel
theorem dX12_bill_26 : decode cX12_bill 26 = .ok (.ireturn, 1) := by decide +kernel
theorem hd_Mo_bill_94 : y_Mo_bill_94.cls ≠ "java/lang/invoke/MethodHandle" ∧ y_Mo_bill_94.cls ≠ "java/lang/invoke/VarHandle" ∧ (parseMethodDescriptor y_Mo_bill_94.desc).map (fun d => d.parameters.length) = some 2 := by decide +kernel
def f_Mo_bill_94 (a1 : Int32) (a2 : Int32) (M0 : Mem) : Option (Int32 × Mem) :=
  (f_Mo_isFarm_94 a1 M0).bind fun q1 => if q1 then ((f_Mo_isGone_94 a2 M0).bind fun q3 => if q3 then ((f_Mo_billIn_94 a1 a2 M0).bind fun q5 => some (q5.1, q5.2)) else (some ((-1), M0))) else (some ((-1), M0))
set_option maxHeartbeats 4000000 in
set_option maxRecDepth 20000 in
theorem C_Mo_bill_94 {D : va_G} {ad adK adV : Nat → Nat} {cI cJ : ClassId} {l : Launch} (a1 : Int32) (a2 : Int32) (M0 : Mem) (o : Int32 × Mem) (h : f_Mo_bill_94 a1 a2 M0 = some o) : Ct D ad adK adV cI cJ l y_Mo_bill_94 cX12_bill 3 (some .int) 514 14316 [.ref (ad 94), .int a1, .int a2] M0 (some (.int o.1)) o.2 := by
  refine x_start (lv := [(0, .ref (ad 94)), (1, .int a1), (2, .int a2)]) (own := "CurrentFarmsModel") rfl (by decide) (Nat.le_of_ble_eq_true rfl) rfl ?_
  intro p e s m args below meth c Q hQ B
  unfold f_Mo_bill_94 at h
  refine x_aload_n (pc := 0) B 0 dX12_bill_0 rfl rfl ?_
  refine x_iload_n (pc := 1) B 1 dX12_bill_1 rfl rfl ?_
  obtain ⟨q1, hq1, h⟩ := bnd h
  refine x_callV (rest := []) (st' := [.int (bI q1)]) (pc := 2) B oi_94 rfl (C_Mo_isFarm_94 a1 M0 _ hq1) tw_1448 tw_1445 tw_1447 tw_46 tw_111 hd_Mo_isFarm_94 ⟨Nat.le_of_ble_eq_true rfl, Nat.le_of_ble_eq_true rfl⟩ rfl rfl (Nat.le_of_ble_eq_true rfl) rfl dX12_bill_2 ?_
  refine x_if_eq_b (tgt := 25) (pc := 5) B dX12_bill_5 rfl (fun hc2 => ?_) (fun hc2 => ?_)
  · have h := iff_ hc2 h
    refine x_iconst (v := (-1)) (pc := 25) B dX12_bill_25 rfl ?_
    obtain rfl := Option.some.inj h
    exact x_iret (pc := 26) B hQ dX12_bill_26
  · have h := ift hc2 h
    refine x_aload_n (pc := 8) B 0 dX12_bill_8 rfl rfl ?_
    refine x_iload_n (pc := 9) B 2 dX12_bill_9 rfl rfl ?_
    obtain ⟨q3, hq3, h⟩ := bnd h
    refine x_callV (rest := []) (st' := [.int (bI q3)]) (pc := 10) B oi_94 rfl (C_Mo_isGone_94 a2 M0 _ hq3) tw_1732 tw_1729 tw_1731 tw_89 tw_111 hd_Mo_isGone_94 ⟨Nat.le_of_ble_eq_true rfl, Nat.le_of_ble_eq_true rfl⟩ rfl rfl (Nat.le_of_ble_eq_true rfl) rfl dX12_bill_10 ?_
    refine x_if_eq_b (tgt := 25) (pc := 13) B dX12_bill_13 rfl (fun hc4 => ?_) (fun hc4 => ?_)
    · have h := iff_ hc4 h
      refine x_iconst (v := (-1)) (pc := 25) B dX12_bill_25 rfl ?_
      obtain rfl := Option.some.inj h
      exact x_iret (pc := 26) B hQ dX12_bill_26
    · have h := ift hc4 h
      refine x_aload_n (pc := 16) B 0 dX12_bill_16 rfl rfl ?_
      refine x_iload_n (pc := 17) B 1 dX12_bill_17 rfl rfl ?_
      refine x_iload_n (pc := 18) B 2 dX12_bill_18 rfl rfl ?_
      obtain ⟨q5, hq5, h⟩ := bnd h
      refine x_callV (rest := []) (st' := [.int q5.1]) (pc := 19) B oi_94 rfl (C_Mo_billIn_94 a1 a2 M0 _ hq5) tw_1744 tw_1741 tw_1743 tw_90 tw_111 hd_Mo_billIn_94 ⟨Nat.le_of_ble_eq_true rfl, Nat.le_of_ble_eq_true rfl⟩ rfl rfl (Nat.le_of_ble_eq_true rfl) rfl dX12_bill_19 ?_
      refine x_goto (tgt := 26) (pc := 22) B dX12_bill_22 rfl ?_
      obtain rfl := Option.some.inj h
      exact x_iret (pc := 26) B hQ dX12_bill_26
-- CurrentFarmsModel.pay(III)I [94]
abbrev y_Mo_pay_94 : MethodName := ⟨"CurrentFarmsModel", "pay", "(III)I"⟩
abbrev cX12_pay : ByteArray := prog_14_method_86_code
theorem dX12_pay_0 : decode cX12_pay 0 = .ok (.aload_n 0, 1) := by decide +kernel
theorem dX12_pay_1 : decode cX12_pay 1 = .ok (.iload_n 1, 1) := by decide +kernel
theorem dX12_pay_2 : decode cX12_pay 2 = .ok (.invokevirtual 110, 3) := by decide +kernel
theorem dX12_pay_5 : decode cX12_pay 5 = .ok (.ifCond .eq 11, 3) := by decide +kernel
theorem dX12_pay_8 : decode cX12_pay 8 = .ok (.aload_n 0, 1) := by decide +kernel
theorem dX12_pay_9 : decode cX12_pay 9 = .ok (.iload_n 2, 1) := by decide +kernel
theorem dX12_pay_10 : decode cX12_pay 10 = .ok (.invokevirtual 310, 3) := by decide +kernel
theorem dX12_pay_13 : decode cX12_pay 13 = .ok (.ifCond .ne 5, 3) := by decide +kernel
theorem dX12_pay_16 : decode cX12_pay 16 = .ok (.iconst (-1), 1) := by decide +kernel
theorem dX12_pay_17 : decode cX12_pay 17 = .ok (.ireturn, 1) := by decide +kernel
theorem dX12_pay_18 : decode cX12_pay 18 = .ok (.iload_n 3, 1) := by decide +kernel
theorem dX12_pay_19 : decode cX12_pay 19 = .ok (.iconst 1, 1) := by decide +kernel
theorem dX12_pay_20 : decode cX12_pay 20 = .ok (.sipush 9999, 3) := by decide +kernel
theorem dX12_pay_23 : decode cX12_pay 23 = .ok (.invokestatic 84, 3) := by decide +kernel
theorem dX12_pay_26 : decode cX12_pay 26 = .ok (.ifCond .ne 6, 3) := by decide +kernel
theorem dX12_pay_29 : decode cX12_pay 29 = .ok (.bipush (-2), 2) := by decide +kernel
theorem dX12_pay_31 : decode cX12_pay 31 = .ok (.ireturn, 1) := by decide +kernel
theorem dX12_pay_32 : decode cX12_pay 32 = .ok (.aload_n 0, 1) := by decide +kernel
theorem dX12_pay_33 : decode cX12_pay 33 = .ok (.getfield 7, 3) := by decide +kernel
theorem dX12_pay_36 : decode cX12_pay 36 = .ok (.sipush 3490, 3) := by decide +kernel
theorem dX12_pay_39 : decode cX12_pay 39 = .ok (.bipush 121, 2) := by decide +kernel
theorem dX12_pay_41 : decode cX12_pay 41 = .ok (.iload_n 1, 1) := by decide +kernel
theorem dX12_pay_42 : decode cX12_pay 42 = .ok (.imul, 1) := by decide +kernel
theorem dX12_pay_43 : decode cX12_pay 43 = .ok (.iadd, 1) := by decide +kernel
theorem dX12_pay_44 : decode cX12_pay 44 = .ok (.iload_n 2, 1) := by decide +kernel
theorem dX12_pay_45 : decode cX12_pay 45 = .ok (.iadd, 1) := by decide +kernel
theorem dX12_pay_46 : decode cX12_pay 46 = .ok (.dup2, 1) := by decide +kernel
theorem dX12_pay_47 : decode cX12_pay 47 = .ok (.iaload, 1) := by decide +kernel
theorem dX12_pay_48 : decode cX12_pay 48 = .ok (.iload_n 3, 1) := by decide +kernel
theorem dX12_pay_49 : decode cX12_pay 49 = .ok (.iadd, 1) := by decide +kernel
theorem dX12_pay_50 : decode cX12_pay 50 = .ok (.iastore, 1) := by decide +kernel
theorem dX12_pay_51 : decode cX12_pay 51 = .ok (.aload_n 0, 1) := by decide +kernel
theorem dX12_pay_52 : decode cX12_pay 52 = .ok (.dup, 1) := by decide +kernel
theorem dX12_pay_53 : decode cX12_pay 53 = .ok (.getfield 50, 3) := by decide +kernel
theorem dX12_pay_56 : decode cX12_pay 56 = .ok (.iconst 1, 1) := by decide +kernel
theorem dX12_pay_57 : decode cX12_pay 57 = .ok (.iadd, 1) := by decide +kernel
theorem dX12_pay_58 : decode cX12_pay 58 = .ok (.putfield 50, 3) := by decide +kernel
theorem dX12_pay_61 : decode cX12_pay 61 = .ok (.aload_n 0, 1) := by decide +kernel
theorem dX12_pay_62 : decode cX12_pay 62 = .ok (.getfield 7, 3) := by decide +kernel
theorem dX12_pay_65 : decode cX12_pay 65 = .ok (.sipush 3490, 3) := by decide +kernel
theorem dX12_pay_68 : decode cX12_pay 68 = .ok (.bipush 121, 2) := by decide +kernel
theorem dX12_pay_70 : decode cX12_pay 70 = .ok (.iload_n 1, 1) := by decide +kernel
theorem dX12_pay_71 : decode cX12_pay 71 = .ok (.imul, 1) := by decide +kernel
theorem dX12_pay_72 : decode cX12_pay 72 = .ok (.iadd, 1) := by decide +kernel
theorem dX12_pay_73 : decode cX12_pay 73 = .ok (.iload_n 2, 1) := by decide +kernel
theorem dX12_pay_74 : decode cX12_pay 74 = .ok (.iadd, 1) := by decide +kernel
theorem dX12_pay_75 : decode cX12_pay 75 = .ok (.iaload, 1) := by decide +kernel
theorem dX12_pay_76 : decode cX12_pay 76 = .ok (.ireturn, 1) := by decide +kernel
theorem hd_Mo_pay_94 : y_Mo_pay_94.cls ≠ "java/lang/invoke/MethodHandle" ∧ y_Mo_pay_94.cls ≠ "java/lang/invoke/VarHandle" ∧ (parseMethodDescriptor y_Mo_pay_94.desc).map (fun d => d.parameters.length) = some 3 := by decide +kernel
def f_Mo_pay_94 (a1 : Int32) (a2 : Int32) (a3 : Int32) (M0 : Mem) : Option (Int32 × Mem) :=
  (f_Mo_isFarm_94 a1 M0).bind fun q1 => if q1 then ((f_Mo_isGone_94 a2 M0).bind fun q3 => if q3 then ((f_Mo_in a3 1 9999).bind fun q5 => if q5 then (if inb ((3490 + (121 * a1)) + a2) 4700 then if inb ((3490 + (121 * a1)) + a2) 4700 then jv_ (wI M0 95 ((3490 + (121 * a1)) + a2).toNatClampNeg ((M0.1 95 ((3490 + (121 * a1)) + a2).toNatClampNeg) + a3)) fun M9 => jv_ (wI M9 94 21 ((M9.1 94 21) + 1)) fun M10 => if inb ((3490 + (121 * a1)) + a2) 4700 then some (M10.1 95 ((3490 + (121 * a1)) + a2).toNatClampNeg, M10) else none else none else none) else (some ((-2), M0))) else (some ((-1), M0))) else (some ((-1), M0))
set_option maxHeartbeats 4000000 in
set_option maxRecDepth 20000 in
theorem C_Mo_pay_94 {D : va_G} {ad adK adV : Nat → Nat} {cI cJ : ClassId} {l : Launch} (a1 : Int32) (a2 : Int32) (a3 : Int32) (M0 : Mem) (o : Int32 × Mem) (h : f_Mo_pay_94 a1 a2 a3 M0 = some o) : Ct D ad adK adV cI cJ l y_Mo_pay_94 cX12_pay 4 (some .int) 2 43 [.ref (ad 94), .int a1, .int a2, .int a3] M0 (some (.int o.1)) o.2 := by
  refine x_start (lv := [(0, .ref (ad 94)), (1, .int a1), (2, .int a2), (3, .int a3)]) (own := "CurrentFarmsModel") rfl (by decide) (Nat.le_of_ble_eq_true rfl) rfl ?_
  intro p e s m args below meth c Q hQ B
  unfold f_Mo_pay_94 at h
  refine x_aload_n (pc := 0) B 0 dX12_pay_0 rfl rfl ?_
  refine x_iload_n (pc := 1) B 1 dX12_pay_1 rfl rfl ?_
  obtain ⟨q1, hq1, h⟩ := bnd h
  refine x_callV (rest := []) (st' := [.int (bI q1)]) (pc := 2) B oi_94 rfl (C_Mo_isFarm_94 a1 M0 _ hq1) tw_1448 tw_1445 tw_1447 tw_46 tw_111 hd_Mo_isFarm_94 ⟨Nat.le_of_ble_eq_true rfl, Nat.le_of_ble_eq_true rfl⟩ rfl rfl (Nat.le_of_ble_eq_true rfl) rfl dX12_pay_2 ?_
  refine x_if_eq_b (tgt := 16) (pc := 5) B dX12_pay_5 rfl (fun hc2 => ?_) (fun hc2 => ?_)
  · have h := iff_ hc2 h
    refine x_iconst (v := (-1)) (pc := 16) B dX12_pay_16 rfl ?_
    obtain rfl := Option.some.inj h
    exact x_iret (pc := 17) B hQ dX12_pay_17
  · have h := ift hc2 h
    refine x_aload_n (pc := 8) B 0 dX12_pay_8 rfl rfl ?_
    refine x_iload_n (pc := 9) B 2 dX12_pay_9 rfl rfl ?_
    obtain ⟨q3, hq3, h⟩ := bnd h
    refine x_callV (rest := []) (st' := [.int (bI q3)]) (pc := 10) B oi_94 rfl (C_Mo_isGone_94 a2 M0 _ hq3) tw_1732 tw_1729 tw_1731 tw_89 tw_111 hd_Mo_isGone_94 ⟨Nat.le_of_ble_eq_true rfl, Nat.le_of_ble_eq_true rfl⟩ rfl rfl (Nat.le_of_ble_eq_true rfl) rfl dX12_pay_10 ?_
    refine x_if_ne_b (tgt := 18) (pc := 13) B dX12_pay_13 rfl (fun hc4 => ?_) (fun hc4 => ?_)
    · have h := ift hc4 h
      refine x_iload_n (pc := 18) B 3 dX12_pay_18 rfl rfl ?_
      refine x_iconst (v := 1) (pc := 19) B dX12_pay_19 rfl ?_
      refine x_sipush (v := 9999) (pc := 20) B dX12_pay_20 rfl ?_
      obtain ⟨q5, hq5, h⟩ := bnd h
      refine x_callS (rest := []) (st' := [.int (bI q5)]) (pc := 23) B (C_Mo_in a3 1 9999 M0 _ hq5) tw_1406 tw_1404 tw_1405 tw_111 hd_Mo_in ⟨Nat.le_of_ble_eq_true rfl, Nat.le_of_ble_eq_true rfl⟩ rfl rfl (Nat.le_of_ble_eq_true rfl) rfl dX12_pay_23 ?_
      refine x_if_ne_b (tgt := 32) (pc := 26) B dX12_pay_26 rfl (fun hc6 => ?_) (fun hc6 => ?_)
      · have h := ift hc6 h
        refine x_aload_n (pc := 32) B 0 dX12_pay_32 rfl rfl ?_
        refine x_get (T := TX12) (pc := 33) B 1 oi_94 rfl uw_12 (by decide) rfl tw_1300 rfl dX12_pay_33 ?_
        refine x_sipush (v := 3490) (pc := 36) B dX12_pay_36 rfl ?_
        refine x_bipush (v := 121) (pc := 39) B dX12_pay_39 rfl ?_
        refine x_iload_n (pc := 41) B 1 dX12_pay_41 rfl rfl ?_
        refine x_imul (pc := 42) B dX12_pay_42 ?_
        refine x_iadd (pc := 43) B dX12_pay_43 ?_
        refine x_iload_n (pc := 44) B 2 dX12_pay_44 rfl rfl ?_
        refine x_iadd (pc := 45) B dX12_pay_45 ?_
        refine x_dup2 (pc := 46) B dX12_pay_46 rfl rfl ?_
        obtain ⟨hk7, h⟩ := ifn h
        refine x_iald (pc := 47) B ai_95 hk7 dX12_pay_47 ?_
        refine x_iload_n (pc := 48) B 3 dX12_pay_48 rfl rfl ?_
        refine x_iadd (pc := 49) B dX12_pay_49 ?_
        obtain ⟨hk8, h⟩ := ifn h
        refine x_iast (pc := 50) B ai_95 hk8 dX12_pay_50 ?_
        refine jv_m (P := fun M9 => XX D ad cI cJ p l e (Rm 2 43) s m args below meth c Q 4 M9 51 [(0, .ref (ad 94)), (1, .int a1), (2, .int a2), (3, .int a3)] []) h (fun M9 h => ?_)
        refine x_aload_n (pc := 51) B 0 dX12_pay_51 rfl rfl ?_
        refine x_dup (pc := 52) B dX12_pay_52 rfl ?_
        refine x_get (T := TX12) (pc := 53) B 21 oi_94 rfl uw_12 (by decide) rfl tw_1320 rfl dX12_pay_53 ?_
        refine x_iconst (v := 1) (pc := 56) B dX12_pay_56 rfl ?_
        refine x_iadd (pc := 57) B dX12_pay_57 ?_
        refine x_put (T := TX12) (pc := 58) B 21 oi_94 of_94_21 rfl uw_12 tyX12_ok nmX12 (by decide) rfl tw_1320 rfl rfl rfl (Nat.le_of_ble_eq_true rfl) dX12_pay_58 ?_
        refine jv_m (P := fun M10 => XX D ad cI cJ p l e (Rm 2 43) s m args below meth c Q 4 M10 61 [(0, .ref (ad 94)), (1, .int a1), (2, .int a2), (3, .int a3)] []) h (fun M10 h => ?_)
        refine x_aload_n (pc := 61) B 0 dX12_pay_61 rfl rfl ?_
        refine x_get (T := TX12) (pc := 62) B 1 oi_94 rfl uw_12 (by decide) rfl tw_1300 rfl dX12_pay_62 ?_
        refine x_sipush (v := 3490) (pc := 65) B dX12_pay_65 rfl ?_
        refine x_bipush (v := 121) (pc := 68) B dX12_pay_68 rfl ?_
        refine x_iload_n (pc := 70) B 1 dX12_pay_70 rfl rfl ?_
        refine x_imul (pc := 71) B dX12_pay_71 ?_
        refine x_iadd (pc := 72) B dX12_pay_72 ?_
        refine x_iload_n (pc := 73) B 2 dX12_pay_73 rfl rfl ?_
        refine x_iadd (pc := 74) B dX12_pay_74 ?_
        obtain ⟨hk11, h⟩ := ifn h
        refine x_iald (pc := 75) B ai_95 hk11 dX12_pay_75 ?_
        obtain rfl := Option.some.inj h
        exact x_iret (pc := 76) B hQ dX12_pay_76
      · have h := iff_ hc6 h
        refine x_bipush (v := (-2)) (pc := 29) B dX12_pay_29 rfl ?_
        obtain rfl := Option.some.inj h
        exact x_iret (pc := 31) B hQ dX12_pay_31
    · have h := iff_ hc4 h
      refine x_iconst (v := (-1)) (pc := 16) B dX12_pay_16 rfl ?_
      obtain rfl := Option.some.inj h
      exact x_iret (pc := 17) B hQ dX12_pay_17
-- CurrentFarmsModel.owe(II)I [94]
abbrev y_Mo_owe_94 : MethodName := ⟨"CurrentFarmsModel", "owe", "(II)I"⟩
abbrev cX12_owe : ByteArray := prog_14_method_87_code
theorem dX12_owe_0 : decode cX12_owe 0 = .ok (.aload_n 0, 1) := by decide +kernel
theorem dX12_owe_1 : decode cX12_owe 1 = .ok (.iload_n 1, 1) := by decide +kernel
theorem dX12_owe_2 : decode cX12_owe 2 = .ok (.invokevirtual 110, 3) := by decide +kernel
theorem dX12_owe_5 : decode cX12_owe 5 = .ok (.ifCond .eq 20, 3) := by decide +kernel
theorem dX12_owe_8 : decode cX12_owe 8 = .ok (.aload_n 0, 1) := by decide +kernel
theorem dX12_owe_9 : decode cX12_owe 9 = .ok (.iload_n 2, 1) := by decide +kernel
theorem dX12_owe_10 : decode cX12_owe 10 = .ok (.invokevirtual 310, 3) := by decide +kernel
theorem dX12_owe_13 : decode cX12_owe 13 = .ok (.ifCond .eq 12, 3) := by decide +kernel
theorem dX12_owe_16 : decode cX12_owe 16 = .ok (.aload_n 0, 1) := by decide +kernel
theorem dX12_owe_17 : decode cX12_owe 17 = .ok (.iload_n 1, 1) := by decide +kernel
theorem dX12_owe_18 : decode cX12_owe 18 = .ok (.iload_n 2, 1) := by decide +kernel
theorem dX12_owe_19 : decode cX12_owe 19 = .ok (.invokevirtual 134, 3) := by decide +kernel
theorem dX12_owe_22 : decode cX12_owe 22 = .ok (.goto 4, 3) := by decide +kernel
theorem dX12_owe_25 : decode cX12_owe 25 = .ok (.iconst (-1), 1) := by decide +kernel
theorem dX12_owe_26 : decode cX12_owe 26 = .ok (.ireturn, 1) := by decide +kernel
theorem hd_Mo_owe_94 : y_Mo_owe_94.cls ≠ "java/lang/invoke/MethodHandle" ∧ y_Mo_owe_94.cls ≠ "java/lang/invoke/VarHandle" ∧ (parseMethodDescriptor y_Mo_owe_94.desc).map (fun d => d.parameters.length) = some 2 := by decide +kernel
def f_Mo_owe_94 (a1 : Int32) (a2 : Int32) (M0 : Mem) : Option (Int32 × Mem) :=
  (f_Mo_isFarm_94 a1 M0).bind fun q1 => if q1 then ((f_Mo_isGone_94 a2 M0).bind fun q3 => if q3 then ((f_Mo_arrears_94 a1 a2 M0).bind fun q5 => some (q5.1, q5.2)) else (some ((-1), M0))) else (some ((-1), M0))
set_option maxHeartbeats 4000000 in
set_option maxRecDepth 20000 in
theorem C_Mo_owe_94 {D : va_G} {ad adK adV : Nat → Nat} {cI cJ : ClassId} {l : Launch} (a1 : Int32) (a2 : Int32) (M0 : Mem) (o : Int32 × Mem) (h : f_Mo_owe_94 a1 a2 M0 = some o) : Ct D ad adK adV cI cJ l y_Mo_owe_94 cX12_owe 3 (some .int) 513 14294 [.ref (ad 94), .int a1, .int a2] M0 (some (.int o.1)) o.2 := by
  refine x_start (lv := [(0, .ref (ad 94)), (1, .int a1), (2, .int a2)]) (own := "CurrentFarmsModel") rfl (by decide) (Nat.le_of_ble_eq_true rfl) rfl ?_
  intro p e s m args below meth c Q hQ B
  unfold f_Mo_owe_94 at h
  refine x_aload_n (pc := 0) B 0 dX12_owe_0 rfl rfl ?_
  refine x_iload_n (pc := 1) B 1 dX12_owe_1 rfl rfl ?_
  obtain ⟨q1, hq1, h⟩ := bnd h
  refine x_callV (rest := []) (st' := [.int (bI q1)]) (pc := 2) B oi_94 rfl (C_Mo_isFarm_94 a1 M0 _ hq1) tw_1448 tw_1445 tw_1447 tw_46 tw_111 hd_Mo_isFarm_94 ⟨Nat.le_of_ble_eq_true rfl, Nat.le_of_ble_eq_true rfl⟩ rfl rfl (Nat.le_of_ble_eq_true rfl) rfl dX12_owe_2 ?_
  refine x_if_eq_b (tgt := 25) (pc := 5) B dX12_owe_5 rfl (fun hc2 => ?_) (fun hc2 => ?_)
  · have h := iff_ hc2 h
    refine x_iconst (v := (-1)) (pc := 25) B dX12_owe_25 rfl ?_
    obtain rfl := Option.some.inj h
    exact x_iret (pc := 26) B hQ dX12_owe_26
  · have h := ift hc2 h
    refine x_aload_n (pc := 8) B 0 dX12_owe_8 rfl rfl ?_
    refine x_iload_n (pc := 9) B 2 dX12_owe_9 rfl rfl ?_
    obtain ⟨q3, hq3, h⟩ := bnd h
    refine x_callV (rest := []) (st' := [.int (bI q3)]) (pc := 10) B oi_94 rfl (C_Mo_isGone_94 a2 M0 _ hq3) tw_1732 tw_1729 tw_1731 tw_89 tw_111 hd_Mo_isGone_94 ⟨Nat.le_of_ble_eq_true rfl, Nat.le_of_ble_eq_true rfl⟩ rfl rfl (Nat.le_of_ble_eq_true rfl) rfl dX12_owe_10 ?_
    refine x_if_eq_b (tgt := 25) (pc := 13) B dX12_owe_13 rfl (fun hc4 => ?_) (fun hc4 => ?_)
    · have h := iff_ hc4 h
      refine x_iconst (v := (-1)) (pc := 25) B dX12_owe_25 rfl ?_
      obtain rfl := Option.some.inj h
      exact x_iret (pc := 26) B hQ dX12_owe_26
    · have h := ift hc4 h
      refine x_aload_n (pc := 16) B 0 dX12_owe_16 rfl rfl ?_
      refine x_iload_n (pc := 17) B 1 dX12_owe_17 rfl rfl ?_
      refine x_iload_n (pc := 18) B 2 dX12_owe_18 rfl rfl ?_
      obtain ⟨q5, hq5, h⟩ := bnd h
      refine x_callV (rest := []) (st' := [.int q5.1]) (pc := 19) B oi_94 rfl (C_Mo_arrears_94 a1 a2 M0 _ hq5) tw_1483 tw_1480 tw_1482 tw_52 tw_111 hd_Mo_arrears_94 ⟨Nat.le_of_ble_eq_true rfl, Nat.le_of_ble_eq_true rfl⟩ rfl rfl (Nat.le_of_ble_eq_true rfl) rfl dX12_owe_19 ?_
      refine x_goto (tgt := 26) (pc := 22) B dX12_owe_22 rfl ?_
      obtain rfl := Option.some.inj h
      exact x_iret (pc := 26) B hQ dX12_owe_26
-- CurrentFarmsModel.loan(IIIII)I [94]
abbrev y_Mo_loan_94 : MethodName := ⟨"CurrentFarmsModel", "loan", "(IIIII)I"⟩
abbrev cX12_loan : ByteArray := prog_14_method_88_code
theorem dX12_loan_0 : decode cX12_loan 0 = .ok (.iload_n 1, 1) := by decide +kernel
theorem dX12_loan_1 : decode cX12_loan 1 = .ok (.iconst 0, 1) := by decide +kernel
theorem dX12_loan_2 : decode cX12_loan 2 = .ok (.ldc 243, 2) := by decide +kernel
theorem dX12_loan_4 : decode cX12_loan 4 = .ok (.invokestatic 84, 3) := by decide +kernel
theorem dX12_loan_7 : decode cX12_loan 7 = .ok (.ifCond .eq 42, 3) := by decide +kernel
theorem dX12_loan_10 : decode cX12_loan 10 = .ok (.iload_n 2, 1) := by decide +kernel
theorem dX12_loan_11 : decode cX12_loan 11 = .ok (.invokestatic 124, 3) := by decide +kernel
theorem dX12_loan_14 : decode cX12_loan 14 = .ok (.ifCond .eq 35, 3) := by decide +kernel
theorem dX12_loan_17 : decode cX12_loan 17 = .ok (.iload_n 3, 1) := by decide +kernel
theorem dX12_loan_18 : decode cX12_loan 18 = .ok (.iconst 0, 1) := by decide +kernel
theorem dX12_loan_19 : decode cX12_loan 19 = .ok (.bipush 20, 2) := by decide +kernel
theorem dX12_loan_21 : decode cX12_loan 21 = .ok (.invokestatic 84, 3) := by decide +kernel
theorem dX12_loan_24 : decode cX12_loan 24 = .ok (.ifCond .eq 25, 3) := by decide +kernel
theorem dX12_loan_27 : decode cX12_loan 27 = .ok (.iload 4, 2) := by decide +kernel
theorem dX12_loan_29 : decode cX12_loan 29 = .ok (.iconst 1, 1) := by decide +kernel
theorem dX12_loan_30 : decode cX12_loan 30 = .ok (.bipush 60, 2) := by decide +kernel
theorem dX12_loan_32 : decode cX12_loan 32 = .ok (.invokestatic 84, 3) := by decide +kernel
theorem dX12_loan_35 : decode cX12_loan 35 = .ok (.ifCond .eq 14, 3) := by decide +kernel
theorem dX12_loan_38 : decode cX12_loan 38 = .ok (.iload 5, 2) := by decide +kernel
theorem dX12_loan_40 : decode cX12_loan 40 = .ok (.iconst 0, 1) := by decide +kernel
theorem dX12_loan_41 : decode cX12_loan 41 = .ok (.ldc 243, 2) := by decide +kernel
theorem dX12_loan_43 : decode cX12_loan 43 = .ok (.invokestatic 84, 3) := by decide +kernel
theorem dX12_loan_46 : decode cX12_loan 46 = .ok (.ifCond .ne 6, 3) := by decide +kernel
theorem dX12_loan_49 : decode cX12_loan 49 = .ok (.bipush (-2), 2) := by decide +kernel
theorem dX12_loan_51 : decode cX12_loan 51 = .ok (.ireturn, 1) := by decide +kernel
theorem dX12_loan_52 : decode cX12_loan 52 = .ok (.aload_n 0, 1) := by decide +kernel
theorem dX12_loan_53 : decode cX12_loan 53 = .ok (.getfield 7, 3) := by decide +kernel
theorem dX12_loan_56 : decode cX12_loan 56 = .ok (.bipush 10, 2) := by decide +kernel
theorem dX12_loan_58 : decode cX12_loan 58 = .ok (.iconst 1, 1) := by decide +kernel
theorem dX12_loan_59 : decode cX12_loan 59 = .ok (.iastore, 1) := by decide +kernel
theorem dX12_loan_60 : decode cX12_loan 60 = .ok (.aload_n 0, 1) := by decide +kernel
theorem dX12_loan_61 : decode cX12_loan 61 = .ok (.getfield 7, 3) := by decide +kernel
theorem dX12_loan_64 : decode cX12_loan 64 = .ok (.bipush 11, 2) := by decide +kernel
theorem dX12_loan_66 : decode cX12_loan 66 = .ok (.iload_n 1, 1) := by decide +kernel
theorem dX12_loan_67 : decode cX12_loan 67 = .ok (.iastore, 1) := by decide +kernel
theorem dX12_loan_68 : decode cX12_loan 68 = .ok (.aload_n 0, 1) := by decide +kernel
theorem dX12_loan_69 : decode cX12_loan 69 = .ok (.getfield 7, 3) := by decide +kernel
theorem dX12_loan_72 : decode cX12_loan 72 = .ok (.bipush 12, 2) := by decide +kernel
theorem dX12_loan_74 : decode cX12_loan 74 = .ok (.iload_n 2, 1) := by decide +kernel
theorem dX12_loan_75 : decode cX12_loan 75 = .ok (.iastore, 1) := by decide +kernel
theorem dX12_loan_76 : decode cX12_loan 76 = .ok (.aload_n 0, 1) := by decide +kernel
theorem dX12_loan_77 : decode cX12_loan 77 = .ok (.getfield 7, 3) := by decide +kernel
theorem dX12_loan_80 : decode cX12_loan 80 = .ok (.bipush 13, 2) := by decide +kernel
theorem dX12_loan_82 : decode cX12_loan 82 = .ok (.iload_n 3, 1) := by decide +kernel
theorem dX12_loan_83 : decode cX12_loan 83 = .ok (.iastore, 1) := by decide +kernel
theorem dX12_loan_84 : decode cX12_loan 84 = .ok (.aload_n 0, 1) := by decide +kernel
theorem dX12_loan_85 : decode cX12_loan 85 = .ok (.getfield 7, 3) := by decide +kernel
theorem dX12_loan_88 : decode cX12_loan 88 = .ok (.bipush 14, 2) := by decide +kernel
theorem dX12_loan_90 : decode cX12_loan 90 = .ok (.iload 4, 2) := by decide +kernel
theorem dX12_loan_92 : decode cX12_loan 92 = .ok (.iastore, 1) := by decide +kernel
theorem dX12_loan_93 : decode cX12_loan 93 = .ok (.aload_n 0, 1) := by decide +kernel
theorem dX12_loan_94 : decode cX12_loan 94 = .ok (.getfield 7, 3) := by decide +kernel
theorem dX12_loan_97 : decode cX12_loan 97 = .ok (.bipush 15, 2) := by decide +kernel
theorem dX12_loan_99 : decode cX12_loan 99 = .ok (.iload 5, 2) := by decide +kernel
theorem dX12_loan_101 : decode cX12_loan 101 = .ok (.iastore, 1) := by decide +kernel
theorem dX12_loan_102 : decode cX12_loan 102 = .ok (.iconst 1, 1) := by decide +kernel
theorem dX12_loan_103 : decode cX12_loan 103 = .ok (.ireturn, 1) := by decide +kernel
theorem hd_Mo_loan_94 : y_Mo_loan_94.cls ≠ "java/lang/invoke/MethodHandle" ∧ y_Mo_loan_94.cls ≠ "java/lang/invoke/VarHandle" ∧ (parseMethodDescriptor y_Mo_loan_94.desc).map (fun d => d.parameters.length) = some 5 := by decide +kernel
def f_Mo_loan_94 (a1 : Int32) (a2 : Int32) (a3 : Int32) (a4 : Int32) (a5 : Int32) (M0 : Mem) : Option (Int32 × Mem) :=
  (f_Mo_in a1 0 99999).bind fun q1 => if q1 then ((f_Mo_isMonth a2).bind fun q3 => if q3 then ((f_Mo_in a3 0 20).bind fun q5 => if q5 then ((f_Mo_in a4 1 60).bind fun q7 => if q7 then ((f_Mo_in a5 0 99999).bind fun q9 => if q9 then (jv_ (wI M0 95 10 1) fun M11 => jv_ (wI M11 95 11 a1) fun M12 => jv_ (wI M12 95 12 a2) fun M13 => jv_ (wI M13 95 13 a3) fun M14 => jv_ (wI M14 95 14 a4) fun M15 => jv_ (wI M15 95 15 a5) fun M16 => some (1, M16)) else (some ((-2), M0))) else (some ((-2), M0))) else (some ((-2), M0))) else (some ((-2), M0))) else (some ((-2), M0))
set_option maxHeartbeats 4000000 in
set_option maxRecDepth 20000 in
theorem C_Mo_loan_94 {D : va_G} {ad adK adV : Nat → Nat} {cI cJ : ClassId} {l : Launch} (a1 : Int32) (a2 : Int32) (a3 : Int32) (a4 : Int32) (a5 : Int32) (M0 : Mem) (o : Int32 × Mem) (h : f_Mo_loan_94 a1 a2 a3 a4 a5 M0 = some o) : Ct D ad adK adV cI cJ l y_Mo_loan_94 cX12_loan 6 (some .int) 2 42 [.ref (ad 94), .int a1, .int a2, .int a3, .int a4, .int a5] M0 (some (.int o.1)) o.2 := by
  refine x_start (lv := [(0, .ref (ad 94)), (1, .int a1), (2, .int a2), (3, .int a3), (4, .int a4), (5, .int a5)]) (own := "CurrentFarmsModel") rfl (by decide) (Nat.le_of_ble_eq_true rfl) rfl ?_
  intro p e s m args below meth c Q hQ B
  unfold f_Mo_loan_94 at h
  refine x_iload_n (pc := 0) B 1 dX12_loan_0 rfl rfl ?_
  refine x_iconst (v := 0) (pc := 1) B dX12_loan_1 rfl ?_
  refine x_ldc (v := 99999) (pc := 2) B tw_1567 dX12_loan_2 ?_
  obtain ⟨q1, hq1, h⟩ := bnd h
  refine x_callS (rest := []) (st' := [.int (bI q1)]) (pc := 4) B (C_Mo_in a1 0 99999 M0 _ hq1) tw_1406 tw_1404 tw_1405 tw_111 hd_Mo_in ⟨Nat.le_of_ble_eq_true rfl, Nat.le_of_ble_eq_true rfl⟩ rfl rfl (Nat.le_of_ble_eq_true rfl) rfl dX12_loan_4 ?_
  refine x_if_eq_b (tgt := 49) (pc := 7) B dX12_loan_7 rfl (fun hc2 => ?_) (fun hc2 => ?_)
  · have h := iff_ hc2 h
    refine x_bipush (v := (-2)) (pc := 49) B dX12_loan_49 rfl ?_
    obtain rfl := Option.some.inj h
    exact x_iret (pc := 51) B hQ dX12_loan_51
  · have h := ift hc2 h
    refine x_iload_n (pc := 10) B 2 dX12_loan_10 rfl rfl ?_
    obtain ⟨q3, hq3, h⟩ := bnd h
    refine x_callS (rest := []) (st' := [.int (bI q3)]) (pc := 11) B (C_Mo_isMonth a2 M0 _ hq3) tw_1467 tw_1465 tw_1466 tw_111 hd_Mo_isMonth ⟨Nat.le_of_ble_eq_true rfl, Nat.le_of_ble_eq_true rfl⟩ rfl rfl (Nat.le_of_ble_eq_true rfl) rfl dX12_loan_11 ?_
    refine x_if_eq_b (tgt := 49) (pc := 14) B dX12_loan_14 rfl (fun hc4 => ?_) (fun hc4 => ?_)
    · have h := iff_ hc4 h
      refine x_bipush (v := (-2)) (pc := 49) B dX12_loan_49 rfl ?_
      obtain rfl := Option.some.inj h
      exact x_iret (pc := 51) B hQ dX12_loan_51
    · have h := ift hc4 h
      refine x_iload_n (pc := 17) B 3 dX12_loan_17 rfl rfl ?_
      refine x_iconst (v := 0) (pc := 18) B dX12_loan_18 rfl ?_
      refine x_bipush (v := 20) (pc := 19) B dX12_loan_19 rfl ?_
      obtain ⟨q5, hq5, h⟩ := bnd h
      refine x_callS (rest := []) (st' := [.int (bI q5)]) (pc := 21) B (C_Mo_in a3 0 20 M0 _ hq5) tw_1406 tw_1404 tw_1405 tw_111 hd_Mo_in ⟨Nat.le_of_ble_eq_true rfl, Nat.le_of_ble_eq_true rfl⟩ rfl rfl (Nat.le_of_ble_eq_true rfl) rfl dX12_loan_21 ?_
      refine x_if_eq_b (tgt := 49) (pc := 24) B dX12_loan_24 rfl (fun hc6 => ?_) (fun hc6 => ?_)
      · have h := iff_ hc6 h
        refine x_bipush (v := (-2)) (pc := 49) B dX12_loan_49 rfl ?_
        obtain rfl := Option.some.inj h
        exact x_iret (pc := 51) B hQ dX12_loan_51
      · have h := ift hc6 h
        refine x_iload (pc := 27) B 4 dX12_loan_27 rfl ?_
        refine x_iconst (v := 1) (pc := 29) B dX12_loan_29 rfl ?_
        refine x_bipush (v := 60) (pc := 30) B dX12_loan_30 rfl ?_
        obtain ⟨q7, hq7, h⟩ := bnd h
        refine x_callS (rest := []) (st' := [.int (bI q7)]) (pc := 32) B (C_Mo_in a4 1 60 M0 _ hq7) tw_1406 tw_1404 tw_1405 tw_111 hd_Mo_in ⟨Nat.le_of_ble_eq_true rfl, Nat.le_of_ble_eq_true rfl⟩ rfl rfl (Nat.le_of_ble_eq_true rfl) rfl dX12_loan_32 ?_
        refine x_if_eq_b (tgt := 49) (pc := 35) B dX12_loan_35 rfl (fun hc8 => ?_) (fun hc8 => ?_)
        · have h := iff_ hc8 h
          refine x_bipush (v := (-2)) (pc := 49) B dX12_loan_49 rfl ?_
          obtain rfl := Option.some.inj h
          exact x_iret (pc := 51) B hQ dX12_loan_51
        · have h := ift hc8 h
          refine x_iload (pc := 38) B 5 dX12_loan_38 rfl ?_
          refine x_iconst (v := 0) (pc := 40) B dX12_loan_40 rfl ?_
          refine x_ldc (v := 99999) (pc := 41) B tw_1567 dX12_loan_41 ?_
          obtain ⟨q9, hq9, h⟩ := bnd h
          refine x_callS (rest := []) (st' := [.int (bI q9)]) (pc := 43) B (C_Mo_in a5 0 99999 M0 _ hq9) tw_1406 tw_1404 tw_1405 tw_111 hd_Mo_in ⟨Nat.le_of_ble_eq_true rfl, Nat.le_of_ble_eq_true rfl⟩ rfl rfl (Nat.le_of_ble_eq_true rfl) rfl dX12_loan_43 ?_
          refine x_if_ne_b (tgt := 52) (pc := 46) B dX12_loan_46 rfl (fun hc10 => ?_) (fun hc10 => ?_)
          · have h := ift hc10 h
            refine x_aload_n (pc := 52) B 0 dX12_loan_52 rfl rfl ?_
            refine x_get (T := TX12) (pc := 53) B 1 oi_94 rfl uw_12 (by decide) rfl tw_1300 rfl dX12_loan_53 ?_
            refine x_bipush (v := 10) (pc := 56) B dX12_loan_56 rfl ?_
            refine x_iconst (v := 1) (pc := 58) B dX12_loan_58 rfl ?_
            refine x_iast_c (j := 10) (pc := 59) B ai_95 (by decide) rfl dX12_loan_59 ?_
            refine jv_m (P := fun M11 => XX D ad cI cJ p l e (Rm 2 42) s m args below meth c Q 6 M11 60 [(0, .ref (ad 94)), (1, .int a1), (2, .int a2), (3, .int a3), (4, .int a4), (5, .int a5)] []) h (fun M11 h => ?_)
            refine x_aload_n (pc := 60) B 0 dX12_loan_60 rfl rfl ?_
            refine x_get (T := TX12) (pc := 61) B 1 oi_94 rfl uw_12 (by decide) rfl tw_1300 rfl dX12_loan_61 ?_
            refine x_bipush (v := 11) (pc := 64) B dX12_loan_64 rfl ?_
            refine x_iload_n (pc := 66) B 1 dX12_loan_66 rfl rfl ?_
            refine x_iast_c (j := 11) (pc := 67) B ai_95 (by decide) rfl dX12_loan_67 ?_
            refine jv_m (P := fun M12 => XX D ad cI cJ p l e (Rm 2 42) s m args below meth c Q 6 M12 68 [(0, .ref (ad 94)), (1, .int a1), (2, .int a2), (3, .int a3), (4, .int a4), (5, .int a5)] []) h (fun M12 h => ?_)
            refine x_aload_n (pc := 68) B 0 dX12_loan_68 rfl rfl ?_
            refine x_get (T := TX12) (pc := 69) B 1 oi_94 rfl uw_12 (by decide) rfl tw_1300 rfl dX12_loan_69 ?_
            refine x_bipush (v := 12) (pc := 72) B dX12_loan_72 rfl ?_
            refine x_iload_n (pc := 74) B 2 dX12_loan_74 rfl rfl ?_
            refine x_iast_c (j := 12) (pc := 75) B ai_95 (by decide) rfl dX12_loan_75 ?_
            refine jv_m (P := fun M13 => XX D ad cI cJ p l e (Rm 2 42) s m args below meth c Q 6 M13 76 [(0, .ref (ad 94)), (1, .int a1), (2, .int a2), (3, .int a3), (4, .int a4), (5, .int a5)] []) h (fun M13 h => ?_)
            refine x_aload_n (pc := 76) B 0 dX12_loan_76 rfl rfl ?_
            refine x_get (T := TX12) (pc := 77) B 1 oi_94 rfl uw_12 (by decide) rfl tw_1300 rfl dX12_loan_77 ?_
            refine x_bipush (v := 13) (pc := 80) B dX12_loan_80 rfl ?_
            refine x_iload_n (pc := 82) B 3 dX12_loan_82 rfl rfl ?_
            refine x_iast_c (j := 13) (pc := 83) B ai_95 (by decide) rfl dX12_loan_83 ?_
            refine jv_m (P := fun M14 => XX D ad cI cJ p l e (Rm 2 42) s m args below meth c Q 6 M14 84 [(0, .ref (ad 94)), (1, .int a1), (2, .int a2), (3, .int a3), (4, .int a4), (5, .int a5)] []) h (fun M14 h => ?_)
            refine x_aload_n (pc := 84) B 0 dX12_loan_84 rfl rfl ?_
            refine x_get (T := TX12) (pc := 85) B 1 oi_94 rfl uw_12 (by decide) rfl tw_1300 rfl dX12_loan_85 ?_
            refine x_bipush (v := 14) (pc := 88) B dX12_loan_88 rfl ?_
            refine x_iload (pc := 90) B 4 dX12_loan_90 rfl ?_
            refine x_iast_c (j := 14) (pc := 92) B ai_95 (by decide) rfl dX12_loan_92 ?_
            refine jv_m (P := fun M15 => XX D ad cI cJ p l e (Rm 2 42) s m args below meth c Q 6 M15 93 [(0, .ref (ad 94)), (1, .int a1), (2, .int a2), (3, .int a3), (4, .int a4), (5, .int a5)] []) h (fun M15 h => ?_)
            refine x_aload_n (pc := 93) B 0 dX12_loan_93 rfl rfl ?_
            refine x_get (T := TX12) (pc := 94) B 1 oi_94 rfl uw_12 (by decide) rfl tw_1300 rfl dX12_loan_94 ?_
            refine x_bipush (v := 15) (pc := 97) B dX12_loan_97 rfl ?_
            refine x_iload (pc := 99) B 5 dX12_loan_99 rfl ?_
            refine x_iast_c (j := 15) (pc := 101) B ai_95 (by decide) rfl dX12_loan_101 ?_
            refine jv_m (P := fun M16 => XX D ad cI cJ p l e (Rm 2 42) s m args below meth c Q 6 M16 102 [(0, .ref (ad 94)), (1, .int a1), (2, .int a2), (3, .int a3), (4, .int a4), (5, .int a5)] []) h (fun M16 h => ?_)
            refine x_iconst (v := 1) (pc := 102) B dX12_loan_102 rfl ?_
            obtain rfl := Option.some.inj h
            exact x_iret (pc := 103) B hQ dX12_loan_103
          · have h := iff_ hc10 h
            refine x_bipush (v := (-2)) (pc := 49) B dX12_loan_49 rfl ?_
            obtain rfl := Option.some.inj h
            exact x_iret (pc := 51) B hQ dX12_loan_51
-- CurrentFarmsModel.dueIn(I)I [94]
abbrev y_Mo_dueIn_94 : MethodName := ⟨"CurrentFarmsModel", "dueIn", "(I)I"⟩
abbrev cX12_dueIn : ByteArray := prog_14_method_89_code
theorem dX12_dueIn_0 : decode cX12_dueIn 0 = .ok (.aload_n 0, 1) := by decide +kernel
theorem dX12_dueIn_1 : decode cX12_dueIn 1 = .ok (.getfield 7, 3) := by decide +kernel
theorem dX12_dueIn_4 : decode cX12_dueIn 4 = .ok (.bipush 11, 2) := by decide +kernel
theorem dX12_dueIn_6 : decode cX12_dueIn 6 = .ok (.iaload, 1) := by decide +kernel
theorem dX12_dueIn_7 : decode cX12_dueIn 7 = .ok (.istore_n 2, 1) := by decide +kernel
theorem dX12_dueIn_8 : decode cX12_dueIn 8 = .ok (.iconst 0, 1) := by decide +kernel
theorem dX12_dueIn_9 : decode cX12_dueIn 9 = .ok (.istore_n 3, 1) := by decide +kernel
theorem dX12_dueIn_10 : decode cX12_dueIn 10 = .ok (.iconst 1, 1) := by decide +kernel
theorem dX12_dueIn_11 : decode cX12_dueIn 11 = .ok (.istore 4, 2) := by decide +kernel
theorem dX12_dueIn_13 : decode cX12_dueIn 13 = .ok (.iload 4, 2) := by decide +kernel
theorem dX12_dueIn_15 : decode cX12_dueIn 15 = .ok (.aload_n 0, 1) := by decide +kernel
theorem dX12_dueIn_16 : decode cX12_dueIn 16 = .ok (.getfield 7, 3) := by decide +kernel
theorem dX12_dueIn_19 : decode cX12_dueIn 19 = .ok (.bipush 14, 2) := by decide +kernel
theorem dX12_dueIn_21 : decode cX12_dueIn 21 = .ok (.iaload, 1) := by decide +kernel
theorem dX12_dueIn_22 : decode cX12_dueIn 22 = .ok (.if_icmp .gt 75, 3) := by decide +kernel
theorem dX12_dueIn_25 : decode cX12_dueIn 25 = .ok (.aload_n 0, 1) := by decide +kernel
theorem dX12_dueIn_26 : decode cX12_dueIn 26 = .ok (.getfield 7, 3) := by decide +kernel
theorem dX12_dueIn_29 : decode cX12_dueIn 29 = .ok (.bipush 10, 2) := by decide +kernel
theorem dX12_dueIn_31 : decode cX12_dueIn 31 = .ok (.iaload, 1) := by decide +kernel
theorem dX12_dueIn_32 : decode cX12_dueIn 32 = .ok (.iconst 1, 1) := by decide +kernel
theorem dX12_dueIn_33 : decode cX12_dueIn 33 = .ok (.if_icmp .ne 64, 3) := by decide +kernel
theorem dX12_dueIn_36 : decode cX12_dueIn 36 = .ok (.iload_n 2, 1) := by decide +kernel
theorem dX12_dueIn_37 : decode cX12_dueIn 37 = .ok (.aload_n 0, 1) := by decide +kernel
theorem dX12_dueIn_38 : decode cX12_dueIn 38 = .ok (.getfield 7, 3) := by decide +kernel
theorem dX12_dueIn_41 : decode cX12_dueIn 41 = .ok (.bipush 14, 2) := by decide +kernel
theorem dX12_dueIn_43 : decode cX12_dueIn 43 = .ok (.iaload, 1) := by decide +kernel
theorem dX12_dueIn_44 : decode cX12_dueIn 44 = .ok (.iload 4, 2) := by decide +kernel
theorem dX12_dueIn_46 : decode cX12_dueIn 46 = .ok (.isub, 1) := by decide +kernel
theorem dX12_dueIn_47 : decode cX12_dueIn 47 = .ok (.iconst 1, 1) := by decide +kernel
theorem dX12_dueIn_48 : decode cX12_dueIn 48 = .ok (.iadd, 1) := by decide +kernel
theorem dX12_dueIn_49 : decode cX12_dueIn 49 = .ok (.idiv, 1) := by decide +kernel
theorem dX12_dueIn_50 : decode cX12_dueIn 50 = .ok (.istore 5, 2) := by decide +kernel
theorem dX12_dueIn_52 : decode cX12_dueIn 52 = .ok (.aload_n 0, 1) := by decide +kernel
theorem dX12_dueIn_53 : decode cX12_dueIn 53 = .ok (.getfield 7, 3) := by decide +kernel
theorem dX12_dueIn_56 : decode cX12_dueIn 56 = .ok (.bipush 12, 2) := by decide +kernel
theorem dX12_dueIn_58 : decode cX12_dueIn 58 = .ok (.iaload, 1) := by decide +kernel
theorem dX12_dueIn_59 : decode cX12_dueIn 59 = .ok (.iload 4, 2) := by decide +kernel
theorem dX12_dueIn_61 : decode cX12_dueIn 61 = .ok (.iadd, 1) := by decide +kernel
theorem dX12_dueIn_62 : decode cX12_dueIn 62 = .ok (.iload_n 1, 1) := by decide +kernel
theorem dX12_dueIn_63 : decode cX12_dueIn 63 = .ok (.if_icmp .ne 21, 3) := by decide +kernel
theorem dX12_dueIn_66 : decode cX12_dueIn 66 = .ok (.iload 5, 2) := by decide +kernel
theorem dX12_dueIn_68 : decode cX12_dueIn 68 = .ok (.iload_n 2, 1) := by decide +kernel
theorem dX12_dueIn_69 : decode cX12_dueIn 69 = .ok (.aload_n 0, 1) := by decide +kernel
theorem dX12_dueIn_70 : decode cX12_dueIn 70 = .ok (.getfield 7, 3) := by decide +kernel
theorem dX12_dueIn_73 : decode cX12_dueIn 73 = .ok (.bipush 13, 2) := by decide +kernel
theorem dX12_dueIn_75 : decode cX12_dueIn 75 = .ok (.iaload, 1) := by decide +kernel
theorem dX12_dueIn_76 : decode cX12_dueIn 76 = .ok (.imul, 1) := by decide +kernel
theorem dX12_dueIn_77 : decode cX12_dueIn 77 = .ok (.bipush 100, 2) := by decide +kernel
theorem dX12_dueIn_79 : decode cX12_dueIn 79 = .ok (.idiv, 1) := by decide +kernel
theorem dX12_dueIn_80 : decode cX12_dueIn 80 = .ok (.iadd, 1) := by decide +kernel
theorem dX12_dueIn_81 : decode cX12_dueIn 81 = .ok (.goto 4, 3) := by decide +kernel
theorem dX12_dueIn_84 : decode cX12_dueIn 84 = .ok (.iload_n 3, 1) := by decide +kernel
theorem dX12_dueIn_85 : decode cX12_dueIn 85 = .ok (.istore_n 3, 1) := by decide +kernel
theorem dX12_dueIn_86 : decode cX12_dueIn 86 = .ok (.iload_n 2, 1) := by decide +kernel
theorem dX12_dueIn_87 : decode cX12_dueIn 87 = .ok (.iload 5, 2) := by decide +kernel
theorem dX12_dueIn_89 : decode cX12_dueIn 89 = .ok (.isub, 1) := by decide +kernel
theorem dX12_dueIn_90 : decode cX12_dueIn 90 = .ok (.istore_n 2, 1) := by decide +kernel
theorem dX12_dueIn_91 : decode cX12_dueIn 91 = .ok (.iinc 4 1, 3) := by decide +kernel
theorem dX12_dueIn_94 : decode cX12_dueIn 94 = .ok (.goto (-81), 3) := by decide +kernel
theorem dX12_dueIn_97 : decode cX12_dueIn 97 = .ok (.iload_n 3, 1) := by decide +kernel
theorem dX12_dueIn_98 : decode cX12_dueIn 98 = .ok (.ireturn, 1) := by decide +kernel
theorem hd_Mo_dueIn_94 : y_Mo_dueIn_94.cls ≠ "java/lang/invoke/MethodHandle" ∧ y_Mo_dueIn_94.cls ≠ "java/lang/invoke/VarHandle" ∧ (parseMethodDescriptor y_Mo_dueIn_94.desc).map (fun d => d.parameters.length) = some 1 := by decide +kernel
def b_Mo_dueIn_94_13 (a1 : Int32) (M0 : Mem) (y1 : Int32 × Int32 × Int32) : Option ((Int32 × Int32 × Int32) ⊕ (Int32)) :=
  if decide (y1.2.2 ≤ (M0.1 95 14)) then (if decide ((M0.1 95 10) = 1) then (if !decide ((((M0.1 95 14) - y1.2.2) + 1) = 0) then jv_ ((if decide (((M0.1 95 12) + y1.2.2) = a1) then (y1.1 / (((M0.1 95 14) - y1.2.2) + 1)) + ((y1.1 * (M0.1 95 13)) / 100) else y1.2.1) : Int32) fun u7 => some (.inl (y1.1 - (y1.1 / (((M0.1 95 14) - y1.2.2) + 1)), u7, y1.2.2 + 1)) else none) else (some (.inr y1.2.1))) else (some (.inr y1.2.1))
def f_Mo_dueIn_94 (a1 : Int32) (M0 : Mem) : Option (Int32) :=
  (itr (b_Mo_dueIn_94_13 a1 M0) FU (M0.1 95 11, 0, 1)).bind fun q8 => some q8
set_option maxHeartbeats 4000000 in
set_option maxRecDepth 20000 in
theorem C_Mo_dueIn_94 {D : va_G} {ad adK adV : Nat → Nat} {cI cJ : ClassId} {l : Launch} (a1 : Int32) (M0 : Mem) (o : Int32) (h : f_Mo_dueIn_94 a1 M0 = some o) : Ct D ad adK adV cI cJ l y_Mo_dueIn_94 cX12_dueIn 6 (some .int) 0 0 [.ref (ad 94), .int a1] M0 (some (.int o)) M0 := by
  refine x_start (lv := [(0, .ref (ad 94)), (1, .int a1)]) (own := "CurrentFarmsModel") rfl (by decide) (Nat.le_of_ble_eq_true rfl) rfl ?_
  intro p e s m args below meth c Q hQ B
  unfold f_Mo_dueIn_94 at h
  refine x_aload_n (pc := 0) B 0 dX12_dueIn_0 rfl rfl ?_
  refine x_get (T := TX12) (pc := 1) B 1 oi_94 rfl uw_12 (by decide) rfl tw_1300 rfl dX12_dueIn_1 ?_
  refine x_bipush (v := 11) (pc := 4) B dX12_dueIn_4 rfl ?_
  refine x_iald_c (j := 11) (pc := 6) B ai_95 (by decide) rfl dX12_dueIn_6 ?_
  refine x_istore_n (lv' := [(2, .int (M0.1 95 11)), (0, .ref (ad 94)), (1, .int a1)]) (pc := 7) B dX12_dueIn_7 rfl (by decide) rfl ?_
  refine x_iconst (v := 0) (pc := 8) B dX12_dueIn_8 rfl ?_
  refine x_istore_n (lv' := [(3, .int 0), (2, .int (M0.1 95 11)), (0, .ref (ad 94)), (1, .int a1)]) (pc := 9) B dX12_dueIn_9 rfl (by decide) rfl ?_
  refine x_iconst (v := 1) (pc := 10) B dX12_dueIn_10 rfl ?_
  refine x_istore (lv' := [(4, .int 1), (3, .int 0), (2, .int (M0.1 95 11)), (0, .ref (ad 94)), (1, .int a1)]) (pc := 11) B dX12_dueIn_11 (by decide) rfl ?_
  refine x_pick (lv' := [(0, .ref (ad 94)), (1, .int a1), (2, .int (M0.1 95 11)), (3, .int 0), (4, .int 1)]) [3, 4, 2, 1, 0] rfl ?_
  obtain ⟨q8, hq8, h⟩ := bnd h
  refine x_loop (Head := fun (y1 : Int32 × Int32 × Int32) => XX D ad cI cJ p l e (Rm 0 0) s m args below meth c Q 6 M0 13 [(0, .ref (ad 94)), (1, .int a1), (2, .int y1.1), (3, .int y1.2.1), (4, .int y1.2.2)] []) (Ex := fun (q8 : Int32) => XX D ad cI cJ p l e (Rm 0 0) s m args below meth c Q 6 M0 97 [(3, .int q8)] []) (fun y1 r h hback hexit => ?_) FU _ q8 hq8 ?_
  · unfold b_Mo_dueIn_94_13 at h
    refine x_iload (pc := 13) B 4 dX12_dueIn_13 rfl ?_
    refine x_aload_n (pc := 15) B 0 dX12_dueIn_15 rfl rfl ?_
    refine x_get (T := TX12) (pc := 16) B 1 oi_94 rfl uw_12 (by decide) rfl tw_1300 rfl dX12_dueIn_16 ?_
    refine x_bipush (v := 14) (pc := 19) B dX12_dueIn_19 rfl ?_
    refine x_iald_c (j := 14) (pc := 21) B ai_95 (by decide) rfl dX12_dueIn_21 ?_
    refine x_icmp_gt (tgt := 97) (pc := 22) B dX12_dueIn_22 rfl (fun hc2 => ?_) (fun hc2 => ?_)
    · have h := iff_ hc2 h
      refine x_pick (lv' := [(3, .int y1.2.1)]) [3] rfl ?_
      have z := hexit y1.2.1 (Option.some.inj h).symm
      exact z
    · have h := ift hc2 h
      refine x_aload_n (pc := 25) B 0 dX12_dueIn_25 rfl rfl ?_
      refine x_get (T := TX12) (pc := 26) B 1 oi_94 rfl uw_12 (by decide) rfl tw_1300 rfl dX12_dueIn_26 ?_
      refine x_bipush (v := 10) (pc := 29) B dX12_dueIn_29 rfl ?_
      refine x_iald_c (j := 10) (pc := 31) B ai_95 (by decide) rfl dX12_dueIn_31 ?_
      refine x_iconst (v := 1) (pc := 32) B dX12_dueIn_32 rfl ?_
      refine x_icmp_ne (tgt := 97) (pc := 33) B dX12_dueIn_33 rfl (fun hc3 => ?_) (fun hc3 => ?_)
      · have h := iff_ hc3 h
        refine x_pick (lv' := [(3, .int y1.2.1)]) [3] rfl ?_
        have z := hexit y1.2.1 (Option.some.inj h).symm
        exact z
      · have h := ift hc3 h
        refine x_iload_n (pc := 36) B 2 dX12_dueIn_36 rfl rfl ?_
        refine x_aload_n (pc := 37) B 0 dX12_dueIn_37 rfl rfl ?_
        refine x_get (T := TX12) (pc := 38) B 1 oi_94 rfl uw_12 (by decide) rfl tw_1300 rfl dX12_dueIn_38 ?_
        refine x_bipush (v := 14) (pc := 41) B dX12_dueIn_41 rfl ?_
        refine x_iald_c (j := 14) (pc := 43) B ai_95 (by decide) rfl dX12_dueIn_43 ?_
        refine x_iload (pc := 44) B 4 dX12_dueIn_44 rfl ?_
        refine x_isub (pc := 46) B dX12_dueIn_46 ?_
        refine x_iconst (v := 1) (pc := 47) B dX12_dueIn_47 rfl ?_
        refine x_iadd (pc := 48) B dX12_dueIn_48 ?_
        obtain ⟨hk4, h⟩ := ifn h
        refine x_idiv (pc := 49) B dX12_dueIn_49 (nz hk4) ?_
        refine x_istore (lv' := [(5, .int (y1.1 / (((M0.1 95 14) - y1.2.2) + 1))), (0, .ref (ad 94)), (1, .int a1), (2, .int y1.1), (3, .int y1.2.1), (4, .int y1.2.2)]) (pc := 50) B dX12_dueIn_50 (by decide) rfl ?_
        refine x_aload_n (pc := 52) B 1 dX12_dueIn_52 rfl rfl ?_
        refine x_get (T := TX12) (pc := 53) B 1 oi_94 rfl uw_12 (by decide) rfl tw_1300 rfl dX12_dueIn_53 ?_
        refine x_bipush (v := 12) (pc := 56) B dX12_dueIn_56 rfl ?_
        refine x_iald_c (j := 12) (pc := 58) B ai_95 (by decide) rfl dX12_dueIn_58 ?_
        refine x_iload (pc := 59) B 5 dX12_dueIn_59 rfl ?_
        refine x_iadd (pc := 61) B dX12_dueIn_61 ?_
        refine x_iload_n (pc := 62) B 2 dX12_dueIn_62 rfl rfl ?_
        refine jv_k h (fun (u7 : Int32) => XX D ad cI cJ p l e (Rm 0 0) s m args below meth c Q 6 M0 85 [(0, .ref (ad 94)), (1, .int a1), (2, .int y1.1), (4, .int y1.2.2), (5, .int (y1.1 / (((M0.1 95 14) - y1.2.2) + 1)))] [.int u7]) (fun u7 h => ?_) (fun JJ => ?_)
        · refine x_istore_n (lv' := [(3, .int u7), (0, .ref (ad 94)), (1, .int a1), (2, .int y1.1), (4, .int y1.2.2), (5, .int (y1.1 / (((M0.1 95 14) - y1.2.2) + 1)))]) (pc := 85) B dX12_dueIn_85 rfl (by decide) rfl ?_
          refine x_iload_n (pc := 86) B 3 dX12_dueIn_86 rfl rfl ?_
          refine x_iload (pc := 87) B 5 dX12_dueIn_87 rfl ?_
          refine x_isub (pc := 89) B dX12_dueIn_89 ?_
          refine x_istore_n (lv' := [(2, .int (y1.1 - (y1.1 / (((M0.1 95 14) - y1.2.2) + 1)))), (3, .int u7), (0, .ref (ad 94)), (1, .int a1), (4, .int y1.2.2), (5, .int (y1.1 / (((M0.1 95 14) - y1.2.2) + 1)))]) (pc := 90) B dX12_dueIn_90 rfl (by decide) rfl ?_
          refine x_iinc (k := 4) (v := y1.2.2 + 1) (lv' := [(4, .int (y1.2.2 + 1)), (2, .int (y1.1 - (y1.1 / (((M0.1 95 14) - y1.2.2) + 1)))), (3, .int u7), (0, .ref (ad 94)), (1, .int a1), (5, .int (y1.1 / (((M0.1 95 14) - y1.2.2) + 1)))]) (pc := 91) B dX12_dueIn_91 rfl rfl (by decide) rfl ?_
          refine x_goto (tgt := 13) (pc := 94) B dX12_dueIn_94 rfl ?_
          refine x_pick (lv' := [(0, .ref (ad 94)), (1, .int a1), (2, .int (y1.1 - (y1.1 / (((M0.1 95 14) - y1.2.2) + 1)))), (3, .int u7), (4, .int (y1.2.2 + 1))]) [3, 4, 1, 2, 0] rfl ?_
          have z := hback (y1.1 - (y1.1 / (((M0.1 95 14) - y1.2.2) + 1)), u7, y1.2.2 + 1) (Option.some.inj h).symm
          exact z
        · refine x_icmp_ne (tgt := 84) (pc := 63) B dX12_dueIn_63 rfl (fun hc5 => ?_) (fun hc5 => ?_)
          · refine x_iload_n (pc := 84) B 4 dX12_dueIn_84 rfl rfl ?_
            refine x_pick (lv' := [(0, .ref (ad 94)), (1, .int a1), (2, .int y1.1), (4, .int y1.2.2), (5, .int (y1.1 / (((M0.1 95 14) - y1.2.2) + 1)))]) [1, 2, 3, 5, 0] rfl ?_
            have z := JJ y1.2.1 ((zif_f hc5).trans rfl)
            exact z
          · refine x_iload (pc := 66) B 0 dX12_dueIn_66 rfl ?_
            refine x_iload_n (pc := 68) B 3 dX12_dueIn_68 rfl rfl ?_
            refine x_aload_n (pc := 69) B 1 dX12_dueIn_69 rfl rfl ?_
            refine x_get (T := TX12) (pc := 70) B 1 oi_94 rfl uw_12 (by decide) rfl tw_1300 rfl dX12_dueIn_70 ?_
            refine x_bipush (v := 13) (pc := 73) B dX12_dueIn_73 rfl ?_
            refine x_iald_c (j := 13) (pc := 75) B ai_95 (by decide) rfl dX12_dueIn_75 ?_
            refine x_imul (pc := 76) B dX12_dueIn_76 ?_
            refine x_bipush (v := 100) (pc := 77) B dX12_dueIn_77 rfl ?_
            refine x_idiv (pc := 79) B dX12_dueIn_79 (by decide) ?_
            refine x_iadd (pc := 80) B dX12_dueIn_80 ?_
            refine x_goto (tgt := 85) (pc := 81) B dX12_dueIn_81 rfl ?_
            refine x_pick (lv' := [(0, .ref (ad 94)), (1, .int a1), (2, .int y1.1), (4, .int y1.2.2), (5, .int (y1.1 / (((M0.1 95 14) - y1.2.2) + 1)))]) [1, 2, 3, 5, 0] rfl ?_
            have z := JJ ((y1.1 / (((M0.1 95 14) - y1.2.2) + 1)) + ((y1.1 * (M0.1 95 13)) / 100)) ((zif_t hc5).trans rfl)
            exact z
  · refine x_iload_n (pc := 97) B 0 dX12_dueIn_97 rfl rfl ?_
    obtain rfl := Option.some.inj h
    exact x_iret (pc := 98) B hQ dX12_dueIn_98
-- CurrentFarmsModel.due(I)I [94]
abbrev y_Mo_due_94 : MethodName := ⟨"CurrentFarmsModel", "due", "(I)I"⟩
abbrev cX12_due : ByteArray := prog_14_method_90_code
theorem dX12_due_0 : decode cX12_due 0 = .ok (.iload_n 1, 1) := by decide +kernel
theorem dX12_due_1 : decode cX12_due 1 = .ok (.iconst 0, 1) := by decide +kernel
theorem dX12_due_2 : decode cX12_due 2 = .ok (.sipush 240, 3) := by decide +kernel
theorem dX12_due_5 : decode cX12_due 5 = .ok (.invokestatic 84, 3) := by decide +kernel
theorem dX12_due_8 : decode cX12_due 8 = .ok (.ifCond .eq 11, 3) := by decide +kernel
theorem dX12_due_11 : decode cX12_due 11 = .ok (.aload_n 0, 1) := by decide +kernel
theorem dX12_due_12 : decode cX12_due 12 = .ok (.iload_n 1, 1) := by decide +kernel
theorem dX12_due_13 : decode cX12_due 13 = .ok (.invokevirtual 329, 3) := by decide +kernel
theorem dX12_due_16 : decode cX12_due 16 = .ok (.goto 4, 3) := by decide +kernel
theorem dX12_due_19 : decode cX12_due 19 = .ok (.iconst (-1), 1) := by decide +kernel
theorem dX12_due_20 : decode cX12_due 20 = .ok (.ireturn, 1) := by decide +kernel
theorem hd_Mo_due_94 : y_Mo_due_94.cls ≠ "java/lang/invoke/MethodHandle" ∧ y_Mo_due_94.cls ≠ "java/lang/invoke/VarHandle" ∧ (parseMethodDescriptor y_Mo_due_94.desc).map (fun d => d.parameters.length) = some 1 := by decide +kernel
def f_Mo_due_94 (a1 : Int32) (M0 : Mem) : Option (Int32) :=
  (f_Mo_in a1 0 240).bind fun q1 => if q1 then ((f_Mo_dueIn_94 a1 M0).bind fun q3 => some q3) else (some (-1))
set_option maxHeartbeats 4000000 in
set_option maxRecDepth 20000 in
theorem C_Mo_due_94 {D : va_G} {ad adK adV : Nat → Nat} {cI cJ : ClassId} {l : Launch} (a1 : Int32) (M0 : Mem) (o : Int32) (h : f_Mo_due_94 a1 M0 = some o) : Ct D ad adK adV cI cJ l y_Mo_due_94 cX12_due 2 (some .int) 1 25 [.ref (ad 94), .int a1] M0 (some (.int o)) M0 := by
  refine x_start (lv := [(0, .ref (ad 94)), (1, .int a1)]) (own := "CurrentFarmsModel") rfl (by decide) (Nat.le_of_ble_eq_true rfl) rfl ?_
  intro p e s m args below meth c Q hQ B
  unfold f_Mo_due_94 at h
  refine x_iload_n (pc := 0) B 1 dX12_due_0 rfl rfl ?_
  refine x_iconst (v := 0) (pc := 1) B dX12_due_1 rfl ?_
  refine x_sipush (v := 240) (pc := 2) B dX12_due_2 rfl ?_
  obtain ⟨q1, hq1, h⟩ := bnd h
  refine x_callS (rest := []) (st' := [.int (bI q1)]) (pc := 5) B (C_Mo_in a1 0 240 M0 _ hq1) tw_1406 tw_1404 tw_1405 tw_111 hd_Mo_in ⟨Nat.le_of_ble_eq_true rfl, Nat.le_of_ble_eq_true rfl⟩ rfl rfl (Nat.le_of_ble_eq_true rfl) rfl dX12_due_5 ?_
  refine x_if_eq_b (tgt := 19) (pc := 8) B dX12_due_8 rfl (fun hc2 => ?_) (fun hc2 => ?_)
  · have h := iff_ hc2 h
    refine x_iconst (v := (-1)) (pc := 19) B dX12_due_19 rfl ?_
    obtain rfl := Option.some.inj h
    exact x_iret (pc := 20) B hQ dX12_due_20
  · have h := ift hc2 h
    refine x_aload_n (pc := 11) B 0 dX12_due_11 rfl rfl ?_
    refine x_iload_n (pc := 12) B 1 dX12_due_12 rfl rfl ?_
    obtain ⟨q3, hq3, h⟩ := bnd h
    refine x_callV (rest := []) (st' := [.int q3]) (pc := 13) B oi_94 rfl (C_Mo_dueIn_94 a1 M0 _ hq3) tw_1764 tw_1761 tw_1763 tw_91 tw_111 hd_Mo_dueIn_94 ⟨Nat.le_of_ble_eq_true rfl, Nat.le_of_ble_eq_true rfl⟩ rfl rfl (Nat.le_of_ble_eq_true rfl) rfl dX12_due_13 ?_
    refine x_goto (tgt := 20) (pc := 16) B dX12_due_16 rfl ?_
    obtain rfl := Option.some.inj h
    exact x_iret (pc := 20) B hQ dX12_due_20
-- CurrentFarmsModel.cannot()I [94]
abbrev y_Mo_cannot_94 : MethodName := ⟨"CurrentFarmsModel", "cannot", "()I"⟩
abbrev cX12_cannot : ByteArray := prog_14_method_91_code
theorem dX12_cannot_0 : decode cX12_cannot 0 = .ok (.aload_n 0, 1) := by decide +kernel
theorem dX12_cannot_1 : decode cX12_cannot 1 = .ok (.getfield 7, 3) := by decide +kernel
theorem dX12_cannot_4 : decode cX12_cannot 4 = .ok (.bipush 10, 2) := by decide +kernel
theorem dX12_cannot_6 : decode cX12_cannot 6 = .ok (.iaload, 1) := by decide +kernel
theorem dX12_cannot_7 : decode cX12_cannot 7 = .ok (.ifCond .ne 6, 3) := by decide +kernel
theorem dX12_cannot_10 : decode cX12_cannot 10 = .ok (.bipush (-3), 2) := by decide +kernel
theorem dX12_cannot_12 : decode cX12_cannot 12 = .ok (.ireturn, 1) := by decide +kernel
theorem dX12_cannot_13 : decode cX12_cannot 13 = .ok (.aload_n 0, 1) := by decide +kernel
theorem dX12_cannot_14 : decode cX12_cannot 14 = .ok (.getfield 7, 3) := by decide +kernel
theorem dX12_cannot_17 : decode cX12_cannot 17 = .ok (.bipush 15, 2) := by decide +kernel
theorem dX12_cannot_19 : decode cX12_cannot 19 = .ok (.iaload, 1) := by decide +kernel
theorem dX12_cannot_20 : decode cX12_cannot 20 = .ok (.i2l, 1) := by decide +kernel
theorem dX12_cannot_21 : decode cX12_cannot 21 = .ok (.lstore_n 1, 1) := by decide +kernel
theorem dX12_cannot_22 : decode cX12_cannot 22 = .ok (.aload_n 0, 1) := by decide +kernel
theorem dX12_cannot_23 : decode cX12_cannot 23 = .ok (.getfield 7, 3) := by decide +kernel
theorem dX12_cannot_26 : decode cX12_cannot 26 = .ok (.bipush 12, 2) := by decide +kernel
theorem dX12_cannot_28 : decode cX12_cannot 28 = .ok (.iaload, 1) := by decide +kernel
theorem dX12_cannot_29 : decode cX12_cannot 29 = .ok (.istore_n 3, 1) := by decide +kernel
theorem dX12_cannot_30 : decode cX12_cannot 30 = .ok (.iload_n 3, 1) := by decide +kernel
theorem dX12_cannot_31 : decode cX12_cannot 31 = .ok (.aload_n 0, 1) := by decide +kernel
theorem dX12_cannot_32 : decode cX12_cannot 32 = .ok (.getfield 7, 3) := by decide +kernel
theorem dX12_cannot_35 : decode cX12_cannot 35 = .ok (.bipush 12, 2) := by decide +kernel
theorem dX12_cannot_37 : decode cX12_cannot 37 = .ok (.iaload, 1) := by decide +kernel
theorem dX12_cannot_38 : decode cX12_cannot 38 = .ok (.aload_n 0, 1) := by decide +kernel
theorem dX12_cannot_39 : decode cX12_cannot 39 = .ok (.getfield 7, 3) := by decide +kernel
theorem dX12_cannot_42 : decode cX12_cannot 42 = .ok (.bipush 14, 2) := by decide +kernel
theorem dX12_cannot_44 : decode cX12_cannot 44 = .ok (.iaload, 1) := by decide +kernel
theorem dX12_cannot_45 : decode cX12_cannot 45 = .ok (.iadd, 1) := by decide +kernel
theorem dX12_cannot_46 : decode cX12_cannot 46 = .ok (.if_icmp .gt 72, 3) := by decide +kernel
theorem dX12_cannot_49 : decode cX12_cannot 49 = .ok (.iconst 0, 1) := by decide +kernel
theorem dX12_cannot_50 : decode cX12_cannot 50 = .ok (.istore 4, 2) := by decide +kernel
theorem dX12_cannot_52 : decode cX12_cannot 52 = .ok (.iload 4, 2) := by decide +kernel
theorem dX12_cannot_54 : decode cX12_cannot 54 = .ok (.aload_n 0, 1) := by decide +kernel
theorem dX12_cannot_55 : decode cX12_cannot 55 = .ok (.getfield 7, 3) := by decide +kernel
theorem dX12_cannot_58 : decode cX12_cannot 58 = .ok (.iconst 1, 1) := by decide +kernel
theorem dX12_cannot_59 : decode cX12_cannot 59 = .ok (.iaload, 1) := by decide +kernel
theorem dX12_cannot_60 : decode cX12_cannot 60 = .ok (.if_icmp .ge 35, 3) := by decide +kernel
theorem dX12_cannot_63 : decode cX12_cannot 63 = .ok (.iload_n 3, 1) := by decide +kernel
theorem dX12_cannot_64 : decode cX12_cannot 64 = .ok (.bipush 120, 2) := by decide +kernel
theorem dX12_cannot_66 : decode cX12_cannot 66 = .ok (.if_icmp .gt 29, 3) := by decide +kernel
theorem dX12_cannot_69 : decode cX12_cannot 69 = .ok (.lload_n 1, 1) := by decide +kernel
theorem dX12_cannot_70 : decode cX12_cannot 70 = .ok (.aload_n 0, 1) := by decide +kernel
theorem dX12_cannot_71 : decode cX12_cannot 71 = .ok (.getfield 7, 3) := by decide +kernel
theorem dX12_cannot_74 : decode cX12_cannot 74 = .ok (.sipush 3490, 3) := by decide +kernel
theorem dX12_cannot_77 : decode cX12_cannot 77 = .ok (.bipush 121, 2) := by decide +kernel
theorem dX12_cannot_79 : decode cX12_cannot 79 = .ok (.iload 4, 2) := by decide +kernel
theorem dX12_cannot_81 : decode cX12_cannot 81 = .ok (.imul, 1) := by decide +kernel
theorem dX12_cannot_82 : decode cX12_cannot 82 = .ok (.iadd, 1) := by decide +kernel
theorem dX12_cannot_83 : decode cX12_cannot 83 = .ok (.iload_n 3, 1) := by decide +kernel
theorem dX12_cannot_84 : decode cX12_cannot 84 = .ok (.iadd, 1) := by decide +kernel
theorem dX12_cannot_85 : decode cX12_cannot 85 = .ok (.iaload, 1) := by decide +kernel
theorem dX12_cannot_86 : decode cX12_cannot 86 = .ok (.i2l, 1) := by decide +kernel
theorem dX12_cannot_87 : decode cX12_cannot 87 = .ok (.ladd, 1) := by decide +kernel
theorem dX12_cannot_88 : decode cX12_cannot 88 = .ok (.lstore_n 1, 1) := by decide +kernel
theorem dX12_cannot_89 : decode cX12_cannot 89 = .ok (.iinc 4 1, 3) := by decide +kernel
theorem dX12_cannot_92 : decode cX12_cannot 92 = .ok (.goto (-40), 3) := by decide +kernel
theorem dX12_cannot_95 : decode cX12_cannot 95 = .ok (.lload_n 1, 1) := by decide +kernel
theorem dX12_cannot_96 : decode cX12_cannot 96 = .ok (.aload_n 0, 1) := by decide +kernel
theorem dX12_cannot_97 : decode cX12_cannot 97 = .ok (.iload_n 3, 1) := by decide +kernel
theorem dX12_cannot_98 : decode cX12_cannot 98 = .ok (.invokevirtual 329, 3) := by decide +kernel
theorem dX12_cannot_101 : decode cX12_cannot 101 = .ok (.i2l, 1) := by decide +kernel
theorem dX12_cannot_102 : decode cX12_cannot 102 = .ok (.lsub, 1) := by decide +kernel
theorem dX12_cannot_103 : decode cX12_cannot 103 = .ok (.lstore_n 1, 1) := by decide +kernel
theorem dX12_cannot_104 : decode cX12_cannot 104 = .ok (.lload_n 1, 1) := by decide +kernel
theorem dX12_cannot_105 : decode cX12_cannot 105 = .ok (.lconst 0, 1) := by decide +kernel
theorem dX12_cannot_106 : decode cX12_cannot 106 = .ok (.lcmp, 1) := by decide +kernel
theorem dX12_cannot_107 : decode cX12_cannot 107 = .ok (.ifCond .ge 5, 3) := by decide +kernel
theorem dX12_cannot_110 : decode cX12_cannot 110 = .ok (.iload_n 3, 1) := by decide +kernel
theorem dX12_cannot_111 : decode cX12_cannot 111 = .ok (.ireturn, 1) := by decide +kernel
theorem dX12_cannot_112 : decode cX12_cannot 112 = .ok (.iinc 3 1, 3) := by decide +kernel
theorem dX12_cannot_115 : decode cX12_cannot 115 = .ok (.goto (-85), 3) := by decide +kernel
theorem dX12_cannot_118 : decode cX12_cannot 118 = .ok (.bipush (-5), 2) := by decide +kernel
theorem dX12_cannot_120 : decode cX12_cannot 120 = .ok (.ireturn, 1) := by decide +kernel
theorem hd_Mo_cannot_94 : y_Mo_cannot_94.cls ≠ "java/lang/invoke/MethodHandle" ∧ y_Mo_cannot_94.cls ≠ "java/lang/invoke/VarHandle" ∧ (parseMethodDescriptor y_Mo_cannot_94.desc).map (fun d => d.parameters.length) = some 0 := by decide +kernel
def b_Mo_cannot_94_52 (M0 : Mem) (y2 : Int64 × Int32) (y4 : Int64 × Int32) : Option ((Int64 × Int32) ⊕ (Int64)) :=
  if decide (y4.2 < (M0.1 95 1)) then (if decide (y2.2 ≤ 120) then (if inb ((3490 + (121 * y4.2)) + y2.2) 4700 then jv_ (y4.1 + ((M0.1 95 ((3490 + (121 * y4.2)) + y2.2).toNatClampNeg).toInt64) : Int64) fun x8 => some (.inl (x8, y4.2 + 1)) else none) else (some (.inr y4.1))) else (some (.inr y4.1))
def b_Mo_cannot_94_30 (M0 : Mem) (y2 : Int64 × Int32) : Option ((Int64 × Int32) ⊕ ((Unit) ⊕ (Int32))) :=
  if decide (y2.2 ≤ ((M0.1 95 12) + (M0.1 95 14))) then ((itr (b_Mo_cannot_94_52 M0 y2) FU (y2.1, 0)).bind fun q9 => (f_Mo_dueIn_94 y2.2 M0).bind fun q10 => if decide ((lg_cmp (q9 - q10.toInt64) 0) < 0) then (some (.inr (.inr (y2.2)))) else (some (.inl (q9 - q10.toInt64, y2.2 + 1)))) else (some (.inr (.inl ())))
def f_Mo_cannot_94  (M0 : Mem) : Option (Int32) :=
  if decide ((M0.1 95 10) = 0) then (some (-3)) else ((itr (b_Mo_cannot_94_30 M0) FU ((M0.1 95 15).toInt64, M0.1 95 12)).bind fun q12 => (Sum.elim (fun (y13 : Unit) => some (-5)) (fun (y14 : Int32) => some y14)) q12)
set_option maxHeartbeats 4000000 in
set_option maxRecDepth 20000 in
theorem C_Mo_cannot_94 {D : va_G} {ad adK adV : Nat → Nat} {cI cJ : ClassId} {l : Launch}  (M0 : Mem) (o : Int32) (h : f_Mo_cannot_94  M0 = some o) : Ct D ad adK adV cI cJ l y_Mo_cannot_94 cX12_cannot 5 (some .int) 1 25 [.ref (ad 94)] M0 (some (.int o)) M0 := by
  refine x_start (lv := [(0, .ref (ad 94))]) (own := "CurrentFarmsModel") rfl (by decide) (Nat.le_of_ble_eq_true rfl) rfl ?_
  intro p e s m args below meth c Q hQ B
  unfold f_Mo_cannot_94 at h
  refine x_aload_n (pc := 0) B 0 dX12_cannot_0 rfl rfl ?_
  refine x_get (T := TX12) (pc := 1) B 1 oi_94 rfl uw_12 (by decide) rfl tw_1300 rfl dX12_cannot_1 ?_
  refine x_bipush (v := 10) (pc := 4) B dX12_cannot_4 rfl ?_
  refine x_iald_c (j := 10) (pc := 6) B ai_95 (by decide) rfl dX12_cannot_6 ?_
  refine x_if_ne (tgt := 13) (pc := 7) B dX12_cannot_7 rfl (fun hc1 => ?_) (fun hc1 => ?_)
  · have h := iff_ hc1 h
    refine x_aload_n (pc := 13) B 0 dX12_cannot_13 rfl rfl ?_
    refine x_get (T := TX12) (pc := 14) B 1 oi_94 rfl uw_12 (by decide) rfl tw_1300 rfl dX12_cannot_14 ?_
    refine x_bipush (v := 15) (pc := 17) B dX12_cannot_17 rfl ?_
    refine x_iald_c (j := 15) (pc := 19) B ai_95 (by decide) rfl dX12_cannot_19 ?_
    refine x_i2l (pc := 20) B dX12_cannot_20 ?_
    refine x_lstore_n (lv' := [(1, .long ((M0.1 95 15).toInt64)), (0, .ref (ad 94))]) (pc := 21) B dX12_cannot_21 rfl (by decide) rfl ?_
    refine x_aload_n (pc := 22) B 1 dX12_cannot_22 rfl rfl ?_
    refine x_get (T := TX12) (pc := 23) B 1 oi_94 rfl uw_12 (by decide) rfl tw_1300 rfl dX12_cannot_23 ?_
    refine x_bipush (v := 12) (pc := 26) B dX12_cannot_26 rfl ?_
    refine x_iald_c (j := 12) (pc := 28) B ai_95 (by decide) rfl dX12_cannot_28 ?_
    refine x_istore_n (lv' := [(3, .int (M0.1 95 12)), (1, .long ((M0.1 95 15).toInt64)), (0, .ref (ad 94))]) (pc := 29) B dX12_cannot_29 rfl (by decide) rfl ?_
    refine x_pick (lv' := [(0, .ref (ad 94)), (1, .long ((M0.1 95 15).toInt64)), (3, .int (M0.1 95 12))]) [2, 1, 0] rfl ?_
    obtain ⟨q12, hq12, h⟩ := bnd h
    refine x_loop (Head := fun (y2 : Int64 × Int32) => XX D ad cI cJ p l e (Rm 1 25) s m args below meth c Q 5 M0 30 [(0, .ref (ad 94)), (1, .long y2.1), (3, .int y2.2)] []) (Ex := (Sum.elim (fun (y13 : Unit) => XX D ad cI cJ p l e (Rm 1 25) s m args below meth c Q 5 M0 118 [] []) (fun (y14 : Int32) => XX D ad cI cJ p l e (Rm 1 25) s m args below meth c Q 5 M0 110 [(3, .int y14)] []))) (fun y2 r h hback hexit => ?_) FU _ q12 hq12 ?_
    · unfold b_Mo_cannot_94_30 at h
      refine x_iload_n (pc := 30) B 2 dX12_cannot_30 rfl rfl ?_
      refine x_aload_n (pc := 31) B 0 dX12_cannot_31 rfl rfl ?_
      refine x_get (T := TX12) (pc := 32) B 1 oi_94 rfl uw_12 (by decide) rfl tw_1300 rfl dX12_cannot_32 ?_
      refine x_bipush (v := 12) (pc := 35) B dX12_cannot_35 rfl ?_
      refine x_iald_c (j := 12) (pc := 37) B ai_95 (by decide) rfl dX12_cannot_37 ?_
      refine x_aload_n (pc := 38) B 0 dX12_cannot_38 rfl rfl ?_
      refine x_get (T := TX12) (pc := 39) B 1 oi_94 rfl uw_12 (by decide) rfl tw_1300 rfl dX12_cannot_39 ?_
      refine x_bipush (v := 14) (pc := 42) B dX12_cannot_42 rfl ?_
      refine x_iald_c (j := 14) (pc := 44) B ai_95 (by decide) rfl dX12_cannot_44 ?_
      refine x_iadd (pc := 45) B dX12_cannot_45 ?_
      refine x_icmp_gt (tgt := 118) (pc := 46) B dX12_cannot_46 rfl (fun hc3 => ?_) (fun hc3 => ?_)
      · have h := iff_ hc3 h
        refine x_pick (lv' := []) [] rfl ?_
        have z := hexit (.inl ()) (Option.some.inj h).symm
        exact z
      · have h := ift hc3 h
        refine x_iconst (v := 0) (pc := 49) B dX12_cannot_49 rfl ?_
        refine x_istore (lv' := [(4, .int 0), (0, .ref (ad 94)), (1, .long y2.1), (3, .int y2.2)]) (pc := 50) B dX12_cannot_50 (by decide) rfl ?_
        refine x_pick (lv' := [(0, .ref (ad 94)), (1, .long y2.1), (3, .int y2.2), (4, .int 0)]) [1, 2, 3, 0] rfl ?_
        obtain ⟨q9, hq9, h⟩ := bnd h
        refine x_loop (Head := fun (y4 : Int64 × Int32) => XX D ad cI cJ p l e (Rm 1 25) s m args below meth c Q 5 M0 52 [(0, .ref (ad 94)), (1, .long y4.1), (3, .int y2.2), (4, .int y4.2)] []) (Ex := fun (q9 : Int64) => XX D ad cI cJ p l e (Rm 1 25) s m args below meth c Q 5 M0 95 [(0, .ref (ad 94)), (1, .long q9), (3, .int y2.2)] []) (fun y4 r h hback hexit => ?_) FU _ q9 hq9 ?_
        · unfold b_Mo_cannot_94_52 at h
          refine x_iload (pc := 52) B 3 dX12_cannot_52 rfl ?_
          refine x_aload_n (pc := 54) B 0 dX12_cannot_54 rfl rfl ?_
          refine x_get (T := TX12) (pc := 55) B 1 oi_94 rfl uw_12 (by decide) rfl tw_1300 rfl dX12_cannot_55 ?_
          refine x_iconst (v := 1) (pc := 58) B dX12_cannot_58 rfl ?_
          refine x_iald_c (j := 1) (pc := 59) B ai_95 (by decide) rfl dX12_cannot_59 ?_
          refine x_icmp_ge (tgt := 95) (pc := 60) B dX12_cannot_60 rfl (fun hc5 => ?_) (fun hc5 => ?_)
          · have h := iff_ hc5 h
            refine x_pick (lv' := [(0, .ref (ad 94)), (1, .long y4.1), (3, .int y2.2)]) [0, 1, 2] rfl ?_
            have z := hexit y4.1 (Option.some.inj h).symm
            exact z
          · have h := ift hc5 h
            refine x_iload_n (pc := 63) B 2 dX12_cannot_63 rfl rfl ?_
            refine x_bipush (v := 120) (pc := 64) B dX12_cannot_64 rfl ?_
            refine x_icmp_gt (tgt := 95) (pc := 66) B dX12_cannot_66 rfl (fun hc6 => ?_) (fun hc6 => ?_)
            · have h := iff_ hc6 h
              refine x_pick (lv' := [(0, .ref (ad 94)), (1, .long y4.1), (3, .int y2.2)]) [0, 1, 2] rfl ?_
              have z := hexit y4.1 (Option.some.inj h).symm
              exact z
            · have h := ift hc6 h
              refine x_lload_n (pc := 69) B 1 dX12_cannot_69 rfl rfl ?_
              refine x_aload_n (pc := 70) B 0 dX12_cannot_70 rfl rfl ?_
              refine x_get (T := TX12) (pc := 71) B 1 oi_94 rfl uw_12 (by decide) rfl tw_1300 rfl dX12_cannot_71 ?_
              refine x_sipush (v := 3490) (pc := 74) B dX12_cannot_74 rfl ?_
              refine x_bipush (v := 121) (pc := 77) B dX12_cannot_77 rfl ?_
              refine x_iload (pc := 79) B 3 dX12_cannot_79 rfl ?_
              refine x_imul (pc := 81) B dX12_cannot_81 ?_
              refine x_iadd (pc := 82) B dX12_cannot_82 ?_
              refine x_iload_n (pc := 83) B 2 dX12_cannot_83 rfl rfl ?_
              refine x_iadd (pc := 84) B dX12_cannot_84 ?_
              obtain ⟨hk7, h⟩ := ifn h
              refine x_iald (pc := 85) B ai_95 hk7 dX12_cannot_85 ?_
              refine x_i2l (pc := 86) B dX12_cannot_86 ?_
              refine x_ladd (pc := 87) B dX12_cannot_87 ?_
              refine jv_m (P := fun (x8 : Int64) => XX D ad cI cJ p l e (Rm 1 25) s m args below meth c Q 5 M0 88 [(0, .ref (ad 94)), (1, .long y4.1), (3, .int y2.2), (4, .int y4.2)] [.long x8]) h (fun x8 h => ?_)
              refine x_lstore_n (lv' := [(1, .long x8), (0, .ref (ad 94)), (3, .int y2.2), (4, .int y4.2)]) (pc := 88) B dX12_cannot_88 rfl (by decide) rfl ?_
              refine x_iinc (k := 3) (v := y4.2 + 1) (lv' := [(4, .int (y4.2 + 1)), (1, .long x8), (0, .ref (ad 94)), (3, .int y2.2)]) (pc := 89) B dX12_cannot_89 rfl rfl (by decide) rfl ?_
              refine x_goto (tgt := 52) (pc := 92) B dX12_cannot_92 rfl ?_
              refine x_pick (lv' := [(0, .ref (ad 94)), (1, .long x8), (3, .int y2.2), (4, .int (y4.2 + 1))]) [2, 1, 3, 0] rfl ?_
              have z := hback (x8, y4.2 + 1) (Option.some.inj h).symm
              exact z
        · refine x_lload_n (pc := 95) B 1 dX12_cannot_95 rfl rfl ?_
          refine x_aload_n (pc := 96) B 0 dX12_cannot_96 rfl rfl ?_
          refine x_iload_n (pc := 97) B 2 dX12_cannot_97 rfl rfl ?_
          obtain ⟨q10, hq10, h⟩ := bnd h
          refine x_callV (rest := [.long q9]) (st' := [.int q10, .long q9]) (pc := 98) B oi_94 rfl (C_Mo_dueIn_94 y2.2 M0 _ hq10) tw_1764 tw_1761 tw_1763 tw_91 tw_111 hd_Mo_dueIn_94 ⟨Nat.le_of_ble_eq_true rfl, Nat.le_of_ble_eq_true rfl⟩ rfl rfl (Nat.le_of_ble_eq_true rfl) rfl dX12_cannot_98 ?_
          refine x_i2l (pc := 101) B dX12_cannot_101 ?_
          refine x_lsub (pc := 102) B dX12_cannot_102 ?_
          refine x_lstore_n (lv' := [(1, .long (q9 - q10.toInt64)), (0, .ref (ad 94)), (3, .int y2.2)]) (pc := 103) B dX12_cannot_103 rfl (by decide) rfl ?_
          refine x_lload_n (pc := 104) B 0 dX12_cannot_104 rfl rfl ?_
          refine x_lconst (v := 0) (pc := 105) B dX12_cannot_105 rfl ?_
          refine x_lcmp (pc := 106) B dX12_cannot_106 ?_
          refine x_if_ge (tgt := 112) (pc := 107) B dX12_cannot_107 rfl (fun hc11 => ?_) (fun hc11 => ?_)
          · have h := iff_ hc11 h
            refine x_iinc (k := 2) (v := y2.2 + 1) (lv' := [(3, .int (y2.2 + 1)), (1, .long (q9 - q10.toInt64)), (0, .ref (ad 94))]) (pc := 112) B dX12_cannot_112 rfl rfl (by decide) rfl ?_
            refine x_goto (tgt := 30) (pc := 115) B dX12_cannot_115 rfl ?_
            refine x_pick (lv' := [(0, .ref (ad 94)), (1, .long (q9 - q10.toInt64)), (3, .int (y2.2 + 1))]) [2, 1, 0] rfl ?_
            have z := hback (q9 - q10.toInt64, y2.2 + 1) (Option.some.inj h).symm
            exact z
          · have h := ift hc11 h
            refine x_pick (lv' := [(3, .int y2.2)]) [2] rfl ?_
            have z := hexit (.inr (y2.2)) (Option.some.inj h).symm
            exact z
    · rcases q12 with y13 | rest0_14
      · have h := selL h
        refine x_bipush (v := (-5)) (pc := 118) B dX12_cannot_118 rfl ?_
        obtain rfl := Option.some.inj h
        exact x_iret (pc := 120) B hQ dX12_cannot_120
      · have h := selR h
        obtain ⟨y14, rfl⟩ : ∃ z_, z_ = rest0_14 := ⟨_, rfl⟩
        refine x_iload_n (pc := 110) B 0 dX12_cannot_110 rfl rfl ?_
        obtain rfl := Option.some.inj h
        exact x_iret (pc := 111) B hQ dX12_cannot_111
  · have h := ift hc1 h
    refine x_bipush (v := (-3)) (pc := 10) B dX12_cannot_10 rfl ?_
    obtain rfl := Option.some.inj h
    exact x_iret (pc := 12) B hQ dX12_cannot_12
-- CurrentFarmsModel.storm(II)I [94]
abbrev y_Mo_storm_94 : MethodName := ⟨"CurrentFarmsModel", "storm", "(II)I"⟩
abbrev cX12_storm : ByteArray := prog_14_method_92_code
theorem dX12_storm_0 : decode cX12_storm 0 = .ok (.iload_n 1, 1) := by decide +kernel
theorem dX12_storm_1 : decode cX12_storm 1 = .ok (.invokestatic 88, 3) := by decide +kernel
theorem dX12_storm_4 : decode cX12_storm 4 = .ok (.ifCond .ne 5, 3) := by decide +kernel
theorem dX12_storm_7 : decode cX12_storm 7 = .ok (.iconst (-1), 1) := by decide +kernel
theorem dX12_storm_8 : decode cX12_storm 8 = .ok (.ireturn, 1) := by decide +kernel
theorem dX12_storm_9 : decode cX12_storm 9 = .ok (.iload_n 2, 1) := by decide +kernel
theorem dX12_storm_10 : decode cX12_storm 10 = .ok (.iconst 1, 1) := by decide +kernel
theorem dX12_storm_11 : decode cX12_storm 11 = .ok (.bipush 20, 2) := by decide +kernel
theorem dX12_storm_13 : decode cX12_storm 13 = .ok (.invokestatic 84, 3) := by decide +kernel
theorem dX12_storm_16 : decode cX12_storm 16 = .ok (.ifCond .ne 6, 3) := by decide +kernel
theorem dX12_storm_19 : decode cX12_storm 19 = .ok (.bipush (-2), 2) := by decide +kernel
theorem dX12_storm_21 : decode cX12_storm 21 = .ok (.ireturn, 1) := by decide +kernel
theorem dX12_storm_22 : decode cX12_storm 22 = .ok (.aload_n 0, 1) := by decide +kernel
theorem dX12_storm_23 : decode cX12_storm 23 = .ok (.getfield 7, 3) := by decide +kernel
theorem dX12_storm_26 : decode cX12_storm 26 = .ok (.bipush 116, 2) := by decide +kernel
theorem dX12_storm_28 : decode cX12_storm 28 = .ok (.iload_n 1, 1) := by decide +kernel
theorem dX12_storm_29 : decode cX12_storm 29 = .ok (.iadd, 1) := by decide +kernel
theorem dX12_storm_30 : decode cX12_storm 30 = .ok (.iaload, 1) := by decide +kernel
theorem dX12_storm_31 : decode cX12_storm 31 = .ok (.iconst (-1), 1) := by decide +kernel
theorem dX12_storm_32 : decode cX12_storm 32 = .ok (.if_icmp .eq 7, 3) := by decide +kernel
theorem dX12_storm_35 : decode cX12_storm 35 = .ok (.iconst 1, 1) := by decide +kernel
theorem dX12_storm_36 : decode cX12_storm 36 = .ok (.goto 4, 3) := by decide +kernel
theorem dX12_storm_39 : decode cX12_storm 39 = .ok (.iconst 0, 1) := by decide +kernel
theorem dX12_storm_40 : decode cX12_storm 40 = .ok (.istore_n 3, 1) := by decide +kernel
theorem dX12_storm_41 : decode cX12_storm 41 = .ok (.iconst 0, 1) := by decide +kernel
theorem dX12_storm_42 : decode cX12_storm 42 = .ok (.istore 4, 2) := by decide +kernel
theorem dX12_storm_44 : decode cX12_storm 44 = .ok (.iload 4, 2) := by decide +kernel
theorem dX12_storm_46 : decode cX12_storm 46 = .ok (.aload_n 0, 1) := by decide +kernel
theorem dX12_storm_47 : decode cX12_storm 47 = .ok (.getfield 7, 3) := by decide +kernel
theorem dX12_storm_50 : decode cX12_storm 50 = .ok (.bipush 6, 2) := by decide +kernel
theorem dX12_storm_52 : decode cX12_storm 52 = .ok (.iaload, 1) := by decide +kernel
theorem dX12_storm_53 : decode cX12_storm 53 = .ok (.if_icmp .ge 34, 3) := by decide +kernel
theorem dX12_storm_56 : decode cX12_storm 56 = .ok (.iload_n 3, 1) := by decide +kernel
theorem dX12_storm_57 : decode cX12_storm 57 = .ok (.ifCond .eq 22, 3) := by decide +kernel
theorem dX12_storm_60 : decode cX12_storm 60 = .ok (.aload_n 0, 1) := by decide +kernel
theorem dX12_storm_61 : decode cX12_storm 61 = .ok (.getfield 7, 3) := by decide +kernel
theorem dX12_storm_64 : decode cX12_storm 64 = .ok (.sipush 2260, 3) := by decide +kernel
theorem dX12_storm_67 : decode cX12_storm 67 = .ok (.iload 4, 2) := by decide +kernel
theorem dX12_storm_69 : decode cX12_storm 69 = .ok (.iadd, 1) := by decide +kernel
theorem dX12_storm_70 : decode cX12_storm 70 = .ok (.iaload, 1) := by decide +kernel
theorem dX12_storm_71 : decode cX12_storm 71 = .ok (.iload_n 1, 1) := by decide +kernel
theorem dX12_storm_72 : decode cX12_storm 72 = .ok (.if_icmp .eq 7, 3) := by decide +kernel
theorem dX12_storm_75 : decode cX12_storm 75 = .ok (.iconst 1, 1) := by decide +kernel
theorem dX12_storm_76 : decode cX12_storm 76 = .ok (.goto 4, 3) := by decide +kernel
theorem dX12_storm_79 : decode cX12_storm 79 = .ok (.iconst 0, 1) := by decide +kernel
theorem dX12_storm_80 : decode cX12_storm 80 = .ok (.istore_n 3, 1) := by decide +kernel
theorem dX12_storm_81 : decode cX12_storm 81 = .ok (.iinc 4 1, 3) := by decide +kernel
theorem dX12_storm_84 : decode cX12_storm 84 = .ok (.goto (-40), 3) := by decide +kernel
theorem dX12_storm_87 : decode cX12_storm 87 = .ok (.iload_n 3, 1) := by decide +kernel
theorem dX12_storm_88 : decode cX12_storm 88 = .ok (.ifCond .ne 6, 3) := by decide +kernel
theorem dX12_storm_91 : decode cX12_storm 91 = .ok (.bipush (-3), 2) := by decide +kernel
theorem dX12_storm_93 : decode cX12_storm 93 = .ok (.ireturn, 1) := by decide +kernel
theorem dX12_storm_94 : decode cX12_storm 94 = .ok (.aload_n 0, 1) := by decide +kernel
theorem dX12_storm_95 : decode cX12_storm 95 = .ok (.getfield 7, 3) := by decide +kernel
theorem dX12_storm_98 : decode cX12_storm 98 = .ok (.bipush 6, 2) := by decide +kernel
theorem dX12_storm_100 : decode cX12_storm 100 = .ok (.iaload, 1) := by decide +kernel
theorem dX12_storm_101 : decode cX12_storm 101 = .ok (.bipush 6, 2) := by decide +kernel
theorem dX12_storm_103 : decode cX12_storm 103 = .ok (.if_icmp .ne 6, 3) := by decide +kernel
theorem dX12_storm_106 : decode cX12_storm 106 = .ok (.bipush (-4), 2) := by decide +kernel
theorem dX12_storm_108 : decode cX12_storm 108 = .ok (.ireturn, 1) := by decide +kernel
theorem dX12_storm_109 : decode cX12_storm 109 = .ok (.aload_n 0, 1) := by decide +kernel
theorem dX12_storm_110 : decode cX12_storm 110 = .ok (.getfield 7, 3) := by decide +kernel
theorem dX12_storm_113 : decode cX12_storm 113 = .ok (.sipush 2260, 3) := by decide +kernel
theorem dX12_storm_116 : decode cX12_storm 116 = .ok (.aload_n 0, 1) := by decide +kernel
theorem dX12_storm_117 : decode cX12_storm 117 = .ok (.getfield 7, 3) := by decide +kernel
theorem dX12_storm_120 : decode cX12_storm 120 = .ok (.bipush 6, 2) := by decide +kernel
theorem dX12_storm_122 : decode cX12_storm 122 = .ok (.iaload, 1) := by decide +kernel
theorem dX12_storm_123 : decode cX12_storm 123 = .ok (.iadd, 1) := by decide +kernel
theorem dX12_storm_124 : decode cX12_storm 124 = .ok (.iload_n 1, 1) := by decide +kernel
theorem dX12_storm_125 : decode cX12_storm 125 = .ok (.iastore, 1) := by decide +kernel
theorem dX12_storm_126 : decode cX12_storm 126 = .ok (.aload_n 0, 1) := by decide +kernel
theorem dX12_storm_127 : decode cX12_storm 127 = .ok (.getfield 7, 3) := by decide +kernel
theorem dX12_storm_130 : decode cX12_storm 130 = .ok (.sipush 2270, 3) := by decide +kernel
theorem dX12_storm_133 : decode cX12_storm 133 = .ok (.aload_n 0, 1) := by decide +kernel
theorem dX12_storm_134 : decode cX12_storm 134 = .ok (.getfield 7, 3) := by decide +kernel
theorem dX12_storm_137 : decode cX12_storm 137 = .ok (.bipush 6, 2) := by decide +kernel
theorem dX12_storm_139 : decode cX12_storm 139 = .ok (.iaload, 1) := by decide +kernel
theorem dX12_storm_140 : decode cX12_storm 140 = .ok (.iadd, 1) := by decide +kernel
theorem dX12_storm_141 : decode cX12_storm 141 = .ok (.iload_n 2, 1) := by decide +kernel
theorem dX12_storm_142 : decode cX12_storm 142 = .ok (.iastore, 1) := by decide +kernel
theorem dX12_storm_143 : decode cX12_storm 143 = .ok (.aload_n 0, 1) := by decide +kernel
theorem dX12_storm_144 : decode cX12_storm 144 = .ok (.getfield 7, 3) := by decide +kernel
theorem dX12_storm_147 : decode cX12_storm 147 = .ok (.bipush 6, 2) := by decide +kernel
theorem dX12_storm_149 : decode cX12_storm 149 = .ok (.dup2, 1) := by decide +kernel
theorem dX12_storm_150 : decode cX12_storm 150 = .ok (.iaload, 1) := by decide +kernel
theorem dX12_storm_151 : decode cX12_storm 151 = .ok (.iconst 1, 1) := by decide +kernel
theorem dX12_storm_152 : decode cX12_storm 152 = .ok (.iadd, 1) := by decide +kernel
theorem dX12_storm_153 : decode cX12_storm 153 = .ok (.iastore, 1) := by decide +kernel
theorem dX12_storm_154 : decode cX12_storm 154 = .ok (.aload_n 0, 1) := by decide +kernel
theorem dX12_storm_155 : decode cX12_storm 155 = .ok (.getfield 7, 3) := by decide +kernel
theorem dX12_storm_158 : decode cX12_storm 158 = .ok (.bipush 6, 2) := by decide +kernel
theorem dX12_storm_160 : decode cX12_storm 160 = .ok (.iaload, 1) := by decide +kernel
theorem dX12_storm_161 : decode cX12_storm 161 = .ok (.ireturn, 1) := by decide +kernel
theorem hd_Mo_storm_94 : y_Mo_storm_94.cls ≠ "java/lang/invoke/MethodHandle" ∧ y_Mo_storm_94.cls ≠ "java/lang/invoke/VarHandle" ∧ (parseMethodDescriptor y_Mo_storm_94.desc).map (fun d => d.parameters.length) = some 2 := by decide +kernel
def b_Mo_storm_94_44 (a1 : Int32) (M0 : Mem) (y9 : Bool × Int32) : Option ((Bool × Int32) ⊕ (Bool)) :=
  if decide (y9.2 < (M0.1 95 6)) then (if y9.1 then (if inb (2260 + y9.2) 4700 then if decide ((M0.1 95 (2260 + y9.2).toNatClampNeg) = a1) then (some (.inl (false, y9.2 + 1))) else (some (.inl (true, y9.2 + 1))) else none) else (some (.inl (false, y9.2 + 1)))) else (some (.inr y9.1))
def f_Mo_storm_94 (a1 : Int32) (a2 : Int32) (M0 : Mem) : Option (Int32 × Mem) :=
  (f_Mo_isCell a1).bind fun q1 => if q1 then ((f_Mo_in a2 1 20).bind fun q3 => if q3 then (if inb (116 + a1) 4700 then jv_ ((!(decide ((M0.1 95 (116 + a1).toNatClampNeg) = (-1)))) : Bool) fun u8 => (itr (b_Mo_storm_94_44 a1 M0) FU (u8, 0)).bind fun q14 => if q14 then (if decide ((M0.1 95 6) = 6) then (some ((-4), M0)) else (if inb (2260 + (M0.1 95 6)) 4700 then jv_ (wI M0 95 (2260 + (M0.1 95 6)).toNatClampNeg a1) fun M18 => if inb (2270 + (M18.1 95 6)) 4700 then jv_ (wI M18 95 (2270 + (M18.1 95 6)).toNatClampNeg a2) fun M20 => jv_ (wI M20 95 6 ((M20.1 95 6) + 1)) fun M21 => some (M21.1 95 6, M21) else none else none)) else (some ((-3), M0)) else none) else (some ((-2), M0))) else (some ((-1), M0))
set_option maxHeartbeats 4000000 in
set_option maxRecDepth 20000 in
theorem C_Mo_storm_94 {D : va_G} {ad adK adV : Nat → Nat} {cI cJ : ClassId} {l : Launch} (a1 : Int32) (a2 : Int32) (M0 : Mem) (o : Int32 × Mem) (h : f_Mo_storm_94 a1 a2 M0 = some o) : Ct D ad adK adV cI cJ l y_Mo_storm_94 cX12_storm 5 (some .int) 2 42 [.ref (ad 94), .int a1, .int a2] M0 (some (.int o.1)) o.2 := by
  refine x_start (lv := [(0, .ref (ad 94)), (1, .int a1), (2, .int a2)]) (own := "CurrentFarmsModel") rfl (by decide) (Nat.le_of_ble_eq_true rfl) rfl ?_
  intro p e s m args below meth c Q hQ B
  unfold f_Mo_storm_94 at h
  refine x_iload_n (pc := 0) B 1 dX12_storm_0 rfl rfl ?_
  obtain ⟨q1, hq1, h⟩ := bnd h
  refine x_callS (rest := []) (st' := [.int (bI q1)]) (pc := 1) B (C_Mo_isCell a1 M0 _ hq1) tw_1403 tw_1401 tw_1402 tw_111 hd_Mo_isCell ⟨Nat.le_of_ble_eq_true rfl, Nat.le_of_ble_eq_true rfl⟩ rfl rfl (Nat.le_of_ble_eq_true rfl) rfl dX12_storm_1 ?_
  refine x_if_ne_b (tgt := 9) (pc := 4) B dX12_storm_4 rfl (fun hc2 => ?_) (fun hc2 => ?_)
  · have h := ift hc2 h
    refine x_iload_n (pc := 9) B 2 dX12_storm_9 rfl rfl ?_
    refine x_iconst (v := 1) (pc := 10) B dX12_storm_10 rfl ?_
    refine x_bipush (v := 20) (pc := 11) B dX12_storm_11 rfl ?_
    obtain ⟨q3, hq3, h⟩ := bnd h
    refine x_callS (rest := []) (st' := [.int (bI q3)]) (pc := 13) B (C_Mo_in a2 1 20 M0 _ hq3) tw_1406 tw_1404 tw_1405 tw_111 hd_Mo_in ⟨Nat.le_of_ble_eq_true rfl, Nat.le_of_ble_eq_true rfl⟩ rfl rfl (Nat.le_of_ble_eq_true rfl) rfl dX12_storm_13 ?_
    refine x_if_ne_b (tgt := 22) (pc := 16) B dX12_storm_16 rfl (fun hc4 => ?_) (fun hc4 => ?_)
    · have h := ift hc4 h
      refine x_aload_n (pc := 22) B 0 dX12_storm_22 rfl rfl ?_
      refine x_get (T := TX12) (pc := 23) B 1 oi_94 rfl uw_12 (by decide) rfl tw_1300 rfl dX12_storm_23 ?_
      refine x_bipush (v := 116) (pc := 26) B dX12_storm_26 rfl ?_
      refine x_iload_n (pc := 28) B 1 dX12_storm_28 rfl rfl ?_
      refine x_iadd (pc := 29) B dX12_storm_29 ?_
      obtain ⟨hk5, h⟩ := ifn h
      refine x_iald (pc := 30) B ai_95 hk5 dX12_storm_30 ?_
      refine x_iconst (v := (-1)) (pc := 31) B dX12_storm_31 rfl ?_
      refine jv_k h (fun (u8 : Bool) => XX D ad cI cJ p l e (Rm 2 42) s m args below meth c Q 5 M0 40 [(0, .ref (ad 94)), (1, .int a1), (2, .int a2)] [.int (bI u8)]) (fun u8 h => ?_) (fun JJ => ?_)
      · refine x_istore_n (lv' := [(3, .int (bI u8)), (0, .ref (ad 94)), (1, .int a1), (2, .int a2)]) (pc := 40) B dX12_storm_40 rfl (by decide) rfl ?_
        refine x_iconst (v := 0) (pc := 41) B dX12_storm_41 rfl ?_
        refine x_istore (lv' := [(4, .int 0), (3, .int (bI u8)), (0, .ref (ad 94)), (1, .int a1), (2, .int a2)]) (pc := 42) B dX12_storm_42 (by decide) rfl ?_
        refine x_pick (lv' := [(0, .ref (ad 94)), (1, .int a1), (2, .int a2), (3, .int (bI u8)), (4, .int 0)]) [2, 3, 4, 1, 0] rfl ?_
        obtain ⟨q14, hq14, h⟩ := bnd h
        refine x_loop (Head := fun (y9 : Bool × Int32) => XX D ad cI cJ p l e (Rm 2 42) s m args below meth c Q 5 M0 44 [(0, .ref (ad 94)), (1, .int a1), (2, .int a2), (3, .int (bI y9.1)), (4, .int y9.2)] []) (Ex := fun (q14 : Bool) => XX D ad cI cJ p l e (Rm 2 42) s m args below meth c Q 5 M0 87 [(0, .ref (ad 94)), (1, .int a1), (2, .int a2), (3, .int (bI q14))] []) (fun y9 r h hback hexit => ?_) FU _ q14 hq14 ?_
        · unfold b_Mo_storm_94_44 at h
          refine x_iload (pc := 44) B 4 dX12_storm_44 rfl ?_
          refine x_aload_n (pc := 46) B 0 dX12_storm_46 rfl rfl ?_
          refine x_get (T := TX12) (pc := 47) B 1 oi_94 rfl uw_12 (by decide) rfl tw_1300 rfl dX12_storm_47 ?_
          refine x_bipush (v := 6) (pc := 50) B dX12_storm_50 rfl ?_
          refine x_iald_c (j := 6) (pc := 52) B ai_95 (by decide) rfl dX12_storm_52 ?_
          refine x_icmp_ge (tgt := 87) (pc := 53) B dX12_storm_53 rfl (fun hc10 => ?_) (fun hc10 => ?_)
          · have h := iff_ hc10 h
            refine x_pick (lv' := [(0, .ref (ad 94)), (1, .int a1), (2, .int a2), (3, .int (bI y9.1))]) [0, 1, 2, 3] rfl ?_
            have z := hexit y9.1 (Option.some.inj h).symm
            exact z
          · have h := ift hc10 h
            refine x_iload_n (pc := 56) B 3 dX12_storm_56 rfl rfl ?_
            refine x_if_eq_b (tgt := 79) (pc := 57) B dX12_storm_57 rfl (fun hc11 => ?_) (fun hc11 => ?_)
            · have h := iff_ hc11 h
              refine x_iconst (v := 0) (pc := 79) B dX12_storm_79 rfl ?_
              refine x_istore_n (lv' := [(3, .int 0), (0, .ref (ad 94)), (1, .int a1), (2, .int a2), (4, .int y9.2)]) (pc := 80) B dX12_storm_80 rfl (by decide) rfl ?_
              refine x_iinc (k := 4) (v := y9.2 + 1) (lv' := [(4, .int (y9.2 + 1)), (3, .int 0), (0, .ref (ad 94)), (1, .int a1), (2, .int a2)]) (pc := 81) B dX12_storm_81 rfl rfl (by decide) rfl ?_
              refine x_goto (tgt := 44) (pc := 84) B dX12_storm_84 rfl ?_
              refine x_pick (lv' := [(0, .ref (ad 94)), (1, .int a1), (2, .int a2), (3, .int 0), (4, .int (y9.2 + 1))]) [2, 3, 4, 1, 0] rfl ?_
              have z := hback (false, y9.2 + 1) (Option.some.inj h).symm
              exact z
            · have h := ift hc11 h
              refine x_aload_n (pc := 60) B 0 dX12_storm_60 rfl rfl ?_
              refine x_get (T := TX12) (pc := 61) B 1 oi_94 rfl uw_12 (by decide) rfl tw_1300 rfl dX12_storm_61 ?_
              refine x_sipush (v := 2260) (pc := 64) B dX12_storm_64 rfl ?_
              refine x_iload (pc := 67) B 4 dX12_storm_67 rfl ?_
              refine x_iadd (pc := 69) B dX12_storm_69 ?_
              obtain ⟨hk12, h⟩ := ifn h
              refine x_iald (pc := 70) B ai_95 hk12 dX12_storm_70 ?_
              refine x_iload_n (pc := 71) B 1 dX12_storm_71 rfl rfl ?_
              refine x_icmp_eq (tgt := 79) (pc := 72) B dX12_storm_72 rfl (fun hc13 => ?_) (fun hc13 => ?_)
              · have h := ift hc13 h
                refine x_iconst (v := 0) (pc := 79) B dX12_storm_79 rfl ?_
                refine x_istore_n (lv' := [(3, .int 0), (0, .ref (ad 94)), (1, .int a1), (2, .int a2), (4, .int y9.2)]) (pc := 80) B dX12_storm_80 rfl (by decide) rfl ?_
                refine x_iinc (k := 4) (v := y9.2 + 1) (lv' := [(4, .int (y9.2 + 1)), (3, .int 0), (0, .ref (ad 94)), (1, .int a1), (2, .int a2)]) (pc := 81) B dX12_storm_81 rfl rfl (by decide) rfl ?_
                refine x_goto (tgt := 44) (pc := 84) B dX12_storm_84 rfl ?_
                refine x_pick (lv' := [(0, .ref (ad 94)), (1, .int a1), (2, .int a2), (3, .int 0), (4, .int (y9.2 + 1))]) [2, 3, 4, 1, 0] rfl ?_
                have z := hback (false, y9.2 + 1) (Option.some.inj h).symm
                exact z
              · have h := iff_ hc13 h
                refine x_iconst (v := 1) (pc := 75) B dX12_storm_75 rfl ?_
                refine x_goto (tgt := 80) (pc := 76) B dX12_storm_76 rfl ?_
                refine x_istore_n (lv' := [(3, .int 1), (0, .ref (ad 94)), (1, .int a1), (2, .int a2), (4, .int y9.2)]) (pc := 80) B dX12_storm_80 rfl (by decide) rfl ?_
                refine x_iinc (k := 4) (v := y9.2 + 1) (lv' := [(4, .int (y9.2 + 1)), (3, .int 1), (0, .ref (ad 94)), (1, .int a1), (2, .int a2)]) (pc := 81) B dX12_storm_81 rfl rfl (by decide) rfl ?_
                refine x_goto (tgt := 44) (pc := 84) B dX12_storm_84 rfl ?_
                refine x_pick (lv' := [(0, .ref (ad 94)), (1, .int a1), (2, .int a2), (3, .int 1), (4, .int (y9.2 + 1))]) [2, 3, 4, 1, 0] rfl ?_
                have z := hback (true, y9.2 + 1) (Option.some.inj h).symm
                exact z
        · refine x_iload_n (pc := 87) B 3 dX12_storm_87 rfl rfl ?_
          refine x_if_ne_b (tgt := 94) (pc := 88) B dX12_storm_88 rfl (fun hc15 => ?_) (fun hc15 => ?_)
          · have h := ift hc15 h
            refine x_aload_n (pc := 94) B 0 dX12_storm_94 rfl rfl ?_
            refine x_get (T := TX12) (pc := 95) B 1 oi_94 rfl uw_12 (by decide) rfl tw_1300 rfl dX12_storm_95 ?_
            refine x_bipush (v := 6) (pc := 98) B dX12_storm_98 rfl ?_
            refine x_iald_c (j := 6) (pc := 100) B ai_95 (by decide) rfl dX12_storm_100 ?_
            refine x_bipush (v := 6) (pc := 101) B dX12_storm_101 rfl ?_
            refine x_icmp_ne (tgt := 109) (pc := 103) B dX12_storm_103 rfl (fun hc16 => ?_) (fun hc16 => ?_)
            · have h := iff_ hc16 h
              refine x_aload_n (pc := 109) B 0 dX12_storm_109 rfl rfl ?_
              refine x_get (T := TX12) (pc := 110) B 1 oi_94 rfl uw_12 (by decide) rfl tw_1300 rfl dX12_storm_110 ?_
              refine x_sipush (v := 2260) (pc := 113) B dX12_storm_113 rfl ?_
              refine x_aload_n (pc := 116) B 0 dX12_storm_116 rfl rfl ?_
              refine x_get (T := TX12) (pc := 117) B 1 oi_94 rfl uw_12 (by decide) rfl tw_1300 rfl dX12_storm_117 ?_
              refine x_bipush (v := 6) (pc := 120) B dX12_storm_120 rfl ?_
              refine x_iald_c (j := 6) (pc := 122) B ai_95 (by decide) rfl dX12_storm_122 ?_
              refine x_iadd (pc := 123) B dX12_storm_123 ?_
              refine x_iload_n (pc := 124) B 1 dX12_storm_124 rfl rfl ?_
              obtain ⟨hk17, h⟩ := ifn h
              refine x_iast (pc := 125) B ai_95 hk17 dX12_storm_125 ?_
              refine jv_m (P := fun M18 => XX D ad cI cJ p l e (Rm 2 42) s m args below meth c Q 5 M18 126 [(0, .ref (ad 94)), (1, .int a1), (2, .int a2), (3, .int (bI q14))] []) h (fun M18 h => ?_)
              refine x_aload_n (pc := 126) B 0 dX12_storm_126 rfl rfl ?_
              refine x_get (T := TX12) (pc := 127) B 1 oi_94 rfl uw_12 (by decide) rfl tw_1300 rfl dX12_storm_127 ?_
              refine x_sipush (v := 2270) (pc := 130) B dX12_storm_130 rfl ?_
              refine x_aload_n (pc := 133) B 0 dX12_storm_133 rfl rfl ?_
              refine x_get (T := TX12) (pc := 134) B 1 oi_94 rfl uw_12 (by decide) rfl tw_1300 rfl dX12_storm_134 ?_
              refine x_bipush (v := 6) (pc := 137) B dX12_storm_137 rfl ?_
              refine x_iald_c (j := 6) (pc := 139) B ai_95 (by decide) rfl dX12_storm_139 ?_
              refine x_iadd (pc := 140) B dX12_storm_140 ?_
              refine x_iload_n (pc := 141) B 2 dX12_storm_141 rfl rfl ?_
              obtain ⟨hk19, h⟩ := ifn h
              refine x_iast (pc := 142) B ai_95 hk19 dX12_storm_142 ?_
              refine jv_m (P := fun M20 => XX D ad cI cJ p l e (Rm 2 42) s m args below meth c Q 5 M20 143 [(0, .ref (ad 94)), (1, .int a1), (2, .int a2), (3, .int (bI q14))] []) h (fun M20 h => ?_)
              refine x_aload_n (pc := 143) B 0 dX12_storm_143 rfl rfl ?_
              refine x_get (T := TX12) (pc := 144) B 1 oi_94 rfl uw_12 (by decide) rfl tw_1300 rfl dX12_storm_144 ?_
              refine x_bipush (v := 6) (pc := 147) B dX12_storm_147 rfl ?_
              refine x_dup2 (pc := 149) B dX12_storm_149 rfl rfl ?_
              refine x_iald_c (j := 6) (pc := 150) B ai_95 (by decide) rfl dX12_storm_150 ?_
              refine x_iconst (v := 1) (pc := 151) B dX12_storm_151 rfl ?_
              refine x_iadd (pc := 152) B dX12_storm_152 ?_
              refine x_iast_c (j := 6) (pc := 153) B ai_95 (by decide) rfl dX12_storm_153 ?_
              refine jv_m (P := fun M21 => XX D ad cI cJ p l e (Rm 2 42) s m args below meth c Q 5 M21 154 [(0, .ref (ad 94)), (1, .int a1), (2, .int a2), (3, .int (bI q14))] []) h (fun M21 h => ?_)
              refine x_aload_n (pc := 154) B 0 dX12_storm_154 rfl rfl ?_
              refine x_get (T := TX12) (pc := 155) B 1 oi_94 rfl uw_12 (by decide) rfl tw_1300 rfl dX12_storm_155 ?_
              refine x_bipush (v := 6) (pc := 158) B dX12_storm_158 rfl ?_
              refine x_iald_c (j := 6) (pc := 160) B ai_95 (by decide) rfl dX12_storm_160 ?_
              obtain rfl := Option.some.inj h
              exact x_iret (pc := 161) B hQ dX12_storm_161
            · have h := ift hc16 h
              refine x_bipush (v := (-4)) (pc := 106) B dX12_storm_106 rfl ?_
              obtain rfl := Option.some.inj h
              exact x_iret (pc := 108) B hQ dX12_storm_108
          · have h := iff_ hc15 h
            refine x_bipush (v := (-3)) (pc := 91) B dX12_storm_91 rfl ?_
            obtain rfl := Option.some.inj h
            exact x_iret (pc := 93) B hQ dX12_storm_93
      · refine x_icmp_eq (tgt := 39) (pc := 32) B dX12_storm_32 rfl (fun hc6 => ?_) (fun hc6 => ?_)
        · refine x_iconst (v := 0) (pc := 39) B dX12_storm_39 rfl ?_
          have z := JJ false (znid_t hc6)
          exact z
        · refine x_iconst (v := 1) (pc := 35) B dX12_storm_35 rfl ?_
          refine x_goto (tgt := 40) (pc := 36) B dX12_storm_36 rfl ?_
          have z := JJ true (znid_f hc6)
          exact z
    · have h := iff_ hc4 h
      refine x_bipush (v := (-2)) (pc := 19) B dX12_storm_19 rfl ?_
      obtain rfl := Option.some.inj h
      exact x_iret (pc := 21) B hQ dX12_storm_21
  · have h := iff_ hc2 h
    refine x_iconst (v := (-1)) (pc := 7) B dX12_storm_7 rfl ?_
    obtain rfl := Option.some.inj h
    exact x_iret (pc := 8) B hQ dX12_storm_8
