-- CurrentFarms$Land.stretch(II)I [2]
abbrev y_Land_stretch_2 : MethodName := ⟨"CurrentFarms$Land", "stretch", "(II)I"⟩
abbrev cX4_stretch : ByteArray := prog_6_method_6_code
theorem dX4_stretch_0 : decode cX4_stretch 0 = .ok (.aload_n 0, 1) := by decide +kernel
theorem dX4_stretch_1 : decode cX4_stretch 1 = .ok (.getfield 15, 3) := by decide +kernel
theorem dX4_stretch_4 : decode cX4_stretch 4 = .ok (.iload_n 1, 1) := by decide +kernel
theorem dX4_stretch_5 : decode cX4_stretch 5 = .ok (.invokestatic 39, 3) := by decide +kernel
theorem dX4_stretch_8 : decode cX4_stretch 8 = .ok (.istore_n 3, 1) := by decide +kernel
theorem dX4_stretch_9 : decode cX4_stretch 9 = .ok (.aload_n 0, 1) := by decide +kernel
theorem dX4_stretch_10 : decode cX4_stretch 10 = .ok (.getfield 15, 3) := by decide +kernel
theorem dX4_stretch_13 : decode cX4_stretch 13 = .ok (.iload_n 2, 1) := by decide +kernel
theorem dX4_stretch_14 : decode cX4_stretch 14 = .ok (.invokestatic 39, 3) := by decide +kernel
theorem dX4_stretch_17 : decode cX4_stretch 17 = .ok (.istore 4, 2) := by decide +kernel
theorem dX4_stretch_19 : decode cX4_stretch 19 = .ok (.iload_n 3, 1) := by decide +kernel
theorem dX4_stretch_20 : decode cX4_stretch 20 = .ok (.iconst 3, 1) := by decide +kernel
theorem dX4_stretch_21 : decode cX4_stretch 21 = .ok (.if_icmp .eq 9, 3) := by decide +kernel
theorem dX4_stretch_24 : decode cX4_stretch 24 = .ok (.iload 4, 2) := by decide +kernel
theorem dX4_stretch_26 : decode cX4_stretch 26 = .ok (.iconst 3, 1) := by decide +kernel
theorem dX4_stretch_27 : decode cX4_stretch 27 = .ok (.if_icmp .ne 6, 3) := by decide +kernel
theorem dX4_stretch_30 : decode cX4_stretch 30 = .ok (.bipush (-5), 2) := by decide +kernel
theorem dX4_stretch_32 : decode cX4_stretch 32 = .ok (.ireturn, 1) := by decide +kernel
theorem dX4_stretch_33 : decode cX4_stretch 33 = .ok (.bipush 10, 2) := by decide +kernel
theorem dX4_stretch_35 : decode cX4_stretch 35 = .ok (.iconst 2, 1) := by decide +kernel
theorem dX4_stretch_36 : decode cX4_stretch 36 = .ok (.aload_n 0, 1) := by decide +kernel
theorem dX4_stretch_37 : decode cX4_stretch 37 = .ok (.getfield 9, 3) := by decide +kernel
theorem dX4_stretch_40 : decode cX4_stretch 40 = .ok (.iload_n 1, 1) := by decide +kernel
theorem dX4_stretch_41 : decode cX4_stretch 41 = .ok (.invokestatic 39, 3) := by decide +kernel
theorem dX4_stretch_44 : decode cX4_stretch 44 = .ok (.aload_n 0, 1) := by decide +kernel
theorem dX4_stretch_45 : decode cX4_stretch 45 = .ok (.getfield 9, 3) := by decide +kernel
theorem dX4_stretch_48 : decode cX4_stretch 48 = .ok (.iload_n 2, 1) := by decide +kernel
theorem dX4_stretch_49 : decode cX4_stretch 49 = .ok (.invokestatic 39, 3) := by decide +kernel
theorem dX4_stretch_52 : decode cX4_stretch 52 = .ok (.isub, 1) := by decide +kernel
theorem dX4_stretch_53 : decode cX4_stretch 53 = .ok (.invokestatic 43, 3) := by decide +kernel
theorem dX4_stretch_56 : decode cX4_stretch 56 = .ok (.imul, 1) := by decide +kernel
theorem dX4_stretch_57 : decode cX4_stretch 57 = .ok (.iadd, 1) := by decide +kernel
theorem dX4_stretch_58 : decode cX4_stretch 58 = .ok (.istore 5, 2) := by decide +kernel
theorem dX4_stretch_60 : decode cX4_stretch 60 = .ok (.iload 5, 2) := by decide +kernel
theorem dX4_stretch_62 : decode cX4_stretch 62 = .ok (.bipush 6, 2) := by decide +kernel
theorem dX4_stretch_64 : decode cX4_stretch 64 = .ok (.iload_n 3, 1) := by decide +kernel
theorem dX4_stretch_65 : decode cX4_stretch 65 = .ok (.iconst 1, 1) := by decide +kernel
theorem dX4_stretch_66 : decode cX4_stretch 66 = .ok (.if_icmp .ne 7, 3) := by decide +kernel
theorem dX4_stretch_69 : decode cX4_stretch 69 = .ok (.iconst 1, 1) := by decide +kernel
theorem dX4_stretch_70 : decode cX4_stretch 70 = .ok (.goto 4, 3) := by decide +kernel
theorem dX4_stretch_73 : decode cX4_stretch 73 = .ok (.iconst 0, 1) := by decide +kernel
theorem dX4_stretch_74 : decode cX4_stretch 74 = .ok (.invokestatic 49, 3) := by decide +kernel
theorem dX4_stretch_77 : decode cX4_stretch 77 = .ok (.iload 4, 2) := by decide +kernel
theorem dX4_stretch_79 : decode cX4_stretch 79 = .ok (.iconst 1, 1) := by decide +kernel
theorem dX4_stretch_80 : decode cX4_stretch 80 = .ok (.if_icmp .ne 7, 3) := by decide +kernel
theorem dX4_stretch_83 : decode cX4_stretch 83 = .ok (.iconst 1, 1) := by decide +kernel
theorem dX4_stretch_84 : decode cX4_stretch 84 = .ok (.goto 4, 3) := by decide +kernel
theorem dX4_stretch_87 : decode cX4_stretch 87 = .ok (.iconst 0, 1) := by decide +kernel
theorem dX4_stretch_88 : decode cX4_stretch 88 = .ok (.invokestatic 49, 3) := by decide +kernel
theorem dX4_stretch_91 : decode cX4_stretch 91 = .ok (.iadd, 1) := by decide +kernel
theorem dX4_stretch_92 : decode cX4_stretch 92 = .ok (.imul, 1) := by decide +kernel
theorem dX4_stretch_93 : decode cX4_stretch 93 = .ok (.iadd, 1) := by decide +kernel
theorem dX4_stretch_94 : decode cX4_stretch 94 = .ok (.istore 5, 2) := by decide +kernel
theorem dX4_stretch_96 : decode cX4_stretch 96 = .ok (.iload 5, 2) := by decide +kernel
theorem dX4_stretch_98 : decode cX4_stretch 98 = .ok (.iconst 4, 1) := by decide +kernel
theorem dX4_stretch_99 : decode cX4_stretch 99 = .ok (.iload_n 3, 1) := by decide +kernel
theorem dX4_stretch_100 : decode cX4_stretch 100 = .ok (.iconst 2, 1) := by decide +kernel
theorem dX4_stretch_101 : decode cX4_stretch 101 = .ok (.if_icmp .ne 7, 3) := by decide +kernel
theorem dX4_stretch_104 : decode cX4_stretch 104 = .ok (.iconst 1, 1) := by decide +kernel
theorem dX4_stretch_105 : decode cX4_stretch 105 = .ok (.goto 4, 3) := by decide +kernel
theorem dX4_stretch_108 : decode cX4_stretch 108 = .ok (.iconst 0, 1) := by decide +kernel
theorem dX4_stretch_109 : decode cX4_stretch 109 = .ok (.invokestatic 49, 3) := by decide +kernel
theorem dX4_stretch_112 : decode cX4_stretch 112 = .ok (.iload 4, 2) := by decide +kernel
theorem dX4_stretch_114 : decode cX4_stretch 114 = .ok (.iconst 2, 1) := by decide +kernel
theorem dX4_stretch_115 : decode cX4_stretch 115 = .ok (.if_icmp .ne 7, 3) := by decide +kernel
theorem dX4_stretch_118 : decode cX4_stretch 118 = .ok (.iconst 1, 1) := by decide +kernel
theorem dX4_stretch_119 : decode cX4_stretch 119 = .ok (.goto 4, 3) := by decide +kernel
theorem dX4_stretch_122 : decode cX4_stretch 122 = .ok (.iconst 0, 1) := by decide +kernel
theorem dX4_stretch_123 : decode cX4_stretch 123 = .ok (.invokestatic 49, 3) := by decide +kernel
theorem dX4_stretch_126 : decode cX4_stretch 126 = .ok (.iadd, 1) := by decide +kernel
theorem dX4_stretch_127 : decode cX4_stretch 127 = .ok (.imul, 1) := by decide +kernel
theorem dX4_stretch_128 : decode cX4_stretch 128 = .ok (.isub, 1) := by decide +kernel
theorem dX4_stretch_129 : decode cX4_stretch 129 = .ok (.istore 5, 2) := by decide +kernel
theorem dX4_stretch_131 : decode cX4_stretch 131 = .ok (.iconst 1, 1) := by decide +kernel
theorem dX4_stretch_132 : decode cX4_stretch 132 = .ok (.iload 5, 2) := by decide +kernel
theorem dX4_stretch_134 : decode cX4_stretch 134 = .ok (.invokestatic 53, 3) := by decide +kernel
theorem dX4_stretch_137 : decode cX4_stretch 137 = .ok (.ireturn, 1) := by decide +kernel
theorem hd_Land_stretch_2 : y_Land_stretch_2.cls ≠ "java/lang/invoke/MethodHandle" ∧ y_Land_stretch_2.cls ≠ "java/lang/invoke/VarHandle" ∧ (parseMethodDescriptor y_Land_stretch_2.desc).map (fun d => d.parameters.length) = some 2 := by decide +kernel
def f_Land_stretch_2 (a1 : Int32) (a2 : Int32) (M0 : Mem) : Option (Int32) :=
  if decide ((atv (M0.1 4) 48 a1) = 3) then (some (-5)) else (if decide ((atv (M0.1 4) 48 a2) = 3) then (some (-5)) else (jv_ (10 + (2 * (jabs ((atv (M0.1 3) 48 a1) - (atv (M0.1 3) 48 a2)))) : Int32) fun x3 => jv_ ((decide ((atv (M0.1 4) 48 a1) = 1)) : Bool) fun u6 => jv_ ((decide ((atv (M0.1 4) 48 a2) = 1)) : Bool) fun u9 => jv_ ((decide ((atv (M0.1 4) 48 a1) = 2)) : Bool) fun u12 => jv_ ((decide ((atv (M0.1 4) 48 a2) = 2)) : Bool) fun u15 => jv_ ((x3 + (6 * ((bI u6) + (bI u9)))) - (4 * ((bI u12) + (bI u15))) : Int32) fun x16 => some (jmax 1 x16)))
set_option maxHeartbeats 4000000 in
set_option maxRecDepth 20000 in
theorem C_Land_stretch_2 {D : va_G} {ad adK adV : Nat → Nat} {cI cJ : ClassId} {l : Launch} (a1 : Int32) (a2 : Int32) (M0 : Mem) (o : Int32) (h : f_Land_stretch_2 a1 a2 M0 = some o) : Ct D ad adK adV cI cJ l y_Land_stretch_2 cX4_stretch 6 (some .int) 1 21 [.ref (ad 2), .int a1, .int a2] M0 (some (.int o)) M0 := by
  refine x_start (lv := [(0, .ref (ad 2)), (1, .int a1), (2, .int a2)]) (own := "CurrentFarms$Land") rfl (by decide) (Nat.le_of_ble_eq_true rfl) rfl ?_
  intro p e s m args below meth c Q hQ B
  unfold f_Land_stretch_2 at h
  refine x_aload_n (pc := 0) B 0 dX4_stretch_0 rfl rfl ?_
  refine x_get (T := TX4) (pc := 1) B 1 oi_2 rfl uw_4 (by decide) rfl tw_142 rfl dX4_stretch_1 ?_
  refine x_iload_n (pc := 4) B 1 dX4_stretch_4 rfl rfl ?_
  refine x_callSN (rest := []) (st' := [.int (atv (M0.1 4) 48 a1)]) (pc := 5) B (T_CF_at 4 48 a1 ai_4 (by decide) M0) tw_575 tw_584 tw_574 tw_98 hd_CF_at ⟨Nat.le_of_ble_eq_true rfl, Nat.le_of_ble_eq_true rfl⟩ rfl rfl (Nat.le_of_ble_eq_true rfl) rfl dX4_stretch_5 ?_
  refine x_istore_n (lv' := [(3, .int (atv (M0.1 4) 48 a1)), (0, .ref (ad 2)), (1, .int a1), (2, .int a2)]) (pc := 8) B dX4_stretch_8 rfl (by decide) rfl ?_
  refine x_aload_n (pc := 9) B 1 dX4_stretch_9 rfl rfl ?_
  refine x_get (T := TX4) (pc := 10) B 1 oi_2 rfl uw_4 (by decide) rfl tw_142 rfl dX4_stretch_10 ?_
  refine x_iload_n (pc := 13) B 3 dX4_stretch_13 rfl rfl ?_
  refine x_callSN (rest := []) (st' := [.int (atv (M0.1 4) 48 a2)]) (pc := 14) B (T_CF_at 4 48 a2 ai_4 (by decide) M0) tw_575 tw_584 tw_574 tw_98 hd_CF_at ⟨Nat.le_of_ble_eq_true rfl, Nat.le_of_ble_eq_true rfl⟩ rfl rfl (Nat.le_of_ble_eq_true rfl) rfl dX4_stretch_14 ?_
  refine x_istore (lv' := [(4, .int (atv (M0.1 4) 48 a2)), (3, .int (atv (M0.1 4) 48 a1)), (0, .ref (ad 2)), (1, .int a1), (2, .int a2)]) (pc := 17) B dX4_stretch_17 (by decide) rfl ?_
  refine x_iload_n (pc := 19) B 1 dX4_stretch_19 rfl rfl ?_
  refine x_iconst (v := 3) (pc := 20) B dX4_stretch_20 rfl ?_
  refine x_icmp_eq (tgt := 30) (pc := 21) B dX4_stretch_21 rfl (fun hc1 => ?_) (fun hc1 => ?_)
  · have h := ift hc1 h
    refine x_bipush (v := (-5)) (pc := 30) B dX4_stretch_30 rfl ?_
    obtain rfl := Option.some.inj h
    exact x_iret (pc := 32) B hQ dX4_stretch_32
  · have h := iff_ hc1 h
    refine x_iload (pc := 24) B 0 dX4_stretch_24 rfl ?_
    refine x_iconst (v := 3) (pc := 26) B dX4_stretch_26 rfl ?_
    refine x_icmp_ne (tgt := 33) (pc := 27) B dX4_stretch_27 rfl (fun hc2 => ?_) (fun hc2 => ?_)
    · have h := iff_ hc2 h
      refine x_bipush (v := 10) (pc := 33) B dX4_stretch_33 rfl ?_
      refine x_iconst (v := 2) (pc := 35) B dX4_stretch_35 rfl ?_
      refine x_aload_n (pc := 36) B 2 dX4_stretch_36 rfl rfl ?_
      refine x_get (T := TX4) (pc := 37) B 0 oi_2 rfl uw_4 (by decide) rfl tw_139 rfl dX4_stretch_37 ?_
      refine x_iload_n (pc := 40) B 3 dX4_stretch_40 rfl rfl ?_
      refine x_callSN (rest := [.int 2, .int 10]) (st' := [.int (atv (M0.1 3) 48 a1), .int 2, .int 10]) (pc := 41) B (T_CF_at 3 48 a1 ai_3 (by decide) M0) tw_575 tw_584 tw_574 tw_98 hd_CF_at ⟨Nat.le_of_ble_eq_true rfl, Nat.le_of_ble_eq_true rfl⟩ rfl rfl (Nat.le_of_ble_eq_true rfl) rfl dX4_stretch_41 ?_
      refine x_aload_n (pc := 44) B 2 dX4_stretch_44 rfl rfl ?_
      refine x_get (T := TX4) (pc := 45) B 0 oi_2 rfl uw_4 (by decide) rfl tw_139 rfl dX4_stretch_45 ?_
      refine x_iload_n (pc := 48) B 4 dX4_stretch_48 rfl rfl ?_
      refine x_callSN (rest := [.int (atv (M0.1 3) 48 a1), .int 2, .int 10]) (st' := [.int (atv (M0.1 3) 48 a2), .int (atv (M0.1 3) 48 a1), .int 2, .int 10]) (pc := 49) B (T_CF_at 3 48 a2 ai_3 (by decide) M0) tw_575 tw_584 tw_574 tw_98 hd_CF_at ⟨Nat.le_of_ble_eq_true rfl, Nat.le_of_ble_eq_true rfl⟩ rfl rfl (Nat.le_of_ble_eq_true rfl) rfl dX4_stretch_49 ?_
      refine x_isub (pc := 52) B dX4_stretch_52 ?_
      refine x_mabs (pc := 53) B tw_603 tw_597 tw_112 tw_598 (by decide) (Nat.le_of_ble_eq_true rfl) dX4_stretch_53 ?_
      refine x_imul (pc := 56) B dX4_stretch_56 ?_
      refine x_iadd (pc := 57) B dX4_stretch_57 ?_
      refine jv_m (P := fun (x3 : Int32) => XX D ad cI cJ p l e (Rm 1 21) s m args below meth c Q 6 M0 58 [(4, .int (atv (M0.1 4) 48 a2)), (3, .int (atv (M0.1 4) 48 a1)), (0, .ref (ad 2)), (1, .int a1), (2, .int a2)] [.int x3]) h (fun x3 h => ?_)
      refine x_istore (lv' := [(5, .int x3), (4, .int (atv (M0.1 4) 48 a2)), (3, .int (atv (M0.1 4) 48 a1)), (0, .ref (ad 2)), (1, .int a1), (2, .int a2)]) (pc := 58) B dX4_stretch_58 (by decide) rfl ?_
      refine x_iload (pc := 60) B 0 dX4_stretch_60 rfl ?_
      refine x_bipush (v := 6) (pc := 62) B dX4_stretch_62 rfl ?_
      refine x_iload_n (pc := 64) B 2 dX4_stretch_64 rfl rfl ?_
      refine x_iconst (v := 1) (pc := 65) B dX4_stretch_65 rfl ?_
      refine jv_k h (fun (u6 : Bool) => XX D ad cI cJ p l e (Rm 1 21) s m args below meth c Q 6 M0 74 [(3, .int (atv (M0.1 4) 48 a1)), (4, .int (atv (M0.1 4) 48 a2))] [.int (bI u6), .int 6, .int x3]) (fun u6 h => ?_) (fun JJ => ?_)
      · refine x_callSN (rest := [.int 6, .int x3]) (st' := [.int (bI u6), .int 6, .int x3]) (pc := 74) B (T_CF_flag u6 M0) tw_606 tw_604 tw_605 tw_98 hd_CF_flag ⟨Nat.le_of_ble_eq_true rfl, Nat.le_of_ble_eq_true rfl⟩ rfl rfl (Nat.le_of_ble_eq_true rfl) rfl dX4_stretch_74 ?_
        refine x_iload (pc := 77) B 1 dX4_stretch_77 rfl ?_
        refine x_iconst (v := 1) (pc := 79) B dX4_stretch_79 rfl ?_
        refine jv_k h (fun (u9 : Bool) => XX D ad cI cJ p l e (Rm 1 21) s m args below meth c Q 6 M0 88 [(3, .int (atv (M0.1 4) 48 a1)), (4, .int (atv (M0.1 4) 48 a2))] [.int (bI u9), .int (bI u6), .int 6, .int x3]) (fun u9 h => ?_) (fun JJ => ?_)
        · refine x_callSN (rest := [.int (bI u6), .int 6, .int x3]) (st' := [.int (bI u9), .int (bI u6), .int 6, .int x3]) (pc := 88) B (T_CF_flag u9 M0) tw_606 tw_604 tw_605 tw_98 hd_CF_flag ⟨Nat.le_of_ble_eq_true rfl, Nat.le_of_ble_eq_true rfl⟩ rfl rfl (Nat.le_of_ble_eq_true rfl) rfl dX4_stretch_88 ?_
          refine x_iadd (pc := 91) B dX4_stretch_91 ?_
          refine x_imul (pc := 92) B dX4_stretch_92 ?_
          refine x_iadd (pc := 93) B dX4_stretch_93 ?_
          refine x_istore (lv' := [(5, .int (x3 + (6 * ((bI u6) + (bI u9))))), (3, .int (atv (M0.1 4) 48 a1)), (4, .int (atv (M0.1 4) 48 a2))]) (pc := 94) B dX4_stretch_94 (by decide) rfl ?_
          refine x_iload (pc := 96) B 0 dX4_stretch_96 rfl ?_
          refine x_iconst (v := 4) (pc := 98) B dX4_stretch_98 rfl ?_
          refine x_iload_n (pc := 99) B 1 dX4_stretch_99 rfl rfl ?_
          refine x_iconst (v := 2) (pc := 100) B dX4_stretch_100 rfl ?_
          refine jv_k h (fun (u12 : Bool) => XX D ad cI cJ p l e (Rm 1 21) s m args below meth c Q 6 M0 109 [(4, .int (atv (M0.1 4) 48 a2))] [.int (bI u12), .int 4, .int (x3 + (6 * ((bI u6) + (bI u9))))]) (fun u12 h => ?_) (fun JJ => ?_)
          · refine x_callSN (rest := [.int 4, .int (x3 + (6 * ((bI u6) + (bI u9))))]) (st' := [.int (bI u12), .int 4, .int (x3 + (6 * ((bI u6) + (bI u9))))]) (pc := 109) B (T_CF_flag u12 M0) tw_606 tw_604 tw_605 tw_98 hd_CF_flag ⟨Nat.le_of_ble_eq_true rfl, Nat.le_of_ble_eq_true rfl⟩ rfl rfl (Nat.le_of_ble_eq_true rfl) rfl dX4_stretch_109 ?_
            refine x_iload (pc := 112) B 0 dX4_stretch_112 rfl ?_
            refine x_iconst (v := 2) (pc := 114) B dX4_stretch_114 rfl ?_
            refine jv_k h (fun (u15 : Bool) => XX D ad cI cJ p l e (Rm 1 21) s m args below meth c Q 6 M0 123 [] [.int (bI u15), .int (bI u12), .int 4, .int (x3 + (6 * ((bI u6) + (bI u9))))]) (fun u15 h => ?_) (fun JJ => ?_)
            · refine x_callSN (rest := [.int (bI u12), .int 4, .int (x3 + (6 * ((bI u6) + (bI u9))))]) (st' := [.int (bI u15), .int (bI u12), .int 4, .int (x3 + (6 * ((bI u6) + (bI u9))))]) (pc := 123) B (T_CF_flag u15 M0) tw_606 tw_604 tw_605 tw_98 hd_CF_flag ⟨Nat.le_of_ble_eq_true rfl, Nat.le_of_ble_eq_true rfl⟩ rfl rfl (Nat.le_of_ble_eq_true rfl) rfl dX4_stretch_123 ?_
              refine x_iadd (pc := 126) B dX4_stretch_126 ?_
              refine x_imul (pc := 127) B dX4_stretch_127 ?_
              refine x_isub (pc := 128) B dX4_stretch_128 ?_
              refine jv_m (P := fun (x16 : Int32) => XX D ad cI cJ p l e (Rm 1 21) s m args below meth c Q 6 M0 129 [] [.int x16]) h (fun x16 h => ?_)
              refine x_istore (lv' := [(5, .int x16)]) (pc := 129) B dX4_stretch_129 (by decide) rfl ?_
              refine x_iconst (v := 1) (pc := 131) B dX4_stretch_131 rfl ?_
              refine x_iload (pc := 132) B 0 dX4_stretch_132 rfl ?_
              refine x_mmax (pc := 134) B tw_607 tw_608 tw_112 tw_609 (by decide) (Nat.le_of_ble_eq_true rfl) dX4_stretch_134 ?_
              obtain rfl := Option.some.inj h
              exact x_iret (pc := 137) B hQ dX4_stretch_137
            · refine x_icmp_ne (tgt := 122) (pc := 115) B dX4_stretch_115 rfl (fun hc13 => ?_) (fun hc13 => ?_)
              · refine x_iconst (v := 0) (pc := 122) B dX4_stretch_122 rfl ?_
                refine x_pick (lv' := []) [] rfl ?_
                have z := JJ false hc13
                exact z
              · refine x_iconst (v := 1) (pc := 118) B dX4_stretch_118 rfl ?_
                refine x_goto (tgt := 123) (pc := 119) B dX4_stretch_119 rfl ?_
                refine x_pick (lv' := []) [] rfl ?_
                have z := JJ true hc13
                exact z
          · refine x_icmp_ne (tgt := 108) (pc := 101) B dX4_stretch_101 rfl (fun hc10 => ?_) (fun hc10 => ?_)
            · refine x_iconst (v := 0) (pc := 108) B dX4_stretch_108 rfl ?_
              refine x_pick (lv' := [(4, .int (atv (M0.1 4) 48 a2))]) [2] rfl ?_
              have z := JJ false hc10
              exact z
            · refine x_iconst (v := 1) (pc := 104) B dX4_stretch_104 rfl ?_
              refine x_goto (tgt := 109) (pc := 105) B dX4_stretch_105 rfl ?_
              refine x_pick (lv' := [(4, .int (atv (M0.1 4) 48 a2))]) [2] rfl ?_
              have z := JJ true hc10
              exact z
        · refine x_icmp_ne (tgt := 87) (pc := 80) B dX4_stretch_80 rfl (fun hc7 => ?_) (fun hc7 => ?_)
          · refine x_iconst (v := 0) (pc := 87) B dX4_stretch_87 rfl ?_
            have z := JJ false hc7
            exact z
          · refine x_iconst (v := 1) (pc := 83) B dX4_stretch_83 rfl ?_
            refine x_goto (tgt := 88) (pc := 84) B dX4_stretch_84 rfl ?_
            have z := JJ true hc7
            exact z
      · refine x_icmp_ne (tgt := 73) (pc := 66) B dX4_stretch_66 rfl (fun hc4 => ?_) (fun hc4 => ?_)
        · refine x_iconst (v := 0) (pc := 73) B dX4_stretch_73 rfl ?_
          refine x_pick (lv' := [(3, .int (atv (M0.1 4) 48 a1)), (4, .int (atv (M0.1 4) 48 a2))]) [2, 1] rfl ?_
          have z := JJ false hc4
          exact z
        · refine x_iconst (v := 1) (pc := 69) B dX4_stretch_69 rfl ?_
          refine x_goto (tgt := 74) (pc := 70) B dX4_stretch_70 rfl ?_
          refine x_pick (lv' := [(3, .int (atv (M0.1 4) 48 a1)), (4, .int (atv (M0.1 4) 48 a2))]) [2, 1] rfl ?_
          have z := JJ true hc4
          exact z
    · have h := ift hc2 h
      refine x_bipush (v := (-5)) (pc := 30) B dX4_stretch_30 rfl ?_
      obtain rfl := Option.some.inj h
      exact x_iret (pc := 32) B hQ dX4_stretch_32
-- CurrentFarms$Line.ahead(I)I [24]
abbrev y_Line_ahead_24 : MethodName := ⟨"CurrentFarms$Line", "ahead", "(I)I"⟩
abbrev cX5_ahead : ByteArray := prog_7_method_5_code
theorem dX5_ahead_0 : decode cX5_ahead 0 = .ok (.iload_n 1, 1) := by decide +kernel
theorem dX5_ahead_1 : decode cX5_ahead 1 = .ok (.invokestatic 48, 3) := by decide +kernel
theorem dX5_ahead_4 : decode cX5_ahead 4 = .ok (.ifCond .eq 14, 3) := by decide +kernel
theorem dX5_ahead_7 : decode cX5_ahead 7 = .ok (.aload_n 0, 1) := by decide +kernel
theorem dX5_ahead_8 : decode cX5_ahead 8 = .ok (.getfield 9, 3) := by decide +kernel
theorem dX5_ahead_11 : decode cX5_ahead 11 = .ok (.iload_n 1, 1) := by decide +kernel
theorem dX5_ahead_12 : decode cX5_ahead 12 = .ok (.invokestatic 52, 3) := by decide +kernel
theorem dX5_ahead_15 : decode cX5_ahead 15 = .ok (.goto 4, 3) := by decide +kernel
theorem dX5_ahead_18 : decode cX5_ahead 18 = .ok (.iconst (-1), 1) := by decide +kernel
theorem dX5_ahead_19 : decode cX5_ahead 19 = .ok (.ireturn, 1) := by decide +kernel
theorem hd_Line_ahead_24 : y_Line_ahead_24.cls ≠ "java/lang/invoke/MethodHandle" ∧ y_Line_ahead_24.cls ≠ "java/lang/invoke/VarHandle" ∧ (parseMethodDescriptor y_Line_ahead_24.desc).map (fun d => d.parameters.length) = some 1 := by decide +kernel
def f_Line_ahead_24 (a1 : Int32) (M0 : Mem) : Option (Int32) :=
  if wthn a1 0 47 then (some (atv (M0.1 25) 48 a1)) else (some (-1))
set_option maxHeartbeats 4000000 in
set_option maxRecDepth 20000 in
theorem C_Line_ahead_24 {D : va_G} {ad adK adV : Nat → Nat} {cI cJ : ClassId} {l : Launch} (a1 : Int32) (M0 : Mem) (o : Int32) (h : f_Line_ahead_24 a1 M0 = some o) : Ct D ad adK adV cI cJ l y_Line_ahead_24 cX5_ahead 2 (some .int) 2 42 [.ref (ad 24), .int a1] M0 (some (.int o)) M0 := by
  refine x_start (lv := [(0, .ref (ad 24)), (1, .int a1)]) (own := "CurrentFarms$Line") rfl (by decide) (Nat.le_of_ble_eq_true rfl) rfl ?_
  intro p e s m args below meth c Q hQ B
  unfold f_Line_ahead_24 at h
  refine x_iload_n (pc := 0) B 1 dX5_ahead_0 rfl rfl ?_
  refine x_callSN (rest := []) (st' := [.int (bI (wthn a1 0 47))]) (pc := 1) B (T_CF_isCell a1 M0) tw_556 tw_572 tw_555 tw_98 hd_CF_isCell ⟨Nat.le_of_ble_eq_true rfl, Nat.le_of_ble_eq_true rfl⟩ rfl rfl (Nat.le_of_ble_eq_true rfl) rfl dX5_ahead_1 ?_
  refine x_if_eq_b (tgt := 18) (pc := 4) B dX5_ahead_4 rfl (fun hc1 => ?_) (fun hc1 => ?_)
  · have h := iff_ hc1 h
    refine x_iconst (v := (-1)) (pc := 18) B dX5_ahead_18 rfl ?_
    obtain rfl := Option.some.inj h
    exact x_iret (pc := 19) B hQ dX5_ahead_19
  · have h := ift hc1 h
    refine x_aload_n (pc := 7) B 0 dX5_ahead_7 rfl rfl ?_
    refine x_get (T := TX5) (pc := 8) B 0 oi_24 rfl uw_5 (by decide) rfl tw_263 rfl dX5_ahead_8 ?_
    refine x_iload_n (pc := 11) B 1 dX5_ahead_11 rfl rfl ?_
    refine x_callSN (rest := []) (st' := [.int (atv (M0.1 25) 48 a1)]) (pc := 12) B (T_CF_at 25 48 a1 ai_25 (by decide) M0) tw_575 tw_573 tw_574 tw_98 hd_CF_at ⟨Nat.le_of_ble_eq_true rfl, Nat.le_of_ble_eq_true rfl⟩ rfl rfl (Nat.le_of_ble_eq_true rfl) rfl dX5_ahead_12 ?_
    refine x_goto (tgt := 19) (pc := 15) B dX5_ahead_15 rfl ?_
    obtain rfl := Option.some.inj h
    exact x_iret (pc := 19) B hQ dX5_ahead_19
-- CurrentFarms$Line.climb(I)I [24]
abbrev y_Line_climb_24 : MethodName := ⟨"CurrentFarms$Line", "climb", "(I)I"⟩
abbrev cX5_climb : ByteArray := prog_7_method_8_code
theorem dX5_climb_0 : decode cX5_climb 0 = .ok (.iconst 0, 1) := by decide +kernel
theorem dX5_climb_1 : decode cX5_climb 1 = .ok (.istore_n 2, 1) := by decide +kernel
theorem dX5_climb_2 : decode cX5_climb 2 = .ok (.aload_n 0, 1) := by decide +kernel
theorem dX5_climb_3 : decode cX5_climb 3 = .ok (.getfield 25, 3) := by decide +kernel
theorem dX5_climb_6 : decode cX5_climb 6 = .ok (.iconst 0, 1) := by decide +kernel
theorem dX5_climb_7 : decode cX5_climb 7 = .ok (.iload_n 1, 1) := by decide +kernel
theorem dX5_climb_8 : decode cX5_climb 8 = .ok (.invokestatic 44, 3) := by decide +kernel
theorem dX5_climb_11 : decode cX5_climb 11 = .ok (.aload_n 0, 1) := by decide +kernel
theorem dX5_climb_12 : decode cX5_climb 12 = .ok (.iload_n 1, 1) := by decide +kernel
theorem dX5_climb_13 : decode cX5_climb 13 = .ok (.invokevirtual 56, 3) := by decide +kernel
theorem dX5_climb_16 : decode cX5_climb 16 = .ok (.istore_n 3, 1) := by decide +kernel
theorem dX5_climb_17 : decode cX5_climb 17 = .ok (.iload_n 3, 1) := by decide +kernel
theorem dX5_climb_18 : decode cX5_climb 18 = .ok (.iconst (-1), 1) := by decide +kernel
theorem dX5_climb_19 : decode cX5_climb 19 = .ok (.if_icmp .eq 32, 3) := by decide +kernel
theorem dX5_climb_22 : decode cX5_climb 22 = .ok (.iload_n 2, 1) := by decide +kernel
theorem dX5_climb_23 : decode cX5_climb 23 = .ok (.aload_n 0, 1) := by decide +kernel
theorem dX5_climb_24 : decode cX5_climb 24 = .ok (.getfield 41, 3) := by decide +kernel
theorem dX5_climb_27 : decode cX5_climb 27 = .ok (.if_icmp .ge 24, 3) := by decide +kernel
theorem dX5_climb_30 : decode cX5_climb 30 = .ok (.iinc 2 1, 3) := by decide +kernel
theorem dX5_climb_33 : decode cX5_climb 33 = .ok (.aload_n 0, 1) := by decide +kernel
theorem dX5_climb_34 : decode cX5_climb 34 = .ok (.getfield 25, 3) := by decide +kernel
theorem dX5_climb_37 : decode cX5_climb 37 = .ok (.iload_n 2, 1) := by decide +kernel
theorem dX5_climb_38 : decode cX5_climb 38 = .ok (.iload_n 3, 1) := by decide +kernel
theorem dX5_climb_39 : decode cX5_climb 39 = .ok (.invokestatic 44, 3) := by decide +kernel
theorem dX5_climb_42 : decode cX5_climb 42 = .ok (.aload_n 0, 1) := by decide +kernel
theorem dX5_climb_43 : decode cX5_climb 43 = .ok (.iload_n 3, 1) := by decide +kernel
theorem dX5_climb_44 : decode cX5_climb 44 = .ok (.invokevirtual 56, 3) := by decide +kernel
theorem dX5_climb_47 : decode cX5_climb 47 = .ok (.istore_n 3, 1) := by decide +kernel
theorem dX5_climb_48 : decode cX5_climb 48 = .ok (.goto (-31), 3) := by decide +kernel
theorem dX5_climb_51 : decode cX5_climb 51 = .ok (.iload_n 2, 1) := by decide +kernel
theorem dX5_climb_52 : decode cX5_climb 52 = .ok (.ireturn, 1) := by decide +kernel
theorem hd_Line_climb_24 : y_Line_climb_24.cls ≠ "java/lang/invoke/MethodHandle" ∧ y_Line_climb_24.cls ≠ "java/lang/invoke/VarHandle" ∧ (parseMethodDescriptor y_Line_climb_24.desc).map (fun d => d.parameters.length) = some 1 := by decide +kernel
def b_Line_climb_24_17  (y3 : Int32 × Int32 × Mem) : Option ((Int32 × Int32 × Mem) ⊕ (Int32 × Mem)) :=
  if decide (y3.2.1 = (-1)) then (some (.inr (y3.1, y3.2.2))) else (if decide (y3.1 < (y3.2.2.1 24 2)) then (jv_ (putv y3.2.2 27 48 (y3.1 + 1) y3.2.1) fun M6 => (f_Line_ahead_24 y3.2.1 M6).bind fun q7 => some (.inl (y3.1 + 1, q7, M6))) else (some (.inr (y3.1, y3.2.2))))
def f_Line_climb_24 (a1 : Int32) (M0 : Mem) : Option (Int32 × Mem) :=
  jv_ (putv M0 27 48 0 a1) fun M1 => (f_Line_ahead_24 a1 M1).bind fun q2 => (itr (b_Line_climb_24_17) FU (0, q2, M1)).bind fun q8 => some (q8.1, q8.2)
set_option maxHeartbeats 4000000 in
set_option maxRecDepth 20000 in
theorem C_Line_climb_24 {D : va_G} {ad adK adV : Nat → Nat} {cI cJ : ClassId} {l : Launch} (a1 : Int32) (M0 : Mem) (o : Int32 × Mem) (h : f_Line_climb_24 a1 M0 = some o) : Ct D ad adK adV cI cJ l y_Line_climb_24 cX5_climb 4 (some .int) 3 63 [.ref (ad 24), .int a1] M0 (some (.int o.1)) o.2 := by
  refine x_start (lv := [(0, .ref (ad 24)), (1, .int a1)]) (own := "CurrentFarms$Line") rfl (by decide) (Nat.le_of_ble_eq_true rfl) rfl ?_
  intro p e s m args below meth c Q hQ B
  unfold f_Line_climb_24 at h
  refine x_iconst (v := 0) (pc := 0) B dX5_climb_0 rfl ?_
  refine x_istore_n (lv' := [(2, .int 0), (0, .ref (ad 24)), (1, .int a1)]) (pc := 1) B dX5_climb_1 rfl (by decide) rfl ?_
  refine x_aload_n (pc := 2) B 1 dX5_climb_2 rfl rfl ?_
  refine x_get (T := TX5) (pc := 3) B 5 oi_24 rfl uw_5 (by decide) rfl tw_274 rfl dX5_climb_3 ?_
  refine x_iconst (v := 0) (pc := 6) B dX5_climb_6 rfl ?_
  refine x_iload_n (pc := 7) B 2 dX5_climb_7 rfl rfl ?_
  refine x_callSN (rest := []) (st' := []) (pc := 8) B (T_CF_put 27 48 0 a1 ai_27 (by decide) M0) tw_588 tw_719 tw_587 tw_98 hd_CF_put ⟨Nat.le_of_ble_eq_true rfl, Nat.le_of_ble_eq_true rfl⟩ rfl rfl (Nat.le_of_ble_eq_true rfl) rfl dX5_climb_8 ?_
  refine jv_m (P := fun M1 => XX D ad cI cJ p l e (Rm 3 63) s m args below meth c Q 4 M1 11 [(2, .int 0), (0, .ref (ad 24)), (1, .int a1)] []) h (fun M1 h => ?_)
  refine x_aload_n (pc := 11) B 1 dX5_climb_11 rfl rfl ?_
  refine x_iload_n (pc := 12) B 2 dX5_climb_12 rfl rfl ?_
  obtain ⟨q2, hq2, h⟩ := bnd h
  refine x_callV (rest := []) (st' := [.int q2]) (pc := 13) B oi_24 rfl (C_Line_ahead_24 a1 M1 _ hq2) tw_571 tw_720 tw_569 tw_570 tw_103 hd_Line_ahead_24 ⟨Nat.le_of_ble_eq_true rfl, Nat.le_of_ble_eq_true rfl⟩ rfl rfl (Nat.le_of_ble_eq_true rfl) rfl dX5_climb_13 ?_
  refine x_istore_n (lv' := [(3, .int q2), (2, .int 0), (0, .ref (ad 24)), (1, .int a1)]) (pc := 16) B dX5_climb_16 rfl (by decide) rfl ?_
  refine x_pick (lv' := [(0, .ref (ad 24)), (2, .int 0), (3, .int q2)]) [2, 1, 0] rfl ?_
  obtain ⟨q8, hq8, h⟩ := bnd h
  refine x_loop (Head := fun (y3 : Int32 × Int32 × Mem) => XX D ad cI cJ p l e (Rm 3 63) s m args below meth c Q 4 y3.2.2 17 [(0, .ref (ad 24)), (2, .int y3.1), (3, .int y3.2.1)] []) (Ex := fun (q8 : Int32 × Mem) => XX D ad cI cJ p l e (Rm 3 63) s m args below meth c Q 4 q8.2 51 [(2, .int q8.1)] []) (fun y3 r h hback hexit => ?_) FU _ q8 hq8 ?_
  · unfold b_Line_climb_24_17 at h
    refine x_iload_n (pc := 17) B 2 dX5_climb_17 rfl rfl ?_
    refine x_iconst (v := (-1)) (pc := 18) B dX5_climb_18 rfl ?_
    refine x_icmp_eq (tgt := 51) (pc := 19) B dX5_climb_19 rfl (fun hc4 => ?_) (fun hc4 => ?_)
    · have h := ift hc4 h
      refine x_pick (lv' := [(2, .int y3.1)]) [1] rfl ?_
      have z := hexit (y3.1, y3.2.2) (Option.some.inj h).symm
      exact z
    · have h := iff_ hc4 h
      refine x_iload_n (pc := 22) B 1 dX5_climb_22 rfl rfl ?_
      refine x_aload_n (pc := 23) B 0 dX5_climb_23 rfl rfl ?_
      refine x_get (T := TX5) (pc := 24) B 2 oi_24 rfl uw_5 (by decide) rfl tw_266 rfl dX5_climb_24 ?_
      refine x_icmp_ge (tgt := 51) (pc := 27) B dX5_climb_27 rfl (fun hc5 => ?_) (fun hc5 => ?_)
      · have h := iff_ hc5 h
        refine x_pick (lv' := [(2, .int y3.1)]) [1] rfl ?_
        have z := hexit (y3.1, y3.2.2) (Option.some.inj h).symm
        exact z
      · have h := ift hc5 h
        refine x_iinc (k := 1) (v := y3.1 + 1) (lv' := [(2, .int (y3.1 + 1)), (0, .ref (ad 24)), (3, .int y3.2.1)]) (pc := 30) B dX5_climb_30 rfl rfl (by decide) rfl ?_
        refine x_aload_n (pc := 33) B 1 dX5_climb_33 rfl rfl ?_
        refine x_get (T := TX5) (pc := 34) B 5 oi_24 rfl uw_5 (by decide) rfl tw_274 rfl dX5_climb_34 ?_
        refine x_iload_n (pc := 37) B 0 dX5_climb_37 rfl rfl ?_
        refine x_iload_n (pc := 38) B 2 dX5_climb_38 rfl rfl ?_
        refine x_callSN (rest := []) (st' := []) (pc := 39) B (T_CF_put 27 48 (y3.1 + 1) y3.2.1 ai_27 (by decide) y3.2.2) tw_588 tw_719 tw_587 tw_98 hd_CF_put ⟨Nat.le_of_ble_eq_true rfl, Nat.le_of_ble_eq_true rfl⟩ rfl rfl (Nat.le_of_ble_eq_true rfl) rfl dX5_climb_39 ?_
        refine jv_m (P := fun M6 => XX D ad cI cJ p l e (Rm 3 63) s m args below meth c Q 4 M6 42 [(2, .int (y3.1 + 1)), (0, .ref (ad 24)), (3, .int y3.2.1)] []) h (fun M6 h => ?_)
        refine x_aload_n (pc := 42) B 1 dX5_climb_42 rfl rfl ?_
        refine x_iload_n (pc := 43) B 2 dX5_climb_43 rfl rfl ?_
        obtain ⟨q7, hq7, h⟩ := bnd h
        refine x_callV (rest := []) (st' := [.int q7]) (pc := 44) B oi_24 rfl (C_Line_ahead_24 y3.2.1 M6 _ hq7) tw_571 tw_720 tw_569 tw_570 tw_103 hd_Line_ahead_24 ⟨Nat.le_of_ble_eq_true rfl, Nat.le_of_ble_eq_true rfl⟩ rfl rfl (Nat.le_of_ble_eq_true rfl) rfl dX5_climb_44 ?_
        refine x_istore_n (lv' := [(3, .int q7), (2, .int (y3.1 + 1)), (0, .ref (ad 24))]) (pc := 47) B dX5_climb_47 rfl (by decide) rfl ?_
        refine x_goto (tgt := 17) (pc := 48) B dX5_climb_48 rfl ?_
        refine x_pick (lv' := [(0, .ref (ad 24)), (2, .int (y3.1 + 1)), (3, .int q7)]) [2, 1, 0] rfl ?_
        have z := hback (y3.1 + 1, q7, M6) (Option.some.inj h).symm
        exact z
  · refine x_iload_n (pc := 51) B 0 dX5_climb_51 rfl rfl ?_
    obtain rfl := Option.some.inj h
    exact x_iret (pc := 52) B hQ dX5_climb_52
-- CurrentFarms$Line.polesTo(ILCurrentFarms$Land;)I [24, 2]
abbrev y_Line_polesTo_24_2 : MethodName := ⟨"CurrentFarms$Line", "polesTo", "(ILCurrentFarms$Land;)I"⟩
abbrev cX5_polesTo : ByteArray := prog_7_method_11_code
theorem dX5_polesTo_0 : decode cX5_polesTo 0 = .ok (.aload_n 0, 1) := by decide +kernel
theorem dX5_polesTo_1 : decode cX5_polesTo 1 = .ok (.iload_n 1, 1) := by decide +kernel
theorem dX5_polesTo_2 : decode cX5_polesTo 2 = .ok (.invokevirtual 66, 3) := by decide +kernel
theorem dX5_polesTo_5 : decode cX5_polesTo 5 = .ok (.istore_n 3, 1) := by decide +kernel
theorem dX5_polesTo_6 : decode cX5_polesTo 6 = .ok (.aload_n 0, 1) := by decide +kernel
theorem dX5_polesTo_7 : decode cX5_polesTo 7 = .ok (.getfield 28, 3) := by decide +kernel
theorem dX5_polesTo_10 : decode cX5_polesTo 10 = .ok (.iconst 0, 1) := by decide +kernel
theorem dX5_polesTo_11 : decode cX5_polesTo 11 = .ok (.iconst 1, 1) := by decide +kernel
theorem dX5_polesTo_12 : decode cX5_polesTo 12 = .ok (.invokestatic 44, 3) := by decide +kernel
theorem dX5_polesTo_15 : decode cX5_polesTo 15 = .ok (.iconst 1, 1) := by decide +kernel
theorem dX5_polesTo_16 : decode cX5_polesTo 16 = .ok (.istore 4, 2) := by decide +kernel
theorem dX5_polesTo_18 : decode cX5_polesTo 18 = .ok (.iload 4, 2) := by decide +kernel
theorem dX5_polesTo_20 : decode cX5_polesTo 20 = .ok (.iload_n 3, 1) := by decide +kernel
theorem dX5_polesTo_21 : decode cX5_polesTo 21 = .ok (.if_icmp .gt 131, 3) := by decide +kernel
theorem dX5_polesTo_24 : decode cX5_polesTo 24 = .ok (.aload_n 2, 1) := by decide +kernel
theorem dX5_polesTo_25 : decode cX5_polesTo 25 = .ok (.getfield 73, 3) := by decide +kernel
theorem dX5_polesTo_28 : decode cX5_polesTo 28 = .ok (.aload_n 0, 1) := by decide +kernel
theorem dX5_polesTo_29 : decode cX5_polesTo 29 = .ok (.getfield 25, 3) := by decide +kernel
theorem dX5_polesTo_32 : decode cX5_polesTo 32 = .ok (.iload 4, 2) := by decide +kernel
theorem dX5_polesTo_34 : decode cX5_polesTo 34 = .ok (.invokestatic 52, 3) := by decide +kernel
theorem dX5_polesTo_37 : decode cX5_polesTo 37 = .ok (.invokestatic 52, 3) := by decide +kernel
theorem dX5_polesTo_40 : decode cX5_polesTo 40 = .ok (.istore 5, 2) := by decide +kernel
theorem dX5_polesTo_42 : decode cX5_polesTo 42 = .ok (.bipush 48, 2) := by decide +kernel
theorem dX5_polesTo_44 : decode cX5_polesTo 44 = .ok (.istore 6, 2) := by decide +kernel
theorem dX5_polesTo_46 : decode cX5_polesTo 46 = .ok (.iconst 0, 1) := by decide +kernel
theorem dX5_polesTo_47 : decode cX5_polesTo 47 = .ok (.istore 7, 2) := by decide +kernel
theorem dX5_polesTo_49 : decode cX5_polesTo 49 = .ok (.iload 4, 2) := by decide +kernel
theorem dX5_polesTo_51 : decode cX5_polesTo 51 = .ok (.iconst 1, 1) := by decide +kernel
theorem dX5_polesTo_52 : decode cX5_polesTo 52 = .ok (.isub, 1) := by decide +kernel
theorem dX5_polesTo_53 : decode cX5_polesTo 53 = .ok (.istore 8, 2) := by decide +kernel
theorem dX5_polesTo_55 : decode cX5_polesTo 55 = .ok (.iload 8, 2) := by decide +kernel
theorem dX5_polesTo_57 : decode cX5_polesTo 57 = .ok (.ifCond .lt 78, 3) := by decide +kernel
theorem dX5_polesTo_60 : decode cX5_polesTo 60 = .ok (.iload 4, 2) := by decide +kernel
theorem dX5_polesTo_62 : decode cX5_polesTo 62 = .ok (.iload 8, 2) := by decide +kernel
theorem dX5_polesTo_64 : decode cX5_polesTo 64 = .ok (.isub, 1) := by decide +kernel
theorem dX5_polesTo_65 : decode cX5_polesTo 65 = .ok (.aload_n 0, 1) := by decide +kernel
theorem dX5_polesTo_66 : decode cX5_polesTo 66 = .ok (.getfield 18, 3) := by decide +kernel
theorem dX5_polesTo_69 : decode cX5_polesTo 69 = .ok (.if_icmp .gt 66, 3) := by decide +kernel
theorem dX5_polesTo_72 : decode cX5_polesTo 72 = .ok (.aload_n 2, 1) := by decide +kernel
theorem dX5_polesTo_73 : decode cX5_polesTo 73 = .ok (.getfield 73, 3) := by decide +kernel
theorem dX5_polesTo_76 : decode cX5_polesTo 76 = .ok (.aload_n 0, 1) := by decide +kernel
theorem dX5_polesTo_77 : decode cX5_polesTo 77 = .ok (.getfield 25, 3) := by decide +kernel
theorem dX5_polesTo_80 : decode cX5_polesTo 80 = .ok (.iload 8, 2) := by decide +kernel
theorem dX5_polesTo_82 : decode cX5_polesTo 82 = .ok (.invokestatic 52, 3) := by decide +kernel
theorem dX5_polesTo_85 : decode cX5_polesTo 85 = .ok (.invokestatic 52, 3) := by decide +kernel
theorem dX5_polesTo_88 : decode cX5_polesTo 88 = .ok (.istore 9, 2) := by decide +kernel
theorem dX5_polesTo_90 : decode cX5_polesTo 90 = .ok (.iload 7, 2) := by decide +kernel
theorem dX5_polesTo_92 : decode cX5_polesTo 92 = .ok (.iload 5, 2) := by decide +kernel
theorem dX5_polesTo_94 : decode cX5_polesTo 94 = .ok (.iload 9, 2) := by decide +kernel
theorem dX5_polesTo_96 : decode cX5_polesTo 96 = .ok (.invokestatic 76, 3) := by decide +kernel
theorem dX5_polesTo_99 : decode cX5_polesTo 99 = .ok (.if_icmp .gt 21, 3) := by decide +kernel
theorem dX5_polesTo_102 : decode cX5_polesTo 102 = .ok (.iload 6, 2) := by decide +kernel
theorem dX5_polesTo_104 : decode cX5_polesTo 104 = .ok (.aload_n 0, 1) := by decide +kernel
theorem dX5_polesTo_105 : decode cX5_polesTo 105 = .ok (.getfield 28, 3) := by decide +kernel
theorem dX5_polesTo_108 : decode cX5_polesTo 108 = .ok (.iload 8, 2) := by decide +kernel
theorem dX5_polesTo_110 : decode cX5_polesTo 110 = .ok (.invokestatic 52, 3) := by decide +kernel
theorem dX5_polesTo_113 : decode cX5_polesTo 113 = .ok (.iconst 1, 1) := by decide +kernel
theorem dX5_polesTo_114 : decode cX5_polesTo 114 = .ok (.iadd, 1) := by decide +kernel
theorem dX5_polesTo_115 : decode cX5_polesTo 115 = .ok (.invokestatic 81, 3) := by decide +kernel
theorem dX5_polesTo_118 : decode cX5_polesTo 118 = .ok (.istore 6, 2) := by decide +kernel
theorem dX5_polesTo_120 : decode cX5_polesTo 120 = .ok (.iload 7, 2) := by decide +kernel
theorem dX5_polesTo_122 : decode cX5_polesTo 122 = .ok (.iload 9, 2) := by decide +kernel
theorem dX5_polesTo_124 : decode cX5_polesTo 124 = .ok (.invokestatic 76, 3) := by decide +kernel
theorem dX5_polesTo_127 : decode cX5_polesTo 127 = .ok (.istore 7, 2) := by decide +kernel
theorem dX5_polesTo_129 : decode cX5_polesTo 129 = .ok (.iinc 8 (-1), 3) := by decide +kernel
theorem dX5_polesTo_132 : decode cX5_polesTo 132 = .ok (.goto (-77), 3) := by decide +kernel
theorem dX5_polesTo_135 : decode cX5_polesTo 135 = .ok (.aload_n 0, 1) := by decide +kernel
theorem dX5_polesTo_136 : decode cX5_polesTo 136 = .ok (.getfield 28, 3) := by decide +kernel
theorem dX5_polesTo_139 : decode cX5_polesTo 139 = .ok (.iload 4, 2) := by decide +kernel
theorem dX5_polesTo_141 : decode cX5_polesTo 141 = .ok (.iload 6, 2) := by decide +kernel
theorem dX5_polesTo_143 : decode cX5_polesTo 143 = .ok (.invokestatic 44, 3) := by decide +kernel
theorem dX5_polesTo_146 : decode cX5_polesTo 146 = .ok (.iinc 4 1, 3) := by decide +kernel
theorem dX5_polesTo_149 : decode cX5_polesTo 149 = .ok (.goto (-131), 3) := by decide +kernel
theorem dX5_polesTo_152 : decode cX5_polesTo 152 = .ok (.aload_n 0, 1) := by decide +kernel
theorem dX5_polesTo_153 : decode cX5_polesTo 153 = .ok (.getfield 28, 3) := by decide +kernel
theorem dX5_polesTo_156 : decode cX5_polesTo 156 = .ok (.iload_n 3, 1) := by decide +kernel
theorem dX5_polesTo_157 : decode cX5_polesTo 157 = .ok (.invokestatic 52, 3) := by decide +kernel
theorem dX5_polesTo_160 : decode cX5_polesTo 160 = .ok (.ireturn, 1) := by decide +kernel
theorem hd_Line_polesTo_24_2 : y_Line_polesTo_24_2.cls ≠ "java/lang/invoke/MethodHandle" ∧ y_Line_polesTo_24_2.cls ≠ "java/lang/invoke/VarHandle" ∧ (parseMethodDescriptor y_Line_polesTo_24_2.desc).map (fun d => d.parameters.length) = some 2 := by decide +kernel
def b_Line_polesTo_24_2_55 (y3 : Int32 × Mem) (y5 : Int32 × Int32 × Int32) : Option ((Int32 × Int32 × Int32) ⊕ (Int32)) :=
  if decide (y5.2.2 < 0) then (some (.inr y5.1)) else (if decide ((y3.1 - y5.2.2) ≤ (y3.2.1 24 3)) then (jv_ ((if decide (y5.2.1 ≤ (jmax (atv (y3.2.1 3) 48 (atv (y3.2.1 27) 48 y3.1)) (atv (y3.2.1 3) 48 (atv (y3.2.1 27) 48 y5.2.2)))) then jmin y5.1 ((atv (y3.2.1 28) 48 y5.2.2) + 1) else y5.1) : Int32) fun u10 => some (.inl (u10, jmax y5.2.1 (atv (y3.2.1 3) 48 (atv (y3.2.1 27) 48 y5.2.2)), y5.2.2 + (-1)))) else (some (.inr y5.1)))
def b_Line_polesTo_24_2_18 (q1 : Int32 × Mem) (y3 : Int32 × Mem) : Option ((Int32 × Mem) ⊕ (Mem)) :=
  if decide (y3.1 ≤ q1.1) then ((itr (b_Line_polesTo_24_2_55 y3) FU (48, 0, y3.1 - 1)).bind fun q11 => jv_ (putv y3.2 28 48 y3.1 q11) fun M12 => some (.inl (y3.1 + 1, M12))) else (some (.inr y3.2))
def f_Line_polesTo_24_2 (a1 : Int32) (M0 : Mem) : Option (Int32 × Mem) :=
  (f_Line_climb_24 a1 M0).bind fun q1 => jv_ (putv q1.2 28 48 0 1) fun M2 => (itr (b_Line_polesTo_24_2_18 q1) FU (1, M2)).bind fun q13 => some (atv (q13.1 28) 48 q1.1, q13)
set_option maxHeartbeats 4000000 in
set_option maxRecDepth 20000 in
theorem C_Line_polesTo_24_2 {D : va_G} {ad adK adV : Nat → Nat} {cI cJ : ClassId} {l : Launch} (a1 : Int32) (M0 : Mem) (o : Int32 × Mem) (h : f_Line_polesTo_24_2 a1 M0 = some o) : Ct D ad adK adV cI cJ l y_Line_polesTo_24_2 cX5_polesTo 10 (some .int) 4 86 [.ref (ad 24), .int a1, .ref (ad 2)] M0 (some (.int o.1)) o.2 := by
  refine x_start (lv := [(0, .ref (ad 24)), (1, .int a1), (2, .ref (ad 2))]) (own := "CurrentFarms$Line") rfl (by decide) (Nat.le_of_ble_eq_true rfl) rfl ?_
  intro p e s m args below meth c Q hQ B
  unfold f_Line_polesTo_24_2 at h
  refine x_aload_n (pc := 0) B 0 dX5_polesTo_0 rfl rfl ?_
  refine x_iload_n (pc := 1) B 1 dX5_polesTo_1 rfl rfl ?_
  obtain ⟨q1, hq1, h⟩ := bnd h
  refine x_callV (rest := []) (st' := [.int q1.1]) (pc := 2) B oi_24 rfl (C_Line_climb_24 a1 M0 _ hq1) tw_718 tw_1038 tw_716 tw_717 tw_103 hd_Line_climb_24 ⟨Nat.le_of_ble_eq_true rfl, Nat.le_of_ble_eq_true rfl⟩ rfl rfl (Nat.le_of_ble_eq_true rfl) rfl dX5_polesTo_2 ?_
  refine x_istore_n (lv' := [(3, .int q1.1), (0, .ref (ad 24)), (1, .int a1), (2, .ref (ad 2))]) (pc := 5) B dX5_polesTo_5 rfl (by decide) rfl ?_
  refine x_aload_n (pc := 6) B 1 dX5_polesTo_6 rfl rfl ?_
  refine x_get (T := TX5) (pc := 7) B 6 oi_24 rfl uw_5 (by decide) rfl tw_275 rfl dX5_polesTo_7 ?_
  refine x_iconst (v := 0) (pc := 10) B dX5_polesTo_10 rfl ?_
  refine x_iconst (v := 1) (pc := 11) B dX5_polesTo_11 rfl ?_
  refine x_callSN (rest := []) (st' := []) (pc := 12) B (T_CF_put 28 48 0 1 ai_28 (by decide) q1.2) tw_588 tw_719 tw_587 tw_98 hd_CF_put ⟨Nat.le_of_ble_eq_true rfl, Nat.le_of_ble_eq_true rfl⟩ rfl rfl (Nat.le_of_ble_eq_true rfl) rfl dX5_polesTo_12 ?_
  refine jv_m (P := fun M2 => XX D ad cI cJ p l e (Rm 4 86) s m args below meth c Q 10 M2 15 [(3, .int q1.1), (0, .ref (ad 24)), (1, .int a1), (2, .ref (ad 2))] []) h (fun M2 h => ?_)
  refine x_iconst (v := 1) (pc := 15) B dX5_polesTo_15 rfl ?_
  refine x_istore (lv' := [(4, .int 1), (3, .int q1.1), (0, .ref (ad 24)), (1, .int a1), (2, .ref (ad 2))]) (pc := 16) B dX5_polesTo_16 (by decide) rfl ?_
  refine x_pick (lv' := [(0, .ref (ad 24)), (2, .ref (ad 2)), (3, .int q1.1), (4, .int 1)]) [2, 4, 1, 0] rfl ?_
  obtain ⟨q13, hq13, h⟩ := bnd h
  refine x_loop (Head := fun (y3 : Int32 × Mem) => XX D ad cI cJ p l e (Rm 4 86) s m args below meth c Q 10 y3.2 18 [(0, .ref (ad 24)), (2, .ref (ad 2)), (3, .int q1.1), (4, .int y3.1)] []) (Ex := fun (q13 : Mem) => XX D ad cI cJ p l e (Rm 4 86) s m args below meth c Q 10 q13 152 [(0, .ref (ad 24)), (3, .int q1.1)] []) (fun y3 r h hback hexit => ?_) FU _ q13 hq13 ?_
  · unfold b_Line_polesTo_24_2_18 at h
    refine x_iload (pc := 18) B 3 dX5_polesTo_18 rfl ?_
    refine x_iload_n (pc := 20) B 2 dX5_polesTo_20 rfl rfl ?_
    refine x_icmp_gt (tgt := 152) (pc := 21) B dX5_polesTo_21 rfl (fun hc4 => ?_) (fun hc4 => ?_)
    · have h := iff_ hc4 h
      refine x_pick (lv' := [(0, .ref (ad 24)), (3, .int q1.1)]) [0, 2] rfl ?_
      have z := hexit y3.2 (Option.some.inj h).symm
      exact z
    · have h := ift hc4 h
      refine x_aload_n (pc := 24) B 1 dX5_polesTo_24 rfl rfl ?_
      refine x_get (T := TX4) (pc := 25) B 0 oi_2 rfl uw_4 (by decide) rfl tw_141 rfl dX5_polesTo_25 ?_
      refine x_aload_n (pc := 28) B 0 dX5_polesTo_28 rfl rfl ?_
      refine x_get (T := TX5) (pc := 29) B 5 oi_24 rfl uw_5 (by decide) rfl tw_274 rfl dX5_polesTo_29 ?_
      refine x_iload (pc := 32) B 3 dX5_polesTo_32 rfl ?_
      refine x_callSN (rest := [.ref (ad 3)]) (st' := [.int (atv (y3.2.1 27) 48 y3.1), .ref (ad 3)]) (pc := 34) B (T_CF_at 27 48 y3.1 ai_27 (by decide) y3.2) tw_575 tw_573 tw_574 tw_98 hd_CF_at ⟨Nat.le_of_ble_eq_true rfl, Nat.le_of_ble_eq_true rfl⟩ rfl rfl (Nat.le_of_ble_eq_true rfl) rfl dX5_polesTo_34 ?_
      refine x_callSN (rest := []) (st' := [.int (atv (y3.2.1 3) 48 (atv (y3.2.1 27) 48 y3.1))]) (pc := 37) B (T_CF_at 3 48 (atv (y3.2.1 27) 48 y3.1) ai_3 (by decide) y3.2) tw_575 tw_573 tw_574 tw_98 hd_CF_at ⟨Nat.le_of_ble_eq_true rfl, Nat.le_of_ble_eq_true rfl⟩ rfl rfl (Nat.le_of_ble_eq_true rfl) rfl dX5_polesTo_37 ?_
      refine x_istore (lv' := [(5, .int (atv (y3.2.1 3) 48 (atv (y3.2.1 27) 48 y3.1))), (0, .ref (ad 24)), (2, .ref (ad 2)), (3, .int q1.1), (4, .int y3.1)]) (pc := 40) B dX5_polesTo_40 (by decide) rfl ?_
      refine x_bipush (v := 48) (pc := 42) B dX5_polesTo_42 rfl ?_
      refine x_istore (lv' := [(6, .int 48), (5, .int (atv (y3.2.1 3) 48 (atv (y3.2.1 27) 48 y3.1))), (0, .ref (ad 24)), (2, .ref (ad 2)), (3, .int q1.1), (4, .int y3.1)]) (pc := 44) B dX5_polesTo_44 (by decide) rfl ?_
      refine x_iconst (v := 0) (pc := 46) B dX5_polesTo_46 rfl ?_
      refine x_istore (lv' := [(7, .int 0), (6, .int 48), (5, .int (atv (y3.2.1 3) 48 (atv (y3.2.1 27) 48 y3.1))), (0, .ref (ad 24)), (2, .ref (ad 2)), (3, .int q1.1), (4, .int y3.1)]) (pc := 47) B dX5_polesTo_47 (by decide) rfl ?_
      refine x_iload (pc := 49) B 6 dX5_polesTo_49 rfl ?_
      refine x_iconst (v := 1) (pc := 51) B dX5_polesTo_51 rfl ?_
      refine x_isub (pc := 52) B dX5_polesTo_52 ?_
      refine x_istore (lv' := [(8, .int (y3.1 - 1)), (7, .int 0), (6, .int 48), (5, .int (atv (y3.2.1 3) 48 (atv (y3.2.1 27) 48 y3.1))), (0, .ref (ad 24)), (2, .ref (ad 2)), (3, .int q1.1), (4, .int y3.1)]) (pc := 53) B dX5_polesTo_53 (by decide) rfl ?_
      refine x_pick (lv' := [(0, .ref (ad 24)), (2, .ref (ad 2)), (3, .int q1.1), (4, .int y3.1), (5, .int (atv (y3.2.1 3) 48 (atv (y3.2.1 27) 48 y3.1))), (6, .int 48), (7, .int 0), (8, .int (y3.1 - 1))]) [4, 5, 6, 7, 3, 2, 1, 0] rfl ?_
      obtain ⟨q11, hq11, h⟩ := bnd h
      refine x_loop (Head := fun (y5 : Int32 × Int32 × Int32) => XX D ad cI cJ p l e (Rm 4 86) s m args below meth c Q 10 y3.2 55 [(0, .ref (ad 24)), (2, .ref (ad 2)), (3, .int q1.1), (4, .int y3.1), (5, .int (atv (y3.2.1 3) 48 (atv (y3.2.1 27) 48 y3.1))), (6, .int y5.1), (7, .int y5.2.1), (8, .int y5.2.2)] []) (Ex := fun (q11 : Int32) => XX D ad cI cJ p l e (Rm 4 86) s m args below meth c Q 10 y3.2 135 [(0, .ref (ad 24)), (2, .ref (ad 2)), (3, .int q1.1), (4, .int y3.1), (6, .int q11)] []) (fun y5 r h hback hexit => ?_) FU _ q11 hq11 ?_
      · unfold b_Line_polesTo_24_2_55 at h
        refine x_iload (pc := 55) B 7 dX5_polesTo_55 rfl ?_
        refine x_if_lt (tgt := 135) (pc := 57) B dX5_polesTo_57 rfl (fun hc6 => ?_) (fun hc6 => ?_)
        · have h := ift hc6 h
          refine x_pick (lv' := [(0, .ref (ad 24)), (2, .ref (ad 2)), (3, .int q1.1), (4, .int y3.1), (6, .int y5.1)]) [0, 1, 2, 3, 5] rfl ?_
          have z := hexit y5.1 (Option.some.inj h).symm
          exact z
        · have h := iff_ hc6 h
          refine x_iload (pc := 60) B 3 dX5_polesTo_60 rfl ?_
          refine x_iload (pc := 62) B 7 dX5_polesTo_62 rfl ?_
          refine x_isub (pc := 64) B dX5_polesTo_64 ?_
          refine x_aload_n (pc := 65) B 0 dX5_polesTo_65 rfl rfl ?_
          refine x_get (T := TX5) (pc := 66) B 3 oi_24 rfl uw_5 (by decide) rfl tw_269 rfl dX5_polesTo_66 ?_
          refine x_icmp_gt (tgt := 135) (pc := 69) B dX5_polesTo_69 rfl (fun hc7 => ?_) (fun hc7 => ?_)
          · have h := iff_ hc7 h
            refine x_pick (lv' := [(0, .ref (ad 24)), (2, .ref (ad 2)), (3, .int q1.1), (4, .int y3.1), (6, .int y5.1)]) [0, 1, 2, 3, 5] rfl ?_
            have z := hexit y5.1 (Option.some.inj h).symm
            exact z
          · have h := ift hc7 h
            refine x_aload_n (pc := 72) B 1 dX5_polesTo_72 rfl rfl ?_
            refine x_get (T := TX4) (pc := 73) B 0 oi_2 rfl uw_4 (by decide) rfl tw_141 rfl dX5_polesTo_73 ?_
            refine x_aload_n (pc := 76) B 0 dX5_polesTo_76 rfl rfl ?_
            refine x_get (T := TX5) (pc := 77) B 5 oi_24 rfl uw_5 (by decide) rfl tw_274 rfl dX5_polesTo_77 ?_
            refine x_iload (pc := 80) B 7 dX5_polesTo_80 rfl ?_
            refine x_callSN (rest := [.ref (ad 3)]) (st' := [.int (atv (y3.2.1 27) 48 y5.2.2), .ref (ad 3)]) (pc := 82) B (T_CF_at 27 48 y5.2.2 ai_27 (by decide) y3.2) tw_575 tw_573 tw_574 tw_98 hd_CF_at ⟨Nat.le_of_ble_eq_true rfl, Nat.le_of_ble_eq_true rfl⟩ rfl rfl (Nat.le_of_ble_eq_true rfl) rfl dX5_polesTo_82 ?_
            refine x_callSN (rest := []) (st' := [.int (atv (y3.2.1 3) 48 (atv (y3.2.1 27) 48 y5.2.2))]) (pc := 85) B (T_CF_at 3 48 (atv (y3.2.1 27) 48 y5.2.2) ai_3 (by decide) y3.2) tw_575 tw_573 tw_574 tw_98 hd_CF_at ⟨Nat.le_of_ble_eq_true rfl, Nat.le_of_ble_eq_true rfl⟩ rfl rfl (Nat.le_of_ble_eq_true rfl) rfl dX5_polesTo_85 ?_
            refine x_istore (lv' := [(9, .int (atv (y3.2.1 3) 48 (atv (y3.2.1 27) 48 y5.2.2))), (0, .ref (ad 24)), (2, .ref (ad 2)), (3, .int q1.1), (4, .int y3.1), (5, .int (atv (y3.2.1 3) 48 (atv (y3.2.1 27) 48 y3.1))), (6, .int y5.1), (7, .int y5.2.1), (8, .int y5.2.2)]) (pc := 88) B dX5_polesTo_88 (by decide) rfl ?_
            refine x_iload (pc := 90) B 7 dX5_polesTo_90 rfl ?_
            refine x_iload (pc := 92) B 5 dX5_polesTo_92 rfl ?_
            refine x_iload (pc := 94) B 0 dX5_polesTo_94 rfl ?_
            refine x_mmax (pc := 96) B tw_1039 tw_608 tw_112 tw_609 (by decide) (Nat.le_of_ble_eq_true rfl) dX5_polesTo_96 ?_
            refine jv_k h (fun (u10 : Int32) => XX D ad cI cJ p l e (Rm 4 86) s m args below meth c Q 10 y3.2 120 [(0, .ref (ad 24)), (2, .ref (ad 2)), (3, .int q1.1), (4, .int y3.1), (5, .int (atv (y3.2.1 3) 48 (atv (y3.2.1 27) 48 y3.1))), (6, .int u10), (7, .int y5.2.1), (8, .int y5.2.2), (9, .int (atv (y3.2.1 3) 48 (atv (y3.2.1 27) 48 y5.2.2)))] []) (fun u10 h => ?_) (fun JJ => ?_)
            · refine x_iload (pc := 120) B 6 dX5_polesTo_120 rfl ?_
              refine x_iload (pc := 122) B 8 dX5_polesTo_122 rfl ?_
              refine x_mmax (pc := 124) B tw_1039 tw_608 tw_112 tw_609 (by decide) (Nat.le_of_ble_eq_true rfl) dX5_polesTo_124 ?_
              refine x_istore (lv' := [(7, .int (jmax y5.2.1 (atv (y3.2.1 3) 48 (atv (y3.2.1 27) 48 y5.2.2)))), (0, .ref (ad 24)), (2, .ref (ad 2)), (3, .int q1.1), (4, .int y3.1), (5, .int (atv (y3.2.1 3) 48 (atv (y3.2.1 27) 48 y3.1))), (6, .int u10), (8, .int y5.2.2), (9, .int (atv (y3.2.1 3) 48 (atv (y3.2.1 27) 48 y5.2.2)))]) (pc := 127) B dX5_polesTo_127 (by decide) rfl ?_
              refine x_iinc (k := 7) (v := y5.2.2 + (-1)) (lv' := [(8, .int (y5.2.2 + (-1))), (7, .int (jmax y5.2.1 (atv (y3.2.1 3) 48 (atv (y3.2.1 27) 48 y5.2.2)))), (0, .ref (ad 24)), (2, .ref (ad 2)), (3, .int q1.1), (4, .int y3.1), (5, .int (atv (y3.2.1 3) 48 (atv (y3.2.1 27) 48 y3.1))), (6, .int u10), (9, .int (atv (y3.2.1 3) 48 (atv (y3.2.1 27) 48 y5.2.2)))]) (pc := 129) B dX5_polesTo_129 rfl rfl (by decide) rfl ?_
              refine x_goto (tgt := 55) (pc := 132) B dX5_polesTo_132 rfl ?_
              refine x_pick (lv' := [(0, .ref (ad 24)), (2, .ref (ad 2)), (3, .int q1.1), (4, .int y3.1), (5, .int (atv (y3.2.1 3) 48 (atv (y3.2.1 27) 48 y3.1))), (6, .int u10), (7, .int (jmax y5.2.1 (atv (y3.2.1 3) 48 (atv (y3.2.1 27) 48 y5.2.2)))), (8, .int (y5.2.2 + (-1)))]) [2, 3, 4, 5, 6, 7, 1, 0] rfl ?_
              have z := hback (u10, jmax y5.2.1 (atv (y3.2.1 3) 48 (atv (y3.2.1 27) 48 y5.2.2)), y5.2.2 + (-1)) (Option.some.inj h).symm
              exact z
            · refine x_icmp_gt (tgt := 120) (pc := 99) B dX5_polesTo_99 rfl (fun hc8 => ?_) (fun hc8 => ?_)
              · refine x_pick (lv' := [(0, .ref (ad 24)), (2, .ref (ad 2)), (3, .int q1.1), (4, .int y3.1), (5, .int (atv (y3.2.1 3) 48 (atv (y3.2.1 27) 48 y3.1))), (6, .int y5.1), (7, .int y5.2.1), (8, .int y5.2.2), (9, .int (atv (y3.2.1 3) 48 (atv (y3.2.1 27) 48 y5.2.2)))]) [1, 2, 3, 4, 5, 6, 7, 8, 0] rfl ?_
                have z := JJ y5.1 ((zif_f hc8).trans rfl)
                exact z
              · refine x_iload (pc := 102) B 6 dX5_polesTo_102 rfl ?_
                refine x_aload_n (pc := 104) B 1 dX5_polesTo_104 rfl rfl ?_
                refine x_get (T := TX5) (pc := 105) B 6 oi_24 rfl uw_5 (by decide) rfl tw_275 rfl dX5_polesTo_105 ?_
                refine x_iload (pc := 108) B 8 dX5_polesTo_108 rfl ?_
                refine x_callSN (rest := [.int y5.1]) (st' := [.int (atv (y3.2.1 28) 48 y5.2.2), .int y5.1]) (pc := 110) B (T_CF_at 28 48 y5.2.2 ai_28 (by decide) y3.2) tw_575 tw_573 tw_574 tw_98 hd_CF_at ⟨Nat.le_of_ble_eq_true rfl, Nat.le_of_ble_eq_true rfl⟩ rfl rfl (Nat.le_of_ble_eq_true rfl) rfl dX5_polesTo_110 ?_
                refine x_iconst (v := 1) (pc := 113) B dX5_polesTo_113 rfl ?_
                refine x_iadd (pc := 114) B dX5_polesTo_114 ?_
                refine x_mmin (pc := 115) B tw_1040 tw_753 tw_112 tw_754 (by decide) (Nat.le_of_ble_eq_true rfl) dX5_polesTo_115 ?_
                refine x_istore (lv' := [(6, .int (jmin y5.1 ((atv (y3.2.1 28) 48 y5.2.2) + 1))), (9, .int (atv (y3.2.1 3) 48 (atv (y3.2.1 27) 48 y5.2.2))), (0, .ref (ad 24)), (2, .ref (ad 2)), (3, .int q1.1), (4, .int y3.1), (5, .int (atv (y3.2.1 3) 48 (atv (y3.2.1 27) 48 y3.1))), (7, .int y5.2.1), (8, .int y5.2.2)]) (pc := 118) B dX5_polesTo_118 (by decide) rfl ?_
                refine x_pick (lv' := [(0, .ref (ad 24)), (2, .ref (ad 2)), (3, .int q1.1), (4, .int y3.1), (5, .int (atv (y3.2.1 3) 48 (atv (y3.2.1 27) 48 y3.1))), (6, .int (jmin y5.1 ((atv (y3.2.1 28) 48 y5.2.2) + 1))), (7, .int y5.2.1), (8, .int y5.2.2), (9, .int (atv (y3.2.1 3) 48 (atv (y3.2.1 27) 48 y5.2.2)))]) [2, 3, 4, 5, 6, 0, 7, 8, 1] rfl ?_
                have z := JJ (jmin y5.1 ((atv (y3.2.1 28) 48 y5.2.2) + 1)) ((zif_t hc8).trans rfl)
                exact z
      · refine x_aload_n (pc := 135) B 0 dX5_polesTo_135 rfl rfl ?_
        refine x_get (T := TX5) (pc := 136) B 6 oi_24 rfl uw_5 (by decide) rfl tw_275 rfl dX5_polesTo_136 ?_
        refine x_iload (pc := 139) B 3 dX5_polesTo_139 rfl ?_
        refine x_iload (pc := 141) B 4 dX5_polesTo_141 rfl ?_
        refine x_callSN (rest := []) (st' := []) (pc := 143) B (T_CF_put 28 48 y3.1 q11 ai_28 (by decide) y3.2) tw_588 tw_719 tw_587 tw_98 hd_CF_put ⟨Nat.le_of_ble_eq_true rfl, Nat.le_of_ble_eq_true rfl⟩ rfl rfl (Nat.le_of_ble_eq_true rfl) rfl dX5_polesTo_143 ?_
        refine jv_m (P := fun M12 => XX D ad cI cJ p l e (Rm 4 86) s m args below meth c Q 10 M12 146 [(0, .ref (ad 24)), (2, .ref (ad 2)), (3, .int q1.1), (4, .int y3.1), (6, .int q11)] []) h (fun M12 h => ?_)
        refine x_iinc (k := 3) (v := y3.1 + 1) (lv' := [(4, .int (y3.1 + 1)), (0, .ref (ad 24)), (2, .ref (ad 2)), (3, .int q1.1), (6, .int q11)]) (pc := 146) B dX5_polesTo_146 rfl rfl (by decide) rfl ?_
        refine x_goto (tgt := 18) (pc := 149) B dX5_polesTo_149 rfl ?_
        refine x_pick (lv' := [(0, .ref (ad 24)), (2, .ref (ad 2)), (3, .int q1.1), (4, .int (y3.1 + 1))]) [1, 2, 3, 0] rfl ?_
        have z := hback (y3.1 + 1, M12) (Option.some.inj h).symm
        exact z
  · refine x_aload_n (pc := 152) B 0 dX5_polesTo_152 rfl rfl ?_
    refine x_get (T := TX5) (pc := 153) B 6 oi_24 rfl uw_5 (by decide) rfl tw_275 rfl dX5_polesTo_153 ?_
    refine x_iload_n (pc := 156) B 1 dX5_polesTo_156 rfl rfl ?_
    refine x_callSN (rest := []) (st' := [.int (atv (q13.1 28) 48 q1.1)]) (pc := 157) B (T_CF_at 28 48 q1.1 ai_28 (by decide) q13) tw_575 tw_573 tw_574 tw_98 hd_CF_at ⟨Nat.le_of_ble_eq_true rfl, Nat.le_of_ble_eq_true rfl⟩ rfl rfl (Nat.le_of_ble_eq_true rfl) rfl dX5_polesTo_157 ?_
    obtain rfl := Option.some.inj h
    exact x_iret (pc := 160) B hQ dX5_polesTo_160
-- CurrentFarms$Line.upward(I)J [24]
abbrev y_Line_upward_24 : MethodName := ⟨"CurrentFarms$Line", "upward", "(I)J"⟩
abbrev cX5_upward : ByteArray := prog_7_method_9_code
theorem dX5_upward_0 : decode cX5_upward 0 = .ok (.lconst 0, 1) := by decide +kernel
theorem dX5_upward_1 : decode cX5_upward 1 = .ok (.lstore_n 2, 1) := by decide +kernel
theorem dX5_upward_2 : decode cX5_upward 2 = .ok (.aload_n 0, 1) := by decide +kernel
theorem dX5_upward_3 : decode cX5_upward 3 = .ok (.iload_n 1, 1) := by decide +kernel
theorem dX5_upward_4 : decode cX5_upward 4 = .ok (.invokevirtual 66, 3) := by decide +kernel
theorem dX5_upward_7 : decode cX5_upward 7 = .ok (.istore 4, 2) := by decide +kernel
theorem dX5_upward_9 : decode cX5_upward 9 = .ok (.iconst 0, 1) := by decide +kernel
theorem dX5_upward_10 : decode cX5_upward 10 = .ok (.istore 5, 2) := by decide +kernel
theorem dX5_upward_12 : decode cX5_upward 12 = .ok (.iload 5, 2) := by decide +kernel
theorem dX5_upward_14 : decode cX5_upward 14 = .ok (.iload 4, 2) := by decide +kernel
theorem dX5_upward_16 : decode cX5_upward 16 = .ok (.if_icmp .gt 23, 3) := by decide +kernel
theorem dX5_upward_19 : decode cX5_upward 19 = .ok (.lload_n 2, 1) := by decide +kernel
theorem dX5_upward_20 : decode cX5_upward 20 = .ok (.lconst 1, 1) := by decide +kernel
theorem dX5_upward_21 : decode cX5_upward 21 = .ok (.aload_n 0, 1) := by decide +kernel
theorem dX5_upward_22 : decode cX5_upward 22 = .ok (.getfield 25, 3) := by decide +kernel
theorem dX5_upward_25 : decode cX5_upward 25 = .ok (.iload 5, 2) := by decide +kernel
theorem dX5_upward_27 : decode cX5_upward 27 = .ok (.invokestatic 52, 3) := by decide +kernel
theorem dX5_upward_30 : decode cX5_upward 30 = .ok (.lshl, 1) := by decide +kernel
theorem dX5_upward_31 : decode cX5_upward 31 = .ok (.lor, 1) := by decide +kernel
theorem dX5_upward_32 : decode cX5_upward 32 = .ok (.lstore_n 2, 1) := by decide +kernel
theorem dX5_upward_33 : decode cX5_upward 33 = .ok (.iinc 5 1, 3) := by decide +kernel
theorem dX5_upward_36 : decode cX5_upward 36 = .ok (.goto (-24), 3) := by decide +kernel
theorem dX5_upward_39 : decode cX5_upward 39 = .ok (.lload_n 2, 1) := by decide +kernel
theorem dX5_upward_40 : decode cX5_upward 40 = .ok (.lreturn, 1) := by decide +kernel
theorem hd_Line_upward_24 : y_Line_upward_24.cls ≠ "java/lang/invoke/MethodHandle" ∧ y_Line_upward_24.cls ≠ "java/lang/invoke/VarHandle" ∧ (parseMethodDescriptor y_Line_upward_24.desc).map (fun d => d.parameters.length) = some 1 := by decide +kernel
def b_Line_upward_24_12 (q1 : Int32 × Mem) (y2 : Int64 × Int32) : Option ((Int64 × Int32) ⊕ (Int64)) :=
  if decide (y2.2 ≤ q1.1) then (some (.inl (y2.1 ||| (1 <<< ((atv (q1.2.1 27) 48 y2.2).toInt64 &&& 63)), y2.2 + 1))) else (some (.inr y2.1))
def f_Line_upward_24 (a1 : Int32) (M0 : Mem) : Option (Int64 × Mem) :=
  (f_Line_climb_24 a1 M0).bind fun q1 => (itr (b_Line_upward_24_12 q1) FU (0, 0)).bind fun q4 => some (q4, q1.2)
set_option maxHeartbeats 4000000 in
set_option maxRecDepth 20000 in
theorem C_Line_upward_24 {D : va_G} {ad adK adV : Nat → Nat} {cI cJ : ClassId} {l : Launch} (a1 : Int32) (M0 : Mem) (o : Int64 × Mem) (h : f_Line_upward_24 a1 M0 = some o) : Ct D ad adK adV cI cJ l y_Line_upward_24 cX5_upward 6 (some .long) 4 86 [.ref (ad 24), .int a1] M0 (some (.long o.1)) o.2 := by
  refine x_start (lv := [(0, .ref (ad 24)), (1, .int a1)]) (own := "CurrentFarms$Line") rfl (by decide) (Nat.le_of_ble_eq_true rfl) rfl ?_
  intro p e s m args below meth c Q hQ B
  unfold f_Line_upward_24 at h
  refine x_lconst (v := 0) (pc := 0) B dX5_upward_0 rfl ?_
  refine x_lstore_n (lv' := [(2, .long 0), (0, .ref (ad 24)), (1, .int a1)]) (pc := 1) B dX5_upward_1 rfl (by decide) rfl ?_
  refine x_aload_n (pc := 2) B 1 dX5_upward_2 rfl rfl ?_
  refine x_iload_n (pc := 3) B 2 dX5_upward_3 rfl rfl ?_
  obtain ⟨q1, hq1, h⟩ := bnd h
  refine x_callV (rest := []) (st' := [.int q1.1]) (pc := 4) B oi_24 rfl (C_Line_climb_24 a1 M0 _ hq1) tw_718 tw_1038 tw_716 tw_717 tw_103 hd_Line_climb_24 ⟨Nat.le_of_ble_eq_true rfl, Nat.le_of_ble_eq_true rfl⟩ rfl rfl (Nat.le_of_ble_eq_true rfl) rfl dX5_upward_4 ?_
  refine x_istore (lv' := [(4, .int q1.1), (2, .long 0), (0, .ref (ad 24)), (1, .int a1)]) (pc := 7) B dX5_upward_7 (by decide) rfl ?_
  refine x_iconst (v := 0) (pc := 9) B dX5_upward_9 rfl ?_
  refine x_istore (lv' := [(5, .int 0), (4, .int q1.1), (2, .long 0), (0, .ref (ad 24)), (1, .int a1)]) (pc := 10) B dX5_upward_10 (by decide) rfl ?_
  refine x_pick (lv' := [(0, .ref (ad 24)), (2, .long 0), (4, .int q1.1), (5, .int 0)]) [3, 2, 1, 0] rfl ?_
  obtain ⟨q4, hq4, h⟩ := bnd h
  refine x_loop (Head := fun (y2 : Int64 × Int32) => XX D ad cI cJ p l e (Rm 4 86) s m args below meth c Q 6 q1.2 12 [(0, .ref (ad 24)), (2, .long y2.1), (4, .int q1.1), (5, .int y2.2)] []) (Ex := fun (q4 : Int64) => XX D ad cI cJ p l e (Rm 4 86) s m args below meth c Q 6 q1.2 39 [(2, .long q4)] []) (fun y2 r h hback hexit => ?_) FU _ q4 hq4 ?_
  · unfold b_Line_upward_24_12 at h
    refine x_iload (pc := 12) B 3 dX5_upward_12 rfl ?_
    refine x_iload (pc := 14) B 2 dX5_upward_14 rfl ?_
    refine x_icmp_gt (tgt := 39) (pc := 16) B dX5_upward_16 rfl (fun hc3 => ?_) (fun hc3 => ?_)
    · have h := iff_ hc3 h
      refine x_pick (lv' := [(2, .long y2.1)]) [1] rfl ?_
      have z := hexit y2.1 (Option.some.inj h).symm
      exact z
    · have h := ift hc3 h
      refine x_lload_n (pc := 19) B 1 dX5_upward_19 rfl rfl ?_
      refine x_lconst (v := 1) (pc := 20) B dX5_upward_20 rfl ?_
      refine x_aload_n (pc := 21) B 0 dX5_upward_21 rfl rfl ?_
      refine x_get (T := TX5) (pc := 22) B 5 oi_24 rfl uw_5 (by decide) rfl tw_274 rfl dX5_upward_22 ?_
      refine x_iload (pc := 25) B 3 dX5_upward_25 rfl ?_
      refine x_callSN (rest := [.long 1, .long y2.1]) (st' := [.int (atv (q1.2.1 27) 48 y2.2), .long 1, .long y2.1]) (pc := 27) B (T_CF_at 27 48 y2.2 ai_27 (by decide) q1.2) tw_575 tw_573 tw_574 tw_98 hd_CF_at ⟨Nat.le_of_ble_eq_true rfl, Nat.le_of_ble_eq_true rfl⟩ rfl rfl (Nat.le_of_ble_eq_true rfl) rfl dX5_upward_27 ?_
      refine x_lshl (pc := 30) B dX5_upward_30 ?_
      refine x_lor (pc := 31) B dX5_upward_31 ?_
      refine x_lstore_n (lv' := [(2, .long (y2.1 ||| (1 <<< ((atv (q1.2.1 27) 48 y2.2).toInt64 &&& 63)))), (0, .ref (ad 24)), (4, .int q1.1), (5, .int y2.2)]) (pc := 32) B dX5_upward_32 rfl (by decide) rfl ?_
      refine x_iinc (k := 3) (v := y2.2 + 1) (lv' := [(5, .int (y2.2 + 1)), (2, .long (y2.1 ||| (1 <<< ((atv (q1.2.1 27) 48 y2.2).toInt64 &&& 63)))), (0, .ref (ad 24)), (4, .int q1.1)]) (pc := 33) B dX5_upward_33 rfl rfl (by decide) rfl ?_
      refine x_goto (tgt := 12) (pc := 36) B dX5_upward_36 rfl ?_
      refine x_pick (lv' := [(0, .ref (ad 24)), (2, .long (y2.1 ||| (1 <<< ((atv (q1.2.1 27) 48 y2.2).toInt64 &&& 63)))), (4, .int q1.1), (5, .int (y2.2 + 1))]) [2, 1, 3, 0] rfl ?_
      have z := hback (y2.1 ||| (1 <<< ((atv (q1.2.1 27) 48 y2.2).toInt64 &&& 63)), y2.2 + 1) (Option.some.inj h).symm
      exact z
  · refine x_lload_n (pc := 39) B 0 dX5_upward_39 rfl rfl ?_
    obtain rfl := Option.some.inj h
    exact x_lret (pc := 40) B hQ dX5_upward_40
-- CurrentFarms$Line.between(II)J [24]
abbrev y_Line_between_24 : MethodName := ⟨"CurrentFarms$Line", "between", "(II)J"⟩
abbrev cX5_between : ByteArray := prog_7_method_10_code
theorem dX5_between_0 : decode cX5_between 0 = .ok (.aload_n 0, 1) := by decide +kernel
theorem dX5_between_1 : decode cX5_between 1 = .ok (.iload_n 2, 1) := by decide +kernel
theorem dX5_between_2 : decode cX5_between 2 = .ok (.invokevirtual 69, 3) := by decide +kernel
theorem dX5_between_5 : decode cX5_between 5 = .ok (.lstore_n 3, 1) := by decide +kernel
theorem dX5_between_6 : decode cX5_between 6 = .ok (.aload_n 0, 1) := by decide +kernel
theorem dX5_between_7 : decode cX5_between 7 = .ok (.iload_n 1, 1) := by decide +kernel
theorem dX5_between_8 : decode cX5_between 8 = .ok (.invokevirtual 69, 3) := by decide +kernel
theorem dX5_between_11 : decode cX5_between 11 = .ok (.lstore 5, 2) := by decide +kernel
theorem dX5_between_13 : decode cX5_between 13 = .ok (.iload_n 1, 1) := by decide +kernel
theorem dX5_between_14 : decode cX5_between 14 = .ok (.istore 7, 2) := by decide +kernel
theorem dX5_between_16 : decode cX5_between 16 = .ok (.aload_n 0, 1) := by decide +kernel
theorem dX5_between_17 : decode cX5_between 17 = .ok (.iload_n 1, 1) := by decide +kernel
theorem dX5_between_18 : decode cX5_between 18 = .ok (.invokevirtual 66, 3) := by decide +kernel
theorem dX5_between_21 : decode cX5_between 21 = .ok (.istore 8, 2) := by decide +kernel
theorem dX5_between_23 : decode cX5_between 23 = .ok (.iload 8, 2) := by decide +kernel
theorem dX5_between_25 : decode cX5_between 25 = .ok (.ifCond .lt 38, 3) := by decide +kernel
theorem dX5_between_28 : decode cX5_between 28 = .ok (.lload_n 3, 1) := by decide +kernel
theorem dX5_between_29 : decode cX5_between 29 = .ok (.aload_n 0, 1) := by decide +kernel
theorem dX5_between_30 : decode cX5_between 30 = .ok (.getfield 25, 3) := by decide +kernel
theorem dX5_between_33 : decode cX5_between 33 = .ok (.iload 8, 2) := by decide +kernel
theorem dX5_between_35 : decode cX5_between 35 = .ok (.invokestatic 52, 3) := by decide +kernel
theorem dX5_between_38 : decode cX5_between 38 = .ok (.lshr, 1) := by decide +kernel
theorem dX5_between_39 : decode cX5_between 39 = .ok (.lconst 1, 1) := by decide +kernel
theorem dX5_between_40 : decode cX5_between 40 = .ok (.land, 1) := by decide +kernel
theorem dX5_between_41 : decode cX5_between 41 = .ok (.lconst 1, 1) := by decide +kernel
theorem dX5_between_42 : decode cX5_between 42 = .ok (.lcmp, 1) := by decide +kernel
theorem dX5_between_43 : decode cX5_between 43 = .ok (.ifCond .ne 14, 3) := by decide +kernel
theorem dX5_between_46 : decode cX5_between 46 = .ok (.aload_n 0, 1) := by decide +kernel
theorem dX5_between_47 : decode cX5_between 47 = .ok (.getfield 25, 3) := by decide +kernel
theorem dX5_between_50 : decode cX5_between 50 = .ok (.iload 8, 2) := by decide +kernel
theorem dX5_between_52 : decode cX5_between 52 = .ok (.invokestatic 52, 3) := by decide +kernel
theorem dX5_between_55 : decode cX5_between 55 = .ok (.istore 7, 2) := by decide +kernel
theorem dX5_between_57 : decode cX5_between 57 = .ok (.iinc 8 (-1), 3) := by decide +kernel
theorem dX5_between_60 : decode cX5_between 60 = .ok (.goto (-37), 3) := by decide +kernel
theorem dX5_between_63 : decode cX5_between 63 = .ok (.lload 5, 2) := by decide +kernel
theorem dX5_between_65 : decode cX5_between 65 = .ok (.lload_n 3, 1) := by decide +kernel
theorem dX5_between_66 : decode cX5_between 66 = .ok (.lxor, 1) := by decide +kernel
theorem dX5_between_67 : decode cX5_between 67 = .ok (.lconst 1, 1) := by decide +kernel
theorem dX5_between_68 : decode cX5_between 68 = .ok (.iload 7, 2) := by decide +kernel
theorem dX5_between_70 : decode cX5_between 70 = .ok (.lshl, 1) := by decide +kernel
theorem dX5_between_71 : decode cX5_between 71 = .ok (.lor, 1) := by decide +kernel
theorem dX5_between_72 : decode cX5_between 72 = .ok (.lreturn, 1) := by decide +kernel
theorem hd_Line_between_24 : y_Line_between_24.cls ≠ "java/lang/invoke/MethodHandle" ∧ y_Line_between_24.cls ≠ "java/lang/invoke/VarHandle" ∧ (parseMethodDescriptor y_Line_between_24.desc).map (fun d => d.parameters.length) = some 2 := by decide +kernel
def b_Line_between_24_23 (q1 : Int64 × Mem) (q3 : Int32 × Mem) (y4 : Int32 × Int32) : Option ((Int32 × Int32) ⊕ (Int32)) :=
  if decide (y4.2 < 0) then (some (.inr y4.1)) else (if decide ((lg_cmp ((q1.1 >>> ((atv (q3.2.1 27) 48 y4.2).toInt64 &&& 63)) &&& 1) 1) = 0) then (some (.inl (atv (q3.2.1 27) 48 y4.2, y4.2 + (-1)))) else (some (.inl (y4.1, y4.2 + (-1)))))
def f_Line_between_24 (a1 : Int32) (a2 : Int32) (M0 : Mem) : Option (Int64 × Mem) :=
  (f_Line_upward_24 a2 M0).bind fun q1 => (f_Line_upward_24 a1 q1.2).bind fun q2 => (f_Line_climb_24 a1 q2.2).bind fun q3 => (itr (b_Line_between_24_23 q1 q3) FU (a1, q3.1)).bind fun q7 => some ((q2.1 ^^^ q1.1) ||| (1 <<< (q7.toInt64 &&& 63)), q3.2)
set_option maxHeartbeats 4000000 in
set_option maxRecDepth 20000 in
theorem C_Line_between_24 {D : va_G} {ad adK adV : Nat → Nat} {cI cJ : ClassId} {l : Launch} (a1 : Int32) (a2 : Int32) (M0 : Mem) (o : Int64 × Mem) (h : f_Line_between_24 a1 a2 M0 = some o) : Ct D ad adK adV cI cJ l y_Line_between_24 cX5_between 9 (some .long) 5 111 [.ref (ad 24), .int a1, .int a2] M0 (some (.long o.1)) o.2 := by
  refine x_start (lv := [(0, .ref (ad 24)), (1, .int a1), (2, .int a2)]) (own := "CurrentFarms$Line") rfl (by decide) (Nat.le_of_ble_eq_true rfl) rfl ?_
  intro p e s m args below meth c Q hQ B
  unfold f_Line_between_24 at h
  refine x_aload_n (pc := 0) B 0 dX5_between_0 rfl rfl ?_
  refine x_iload_n (pc := 1) B 2 dX5_between_1 rfl rfl ?_
  obtain ⟨q1, hq1, h⟩ := bnd h
  refine x_callV (rest := []) (st' := [.long q1.1]) (pc := 2) B oi_24 rfl (C_Line_upward_24 a2 M0 _ hq1) tw_1190 tw_1229 tw_1188 tw_1189 tw_103 hd_Line_upward_24 ⟨Nat.le_of_ble_eq_true rfl, Nat.le_of_ble_eq_true rfl⟩ rfl rfl (Nat.le_of_ble_eq_true rfl) rfl dX5_between_2 ?_
  refine x_lstore_n (lv' := [(3, .long q1.1), (0, .ref (ad 24)), (1, .int a1), (2, .int a2)]) (pc := 5) B dX5_between_5 rfl (by decide) rfl ?_
  refine x_aload_n (pc := 6) B 1 dX5_between_6 rfl rfl ?_
  refine x_iload_n (pc := 7) B 2 dX5_between_7 rfl rfl ?_
  obtain ⟨q2, hq2, h⟩ := bnd h
  refine x_callV (rest := []) (st' := [.long q2.1]) (pc := 8) B oi_24 rfl (C_Line_upward_24 a1 q1.2 _ hq2) tw_1190 tw_1229 tw_1188 tw_1189 tw_103 hd_Line_upward_24 ⟨Nat.le_of_ble_eq_true rfl, Nat.le_of_ble_eq_true rfl⟩ rfl rfl (Nat.le_of_ble_eq_true rfl) rfl dX5_between_8 ?_
  refine x_lstore (lv' := [(5, .long q2.1), (3, .long q1.1), (0, .ref (ad 24)), (1, .int a1), (2, .int a2)]) (pc := 11) B dX5_between_11 (by decide) rfl ?_
  refine x_iload_n (pc := 13) B 3 dX5_between_13 rfl rfl ?_
  refine x_istore (lv' := [(7, .int a1), (5, .long q2.1), (3, .long q1.1), (0, .ref (ad 24)), (1, .int a1), (2, .int a2)]) (pc := 14) B dX5_between_14 (by decide) rfl ?_
  refine x_aload_n (pc := 16) B 3 dX5_between_16 rfl rfl ?_
  refine x_iload_n (pc := 17) B 4 dX5_between_17 rfl rfl ?_
  obtain ⟨q3, hq3, h⟩ := bnd h
  refine x_callV (rest := []) (st' := [.int q3.1]) (pc := 18) B oi_24 rfl (C_Line_climb_24 a1 q2.2 _ hq3) tw_718 tw_1038 tw_716 tw_717 tw_103 hd_Line_climb_24 ⟨Nat.le_of_ble_eq_true rfl, Nat.le_of_ble_eq_true rfl⟩ rfl rfl (Nat.le_of_ble_eq_true rfl) rfl dX5_between_18 ?_
  refine x_istore (lv' := [(8, .int q3.1), (7, .int a1), (5, .long q2.1), (3, .long q1.1), (0, .ref (ad 24)), (1, .int a1), (2, .int a2)]) (pc := 21) B dX5_between_21 (by decide) rfl ?_
  refine x_pick (lv' := [(0, .ref (ad 24)), (3, .long q1.1), (5, .long q2.1), (7, .int a1), (8, .int q3.1)]) [4, 3, 2, 1, 0] rfl ?_
  obtain ⟨q7, hq7, h⟩ := bnd h
  refine x_loop (Head := fun (y4 : Int32 × Int32) => XX D ad cI cJ p l e (Rm 5 111) s m args below meth c Q 9 q3.2 23 [(0, .ref (ad 24)), (3, .long q1.1), (5, .long q2.1), (7, .int y4.1), (8, .int y4.2)] []) (Ex := fun (q7 : Int32) => XX D ad cI cJ p l e (Rm 5 111) s m args below meth c Q 9 q3.2 63 [(3, .long q1.1), (5, .long q2.1), (7, .int q7)] []) (fun y4 r h hback hexit => ?_) FU _ q7 hq7 ?_
  · unfold b_Line_between_24_23 at h
    refine x_iload (pc := 23) B 4 dX5_between_23 rfl ?_
    refine x_if_lt (tgt := 63) (pc := 25) B dX5_between_25 rfl (fun hc5 => ?_) (fun hc5 => ?_)
    · have h := ift hc5 h
      refine x_pick (lv' := [(3, .long q1.1), (5, .long q2.1), (7, .int y4.1)]) [1, 2, 3] rfl ?_
      have z := hexit y4.1 (Option.some.inj h).symm
      exact z
    · have h := iff_ hc5 h
      refine x_lload_n (pc := 28) B 1 dX5_between_28 rfl rfl ?_
      refine x_aload_n (pc := 29) B 0 dX5_between_29 rfl rfl ?_
      refine x_get (T := TX5) (pc := 30) B 5 oi_24 rfl uw_5 (by decide) rfl tw_274 rfl dX5_between_30 ?_
      refine x_iload (pc := 33) B 4 dX5_between_33 rfl ?_
      refine x_callSN (rest := [.long q1.1]) (st' := [.int (atv (q3.2.1 27) 48 y4.2), .long q1.1]) (pc := 35) B (T_CF_at 27 48 y4.2 ai_27 (by decide) q3.2) tw_575 tw_573 tw_574 tw_98 hd_CF_at ⟨Nat.le_of_ble_eq_true rfl, Nat.le_of_ble_eq_true rfl⟩ rfl rfl (Nat.le_of_ble_eq_true rfl) rfl dX5_between_35 ?_
      refine x_lshr (pc := 38) B dX5_between_38 ?_
      refine x_lconst (v := 1) (pc := 39) B dX5_between_39 rfl ?_
      refine x_land (pc := 40) B dX5_between_40 ?_
      refine x_lconst (v := 1) (pc := 41) B dX5_between_41 rfl ?_
      refine x_lcmp (pc := 42) B dX5_between_42 ?_
      refine x_if_ne (tgt := 57) (pc := 43) B dX5_between_43 rfl (fun hc6 => ?_) (fun hc6 => ?_)
      · have h := iff_ hc6 h
        refine x_iinc (k := 4) (v := y4.2 + (-1)) (lv' := [(8, .int (y4.2 + (-1))), (0, .ref (ad 24)), (3, .long q1.1), (5, .long q2.1), (7, .int y4.1)]) (pc := 57) B dX5_between_57 rfl rfl (by decide) rfl ?_
        refine x_goto (tgt := 23) (pc := 60) B dX5_between_60 rfl ?_
        refine x_pick (lv' := [(0, .ref (ad 24)), (3, .long q1.1), (5, .long q2.1), (7, .int y4.1), (8, .int (y4.2 + (-1)))]) [1, 2, 3, 4, 0] rfl ?_
        have z := hback (y4.1, y4.2 + (-1)) (Option.some.inj h).symm
        exact z
      · have h := ift hc6 h
        refine x_aload_n (pc := 46) B 0 dX5_between_46 rfl rfl ?_
        refine x_get (T := TX5) (pc := 47) B 5 oi_24 rfl uw_5 (by decide) rfl tw_274 rfl dX5_between_47 ?_
        refine x_iload (pc := 50) B 4 dX5_between_50 rfl ?_
        refine x_callSN (rest := []) (st' := [.int (atv (q3.2.1 27) 48 y4.2)]) (pc := 52) B (T_CF_at 27 48 y4.2 ai_27 (by decide) q3.2) tw_575 tw_573 tw_574 tw_98 hd_CF_at ⟨Nat.le_of_ble_eq_true rfl, Nat.le_of_ble_eq_true rfl⟩ rfl rfl (Nat.le_of_ble_eq_true rfl) rfl dX5_between_52 ?_
        refine x_istore (lv' := [(7, .int (atv (q3.2.1 27) 48 y4.2)), (0, .ref (ad 24)), (3, .long q1.1), (5, .long q2.1), (8, .int y4.2)]) (pc := 55) B dX5_between_55 (by decide) rfl ?_
        refine x_iinc (k := 4) (v := y4.2 + (-1)) (lv' := [(8, .int (y4.2 + (-1))), (7, .int (atv (q3.2.1 27) 48 y4.2)), (0, .ref (ad 24)), (3, .long q1.1), (5, .long q2.1)]) (pc := 57) B dX5_between_57 rfl rfl (by decide) rfl ?_
        refine x_goto (tgt := 23) (pc := 60) B dX5_between_60 rfl ?_
        refine x_pick (lv' := [(0, .ref (ad 24)), (3, .long q1.1), (5, .long q2.1), (7, .int (atv (q3.2.1 27) 48 y4.2)), (8, .int (y4.2 + (-1)))]) [2, 3, 4, 1, 0] rfl ?_
        have z := hback (atv (q3.2.1 27) 48 y4.2, y4.2 + (-1)) (Option.some.inj h).symm
        exact z
  · refine x_lload (pc := 63) B 1 dX5_between_63 rfl ?_
    refine x_lload_n (pc := 65) B 0 dX5_between_65 rfl rfl ?_
    refine x_lxor (pc := 66) B dX5_between_66 ?_
    refine x_lconst (v := 1) (pc := 67) B dX5_between_67 rfl ?_
    refine x_iload (pc := 68) B 2 dX5_between_68 rfl ?_
    refine x_lshl (pc := 70) B dX5_between_70 ?_
    refine x_lor (pc := 71) B dX5_between_71 ?_
    obtain rfl := Option.some.inj h
    exact x_lret (pc := 72) B hQ dX5_between_72
-- CurrentFarms$Land.cellOf(I)I [2]
abbrev y_Land_cellOf_2 : MethodName := ⟨"CurrentFarms$Land", "cellOf", "(I)I"⟩
abbrev cX4_cellOf : ByteArray := prog_6_method_4_code
theorem dX4_cellOf_0 : decode cX4_cellOf 0 = .ok (.aload_n 0, 1) := by decide +kernel
theorem dX4_cellOf_1 : decode cX4_cellOf 1 = .ok (.getfield 18, 3) := by decide +kernel
theorem dX4_cellOf_4 : decode cX4_cellOf 4 = .ok (.iload_n 1, 1) := by decide +kernel
theorem dX4_cellOf_5 : decode cX4_cellOf 5 = .ok (.invokestatic 39, 3) := by decide +kernel
theorem dX4_cellOf_8 : decode cX4_cellOf 8 = .ok (.ireturn, 1) := by decide +kernel
theorem hd_Land_cellOf_2 : y_Land_cellOf_2.cls ≠ "java/lang/invoke/MethodHandle" ∧ y_Land_cellOf_2.cls ≠ "java/lang/invoke/VarHandle" ∧ (parseMethodDescriptor y_Land_cellOf_2.desc).map (fun d => d.parameters.length) = some 1 := by decide +kernel
def f_Land_cellOf_2 (a1 : Int32) (M0 : Mem) : Option (Int32) :=
  some (atv (M0.1 5) 10 a1)
set_option maxHeartbeats 4000000 in
set_option maxRecDepth 20000 in
theorem C_Land_cellOf_2 {D : va_G} {ad adK adV : Nat → Nat} {cI cJ : ClassId} {l : Launch} (a1 : Int32) (M0 : Mem) (o : Int32) (h : f_Land_cellOf_2 a1 M0 = some o) : Ct D ad adK adV cI cJ l y_Land_cellOf_2 cX4_cellOf 2 (some .int) 1 21 [.ref (ad 2), .int a1] M0 (some (.int o)) M0 := by
  refine x_start (lv := [(0, .ref (ad 2)), (1, .int a1)]) (own := "CurrentFarms$Land") rfl (by decide) (Nat.le_of_ble_eq_true rfl) rfl ?_
  intro p e s m args below meth c Q hQ B
  unfold f_Land_cellOf_2 at h
  refine x_aload_n (pc := 0) B 0 dX4_cellOf_0 rfl rfl ?_
  refine x_get (T := TX4) (pc := 1) B 2 oi_2 rfl uw_4 (by decide) rfl tw_144 rfl dX4_cellOf_1 ?_
  refine x_iload_n (pc := 4) B 1 dX4_cellOf_4 rfl rfl ?_
  refine x_callSN (rest := []) (st' := [.int (atv (M0.1 5) 10 a1)]) (pc := 5) B (T_CF_at 5 10 a1 ai_5 (by decide) M0) tw_575 tw_584 tw_574 tw_98 hd_CF_at ⟨Nat.le_of_ble_eq_true rfl, Nat.le_of_ble_eq_true rfl⟩ rfl rfl (Nat.le_of_ble_eq_true rfl) rfl dX4_cellOf_5 ?_
  obtain rfl := Option.some.inj h
  exact x_iret (pc := 8) B hQ dX4_cellOf_8
-- CurrentFarms$Land.farmsOn(J)I [2]
abbrev y_Land_farmsOn_2 : MethodName := ⟨"CurrentFarms$Land", "farmsOn", "(J)I"⟩
abbrev cX4_farmsOn : ByteArray := prog_6_method_7_code
theorem dX4_farmsOn_0 : decode cX4_farmsOn 0 = .ok (.iconst 0, 1) := by decide +kernel
theorem dX4_farmsOn_1 : decode cX4_farmsOn 1 = .ok (.istore_n 3, 1) := by decide +kernel
theorem dX4_farmsOn_2 : decode cX4_farmsOn 2 = .ok (.iconst 0, 1) := by decide +kernel
theorem dX4_farmsOn_3 : decode cX4_farmsOn 3 = .ok (.istore 4, 2) := by decide +kernel
theorem dX4_farmsOn_5 : decode cX4_farmsOn 5 = .ok (.iload 4, 2) := by decide +kernel
theorem dX4_farmsOn_7 : decode cX4_farmsOn 7 = .ok (.aload_n 0, 1) := by decide +kernel
theorem dX4_farmsOn_8 : decode cX4_farmsOn 8 = .ok (.getfield 28, 3) := by decide +kernel
theorem dX4_farmsOn_11 : decode cX4_farmsOn 11 = .ok (.if_icmp .ge 31, 3) := by decide +kernel
theorem dX4_farmsOn_14 : decode cX4_farmsOn 14 = .ok (.lload_n 1, 1) := by decide +kernel
theorem dX4_farmsOn_15 : decode cX4_farmsOn 15 = .ok (.aload_n 0, 1) := by decide +kernel
theorem dX4_farmsOn_16 : decode cX4_farmsOn 16 = .ok (.iload 4, 2) := by decide +kernel
theorem dX4_farmsOn_18 : decode cX4_farmsOn 18 = .ok (.invokevirtual 57, 3) := by decide +kernel
theorem dX4_farmsOn_21 : decode cX4_farmsOn 21 = .ok (.lshr, 1) := by decide +kernel
theorem dX4_farmsOn_22 : decode cX4_farmsOn 22 = .ok (.lconst 1, 1) := by decide +kernel
theorem dX4_farmsOn_23 : decode cX4_farmsOn 23 = .ok (.land, 1) := by decide +kernel
theorem dX4_farmsOn_24 : decode cX4_farmsOn 24 = .ok (.lconst 1, 1) := by decide +kernel
theorem dX4_farmsOn_25 : decode cX4_farmsOn 25 = .ok (.lcmp, 1) := by decide +kernel
theorem dX4_farmsOn_26 : decode cX4_farmsOn 26 = .ok (.ifCond .ne 10, 3) := by decide +kernel
theorem dX4_farmsOn_29 : decode cX4_farmsOn 29 = .ok (.iload_n 3, 1) := by decide +kernel
theorem dX4_farmsOn_30 : decode cX4_farmsOn 30 = .ok (.iconst 1, 1) := by decide +kernel
theorem dX4_farmsOn_31 : decode cX4_farmsOn 31 = .ok (.iload 4, 2) := by decide +kernel
theorem dX4_farmsOn_33 : decode cX4_farmsOn 33 = .ok (.ishl, 1) := by decide +kernel
theorem dX4_farmsOn_34 : decode cX4_farmsOn 34 = .ok (.ior, 1) := by decide +kernel
theorem dX4_farmsOn_35 : decode cX4_farmsOn 35 = .ok (.istore_n 3, 1) := by decide +kernel
theorem dX4_farmsOn_36 : decode cX4_farmsOn 36 = .ok (.iinc 4 1, 3) := by decide +kernel
theorem dX4_farmsOn_39 : decode cX4_farmsOn 39 = .ok (.goto (-34), 3) := by decide +kernel
theorem dX4_farmsOn_42 : decode cX4_farmsOn 42 = .ok (.iload_n 3, 1) := by decide +kernel
theorem dX4_farmsOn_43 : decode cX4_farmsOn 43 = .ok (.ireturn, 1) := by decide +kernel
theorem hd_Land_farmsOn_2 : y_Land_farmsOn_2.cls ≠ "java/lang/invoke/MethodHandle" ∧ y_Land_farmsOn_2.cls ≠ "java/lang/invoke/VarHandle" ∧ (parseMethodDescriptor y_Land_farmsOn_2.desc).map (fun d => d.parameters.length) = some 1 := by decide +kernel
def b_Land_farmsOn_2_5 (a1 : Int64) (M0 : Mem) (y1 : Int32 × Int32) : Option ((Int32 × Int32) ⊕ (Int32)) :=
  if decide (y1.2 < (M0.1 2 4)) then ((f_Land_cellOf_2 y1.2 M0).bind fun q3 => if decide ((lg_cmp ((a1 >>> (q3.toInt64 &&& 63)) &&& 1) 1) = 0) then (some (.inl (y1.1 ||| (1 <<< (y1.2 &&& 31)), y1.2 + 1))) else (some (.inl (y1.1, y1.2 + 1)))) else (some (.inr y1.1))
def f_Land_farmsOn_2 (a1 : Int64) (M0 : Mem) : Option (Int32) :=
  (itr (b_Land_farmsOn_2_5 a1 M0) FU (0, 0)).bind fun q5 => some q5
set_option maxHeartbeats 4000000 in
set_option maxRecDepth 20000 in
theorem C_Land_farmsOn_2 {D : va_G} {ad adK adV : Nat → Nat} {cI cJ : ClassId} {l : Launch} (a1 : Int64) (M0 : Mem) (o : Int32) (h : f_Land_farmsOn_2 a1 M0 = some o) : Ct D ad adK adV cI cJ l y_Land_farmsOn_2 cX4_farmsOn 5 (some .int) 2 42 [.ref (ad 2), .long a1] M0 (some (.int o)) M0 := by
  refine x_start (lv := [(0, .ref (ad 2)), (1, .long a1)]) (own := "CurrentFarms$Land") rfl (by decide) (Nat.le_of_ble_eq_true rfl) rfl ?_
  intro p e s m args below meth c Q hQ B
  unfold f_Land_farmsOn_2 at h
  refine x_iconst (v := 0) (pc := 0) B dX4_farmsOn_0 rfl ?_
  refine x_istore_n (lv' := [(3, .int 0), (0, .ref (ad 2)), (1, .long a1)]) (pc := 1) B dX4_farmsOn_1 rfl (by decide) rfl ?_
  refine x_iconst (v := 0) (pc := 2) B dX4_farmsOn_2 rfl ?_
  refine x_istore (lv' := [(4, .int 0), (3, .int 0), (0, .ref (ad 2)), (1, .long a1)]) (pc := 3) B dX4_farmsOn_3 (by decide) rfl ?_
  refine x_pick (lv' := [(0, .ref (ad 2)), (1, .long a1), (3, .int 0), (4, .int 0)]) [2, 3, 1, 0] rfl ?_
  obtain ⟨q5, hq5, h⟩ := bnd h
  refine x_loop (Head := fun (y1 : Int32 × Int32) => XX D ad cI cJ p l e (Rm 2 42) s m args below meth c Q 5 M0 5 [(0, .ref (ad 2)), (1, .long a1), (3, .int y1.1), (4, .int y1.2)] []) (Ex := fun (q5 : Int32) => XX D ad cI cJ p l e (Rm 2 42) s m args below meth c Q 5 M0 42 [(3, .int q5)] []) (fun y1 r h hback hexit => ?_) FU _ q5 hq5 ?_
  · unfold b_Land_farmsOn_2_5 at h
    refine x_iload (pc := 5) B 3 dX4_farmsOn_5 rfl ?_
    refine x_aload_n (pc := 7) B 0 dX4_farmsOn_7 rfl rfl ?_
    refine x_get (T := TX4) (pc := 8) B 4 oi_2 rfl uw_4 (by decide) rfl tw_149 rfl dX4_farmsOn_8 ?_
    refine x_icmp_ge (tgt := 42) (pc := 11) B dX4_farmsOn_11 rfl (fun hc2 => ?_) (fun hc2 => ?_)
    · have h := iff_ hc2 h
      refine x_pick (lv' := [(3, .int y1.1)]) [2] rfl ?_
      have z := hexit y1.1 (Option.some.inj h).symm
      exact z
    · have h := ift hc2 h
      refine x_lload_n (pc := 14) B 1 dX4_farmsOn_14 rfl rfl ?_
      refine x_aload_n (pc := 15) B 0 dX4_farmsOn_15 rfl rfl ?_
      refine x_iload (pc := 16) B 3 dX4_farmsOn_16 rfl ?_
      obtain ⟨q3, hq3, h⟩ := bnd h
      refine x_callV (rest := [.long a1]) (st' := [.int q3, .long a1]) (pc := 18) B oi_2 rfl (C_Land_cellOf_2 y1.2 M0 _ hq3) tw_583 tw_580 tw_581 tw_582 tw_100 hd_Land_cellOf_2 ⟨Nat.le_of_ble_eq_true rfl, Nat.le_of_ble_eq_true rfl⟩ rfl rfl (Nat.le_of_ble_eq_true rfl) rfl dX4_farmsOn_18 ?_
      refine x_lshr (pc := 21) B dX4_farmsOn_21 ?_
      refine x_lconst (v := 1) (pc := 22) B dX4_farmsOn_22 rfl ?_
      refine x_land (pc := 23) B dX4_farmsOn_23 ?_
      refine x_lconst (v := 1) (pc := 24) B dX4_farmsOn_24 rfl ?_
      refine x_lcmp (pc := 25) B dX4_farmsOn_25 ?_
      refine x_if_ne (tgt := 36) (pc := 26) B dX4_farmsOn_26 rfl (fun hc4 => ?_) (fun hc4 => ?_)
      · have h := iff_ hc4 h
        refine x_iinc (k := 3) (v := y1.2 + 1) (lv' := [(4, .int (y1.2 + 1)), (0, .ref (ad 2)), (1, .long a1), (3, .int y1.1)]) (pc := 36) B dX4_farmsOn_36 rfl rfl (by decide) rfl ?_
        refine x_goto (tgt := 5) (pc := 39) B dX4_farmsOn_39 rfl ?_
        refine x_pick (lv' := [(0, .ref (ad 2)), (1, .long a1), (3, .int y1.1), (4, .int (y1.2 + 1))]) [1, 2, 3, 0] rfl ?_
        have z := hback (y1.1, y1.2 + 1) (Option.some.inj h).symm
        exact z
      · have h := ift hc4 h
        refine x_iload_n (pc := 29) B 2 dX4_farmsOn_29 rfl rfl ?_
        refine x_iconst (v := 1) (pc := 30) B dX4_farmsOn_30 rfl ?_
        refine x_iload (pc := 31) B 3 dX4_farmsOn_31 rfl ?_
        refine x_ishl (pc := 33) B dX4_farmsOn_33 ?_
        refine x_ior (pc := 34) B dX4_farmsOn_34 ?_
        refine x_istore_n (lv' := [(3, .int (y1.1 ||| (1 <<< (y1.2 &&& 31)))), (0, .ref (ad 2)), (1, .long a1), (4, .int y1.2)]) (pc := 35) B dX4_farmsOn_35 rfl (by decide) rfl ?_
        refine x_iinc (k := 3) (v := y1.2 + 1) (lv' := [(4, .int (y1.2 + 1)), (3, .int (y1.1 ||| (1 <<< (y1.2 &&& 31)))), (0, .ref (ad 2)), (1, .long a1)]) (pc := 36) B dX4_farmsOn_36 rfl rfl (by decide) rfl ?_
        refine x_goto (tgt := 5) (pc := 39) B dX4_farmsOn_39 rfl ?_
        refine x_pick (lv' := [(0, .ref (ad 2)), (1, .long a1), (3, .int (y1.1 ||| (1 <<< (y1.2 &&& 31)))), (4, .int (y1.2 + 1))]) [2, 3, 1, 0] rfl ?_
        have z := hback (y1.1 ||| (1 <<< (y1.2 &&& 31)), y1.2 + 1) (Option.some.inj h).symm
        exact z
  · refine x_iload_n (pc := 42) B 0 dX4_farmsOn_42 rfl rfl ?_
    obtain rfl := Option.some.inj h
    exact x_iret (pc := 43) B hQ dX4_farmsOn_43
-- CurrentFarms$Coins.dueIn(I)I [36]
abbrev y_Coins_dueIn_36 : MethodName := ⟨"CurrentFarms$Coins", "dueIn", "(I)I"⟩
abbrev cX3_dueIn : ByteArray := prog_5_method_6_code
theorem dX3_dueIn_0 : decode cX3_dueIn 0 = .ok (.iconst 0, 1) := by decide +kernel
theorem dX3_dueIn_1 : decode cX3_dueIn 1 = .ok (.istore_n 2, 1) := by decide +kernel
theorem dX3_dueIn_2 : decode cX3_dueIn 2 = .ok (.aload_n 0, 1) := by decide +kernel
theorem dX3_dueIn_3 : decode cX3_dueIn 3 = .ok (.getfield 28, 3) := by decide +kernel
theorem dX3_dueIn_6 : decode cX3_dueIn 6 = .ok (.istore_n 3, 1) := by decide +kernel
theorem dX3_dueIn_7 : decode cX3_dueIn 7 = .ok (.aload_n 0, 1) := by decide +kernel
theorem dX3_dueIn_8 : decode cX3_dueIn 8 = .ok (.getfield 38, 3) := by decide +kernel
theorem dX3_dueIn_11 : decode cX3_dueIn 11 = .ok (.iload_n 1, 1) := by decide +kernel
theorem dX3_dueIn_12 : decode cX3_dueIn 12 = .ok (.aload_n 0, 1) := by decide +kernel
theorem dX3_dueIn_13 : decode cX3_dueIn 13 = .ok (.getfield 32, 3) := by decide +kernel
theorem dX3_dueIn_16 : decode cX3_dueIn 16 = .ok (.isub, 1) := by decide +kernel
theorem dX3_dueIn_17 : decode cX3_dueIn 17 = .ok (.invokestatic 52, 3) := by decide +kernel
theorem dX3_dueIn_20 : decode cX3_dueIn 20 = .ok (.istore 4, 2) := by decide +kernel
theorem dX3_dueIn_22 : decode cX3_dueIn 22 = .ok (.iload_n 1, 1) := by decide +kernel
theorem dX3_dueIn_23 : decode cX3_dueIn 23 = .ok (.aload_n 0, 1) := by decide +kernel
theorem dX3_dueIn_24 : decode cX3_dueIn 24 = .ok (.getfield 32, 3) := by decide +kernel
theorem dX3_dueIn_27 : decode cX3_dueIn 27 = .ok (.isub, 1) := by decide +kernel
theorem dX3_dueIn_28 : decode cX3_dueIn 28 = .ok (.aload_n 0, 1) := by decide +kernel
theorem dX3_dueIn_29 : decode cX3_dueIn 29 = .ok (.getfield 38, 3) := by decide +kernel
theorem dX3_dueIn_32 : decode cX3_dueIn 32 = .ok (.if_icmp .le 5, 3) := by decide +kernel
theorem dX3_dueIn_35 : decode cX3_dueIn 35 = .ok (.iconst 0, 1) := by decide +kernel
theorem dX3_dueIn_36 : decode cX3_dueIn 36 = .ok (.ireturn, 1) := by decide +kernel
theorem dX3_dueIn_37 : decode cX3_dueIn 37 = .ok (.iconst 1, 1) := by decide +kernel
theorem dX3_dueIn_38 : decode cX3_dueIn 38 = .ok (.istore 5, 2) := by decide +kernel
theorem dX3_dueIn_40 : decode cX3_dueIn 40 = .ok (.iload 5, 2) := by decide +kernel
theorem dX3_dueIn_42 : decode cX3_dueIn 42 = .ok (.iload 4, 2) := by decide +kernel
theorem dX3_dueIn_44 : decode cX3_dueIn 44 = .ok (.if_icmp .gt 42, 3) := by decide +kernel
theorem dX3_dueIn_47 : decode cX3_dueIn 47 = .ok (.iload_n 3, 1) := by decide +kernel
theorem dX3_dueIn_48 : decode cX3_dueIn 48 = .ok (.aload_n 0, 1) := by decide +kernel
theorem dX3_dueIn_49 : decode cX3_dueIn 49 = .ok (.getfield 38, 3) := by decide +kernel
theorem dX3_dueIn_52 : decode cX3_dueIn 52 = .ok (.iload 5, 2) := by decide +kernel
theorem dX3_dueIn_54 : decode cX3_dueIn 54 = .ok (.isub, 1) := by decide +kernel
theorem dX3_dueIn_55 : decode cX3_dueIn 55 = .ok (.iconst 1, 1) := by decide +kernel
theorem dX3_dueIn_56 : decode cX3_dueIn 56 = .ok (.iadd, 1) := by decide +kernel
theorem dX3_dueIn_57 : decode cX3_dueIn 57 = .ok (.invokestatic 57, 3) := by decide +kernel
theorem dX3_dueIn_60 : decode cX3_dueIn 60 = .ok (.istore 6, 2) := by decide +kernel
theorem dX3_dueIn_62 : decode cX3_dueIn 62 = .ok (.iload 6, 2) := by decide +kernel
theorem dX3_dueIn_64 : decode cX3_dueIn 64 = .ok (.iload_n 3, 1) := by decide +kernel
theorem dX3_dueIn_65 : decode cX3_dueIn 65 = .ok (.aload_n 0, 1) := by decide +kernel
theorem dX3_dueIn_66 : decode cX3_dueIn 66 = .ok (.getfield 35, 3) := by decide +kernel
theorem dX3_dueIn_69 : decode cX3_dueIn 69 = .ok (.imul, 1) := by decide +kernel
theorem dX3_dueIn_70 : decode cX3_dueIn 70 = .ok (.bipush 100, 2) := by decide +kernel
theorem dX3_dueIn_72 : decode cX3_dueIn 72 = .ok (.idiv, 1) := by decide +kernel
theorem dX3_dueIn_73 : decode cX3_dueIn 73 = .ok (.iadd, 1) := by decide +kernel
theorem dX3_dueIn_74 : decode cX3_dueIn 74 = .ok (.istore_n 2, 1) := by decide +kernel
theorem dX3_dueIn_75 : decode cX3_dueIn 75 = .ok (.iload_n 3, 1) := by decide +kernel
theorem dX3_dueIn_76 : decode cX3_dueIn 76 = .ok (.iload 6, 2) := by decide +kernel
theorem dX3_dueIn_78 : decode cX3_dueIn 78 = .ok (.isub, 1) := by decide +kernel
theorem dX3_dueIn_79 : decode cX3_dueIn 79 = .ok (.istore_n 3, 1) := by decide +kernel
theorem dX3_dueIn_80 : decode cX3_dueIn 80 = .ok (.iinc 5 1, 3) := by decide +kernel
theorem dX3_dueIn_83 : decode cX3_dueIn 83 = .ok (.goto (-43), 3) := by decide +kernel
theorem dX3_dueIn_86 : decode cX3_dueIn 86 = .ok (.iload_n 2, 1) := by decide +kernel
theorem dX3_dueIn_87 : decode cX3_dueIn 87 = .ok (.ireturn, 1) := by decide +kernel
theorem hd_Coins_dueIn_36 : y_Coins_dueIn_36.cls ≠ "java/lang/invoke/MethodHandle" ∧ y_Coins_dueIn_36.cls ≠ "java/lang/invoke/VarHandle" ∧ (parseMethodDescriptor y_Coins_dueIn_36.desc).map (fun d => d.parameters.length) = some 1 := by decide +kernel
def b_Coins_dueIn_36_40 (a1 : Int32) (M0 : Mem) (y2 : Int32 × Int32 × Int32) : Option ((Int32 × Int32 × Int32) ⊕ (Int32)) :=
  if decide (y2.2.2 ≤ (jmin (M0.1 36 5) (a1 - (M0.1 36 3)))) then (jv_ ((prt y2.2.1 (((M0.1 36 5) - y2.2.2) + 1)) + ((y2.2.1 * (M0.1 36 4)) / 100) : Int32) fun x4 => some (.inl (x4, y2.2.1 - (prt y2.2.1 (((M0.1 36 5) - y2.2.2) + 1)), y2.2.2 + 1))) else (some (.inr y2.1))
def f_Coins_dueIn_36 (a1 : Int32) (M0 : Mem) : Option (Int32) :=
  if decide ((a1 - (M0.1 36 3)) ≤ (M0.1 36 5)) then ((itr (b_Coins_dueIn_36_40 a1 M0) FU (0, M0.1 36 2, 1)).bind fun q5 => some q5) else (some 0)
set_option maxHeartbeats 4000000 in
set_option maxRecDepth 20000 in
theorem C_Coins_dueIn_36 {D : va_G} {ad adK adV : Nat → Nat} {cI cJ : ClassId} {l : Launch} (a1 : Int32) (M0 : Mem) (o : Int32) (h : f_Coins_dueIn_36 a1 M0 = some o) : Ct D ad adK adV cI cJ l y_Coins_dueIn_36 cX3_dueIn 7 (some .int) 1 21 [.ref (ad 36), .int a1] M0 (some (.int o)) M0 := by
  refine x_start (lv := [(0, .ref (ad 36)), (1, .int a1)]) (own := "CurrentFarms$Coins") rfl (by decide) (Nat.le_of_ble_eq_true rfl) rfl ?_
  intro p e s m args below meth c Q hQ B
  unfold f_Coins_dueIn_36 at h
  refine x_iconst (v := 0) (pc := 0) B dX3_dueIn_0 rfl ?_
  refine x_istore_n (lv' := [(2, .int 0), (0, .ref (ad 36)), (1, .int a1)]) (pc := 1) B dX3_dueIn_1 rfl (by decide) rfl ?_
  refine x_aload_n (pc := 2) B 1 dX3_dueIn_2 rfl rfl ?_
  refine x_get (T := TX3) (pc := 3) B 2 oi_36 rfl uw_3 (by decide) rfl tw_337 rfl dX3_dueIn_3 ?_
  refine x_istore_n (lv' := [(3, .int (M0.1 36 2)), (2, .int 0), (0, .ref (ad 36)), (1, .int a1)]) (pc := 6) B dX3_dueIn_6 rfl (by decide) rfl ?_
  refine x_aload_n (pc := 7) B 2 dX3_dueIn_7 rfl rfl ?_
  refine x_get (T := TX3) (pc := 8) B 5 oi_36 rfl uw_3 (by decide) rfl tw_340 rfl dX3_dueIn_8 ?_
  refine x_iload_n (pc := 11) B 3 dX3_dueIn_11 rfl rfl ?_
  refine x_aload_n (pc := 12) B 2 dX3_dueIn_12 rfl rfl ?_
  refine x_get (T := TX3) (pc := 13) B 3 oi_36 rfl uw_3 (by decide) rfl tw_338 rfl dX3_dueIn_13 ?_
  refine x_isub (pc := 16) B dX3_dueIn_16 ?_
  refine x_mmin (pc := 17) B tw_1151 tw_753 tw_112 tw_754 (by decide) (Nat.le_of_ble_eq_true rfl) dX3_dueIn_17 ?_
  refine x_istore (lv' := [(4, .int (jmin (M0.1 36 5) (a1 - (M0.1 36 3)))), (3, .int (M0.1 36 2)), (2, .int 0), (0, .ref (ad 36)), (1, .int a1)]) (pc := 20) B dX3_dueIn_20 (by decide) rfl ?_
  refine x_iload_n (pc := 22) B 4 dX3_dueIn_22 rfl rfl ?_
  refine x_aload_n (pc := 23) B 3 dX3_dueIn_23 rfl rfl ?_
  refine x_get (T := TX3) (pc := 24) B 3 oi_36 rfl uw_3 (by decide) rfl tw_338 rfl dX3_dueIn_24 ?_
  refine x_isub (pc := 27) B dX3_dueIn_27 ?_
  refine x_aload_n (pc := 28) B 3 dX3_dueIn_28 rfl rfl ?_
  refine x_get (T := TX3) (pc := 29) B 5 oi_36 rfl uw_3 (by decide) rfl tw_340 rfl dX3_dueIn_29 ?_
  refine x_icmp_le (tgt := 37) (pc := 32) B dX3_dueIn_32 rfl (fun hc1 => ?_) (fun hc1 => ?_)
  · have h := ift hc1 h
    refine x_iconst (v := 1) (pc := 37) B dX3_dueIn_37 rfl ?_
    refine x_istore (lv' := [(5, .int 1), (4, .int (jmin (M0.1 36 5) (a1 - (M0.1 36 3)))), (3, .int (M0.1 36 2)), (2, .int 0), (0, .ref (ad 36)), (1, .int a1)]) (pc := 38) B dX3_dueIn_38 (by decide) rfl ?_
    refine x_pick (lv' := [(0, .ref (ad 36)), (2, .int 0), (3, .int (M0.1 36 2)), (4, .int (jmin (M0.1 36 5) (a1 - (M0.1 36 3)))), (5, .int 1)]) [4, 3, 2, 1, 0] rfl ?_
    obtain ⟨q5, hq5, h⟩ := bnd h
    refine x_loop (Head := fun (y2 : Int32 × Int32 × Int32) => XX D ad cI cJ p l e (Rm 1 21) s m args below meth c Q 7 M0 40 [(0, .ref (ad 36)), (2, .int y2.1), (3, .int y2.2.1), (4, .int (jmin (M0.1 36 5) (a1 - (M0.1 36 3)))), (5, .int y2.2.2)] []) (Ex := fun (q5 : Int32) => XX D ad cI cJ p l e (Rm 1 21) s m args below meth c Q 7 M0 86 [(2, .int q5)] []) (fun y2 r h hback hexit => ?_) FU _ q5 hq5 ?_
    · unfold b_Coins_dueIn_36_40 at h
      refine x_iload (pc := 40) B 4 dX3_dueIn_40 rfl ?_
      refine x_iload (pc := 42) B 3 dX3_dueIn_42 rfl ?_
      refine x_icmp_gt (tgt := 86) (pc := 44) B dX3_dueIn_44 rfl (fun hc3 => ?_) (fun hc3 => ?_)
      · have h := iff_ hc3 h
        refine x_pick (lv' := [(2, .int y2.1)]) [1] rfl ?_
        have z := hexit y2.1 (Option.some.inj h).symm
        exact z
      · have h := ift hc3 h
        refine x_iload_n (pc := 47) B 2 dX3_dueIn_47 rfl rfl ?_
        refine x_aload_n (pc := 48) B 0 dX3_dueIn_48 rfl rfl ?_
        refine x_get (T := TX3) (pc := 49) B 5 oi_36 rfl uw_3 (by decide) rfl tw_340 rfl dX3_dueIn_49 ?_
        refine x_iload (pc := 52) B 4 dX3_dueIn_52 rfl ?_
        refine x_isub (pc := 54) B dX3_dueIn_54 ?_
        refine x_iconst (v := 1) (pc := 55) B dX3_dueIn_55 rfl ?_
        refine x_iadd (pc := 56) B dX3_dueIn_56 ?_
        refine x_callSN (rest := []) (st' := [.int (prt y2.2.1 (((M0.1 36 5) - y2.2.2) + 1))]) (pc := 57) B (T_CF_parted y2.2.1 (((M0.1 36 5) - y2.2.2) + 1) M0) tw_736 tw_1152 tw_735 tw_98 hd_CF_parted ⟨Nat.le_of_ble_eq_true rfl, Nat.le_of_ble_eq_true rfl⟩ rfl rfl (Nat.le_of_ble_eq_true rfl) rfl dX3_dueIn_57 ?_
        refine x_istore (lv' := [(6, .int (prt y2.2.1 (((M0.1 36 5) - y2.2.2) + 1))), (0, .ref (ad 36)), (2, .int y2.1), (3, .int y2.2.1), (4, .int (jmin (M0.1 36 5) (a1 - (M0.1 36 3)))), (5, .int y2.2.2)]) (pc := 60) B dX3_dueIn_60 (by decide) rfl ?_
        refine x_iload (pc := 62) B 0 dX3_dueIn_62 rfl ?_
        refine x_iload_n (pc := 64) B 3 dX3_dueIn_64 rfl rfl ?_
        refine x_aload_n (pc := 65) B 1 dX3_dueIn_65 rfl rfl ?_
        refine x_get (T := TX3) (pc := 66) B 4 oi_36 rfl uw_3 (by decide) rfl tw_339 rfl dX3_dueIn_66 ?_
        refine x_imul (pc := 69) B dX3_dueIn_69 ?_
        refine x_bipush (v := 100) (pc := 70) B dX3_dueIn_70 rfl ?_
        refine x_idiv (pc := 72) B dX3_dueIn_72 (by decide) ?_
        refine x_iadd (pc := 73) B dX3_dueIn_73 ?_
        refine jv_m (P := fun (x4 : Int32) => XX D ad cI cJ p l e (Rm 1 21) s m args below meth c Q 7 M0 74 [(6, .int (prt y2.2.1 (((M0.1 36 5) - y2.2.2) + 1))), (0, .ref (ad 36)), (2, .int y2.1), (3, .int y2.2.1), (4, .int (jmin (M0.1 36 5) (a1 - (M0.1 36 3)))), (5, .int y2.2.2)] [.int x4]) h (fun x4 h => ?_)
        refine x_istore_n (lv' := [(2, .int x4), (6, .int (prt y2.2.1 (((M0.1 36 5) - y2.2.2) + 1))), (0, .ref (ad 36)), (3, .int y2.2.1), (4, .int (jmin (M0.1 36 5) (a1 - (M0.1 36 3)))), (5, .int y2.2.2)]) (pc := 74) B dX3_dueIn_74 rfl (by decide) rfl ?_
        refine x_iload_n (pc := 75) B 3 dX3_dueIn_75 rfl rfl ?_
        refine x_iload (pc := 76) B 1 dX3_dueIn_76 rfl ?_
        refine x_isub (pc := 78) B dX3_dueIn_78 ?_
        refine x_istore_n (lv' := [(3, .int (y2.2.1 - (prt y2.2.1 (((M0.1 36 5) - y2.2.2) + 1)))), (2, .int x4), (6, .int (prt y2.2.1 (((M0.1 36 5) - y2.2.2) + 1))), (0, .ref (ad 36)), (4, .int (jmin (M0.1 36 5) (a1 - (M0.1 36 3)))), (5, .int y2.2.2)]) (pc := 79) B dX3_dueIn_79 rfl (by decide) rfl ?_
        refine x_iinc (k := 5) (v := y2.2.2 + 1) (lv' := [(5, .int (y2.2.2 + 1)), (3, .int (y2.2.1 - (prt y2.2.1 (((M0.1 36 5) - y2.2.2) + 1)))), (2, .int x4), (6, .int (prt y2.2.1 (((M0.1 36 5) - y2.2.2) + 1))), (0, .ref (ad 36)), (4, .int (jmin (M0.1 36 5) (a1 - (M0.1 36 3))))]) (pc := 80) B dX3_dueIn_80 rfl rfl (by decide) rfl ?_
        refine x_goto (tgt := 40) (pc := 83) B dX3_dueIn_83 rfl ?_
        refine x_pick (lv' := [(0, .ref (ad 36)), (2, .int x4), (3, .int (y2.2.1 - (prt y2.2.1 (((M0.1 36 5) - y2.2.2) + 1)))), (4, .int (jmin (M0.1 36 5) (a1 - (M0.1 36 3)))), (5, .int (y2.2.2 + 1))]) [4, 2, 1, 5, 0] rfl ?_
        have z := hback (x4, y2.2.1 - (prt y2.2.1 (((M0.1 36 5) - y2.2.2) + 1)), y2.2.2 + 1) (Option.some.inj h).symm
        exact z
    · refine x_iload_n (pc := 86) B 0 dX3_dueIn_86 rfl rfl ?_
      obtain rfl := Option.some.inj h
      exact x_iret (pc := 87) B hQ dX3_dueIn_87
  · have h := iff_ hc1 h
    refine x_iconst (v := 0) (pc := 35) B dX3_dueIn_35 rfl ?_
    obtain rfl := Option.some.inj h
    exact x_iret (pc := 36) B hQ dX3_dueIn_36
-- CurrentFarms$Coins.paidOf(II)I [36]
abbrev y_Coins_paidOf_36 : MethodName := ⟨"CurrentFarms$Coins", "paidOf", "(II)I"⟩
abbrev cX3_paidOf : ByteArray := prog_5_method_4_code
theorem dX3_paidOf_0 : decode cX3_paidOf 0 = .ok (.aload_n 0, 1) := by decide +kernel
theorem dX3_paidOf_1 : decode cX3_paidOf 1 = .ok (.getfield 15, 3) := by decide +kernel
theorem dX3_paidOf_4 : decode cX3_paidOf 4 = .ok (.iload_n 1, 1) := by decide +kernel
theorem dX3_paidOf_5 : decode cX3_paidOf 5 = .ok (.iload_n 2, 1) := by decide +kernel
theorem dX3_paidOf_6 : decode cX3_paidOf 6 = .ok (.invokestatic 44, 3) := by decide +kernel
theorem dX3_paidOf_9 : decode cX3_paidOf 9 = .ok (.invokestatic 48, 3) := by decide +kernel
theorem dX3_paidOf_12 : decode cX3_paidOf 12 = .ok (.ireturn, 1) := by decide +kernel
theorem hd_Coins_paidOf_36 : y_Coins_paidOf_36.cls ≠ "java/lang/invoke/MethodHandle" ∧ y_Coins_paidOf_36.cls ≠ "java/lang/invoke/VarHandle" ∧ (parseMethodDescriptor y_Coins_paidOf_36.desc).map (fun d => d.parameters.length) = some 2 := by decide +kernel
def f_Coins_paidOf_36 (a1 : Int32) (a2 : Int32) (M0 : Mem) : Option (Int32) :=
  some (atv (M0.1 38) 1210 (slt a1 a2))
set_option maxHeartbeats 4000000 in
set_option maxRecDepth 20000 in
theorem C_Coins_paidOf_36 {D : va_G} {ad adK adV : Nat → Nat} {cI cJ : ClassId} {l : Launch} (a1 : Int32) (a2 : Int32) (M0 : Mem) (o : Int32) (h : f_Coins_paidOf_36 a1 a2 M0 = some o) : Ct D ad adK adV cI cJ l y_Coins_paidOf_36 cX3_paidOf 3 (some .int) 1 22 [.ref (ad 36), .int a1, .int a2] M0 (some (.int o)) M0 := by
  refine x_start (lv := [(0, .ref (ad 36)), (1, .int a1), (2, .int a2)]) (own := "CurrentFarms$Coins") rfl (by decide) (Nat.le_of_ble_eq_true rfl) rfl ?_
  intro p e s m args below meth c Q hQ B
  unfold f_Coins_paidOf_36 at h
  refine x_aload_n (pc := 0) B 0 dX3_paidOf_0 rfl rfl ?_
  refine x_get (T := TX3) (pc := 1) B 1 oi_36 rfl uw_3 (by decide) rfl tw_335 rfl dX3_paidOf_1 ?_
  refine x_iload_n (pc := 4) B 1 dX3_paidOf_4 rfl rfl ?_
  refine x_iload_n (pc := 5) B 2 dX3_paidOf_5 rfl rfl ?_
  refine x_callSN (rest := [.ref (ad 38)]) (st' := [.int (slt a1 a2), .ref (ad 38)]) (pc := 6) B (T_CF_slot a1 a2 M0) tw_728 tw_726 tw_727 tw_98 hd_CF_slot ⟨Nat.le_of_ble_eq_true rfl, Nat.le_of_ble_eq_true rfl⟩ rfl rfl (Nat.le_of_ble_eq_true rfl) rfl dX3_paidOf_6 ?_
  refine x_callSN (rest := []) (st' := [.int (atv (M0.1 38) 1210 (slt a1 a2))]) (pc := 9) B (T_CF_at 38 1210 (slt a1 a2) ai_38 (by decide) M0) tw_575 tw_729 tw_574 tw_98 hd_CF_at ⟨Nat.le_of_ble_eq_true rfl, Nat.le_of_ble_eq_true rfl⟩ rfl rfl (Nat.le_of_ble_eq_true rfl) rfl dX3_paidOf_9 ?_
  obtain rfl := Option.some.inj h
  exact x_iret (pc := 12) B hQ dX3_paidOf_12
-- CurrentFarms$Coins.firstShort()I [36]
abbrev y_Coins_firstShort_36 : MethodName := ⟨"CurrentFarms$Coins", "firstShort", "()I"⟩
abbrev cX3_firstShort : ByteArray := prog_5_method_7_code
theorem dX3_firstShort_0 : decode cX3_firstShort 0 = .ok (.aload_n 0, 1) := by decide +kernel
theorem dX3_firstShort_1 : decode cX3_firstShort 1 = .ok (.getfield 41, 3) := by decide +kernel
theorem dX3_firstShort_4 : decode cX3_firstShort 4 = .ok (.i2l, 1) := by decide +kernel
theorem dX3_firstShort_5 : decode cX3_firstShort 5 = .ok (.lstore_n 1, 1) := by decide +kernel
theorem dX3_firstShort_6 : decode cX3_firstShort 6 = .ok (.aload_n 0, 1) := by decide +kernel
theorem dX3_firstShort_7 : decode cX3_firstShort 7 = .ok (.getfield 32, 3) := by decide +kernel
theorem dX3_firstShort_10 : decode cX3_firstShort 10 = .ok (.istore_n 3, 1) := by decide +kernel
theorem dX3_firstShort_11 : decode cX3_firstShort 11 = .ok (.iload_n 3, 1) := by decide +kernel
theorem dX3_firstShort_12 : decode cX3_firstShort 12 = .ok (.aload_n 0, 1) := by decide +kernel
theorem dX3_firstShort_13 : decode cX3_firstShort 13 = .ok (.getfield 32, 3) := by decide +kernel
theorem dX3_firstShort_16 : decode cX3_firstShort 16 = .ok (.aload_n 0, 1) := by decide +kernel
theorem dX3_firstShort_17 : decode cX3_firstShort 17 = .ok (.getfield 38, 3) := by decide +kernel
theorem dX3_firstShort_20 : decode cX3_firstShort 20 = .ok (.iadd, 1) := by decide +kernel
theorem dX3_firstShort_21 : decode cX3_firstShort 21 = .ok (.if_icmp .gt 53, 3) := by decide +kernel
theorem dX3_firstShort_24 : decode cX3_firstShort 24 = .ok (.iconst 0, 1) := by decide +kernel
theorem dX3_firstShort_25 : decode cX3_firstShort 25 = .ok (.istore 4, 2) := by decide +kernel
theorem dX3_firstShort_27 : decode cX3_firstShort 27 = .ok (.iload 4, 2) := by decide +kernel
theorem dX3_firstShort_29 : decode cX3_firstShort 29 = .ok (.bipush 10, 2) := by decide +kernel
theorem dX3_firstShort_31 : decode cX3_firstShort 31 = .ok (.if_icmp .ge 20, 3) := by decide +kernel
theorem dX3_firstShort_34 : decode cX3_firstShort 34 = .ok (.lload_n 1, 1) := by decide +kernel
theorem dX3_firstShort_35 : decode cX3_firstShort 35 = .ok (.aload_n 0, 1) := by decide +kernel
theorem dX3_firstShort_36 : decode cX3_firstShort 36 = .ok (.iload 4, 2) := by decide +kernel
theorem dX3_firstShort_38 : decode cX3_firstShort 38 = .ok (.iload_n 3, 1) := by decide +kernel
theorem dX3_firstShort_39 : decode cX3_firstShort 39 = .ok (.invokevirtual 60, 3) := by decide +kernel
theorem dX3_firstShort_42 : decode cX3_firstShort 42 = .ok (.i2l, 1) := by decide +kernel
theorem dX3_firstShort_43 : decode cX3_firstShort 43 = .ok (.ladd, 1) := by decide +kernel
theorem dX3_firstShort_44 : decode cX3_firstShort 44 = .ok (.lstore_n 1, 1) := by decide +kernel
theorem dX3_firstShort_45 : decode cX3_firstShort 45 = .ok (.iinc 4 1, 3) := by decide +kernel
theorem dX3_firstShort_48 : decode cX3_firstShort 48 = .ok (.goto (-21), 3) := by decide +kernel
theorem dX3_firstShort_51 : decode cX3_firstShort 51 = .ok (.lload_n 1, 1) := by decide +kernel
theorem dX3_firstShort_52 : decode cX3_firstShort 52 = .ok (.aload_n 0, 1) := by decide +kernel
theorem dX3_firstShort_53 : decode cX3_firstShort 53 = .ok (.iload_n 3, 1) := by decide +kernel
theorem dX3_firstShort_54 : decode cX3_firstShort 54 = .ok (.invokevirtual 63, 3) := by decide +kernel
theorem dX3_firstShort_57 : decode cX3_firstShort 57 = .ok (.i2l, 1) := by decide +kernel
theorem dX3_firstShort_58 : decode cX3_firstShort 58 = .ok (.lsub, 1) := by decide +kernel
theorem dX3_firstShort_59 : decode cX3_firstShort 59 = .ok (.lstore_n 1, 1) := by decide +kernel
theorem dX3_firstShort_60 : decode cX3_firstShort 60 = .ok (.lload_n 1, 1) := by decide +kernel
theorem dX3_firstShort_61 : decode cX3_firstShort 61 = .ok (.lconst 0, 1) := by decide +kernel
theorem dX3_firstShort_62 : decode cX3_firstShort 62 = .ok (.lcmp, 1) := by decide +kernel
theorem dX3_firstShort_63 : decode cX3_firstShort 63 = .ok (.ifCond .ge 5, 3) := by decide +kernel
theorem dX3_firstShort_66 : decode cX3_firstShort 66 = .ok (.iload_n 3, 1) := by decide +kernel
theorem dX3_firstShort_67 : decode cX3_firstShort 67 = .ok (.ireturn, 1) := by decide +kernel
theorem dX3_firstShort_68 : decode cX3_firstShort 68 = .ok (.iinc 3 1, 3) := by decide +kernel
theorem dX3_firstShort_71 : decode cX3_firstShort 71 = .ok (.goto (-60), 3) := by decide +kernel
theorem dX3_firstShort_74 : decode cX3_firstShort 74 = .ok (.bipush (-5), 2) := by decide +kernel
theorem dX3_firstShort_76 : decode cX3_firstShort 76 = .ok (.ireturn, 1) := by decide +kernel
theorem hd_Coins_firstShort_36 : y_Coins_firstShort_36.cls ≠ "java/lang/invoke/MethodHandle" ∧ y_Coins_firstShort_36.cls ≠ "java/lang/invoke/VarHandle" ∧ (parseMethodDescriptor y_Coins_firstShort_36.desc).map (fun d => d.parameters.length) = some 0 := by decide +kernel
def b_Coins_firstShort_36_27 (M0 : Mem) (y1 : Int64 × Int32) (y3 : Int64 × Int32) : Option ((Int64 × Int32) ⊕ (Int64)) :=
  if decide (y3.2 < 10) then ((f_Coins_paidOf_36 y3.2 y1.2 M0).bind fun q5 => some (.inl (y3.1 + q5.toInt64, y3.2 + 1))) else (some (.inr y3.1))
def b_Coins_firstShort_36_11 (M0 : Mem) (y1 : Int64 × Int32) : Option ((Int64 × Int32) ⊕ ((Unit) ⊕ (Int32))) :=
  if decide (y1.2 ≤ ((M0.1 36 3) + (M0.1 36 5))) then ((itr (b_Coins_firstShort_36_27 M0 y1) FU (y1.1, 0)).bind fun q6 => (f_Coins_dueIn_36 y1.2 M0).bind fun q7 => if decide ((lg_cmp (q6 - q7.toInt64) 0) < 0) then (some (.inr (.inr (y1.2)))) else (some (.inl (q6 - q7.toInt64, y1.2 + 1)))) else (some (.inr (.inl ())))
def f_Coins_firstShort_36  (M0 : Mem) : Option (Int32) :=
  (itr (b_Coins_firstShort_36_11 M0) FU ((M0.1 36 6).toInt64, M0.1 36 3)).bind fun q9 => (Sum.elim (fun (y10 : Unit) => some (-5)) (fun (y11 : Int32) => some y11)) q9
set_option maxHeartbeats 4000000 in
set_option maxRecDepth 20000 in
theorem C_Coins_firstShort_36 {D : va_G} {ad adK adV : Nat → Nat} {cI cJ : ClassId} {l : Launch}  (M0 : Mem) (o : Int32) (h : f_Coins_firstShort_36  M0 = some o) : Ct D ad adK adV cI cJ l y_Coins_firstShort_36 cX3_firstShort 5 (some .int) 2 47 [.ref (ad 36)] M0 (some (.int o)) M0 := by
  refine x_start (lv := [(0, .ref (ad 36))]) (own := "CurrentFarms$Coins") rfl (by decide) (Nat.le_of_ble_eq_true rfl) rfl ?_
  intro p e s m args below meth c Q hQ B
  unfold f_Coins_firstShort_36 at h
  refine x_aload_n (pc := 0) B 0 dX3_firstShort_0 rfl rfl ?_
  refine x_get (T := TX3) (pc := 1) B 6 oi_36 rfl uw_3 (by decide) rfl tw_342 rfl dX3_firstShort_1 ?_
  refine x_i2l (pc := 4) B dX3_firstShort_4 ?_
  refine x_lstore_n (lv' := [(1, .long ((M0.1 36 6).toInt64)), (0, .ref (ad 36))]) (pc := 5) B dX3_firstShort_5 rfl (by decide) rfl ?_
  refine x_aload_n (pc := 6) B 1 dX3_firstShort_6 rfl rfl ?_
  refine x_get (T := TX3) (pc := 7) B 3 oi_36 rfl uw_3 (by decide) rfl tw_338 rfl dX3_firstShort_7 ?_
  refine x_istore_n (lv' := [(3, .int (M0.1 36 3)), (1, .long ((M0.1 36 6).toInt64)), (0, .ref (ad 36))]) (pc := 10) B dX3_firstShort_10 rfl (by decide) rfl ?_
  refine x_pick (lv' := [(0, .ref (ad 36)), (1, .long ((M0.1 36 6).toInt64)), (3, .int (M0.1 36 3))]) [2, 1, 0] rfl ?_
  obtain ⟨q9, hq9, h⟩ := bnd h
  refine x_loop (Head := fun (y1 : Int64 × Int32) => XX D ad cI cJ p l e (Rm 2 47) s m args below meth c Q 5 M0 11 [(0, .ref (ad 36)), (1, .long y1.1), (3, .int y1.2)] []) (Ex := (Sum.elim (fun (y10 : Unit) => XX D ad cI cJ p l e (Rm 2 47) s m args below meth c Q 5 M0 74 [] []) (fun (y11 : Int32) => XX D ad cI cJ p l e (Rm 2 47) s m args below meth c Q 5 M0 66 [(3, .int y11)] []))) (fun y1 r h hback hexit => ?_) FU _ q9 hq9 ?_
  · unfold b_Coins_firstShort_36_11 at h
    refine x_iload_n (pc := 11) B 2 dX3_firstShort_11 rfl rfl ?_
    refine x_aload_n (pc := 12) B 0 dX3_firstShort_12 rfl rfl ?_
    refine x_get (T := TX3) (pc := 13) B 3 oi_36 rfl uw_3 (by decide) rfl tw_338 rfl dX3_firstShort_13 ?_
    refine x_aload_n (pc := 16) B 0 dX3_firstShort_16 rfl rfl ?_
    refine x_get (T := TX3) (pc := 17) B 5 oi_36 rfl uw_3 (by decide) rfl tw_340 rfl dX3_firstShort_17 ?_
    refine x_iadd (pc := 20) B dX3_firstShort_20 ?_
    refine x_icmp_gt (tgt := 74) (pc := 21) B dX3_firstShort_21 rfl (fun hc2 => ?_) (fun hc2 => ?_)
    · have h := iff_ hc2 h
      refine x_pick (lv' := []) [] rfl ?_
      have z := hexit (.inl ()) (Option.some.inj h).symm
      exact z
    · have h := ift hc2 h
      refine x_iconst (v := 0) (pc := 24) B dX3_firstShort_24 rfl ?_
      refine x_istore (lv' := [(4, .int 0), (0, .ref (ad 36)), (1, .long y1.1), (3, .int y1.2)]) (pc := 25) B dX3_firstShort_25 (by decide) rfl ?_
      refine x_pick (lv' := [(0, .ref (ad 36)), (1, .long y1.1), (3, .int y1.2), (4, .int 0)]) [1, 2, 3, 0] rfl ?_
      obtain ⟨q6, hq6, h⟩ := bnd h
      refine x_loop (Head := fun (y3 : Int64 × Int32) => XX D ad cI cJ p l e (Rm 2 47) s m args below meth c Q 5 M0 27 [(0, .ref (ad 36)), (1, .long y3.1), (3, .int y1.2), (4, .int y3.2)] []) (Ex := fun (q6 : Int64) => XX D ad cI cJ p l e (Rm 2 47) s m args below meth c Q 5 M0 51 [(0, .ref (ad 36)), (1, .long q6), (3, .int y1.2)] []) (fun y3 r h hback hexit => ?_) FU _ q6 hq6 ?_
      · unfold b_Coins_firstShort_36_27 at h
        refine x_iload (pc := 27) B 3 dX3_firstShort_27 rfl ?_
        refine x_bipush (v := 10) (pc := 29) B dX3_firstShort_29 rfl ?_
        refine x_icmp_ge (tgt := 51) (pc := 31) B dX3_firstShort_31 rfl (fun hc4 => ?_) (fun hc4 => ?_)
        · have h := iff_ hc4 h
          refine x_pick (lv' := [(0, .ref (ad 36)), (1, .long y3.1), (3, .int y1.2)]) [0, 1, 2] rfl ?_
          have z := hexit y3.1 (Option.some.inj h).symm
          exact z
        · have h := ift hc4 h
          refine x_lload_n (pc := 34) B 1 dX3_firstShort_34 rfl rfl ?_
          refine x_aload_n (pc := 35) B 0 dX3_firstShort_35 rfl rfl ?_
          refine x_iload (pc := 36) B 3 dX3_firstShort_36 rfl ?_
          refine x_iload_n (pc := 38) B 2 dX3_firstShort_38 rfl rfl ?_
          obtain ⟨q5, hq5, h⟩ := bnd h
          refine x_callV (rest := [.long y3.1]) (st' := [.int q5, .long y3.1]) (pc := 39) B oi_36 rfl (C_Coins_paidOf_36 y3.2 y1.2 M0 _ hq5) tw_767 tw_1161 tw_765 tw_766 tw_106 hd_Coins_paidOf_36 ⟨Nat.le_of_ble_eq_true rfl, Nat.le_of_ble_eq_true rfl⟩ rfl rfl (Nat.le_of_ble_eq_true rfl) rfl dX3_firstShort_39 ?_
          refine x_i2l (pc := 42) B dX3_firstShort_42 ?_
          refine x_ladd (pc := 43) B dX3_firstShort_43 ?_
          refine x_lstore_n (lv' := [(1, .long (y3.1 + q5.toInt64)), (0, .ref (ad 36)), (3, .int y1.2), (4, .int y3.2)]) (pc := 44) B dX3_firstShort_44 rfl (by decide) rfl ?_
          refine x_iinc (k := 3) (v := y3.2 + 1) (lv' := [(4, .int (y3.2 + 1)), (1, .long (y3.1 + q5.toInt64)), (0, .ref (ad 36)), (3, .int y1.2)]) (pc := 45) B dX3_firstShort_45 rfl rfl (by decide) rfl ?_
          refine x_goto (tgt := 27) (pc := 48) B dX3_firstShort_48 rfl ?_
          refine x_pick (lv' := [(0, .ref (ad 36)), (1, .long (y3.1 + q5.toInt64)), (3, .int y1.2), (4, .int (y3.2 + 1))]) [2, 1, 3, 0] rfl ?_
          have z := hback (y3.1 + q5.toInt64, y3.2 + 1) (Option.some.inj h).symm
          exact z
      · refine x_lload_n (pc := 51) B 1 dX3_firstShort_51 rfl rfl ?_
        refine x_aload_n (pc := 52) B 0 dX3_firstShort_52 rfl rfl ?_
        refine x_iload_n (pc := 53) B 2 dX3_firstShort_53 rfl rfl ?_
        obtain ⟨q7, hq7, h⟩ := bnd h
        refine x_callV (rest := [.long q6]) (st' := [.int q7, .long q6]) (pc := 54) B oi_36 rfl (C_Coins_dueIn_36 y1.2 M0 _ hq7) tw_1150 tw_1162 tw_1148 tw_1149 tw_106 hd_Coins_dueIn_36 ⟨Nat.le_of_ble_eq_true rfl, Nat.le_of_ble_eq_true rfl⟩ rfl rfl (Nat.le_of_ble_eq_true rfl) rfl dX3_firstShort_54 ?_
        refine x_i2l (pc := 57) B dX3_firstShort_57 ?_
        refine x_lsub (pc := 58) B dX3_firstShort_58 ?_
        refine x_lstore_n (lv' := [(1, .long (q6 - q7.toInt64)), (0, .ref (ad 36)), (3, .int y1.2)]) (pc := 59) B dX3_firstShort_59 rfl (by decide) rfl ?_
        refine x_lload_n (pc := 60) B 0 dX3_firstShort_60 rfl rfl ?_
        refine x_lconst (v := 0) (pc := 61) B dX3_firstShort_61 rfl ?_
        refine x_lcmp (pc := 62) B dX3_firstShort_62 ?_
        refine x_if_ge (tgt := 68) (pc := 63) B dX3_firstShort_63 rfl (fun hc8 => ?_) (fun hc8 => ?_)
        · have h := iff_ hc8 h
          refine x_iinc (k := 2) (v := y1.2 + 1) (lv' := [(3, .int (y1.2 + 1)), (1, .long (q6 - q7.toInt64)), (0, .ref (ad 36))]) (pc := 68) B dX3_firstShort_68 rfl rfl (by decide) rfl ?_
          refine x_goto (tgt := 11) (pc := 71) B dX3_firstShort_71 rfl ?_
          refine x_pick (lv' := [(0, .ref (ad 36)), (1, .long (q6 - q7.toInt64)), (3, .int (y1.2 + 1))]) [2, 1, 0] rfl ?_
          have z := hback (q6 - q7.toInt64, y1.2 + 1) (Option.some.inj h).symm
          exact z
        · have h := ift hc8 h
          refine x_pick (lv' := [(3, .int y1.2)]) [2] rfl ?_
          have z := hexit (.inr (y1.2)) (Option.some.inj h).symm
          exact z
  · rcases q9 with y10 | rest0_11
    · refine x_bipush (v := (-5)) (pc := 74) B dX3_firstShort_74 rfl ?_
      obtain rfl := Option.some.inj h
      exact x_iret (pc := 76) B hQ dX3_firstShort_76
    · obtain ⟨y11, rfl⟩ : ∃ z_, z_ = rest0_11 := ⟨_, rfl⟩
      refine x_iload_n (pc := 66) B 0 dX3_firstShort_66 rfl rfl ?_
      obtain rfl := Option.some.inj h
      exact x_iret (pc := 67) B hQ dX3_firstShort_67
