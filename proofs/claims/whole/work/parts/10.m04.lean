theorem fts_b (b : Bool) : fits .boolean (.int (bI b)) = true := by cases b <;> rfl
-- CurrentFarms$Ways.reach(LCurrentFarms$Line;I)Z [81, 24]
abbrev y_Ways_reach_81_24 : MethodName := ⟨"CurrentFarms$Ways", "reach", "(LCurrentFarms$Line;I)Z"⟩
abbrev cX10_reach : ByteArray := prog_12_method_8_code
theorem dX10_reach_0 : decode cX10_reach 0 = .ok (.aload_n 1, 1) := by decide +kernel
theorem dX10_reach_1 : decode cX10_reach 1 = .ok (.aload_n 0, 1) := by decide +kernel
theorem dX10_reach_2 : decode cX10_reach 2 = .ok (.getfield 24, 3) := by decide +kernel
theorem dX10_reach_5 : decode cX10_reach 5 = .ok (.getfield 58, 3) := by decide +kernel
theorem dX10_reach_8 : decode cX10_reach 8 = .ok (.invokevirtual 83, 3) := by decide +kernel
theorem dX10_reach_11 : decode cX10_reach 11 = .ok (.lstore_n 3, 1) := by decide +kernel
theorem dX10_reach_12 : decode cX10_reach 12 = .ok (.aload_n 0, 1) := by decide +kernel
theorem dX10_reach_13 : decode cX10_reach 13 = .ok (.invokevirtual 42, 3) := by decide +kernel
theorem dX10_reach_16 : decode cX10_reach 16 = .ok (.iconst 0, 1) := by decide +kernel
theorem dX10_reach_17 : decode cX10_reach 17 = .ok (.istore 5, 2) := by decide +kernel
theorem dX10_reach_19 : decode cX10_reach 19 = .ok (.iload 5, 2) := by decide +kernel
theorem dX10_reach_21 : decode cX10_reach 21 = .ok (.bipush 48, 2) := by decide +kernel
theorem dX10_reach_23 : decode cX10_reach 23 = .ok (.if_icmp .ge 35, 3) := by decide +kernel
theorem dX10_reach_26 : decode cX10_reach 26 = .ok (.aload_n 0, 1) := by decide +kernel
theorem dX10_reach_27 : decode cX10_reach 27 = .ok (.getfield 15, 3) := by decide +kernel
theorem dX10_reach_30 : decode cX10_reach 30 = .ok (.iload 5, 2) := by decide +kernel
theorem dX10_reach_32 : decode cX10_reach 32 = .ok (.lload_n 3, 1) := by decide +kernel
theorem dX10_reach_33 : decode cX10_reach 33 = .ok (.iload 5, 2) := by decide +kernel
theorem dX10_reach_35 : decode cX10_reach 35 = .ok (.lshr, 1) := by decide +kernel
theorem dX10_reach_36 : decode cX10_reach 36 = .ok (.lconst 1, 1) := by decide +kernel
theorem dX10_reach_37 : decode cX10_reach 37 = .ok (.land, 1) := by decide +kernel
theorem dX10_reach_38 : decode cX10_reach 38 = .ok (.lconst 1, 1) := by decide +kernel
theorem dX10_reach_39 : decode cX10_reach 39 = .ok (.lcmp, 1) := by decide +kernel
theorem dX10_reach_40 : decode cX10_reach 40 = .ok (.ifCond .ne 7, 3) := by decide +kernel
theorem dX10_reach_43 : decode cX10_reach 43 = .ok (.iconst 0, 1) := by decide +kernel
theorem dX10_reach_44 : decode cX10_reach 44 = .ok (.goto 5, 3) := by decide +kernel
theorem dX10_reach_47 : decode cX10_reach 47 = .ok (.ldc 66, 2) := by decide +kernel
theorem dX10_reach_49 : decode cX10_reach 49 = .ok (.invokestatic 38, 3) := by decide +kernel
theorem dX10_reach_52 : decode cX10_reach 52 = .ok (.iinc 5 1, 3) := by decide +kernel
theorem dX10_reach_55 : decode cX10_reach 55 = .ok (.goto (-36), 3) := by decide +kernel
theorem dX10_reach_58 : decode cX10_reach 58 = .ok (.aload_n 0, 1) := by decide +kernel
theorem dX10_reach_59 : decode cX10_reach 59 = .ok (.iconst 0, 1) := by decide +kernel
theorem dX10_reach_60 : decode cX10_reach 60 = .ok (.invokevirtual 55, 3) := by decide +kernel
theorem dX10_reach_63 : decode cX10_reach 63 = .ok (.aload_n 0, 1) := by decide +kernel
theorem dX10_reach_64 : decode cX10_reach 64 = .ok (.aload_n 0, 1) := by decide +kernel
theorem dX10_reach_65 : decode cX10_reach 65 = .ok (.getfield 15, 3) := by decide +kernel
theorem dX10_reach_68 : decode cX10_reach 68 = .ok (.iload_n 2, 1) := by decide +kernel
theorem dX10_reach_69 : decode cX10_reach 69 = .ok (.invokestatic 62, 3) := by decide +kernel
theorem dX10_reach_72 : decode cX10_reach 72 = .ok (.putfield 89, 3) := by decide +kernel
theorem dX10_reach_75 : decode cX10_reach 75 = .ok (.aload_n 0, 1) := by decide +kernel
theorem dX10_reach_76 : decode cX10_reach 76 = .ok (.getfield 89, 3) := by decide +kernel
theorem dX10_reach_79 : decode cX10_reach 79 = .ok (.ldc 66, 2) := by decide +kernel
theorem dX10_reach_81 : decode cX10_reach 81 = .ok (.if_icmp .lt 5, 3) := by decide +kernel
theorem dX10_reach_84 : decode cX10_reach 84 = .ok (.iconst 0, 1) := by decide +kernel
theorem dX10_reach_85 : decode cX10_reach 85 = .ok (.ireturn, 1) := by decide +kernel
theorem dX10_reach_86 : decode cX10_reach 86 = .ok (.aload_n 0, 1) := by decide +kernel
theorem dX10_reach_87 : decode cX10_reach 87 = .ok (.iload_n 2, 1) := by decide +kernel
theorem dX10_reach_88 : decode cX10_reach 88 = .ok (.invokevirtual 92, 3) := by decide +kernel
theorem dX10_reach_91 : decode cX10_reach 91 = .ok (.iconst 1, 1) := by decide +kernel
theorem dX10_reach_92 : decode cX10_reach 92 = .ok (.ireturn, 1) := by decide +kernel
theorem hd_Ways_reach_81_24 : y_Ways_reach_81_24.cls ≠ "java/lang/invoke/MethodHandle" ∧ y_Ways_reach_81_24.cls ≠ "java/lang/invoke/VarHandle" ∧ (parseMethodDescriptor y_Ways_reach_81_24.desc).map (fun d => d.parameters.length) = some 2 := by decide +kernel
def b_Ways_reach_81_24_19 (q1 : Int64) (y3 : Int32 × Mem) : Option ((Int32 × Mem) ⊕ (Mem)) :=
  if decide (y3.1 < 48) then (jv_ ((if decide ((lg_cmp ((q1 >>> (y3.1.toInt64 &&& 63)) &&& 1) 1) = 0) then 0 else 1000000) : Int32) fun u7 => jv_ (putv y3.2 83 3072 y3.1 u7) fun M8 => some (.inl (y3.1 + 1, M8))) else (some (.inr y3.2))
def f_Ways_reach_81_24 (a2 : Int32) (M0 : Mem) : Option (Bool × Mem) :=
  (f_Line_cells_24 (M0.1 2 5) M0).bind fun q1 => (f_Ways_measure_81 M0).bind fun q2 => (itr (b_Ways_reach_81_24_19 q1) FU (0, q2)).bind fun q9 => (f_Ways_spread_81 0 q9).bind fun q10 => jv_ (wI q10 81 6 (atv (q10.1 83) 3072 a2)) fun M11 => if decide ((M11.1 81 6) < 1000000) then ((f_Ways_trace_81 a2 M11).bind fun q13 => some (true, q13)) else (some (false, M11))
set_option maxHeartbeats 4000000 in
set_option maxRecDepth 20000 in
theorem C_Ways_reach_81_24 {D : va_G} {ad adK adV : Nat → Nat} {cI cJ : ClassId} {l : Launch} (a2 : Int32) (M0 : Mem) (o : Bool × Mem) (h : f_Ways_reach_81_24 a2 M0 = some o) : Ct D ad adK adV cI cJ l y_Ways_reach_81_24 cX10_reach 6 (some .boolean) 5 112 [.ref (ad 81), .ref (ad 24), .int a2] M0 (some (.int (bI o.1))) o.2 := by
  refine x_start (lv := [(0, .ref (ad 81)), (1, .ref (ad 24)), (2, .int a2)]) (own := "CurrentFarms$Ways") rfl (by decide) (Nat.le_of_ble_eq_true rfl) rfl ?_
  intro p e s m args below meth c Q hQ B
  unfold f_Ways_reach_81_24 at h
  refine x_aload_n (pc := 0) B 1 dX10_reach_0 rfl rfl ?_
  refine x_aload_n (pc := 1) B 0 dX10_reach_1 rfl rfl ?_
  refine x_get (T := TX10) (pc := 2) B 0 oi_81 rfl uw_10 (by decide) rfl tw_471 rfl dX10_reach_2 ?_
  refine x_get (T := TX4) (pc := 5) B 5 oi_2 rfl uw_4 (by decide) rfl tw_153 rfl dX10_reach_5 ?_
  obtain ⟨q1, hq1, h⟩ := bnd h
  refine x_callV (rest := []) (st' := [.long q1]) (pc := 8) B oi_24 rfl (C_Line_cells_24 (M0.1 2 5) M0 _ hq1) tw_1019 tw_1054 tw_1017 tw_1018 tw_103 hd_Line_cells_24 ⟨Nat.le_of_ble_eq_true rfl, Nat.le_of_ble_eq_true rfl⟩ rfl rfl (Nat.le_of_ble_eq_true rfl) rfl dX10_reach_8 ?_
  refine x_lstore_n (lv' := [(3, .long q1), (0, .ref (ad 81)), (1, .ref (ad 24)), (2, .int a2)]) (pc := 11) B dX10_reach_11 rfl (by decide) rfl ?_
  refine x_aload_n (pc := 12) B 1 dX10_reach_12 rfl rfl ?_
  obtain ⟨q2, hq2, h⟩ := bnd h
  refine x_callV (rest := []) (st' := []) (pc := 13) B oi_81 rfl (C_Ways_measure_81  M0 _ hq2) tw_981 tw_978 tw_980 tw_26 tw_109 hd_Ways_measure_81 ⟨Nat.le_of_ble_eq_true rfl, Nat.le_of_ble_eq_true rfl⟩ rfl rfl (Nat.le_of_ble_eq_true rfl) rfl dX10_reach_13 ?_
  refine x_iconst (v := 0) (pc := 16) B dX10_reach_16 rfl ?_
  refine x_istore (lv' := [(5, .int 0), (3, .long q1), (0, .ref (ad 81)), (1, .ref (ad 24)), (2, .int a2)]) (pc := 17) B dX10_reach_17 (by decide) rfl ?_
  refine x_pick (lv' := [(0, .ref (ad 81)), (2, .int a2), (3, .long q1), (5, .int 0)]) [2, 4, 1, 0] rfl ?_
  obtain ⟨q9, hq9, h⟩ := bnd h
  refine x_loop (Head := fun (y3 : Int32 × Mem) => XX D ad cI cJ p l e (Rm 5 112) s m args below meth c Q 6 y3.2 19 [(0, .ref (ad 81)), (2, .int a2), (3, .long q1), (5, .int y3.1)] []) (Ex := fun (q9 : Mem) => XX D ad cI cJ p l e (Rm 5 112) s m args below meth c Q 6 q9 58 [(0, .ref (ad 81)), (2, .int a2)] []) (fun y3 r h hback hexit => ?_) FU _ q9 hq9 ?_
  · unfold b_Ways_reach_81_24_19 at h
    refine x_iload (pc := 19) B 3 dX10_reach_19 rfl ?_
    refine x_bipush (v := 48) (pc := 21) B dX10_reach_21 rfl ?_
    refine x_icmp_ge (tgt := 58) (pc := 23) B dX10_reach_23 rfl (fun hc4 => ?_) (fun hc4 => ?_)
    · have h := iff_ hc4 h
      refine x_pick (lv' := [(0, .ref (ad 81)), (2, .int a2)]) [0, 1] rfl ?_
      have z := hexit y3.2 (Option.some.inj h).symm
      exact z
    · have h := ift hc4 h
      refine x_aload_n (pc := 26) B 0 dX10_reach_26 rfl rfl ?_
      refine x_get (T := TX10) (pc := 27) B 2 oi_81 rfl uw_10 (by decide) rfl tw_473 rfl dX10_reach_27 ?_
      refine x_iload (pc := 30) B 3 dX10_reach_30 rfl ?_
      refine x_lload_n (pc := 32) B 2 dX10_reach_32 rfl rfl ?_
      refine x_iload (pc := 33) B 3 dX10_reach_33 rfl ?_
      refine x_lshr (pc := 35) B dX10_reach_35 ?_
      refine x_lconst (v := 1) (pc := 36) B dX10_reach_36 rfl ?_
      refine x_land (pc := 37) B dX10_reach_37 ?_
      refine x_lconst (v := 1) (pc := 38) B dX10_reach_38 rfl ?_
      refine x_lcmp (pc := 39) B dX10_reach_39 ?_
      refine jv_k h (fun (u7 : Int32) => XX D ad cI cJ p l e (Rm 5 112) s m args below meth c Q 6 y3.2 49 [(0, .ref (ad 81)), (2, .int a2), (3, .long q1), (5, .int y3.1)] [.int u7, .int y3.1, .ref (ad 83)]) (fun u7 h => ?_) (fun JJ => ?_)
      · refine x_callSN (rest := []) (st' := []) (pc := 49) B (T_CF_put 83 3072 y3.1 u7 ai_83 (by decide) y3.2) tw_588 tw_977 tw_587 tw_98 hd_CF_put ⟨Nat.le_of_ble_eq_true rfl, Nat.le_of_ble_eq_true rfl⟩ rfl rfl (Nat.le_of_ble_eq_true rfl) rfl dX10_reach_49 ?_
        refine jv_m (P := fun M8 => XX D ad cI cJ p l e (Rm 5 112) s m args below meth c Q 6 M8 52 [(0, .ref (ad 81)), (2, .int a2), (3, .long q1), (5, .int y3.1)] []) h (fun M8 h => ?_)
        refine x_iinc (k := 3) (v := y3.1 + 1) (lv' := [(5, .int (y3.1 + 1)), (0, .ref (ad 81)), (2, .int a2), (3, .long q1)]) (pc := 52) B dX10_reach_52 rfl rfl (by decide) rfl ?_
        refine x_goto (tgt := 19) (pc := 55) B dX10_reach_55 rfl ?_
        refine x_pick (lv' := [(0, .ref (ad 81)), (2, .int a2), (3, .long q1), (5, .int (y3.1 + 1))]) [1, 2, 3, 0] rfl ?_
        have z := hback (y3.1 + 1, M8) (Option.some.inj h).symm
        exact z
      · refine x_if_ne (tgt := 47) (pc := 40) B dX10_reach_40 rfl (fun hc5 => ?_) (fun hc5 => ?_)
        · refine x_ldc (v := 1000000) (pc := 47) B tw_988 dX10_reach_47 ?_
          have z := JJ 1000000 ((zif_f hc5).trans rfl)
          exact z
        · refine x_iconst (v := 0) (pc := 43) B dX10_reach_43 rfl ?_
          refine x_goto (tgt := 49) (pc := 44) B dX10_reach_44 rfl ?_
          have z := JJ 0 ((zif_t hc5).trans rfl)
          exact z
  · refine x_aload_n (pc := 58) B 0 dX10_reach_58 rfl rfl ?_
    refine x_iconst (v := 0) (pc := 59) B dX10_reach_59 rfl ?_
    obtain ⟨q10, hq10, h⟩ := bnd h
    refine x_callV (rest := []) (st' := []) (pc := 60) B oi_81 rfl (C_Ways_spread_81 0 q9 _ hq10) tw_1002 tw_999 tw_1001 tw_29 tw_109 hd_Ways_spread_81 ⟨Nat.le_of_ble_eq_true rfl, Nat.le_of_ble_eq_true rfl⟩ rfl rfl (Nat.le_of_ble_eq_true rfl) rfl dX10_reach_60 ?_
    refine x_aload_n (pc := 63) B 0 dX10_reach_63 rfl rfl ?_
    refine x_aload_n (pc := 64) B 0 dX10_reach_64 rfl rfl ?_
    refine x_get (T := TX10) (pc := 65) B 2 oi_81 rfl uw_10 (by decide) rfl tw_473 rfl dX10_reach_65 ?_
    refine x_iload_n (pc := 68) B 1 dX10_reach_68 rfl rfl ?_
    refine x_callSN (rest := [.ref (ad 81)]) (st' := [.int (atv (q10.1 83) 3072 a2), .ref (ad 81)]) (pc := 69) B (T_CF_at 83 3072 a2 ai_83 (by decide) q10) tw_575 tw_998 tw_574 tw_98 hd_CF_at ⟨Nat.le_of_ble_eq_true rfl, Nat.le_of_ble_eq_true rfl⟩ rfl rfl (Nat.le_of_ble_eq_true rfl) rfl dX10_reach_69 ?_
    refine x_put (T := TX10) (pc := 72) B 6 oi_81 of_81_6 rfl uw_10 tyX10_ok nmX10 (by decide) rfl tw_477 rfl rfl rfl (Nat.le_of_ble_eq_true rfl) dX10_reach_72 ?_
    refine jv_m (P := fun M11 => XX D ad cI cJ p l e (Rm 5 112) s m args below meth c Q 6 M11 75 [(0, .ref (ad 81)), (2, .int a2)] []) h (fun M11 h => ?_)
    refine x_aload_n (pc := 75) B 0 dX10_reach_75 rfl rfl ?_
    refine x_get (T := TX10) (pc := 76) B 6 oi_81 rfl uw_10 (by decide) rfl tw_477 rfl dX10_reach_76 ?_
    refine x_ldc (v := 1000000) (pc := 79) B tw_988 dX10_reach_79 ?_
    refine x_icmp_lt (tgt := 86) (pc := 81) B dX10_reach_81 rfl (fun hc12 => ?_) (fun hc12 => ?_)
    · have h := ift hc12 h
      refine x_aload_n (pc := 86) B 0 dX10_reach_86 rfl rfl ?_
      refine x_iload_n (pc := 87) B 1 dX10_reach_87 rfl rfl ?_
      obtain ⟨q13, hq13, h⟩ := bnd h
      refine x_callV (rest := []) (st' := []) (pc := 88) B oi_81 rfl (C_Ways_trace_81 a2 M11 _ hq13) tw_1058 tw_1055 tw_1057 tw_32 tw_109 hd_Ways_trace_81 ⟨Nat.le_of_ble_eq_true rfl, Nat.le_of_ble_eq_true rfl⟩ rfl rfl (Nat.le_of_ble_eq_true rfl) rfl dX10_reach_88 ?_
      refine x_iconst (v := 1) (pc := 91) B dX10_reach_91 rfl ?_
      obtain rfl := Option.some.inj h
      exact x_zret (v := true) (pc := 92) B hQ dX10_reach_92
    · have h := iff_ hc12 h
      refine x_iconst (v := 0) (pc := 84) B dX10_reach_84 rfl ?_
      obtain rfl := Option.some.inj h
      exact x_zret (v := false) (pc := 85) B hQ dX10_reach_85
-- CurrentFarms.signsFor(II)I [0]
abbrev y_CF_signsFor_0 : MethodName := ⟨"CurrentFarms", "signsFor", "(II)I"⟩
abbrev cX11_signsFor : ByteArray := prog_1_method_52_code
theorem dX11_signsFor_0 : decode cX11_signsFor 0 = .ok (.aload_n 0, 1) := by decide +kernel
theorem dX11_signsFor_1 : decode cX11_signsFor 1 = .ok (.getfield 12, 3) := by decide +kernel
theorem dX11_signsFor_4 : decode cX11_signsFor 4 = .ok (.getfield 43, 3) := by decide +kernel
theorem dX11_signsFor_7 : decode cX11_signsFor 7 = .ok (.aload_n 0, 1) := by decide +kernel
theorem dX11_signsFor_8 : decode cX11_signsFor 8 = .ok (.getfield 50, 3) := by decide +kernel
theorem dX11_signsFor_11 : decode cX11_signsFor 11 = .ok (.getfield 362, 3) := by decide +kernel
theorem dX11_signsFor_14 : decode cX11_signsFor 14 = .ok (.invokevirtual 340, 3) := by decide +kernel
theorem dX11_signsFor_17 : decode cX11_signsFor 17 = .ok (.istore_n 3, 1) := by decide +kernel
theorem dX11_signsFor_18 : decode cX11_signsFor 18 = .ok (.aload_n 0, 1) := by decide +kernel
theorem dX11_signsFor_19 : decode cX11_signsFor 19 = .ok (.getfield 50, 3) := by decide +kernel
theorem dX11_signsFor_22 : decode cX11_signsFor 22 = .ok (.getfield 247, 3) := by decide +kernel
theorem dX11_signsFor_25 : decode cX11_signsFor 25 = .ok (.iload_n 2, 1) := by decide +kernel
theorem dX11_signsFor_26 : decode cX11_signsFor 26 = .ok (.isub, 1) := by decide +kernel
theorem dX11_signsFor_27 : decode cX11_signsFor 27 = .ok (.bipush 20, 2) := by decide +kernel
theorem dX11_signsFor_29 : decode cX11_signsFor 29 = .ok (.iload_n 3, 1) := by decide +kernel
theorem dX11_signsFor_30 : decode cX11_signsFor 30 = .ok (.iload_n 1, 1) := by decide +kernel
theorem dX11_signsFor_31 : decode cX11_signsFor 31 = .ok (.iand, 1) := by decide +kernel
theorem dX11_signsFor_32 : decode cX11_signsFor 32 = .ok (.invokestatic 166, 3) := by decide +kernel
theorem dX11_signsFor_35 : decode cX11_signsFor 35 = .ok (.imul, 1) := by decide +kernel
theorem dX11_signsFor_36 : decode cX11_signsFor 36 = .ok (.isub, 1) := by decide +kernel
theorem dX11_signsFor_37 : decode cX11_signsFor 37 = .ok (.istore 4, 2) := by decide +kernel
theorem dX11_signsFor_39 : decode cX11_signsFor 39 = .ok (.iload 4, 2) := by decide +kernel
theorem dX11_signsFor_41 : decode cX11_signsFor 41 = .ok (.ifCond .gt 7, 3) := by decide +kernel
theorem dX11_signsFor_44 : decode cX11_signsFor 44 = .ok (.iconst 0, 1) := by decide +kernel
theorem dX11_signsFor_45 : decode cX11_signsFor 45 = .ok (.goto 11, 3) := by decide +kernel
theorem dX11_signsFor_48 : decode cX11_signsFor 48 = .ok (.iload 4, 2) := by decide +kernel
theorem dX11_signsFor_50 : decode cX11_signsFor 50 = .ok (.bipush 19, 2) := by decide +kernel
theorem dX11_signsFor_52 : decode cX11_signsFor 52 = .ok (.iadd, 1) := by decide +kernel
theorem dX11_signsFor_53 : decode cX11_signsFor 53 = .ok (.bipush 20, 2) := by decide +kernel
theorem dX11_signsFor_55 : decode cX11_signsFor 55 = .ok (.idiv, 1) := by decide +kernel
theorem dX11_signsFor_56 : decode cX11_signsFor 56 = .ok (.istore 5, 2) := by decide +kernel
theorem dX11_signsFor_58 : decode cX11_signsFor 58 = .ok (.iload 5, 2) := by decide +kernel
theorem dX11_signsFor_60 : decode cX11_signsFor 60 = .ok (.iload_n 3, 1) := by decide +kernel
theorem dX11_signsFor_61 : decode cX11_signsFor 61 = .ok (.iload_n 1, 1) := by decide +kernel
theorem dX11_signsFor_62 : decode cX11_signsFor 62 = .ok (.iconst (-1), 1) := by decide +kernel
theorem dX11_signsFor_63 : decode cX11_signsFor 63 = .ok (.ixor, 1) := by decide +kernel
theorem dX11_signsFor_64 : decode cX11_signsFor 64 = .ok (.iand, 1) := by decide +kernel
theorem dX11_signsFor_65 : decode cX11_signsFor 65 = .ok (.invokestatic 166, 3) := by decide +kernel
theorem dX11_signsFor_68 : decode cX11_signsFor 68 = .ok (.if_icmp .le 8, 3) := by decide +kernel
theorem dX11_signsFor_71 : decode cX11_signsFor 71 = .ok (.bipush (-5), 2) := by decide +kernel
theorem dX11_signsFor_73 : decode cX11_signsFor 73 = .ok (.goto 5, 3) := by decide +kernel
theorem dX11_signsFor_76 : decode cX11_signsFor 76 = .ok (.iload 5, 2) := by decide +kernel
theorem dX11_signsFor_78 : decode cX11_signsFor 78 = .ok (.ireturn, 1) := by decide +kernel
theorem hd_CF_signsFor_0 : y_CF_signsFor_0.cls ≠ "java/lang/invoke/MethodHandle" ∧ y_CF_signsFor_0.cls ≠ "java/lang/invoke/VarHandle" ∧ (parseMethodDescriptor y_CF_signsFor_0.desc).map (fun d => d.parameters.length) = some 2 := by decide +kernel
def f_CF_signsFor_0 (a1 : Int32) (a2 : Int32) (M0 : Mem) : Option (Int32) :=
  (f_Land_farmsOn_2 (M0.2 81 7) M0).bind fun q1 => jv_ ((if decide ((((M0.1 81 6) - a2) - (20 * (bcnt (q1 &&& a1)))) ≤ 0) then 0 else ((((M0.1 81 6) - a2) - (20 * (bcnt (q1 &&& a1)))) + 19) / 20) : Int32) fun u4 => if decide (u4 ≤ (bcnt (q1 &&& (a1 ^^^ (-1))))) then (some u4) else (some (-5))
set_option maxHeartbeats 4000000 in
set_option maxRecDepth 20000 in
theorem C_CF_signsFor_0 {D : va_G} {ad adK adV : Nat → Nat} {cI cJ : ClassId} {l : Launch} (a1 : Int32) (a2 : Int32) (M0 : Mem) (o : Int32) (h : f_CF_signsFor_0 a1 a2 M0 = some o) : Ct D ad adK adV cI cJ l y_CF_signsFor_0 cX11_signsFor 6 (some .int) 3 66 [.ref (ad 0), .int a1, .int a2] M0 (some (.int o)) M0 := by
  refine x_start (lv := [(0, .ref (ad 0)), (1, .int a1), (2, .int a2)]) (own := "CurrentFarms") rfl (by decide) (Nat.le_of_ble_eq_true rfl) rfl ?_
  intro p e s m args below meth c Q hQ B
  unfold f_CF_signsFor_0 at h
  refine x_aload_n (pc := 0) B 0 dX11_signsFor_0 rfl rfl ?_
  refine x_get (T := TX11) (pc := 1) B 0 oi_0 rfl uw_11 (by decide) rfl tw_525 rfl dX11_signsFor_1 ?_
  refine x_get (T := TX8) (pc := 4) B 0 oi_1 rfl uw_8 (by decide) rfl tw_359 rfl dX11_signsFor_4 ?_
  refine x_aload_n (pc := 7) B 0 dX11_signsFor_7 rfl rfl ?_
  refine x_get (T := TX11) (pc := 8) B 5 oi_0 rfl uw_11 (by decide) rfl tw_530 rfl dX11_signsFor_8 ?_
  refine x_get (T := TX10) (pc := 11) B 7 oi_81 rfl uw_10 (by decide) rfl tw_480 rfl dX11_signsFor_11 ?_
  obtain ⟨q1, hq1, h⟩ := bnd h
  refine x_callV (rest := []) (st' := [.int q1]) (pc := 14) B oi_2 rfl (C_Land_farmsOn_2 (M0.2 81 7) M0 _ hq1) tw_579 tw_576 tw_577 tw_578 tw_100 hd_Land_farmsOn_2 ⟨Nat.le_of_ble_eq_true rfl, Nat.le_of_ble_eq_true rfl⟩ rfl rfl (Nat.le_of_ble_eq_true rfl) rfl dX11_signsFor_14 ?_
  refine x_istore_n (lv' := [(3, .int q1), (0, .ref (ad 0)), (1, .int a1), (2, .int a2)]) (pc := 17) B dX11_signsFor_17 rfl (by decide) rfl ?_
  refine x_aload_n (pc := 18) B 1 dX11_signsFor_18 rfl rfl ?_
  refine x_get (T := TX11) (pc := 19) B 5 oi_0 rfl uw_11 (by decide) rfl tw_530 rfl dX11_signsFor_19 ?_
  refine x_get (T := TX10) (pc := 22) B 6 oi_81 rfl uw_10 (by decide) rfl tw_478 rfl dX11_signsFor_22 ?_
  refine x_iload_n (pc := 25) B 3 dX11_signsFor_25 rfl rfl ?_
  refine x_isub (pc := 26) B dX11_signsFor_26 ?_
  refine x_bipush (v := 20) (pc := 27) B dX11_signsFor_27 rfl ?_
  refine x_iload_n (pc := 29) B 0 dX11_signsFor_29 rfl rfl ?_
  refine x_iload_n (pc := 30) B 2 dX11_signsFor_30 rfl rfl ?_
  refine x_iand (pc := 31) B dX11_signsFor_31 ?_
  refine x_callS (rest := [.int 20, .int ((M0.1 81 6) - a2)]) (st' := [.int (bcnt (q1 &&& a1)), .int 20, .int ((M0.1 81 6) - a2)]) (pc := 32) B (T_bitCount (q1 &&& a1) M0) tw_689 tw_792 tw_688 tw_113 hd_Integer_bitCount_0f7a4 ⟨Nat.le_of_ble_eq_true rfl, Nat.le_of_ble_eq_true rfl⟩ rfl rfl (Nat.le_of_ble_eq_true rfl) rfl dX11_signsFor_32 ?_
  refine x_imul (pc := 35) B dX11_signsFor_35 ?_
  refine x_isub (pc := 36) B dX11_signsFor_36 ?_
  refine x_istore (lv' := [(4, .int (((M0.1 81 6) - a2) - (20 * (bcnt (q1 &&& a1))))), (3, .int q1), (0, .ref (ad 0)), (1, .int a1), (2, .int a2)]) (pc := 37) B dX11_signsFor_37 (by decide) rfl ?_
  refine x_iload (pc := 39) B 0 dX11_signsFor_39 rfl ?_
  refine jv_k h (fun (u4 : Int32) => XX D ad cI cJ p l e (Rm 3 66) s m args below meth c Q 6 M0 56 [(1, .int a1), (3, .int q1)] [.int u4]) (fun u4 h => ?_) (fun JJ => ?_)
  · refine x_istore (lv' := [(5, .int u4), (1, .int a1), (3, .int q1)]) (pc := 56) B dX11_signsFor_56 (by decide) rfl ?_
    refine x_iload (pc := 58) B 0 dX11_signsFor_58 rfl ?_
    refine x_iload_n (pc := 60) B 2 dX11_signsFor_60 rfl rfl ?_
    refine x_iload_n (pc := 61) B 1 dX11_signsFor_61 rfl rfl ?_
    refine x_iconst (v := (-1)) (pc := 62) B dX11_signsFor_62 rfl ?_
    refine x_ixor (pc := 63) B dX11_signsFor_63 ?_
    refine x_iand (pc := 64) B dX11_signsFor_64 ?_
    refine x_callS (rest := [.int u4]) (st' := [.int (bcnt (q1 &&& (a1 ^^^ (-1)))), .int u4]) (pc := 65) B (T_bitCount (q1 &&& (a1 ^^^ (-1))) M0) tw_689 tw_792 tw_688 tw_113 hd_Integer_bitCount_0f7a4 ⟨Nat.le_of_ble_eq_true rfl, Nat.le_of_ble_eq_true rfl⟩ rfl rfl (Nat.le_of_ble_eq_true rfl) rfl dX11_signsFor_65 ?_
    refine x_icmp_le (tgt := 76) (pc := 68) B dX11_signsFor_68 rfl (fun hc5 => ?_) (fun hc5 => ?_)
    · have h := ift hc5 h
      refine x_iload (pc := 76) B 0 dX11_signsFor_76 rfl ?_
      obtain rfl := Option.some.inj h
      exact x_iret (pc := 78) B hQ dX11_signsFor_78
    · have h := iff_ hc5 h
      refine x_bipush (v := (-5)) (pc := 71) B dX11_signsFor_71 rfl ?_
      refine x_goto (tgt := 78) (pc := 73) B dX11_signsFor_73 rfl ?_
      obtain rfl := Option.some.inj h
      exact x_iret (pc := 78) B hQ dX11_signsFor_78
  · refine x_if_gt (tgt := 48) (pc := 41) B dX11_signsFor_41 rfl (fun hc2 => ?_) (fun hc2 => ?_)
    · refine x_iload (pc := 48) B 0 dX11_signsFor_48 rfl ?_
      refine x_bipush (v := 19) (pc := 50) B dX11_signsFor_50 rfl ?_
      refine x_iadd (pc := 52) B dX11_signsFor_52 ?_
      refine x_bipush (v := 20) (pc := 53) B dX11_signsFor_53 rfl ?_
      refine x_idiv (pc := 55) B dX11_signsFor_55 (by decide) ?_
      refine x_pick (lv' := [(1, .int a1), (3, .int q1)]) [3, 1] rfl ?_
      have z := JJ (((((M0.1 81 6) - a2) - (20 * (bcnt (q1 &&& a1)))) + 19) / 20) ((zif_f hc2).trans rfl)
      exact z
    · refine x_iconst (v := 0) (pc := 44) B dX11_signsFor_44 rfl ?_
      refine x_goto (tgt := 56) (pc := 45) B dX11_signsFor_45 rfl ?_
      refine x_pick (lv' := [(1, .int a1), (3, .int q1)]) [3, 1] rfl ?_
      have z := JJ 0 ((zif_t hc2).trans rfl)
      exact z
-- CurrentFarms.next(II)I [0]
abbrev y_CF_next_0 : MethodName := ⟨"CurrentFarms", "next", "(II)I"⟩
abbrev cX11_next : ByteArray := prog_1_method_23_code
theorem dX11_next_0 : decode cX11_next 0 = .ok (.aload_n 0, 1) := by decide +kernel
theorem dX11_next_1 : decode cX11_next 1 = .ok (.iload_n 1, 1) := by decide +kernel
theorem dX11_next_2 : decode cX11_next 2 = .ok (.invokevirtual 126, 3) := by decide +kernel
theorem dX11_next_5 : decode cX11_next 5 = .ok (.ifCond .eq 12, 3) := by decide +kernel
theorem dX11_next_8 : decode cX11_next 8 = .ok (.iload_n 2, 1) := by decide +kernel
theorem dX11_next_9 : decode cX11_next 9 = .ok (.iconst 0, 1) := by decide +kernel
theorem dX11_next_10 : decode cX11_next 10 = .ok (.iconst 2, 1) := by decide +kernel
theorem dX11_next_11 : decode cX11_next 11 = .ok (.invokestatic 72, 3) := by decide +kernel
theorem dX11_next_14 : decode cX11_next 14 = .ok (.ifCond .ne 5, 3) := by decide +kernel
theorem dX11_next_17 : decode cX11_next 17 = .ok (.iconst (-1), 1) := by decide +kernel
theorem dX11_next_18 : decode cX11_next 18 = .ok (.ireturn, 1) := by decide +kernel
theorem dX11_next_19 : decode cX11_next 19 = .ok (.aload_n 0, 1) := by decide +kernel
theorem dX11_next_20 : decode cX11_next 20 = .ok (.getfield 12, 3) := by decide +kernel
theorem dX11_next_23 : decode cX11_next 23 = .ok (.getfield 132, 3) := by decide +kernel
theorem dX11_next_26 : decode cX11_next 26 = .ok (.aload_n 0, 1) := by decide +kernel
theorem dX11_next_27 : decode cX11_next 27 = .ok (.getfield 12, 3) := by decide +kernel
theorem dX11_next_30 : decode cX11_next 30 = .ok (.getfield 123, 3) := by decide +kernel
theorem dX11_next_33 : decode cX11_next 33 = .ok (.iconst 0, 1) := by decide +kernel
theorem dX11_next_34 : decode cX11_next 34 = .ok (.iconst 0, 1) := by decide +kernel
theorem dX11_next_35 : decode cX11_next 35 = .ok (.invokevirtual 163, 3) := by decide +kernel
theorem dX11_next_38 : decode cX11_next 38 = .ok (.istore_n 3, 1) := by decide +kernel
theorem dX11_next_39 : decode cX11_next 39 = .ok (.iload_n 3, 1) := by decide +kernel
theorem dX11_next_40 : decode cX11_next 40 = .ok (.aload_n 0, 1) := by decide +kernel
theorem dX11_next_41 : decode cX11_next 41 = .ok (.invokevirtual 219, 3) := by decide +kernel
theorem dX11_next_44 : decode cX11_next 44 = .ok (.iconst (-1), 1) := by decide +kernel
theorem dX11_next_45 : decode cX11_next 45 = .ok (.ixor, 1) := by decide +kernel
theorem dX11_next_46 : decode cX11_next 46 = .ok (.iand, 1) := by decide +kernel
theorem dX11_next_47 : decode cX11_next 47 = .ok (.iload_n 1, 1) := by decide +kernel
theorem dX11_next_48 : decode cX11_next 48 = .ok (.invokestatic 240, 3) := by decide +kernel
theorem dX11_next_51 : decode cX11_next 51 = .ok (.ifCond .ne 6, 3) := by decide +kernel
theorem dX11_next_54 : decode cX11_next 54 = .ok (.bipush (-3), 2) := by decide +kernel
theorem dX11_next_56 : decode cX11_next 56 = .ok (.ireturn, 1) := by decide +kernel
theorem dX11_next_57 : decode cX11_next 57 = .ok (.aload_n 0, 1) := by decide +kernel
theorem dX11_next_58 : decode cX11_next 58 = .ok (.getfield 50, 3) := by decide +kernel
theorem dX11_next_61 : decode cX11_next 61 = .ok (.aload_n 0, 1) := by decide +kernel
theorem dX11_next_62 : decode cX11_next 62 = .ok (.getfield 12, 3) := by decide +kernel
theorem dX11_next_65 : decode cX11_next 65 = .ok (.getfield 107, 3) := by decide +kernel
theorem dX11_next_68 : decode cX11_next 68 = .ok (.aload_n 0, 1) := by decide +kernel
theorem dX11_next_69 : decode cX11_next 69 = .ok (.getfield 12, 3) := by decide +kernel
theorem dX11_next_72 : decode cX11_next 72 = .ok (.getfield 43, 3) := by decide +kernel
theorem dX11_next_75 : decode cX11_next 75 = .ok (.iload_n 1, 1) := by decide +kernel
theorem dX11_next_76 : decode cX11_next 76 = .ok (.invokevirtual 233, 3) := by decide +kernel
theorem dX11_next_79 : decode cX11_next 79 = .ok (.invokevirtual 243, 3) := by decide +kernel
theorem dX11_next_82 : decode cX11_next 82 = .ok (.istore 4, 2) := by decide +kernel
theorem dX11_next_84 : decode cX11_next 84 = .ok (.iload 4, 2) := by decide +kernel
theorem dX11_next_86 : decode cX11_next 86 = .ok (.ifCond .ne 15, 3) := by decide +kernel
theorem dX11_next_89 : decode cX11_next 89 = .ok (.iload_n 2, 1) := by decide +kernel
theorem dX11_next_90 : decode cX11_next 90 = .ok (.iconst 1, 1) := by decide +kernel
theorem dX11_next_91 : decode cX11_next 91 = .ok (.if_icmp .ne 7, 3) := by decide +kernel
theorem dX11_next_94 : decode cX11_next 94 = .ok (.iconst 0, 1) := by decide +kernel
theorem dX11_next_95 : decode cX11_next 95 = .ok (.goto 5, 3) := by decide +kernel
theorem dX11_next_98 : decode cX11_next 98 = .ok (.bipush (-5), 2) := by decide +kernel
theorem dX11_next_100 : decode cX11_next 100 = .ok (.ireturn, 1) := by decide +kernel
theorem dX11_next_101 : decode cX11_next 101 = .ok (.iload_n 2, 1) := by decide +kernel
theorem dX11_next_102 : decode cX11_next 102 = .ok (.ifCond .ne 11, 3) := by decide +kernel
theorem dX11_next_105 : decode cX11_next 105 = .ok (.aload_n 0, 1) := by decide +kernel
theorem dX11_next_106 : decode cX11_next 106 = .ok (.getfield 50, 3) := by decide +kernel
theorem dX11_next_109 : decode cX11_next 109 = .ok (.getfield 247, 3) := by decide +kernel
theorem dX11_next_112 : decode cX11_next 112 = .ok (.ireturn, 1) := by decide +kernel
theorem dX11_next_113 : decode cX11_next 113 = .ok (.aload_n 0, 1) := by decide +kernel
theorem dX11_next_114 : decode cX11_next 114 = .ok (.iload_n 3, 1) := by decide +kernel
theorem dX11_next_115 : decode cX11_next 115 = .ok (.aload_n 0, 1) := by decide +kernel
theorem dX11_next_116 : decode cX11_next 116 = .ok (.getfield 37, 3) := by decide +kernel
theorem dX11_next_119 : decode cX11_next 119 = .ok (.iconst 4, 1) := by decide +kernel
theorem dX11_next_120 : decode cX11_next 120 = .ok (.iload_n 1, 1) := by decide +kernel
theorem dX11_next_121 : decode cX11_next 121 = .ok (.aload_n 0, 1) := by decide +kernel
theorem dX11_next_122 : decode cX11_next 122 = .ok (.getfield 12, 3) := by decide +kernel
theorem dX11_next_125 : decode cX11_next 125 = .ok (.getfield 123, 3) := by decide +kernel
theorem dX11_next_128 : decode cX11_next 128 = .ok (.iconst 0, 1) := by decide +kernel
theorem dX11_next_129 : decode cX11_next 129 = .ok (.invokevirtual 189, 3) := by decide +kernel
theorem dX11_next_132 : decode cX11_next 132 = .ok (.invokevirtual 250, 3) := by decide +kernel
theorem dX11_next_135 : decode cX11_next 135 = .ok (.istore 5, 2) := by decide +kernel
theorem dX11_next_137 : decode cX11_next 137 = .ok (.iload_n 2, 1) := by decide +kernel
theorem dX11_next_138 : decode cX11_next 138 = .ok (.iconst 1, 1) := by decide +kernel
theorem dX11_next_139 : decode cX11_next 139 = .ok (.if_icmp .ne 19, 3) := by decide +kernel
theorem dX11_next_142 : decode cX11_next 142 = .ok (.iload 5, 2) := by decide +kernel
theorem dX11_next_144 : decode cX11_next 144 = .ok (.ifCond .ne 7, 3) := by decide +kernel
theorem dX11_next_147 : decode cX11_next 147 = .ok (.iconst 1, 1) := by decide +kernel
theorem dX11_next_148 : decode cX11_next 148 = .ok (.goto 4, 3) := by decide +kernel
theorem dX11_next_151 : decode cX11_next 151 = .ok (.iconst 0, 1) := by decide +kernel
theorem dX11_next_152 : decode cX11_next 152 = .ok (.invokestatic 226, 3) := by decide +kernel
theorem dX11_next_155 : decode cX11_next 155 = .ok (.goto 5, 3) := by decide +kernel
theorem dX11_next_158 : decode cX11_next 158 = .ok (.iload 5, 2) := by decide +kernel
theorem dX11_next_160 : decode cX11_next 160 = .ok (.ireturn, 1) := by decide +kernel
theorem hd_CF_next_0 : y_CF_next_0.cls ≠ "java/lang/invoke/MethodHandle" ∧ y_CF_next_0.cls ≠ "java/lang/invoke/VarHandle" ∧ (parseMethodDescriptor y_CF_next_0.desc).map (fun d => d.parameters.length) = some 2 := by decide +kernel
def f_CF_next_0 (a1 : Int32) (a2 : Int32) (M0 : Mem) : Option (Int32 × Mem) :=
  (f_CF_isFarm_0 a1 M0).bind fun q1 => if q1 then (if wthn a2 0 2 then ((f_Book_membersIn_7 (M0.1 1 6) 0 0 M0).bind fun q4 => (f_CF_farmsOnLine_0 q4.2).bind fun q5 => if hld (q4.1 &&& (q5 ^^^ (-1))) a1 then ((f_Land_cellOf_2 a1 q4.2).bind fun q7 => (f_Ways_reach_81_24 q7 q4.2).bind fun q8 => if q8.1 then (if decide (a2 = 0) then (some (q8.2.1 81 6, q8.2)) else ((f_Account_ruled_79 4 a1 (q8.2.1 1 6) 0 q8.2).bind fun q12 => (f_CF_signsFor_0 q4.1 q12.1 q12.2).bind fun q13 => if decide (a2 = 1) then (jv_ ((decide (q13 = 0)) : Bool) fun u17 => some (bI u17, q12.2)) else (some (q13, q12.2)))) else (if decide (a2 = 1) then (some (0, q8.2)) else (some ((-5), q8.2)))) else (some ((-3), q4.2))) else (some ((-1), M0))) else (some ((-1), M0))
set_option maxHeartbeats 4000000 in
set_option maxRecDepth 20000 in
theorem C_CF_next_0 {D : va_G} {ad adK adV : Nat → Nat} {cI cJ : ClassId} {l : Launch} (a1 : Int32) (a2 : Int32) (M0 : Mem) (o : Int32 × Mem) (h : f_CF_next_0 a1 a2 M0 = some o) : Ct D ad adK adV cI cJ l y_CF_next_0 cX11_next 6 (some .int) 6 153 [.ref (ad 0), .int a1, .int a2] M0 (some (.int o.1)) o.2 := by
  refine x_start (lv := [(0, .ref (ad 0)), (1, .int a1), (2, .int a2)]) (own := "CurrentFarms") rfl (by decide) (Nat.le_of_ble_eq_true rfl) rfl ?_
  intro p e s m args below meth c Q hQ B
  unfold f_CF_next_0 at h
  refine x_aload_n (pc := 0) B 0 dX11_next_0 rfl rfl ?_
  refine x_iload_n (pc := 1) B 1 dX11_next_1 rfl rfl ?_
  obtain ⟨q1, hq1, h⟩ := bnd h
  refine x_callV (rest := []) (st' := [.int (bI q1)]) (pc := 2) B oi_0 rfl (C_CF_isFarm_0 a1 M0 _ hq1) tw_638 tw_635 tw_637 tw_2 tw_98 hd_CF_isFarm_0 ⟨Nat.le_of_ble_eq_true rfl, Nat.le_of_ble_eq_true rfl⟩ rfl rfl (Nat.le_of_ble_eq_true rfl) rfl dX11_next_2 ?_
  refine x_if_eq_b (tgt := 17) (pc := 5) B dX11_next_5 rfl (fun hc2 => ?_) (fun hc2 => ?_)
  · have h := iff_ hc2 h
    refine x_iconst (v := (-1)) (pc := 17) B dX11_next_17 rfl ?_
    obtain rfl := Option.some.inj h
    exact x_iret (pc := 18) B hQ dX11_next_18
  · have h := ift hc2 h
    refine x_iload_n (pc := 8) B 2 dX11_next_8 rfl rfl ?_
    refine x_iconst (v := 0) (pc := 9) B dX11_next_9 rfl ?_
    refine x_iconst (v := 2) (pc := 10) B dX11_next_10 rfl ?_
    refine x_callS (rest := []) (st' := [.int (bI (wthn a2 0 2))]) (pc := 11) B (T_CF_within a2 0 2 M0) tw_559 tw_557 tw_558 tw_98 hd_CF_within ⟨Nat.le_of_ble_eq_true rfl, Nat.le_of_ble_eq_true rfl⟩ rfl rfl (Nat.le_of_ble_eq_true rfl) rfl dX11_next_11 ?_
    refine x_if_ne_b (tgt := 19) (pc := 14) B dX11_next_14 rfl (fun hc3 => ?_) (fun hc3 => ?_)
    · have h := ift hc3 h
      refine x_aload_n (pc := 19) B 0 dX11_next_19 rfl rfl ?_
      refine x_get (T := TX11) (pc := 20) B 0 oi_0 rfl uw_11 (by decide) rfl tw_525 rfl dX11_next_20 ?_
      refine x_get (T := TX8) (pc := 23) B 1 oi_1 rfl uw_8 (by decide) rfl tw_367 rfl dX11_next_23 ?_
      refine x_aload_n (pc := 26) B 0 dX11_next_26 rfl rfl ?_
      refine x_get (T := TX11) (pc := 27) B 0 oi_0 rfl uw_11 (by decide) rfl tw_525 rfl dX11_next_27 ?_
      refine x_get (T := TX8) (pc := 30) B 6 oi_1 rfl uw_8 (by decide) rfl tw_384 rfl dX11_next_30 ?_
      refine x_iconst (v := 0) (pc := 33) B dX11_next_33 rfl ?_
      refine x_iconst (v := 0) (pc := 34) B dX11_next_34 rfl ?_
      obtain ⟨q4, hq4, h⟩ := bnd h
      refine x_callV (rest := []) (st' := [.int q4.1]) (pc := 35) B oi_7 rfl (C_Book_membersIn_7 (M0.1 1 6) 0 0 M0 _ hq4) tw_791 tw_788 tw_789 tw_790 tw_101 hd_Book_membersIn_7 ⟨Nat.le_of_ble_eq_true rfl, Nat.le_of_ble_eq_true rfl⟩ rfl rfl (Nat.le_of_ble_eq_true rfl) rfl dX11_next_35 ?_
      refine x_istore_n (lv' := [(3, .int q4.1), (0, .ref (ad 0)), (1, .int a1), (2, .int a2)]) (pc := 38) B dX11_next_38 rfl (by decide) rfl ?_
      refine x_iload_n (pc := 39) B 0 dX11_next_39 rfl rfl ?_
      refine x_aload_n (pc := 40) B 1 dX11_next_40 rfl rfl ?_
      obtain ⟨q5, hq5, h⟩ := bnd h
      refine x_callV (rest := [.int q4.1]) (st' := [.int q5, .int q4.1]) (pc := 41) B oi_0 rfl (C_CF_farmsOnLine_0  q4.2 _ hq5) tw_1015 tw_1012 tw_1014 tw_30 tw_98 hd_CF_farmsOnLine_0 ⟨Nat.le_of_ble_eq_true rfl, Nat.le_of_ble_eq_true rfl⟩ rfl rfl (Nat.le_of_ble_eq_true rfl) rfl dX11_next_41 ?_
      refine x_iconst (v := (-1)) (pc := 44) B dX11_next_44 rfl ?_
      refine x_ixor (pc := 45) B dX11_next_45 ?_
      refine x_iand (pc := 46) B dX11_next_46 ?_
      refine x_iload_n (pc := 47) B 2 dX11_next_47 rfl rfl ?_
      refine x_callS (rest := []) (st' := [.int (bI (hld (q4.1 &&& (q5 ^^^ (-1))) a1))]) (pc := 48) B (T_CF_holds (q4.1 &&& (q5 ^^^ (-1))) a1 q4.2) tw_699 tw_1049 tw_698 tw_98 hd_CF_holds ⟨Nat.le_of_ble_eq_true rfl, Nat.le_of_ble_eq_true rfl⟩ rfl rfl (Nat.le_of_ble_eq_true rfl) rfl dX11_next_48 ?_
      refine x_if_ne_b (tgt := 57) (pc := 51) B dX11_next_51 rfl (fun hc6 => ?_) (fun hc6 => ?_)
      · have h := ift hc6 h
        refine x_aload_n (pc := 57) B 1 dX11_next_57 rfl rfl ?_
        refine x_get (T := TX11) (pc := 58) B 5 oi_0 rfl uw_11 (by decide) rfl tw_530 rfl dX11_next_58 ?_
        refine x_aload_n (pc := 61) B 1 dX11_next_61 rfl rfl ?_
        refine x_get (T := TX11) (pc := 62) B 0 oi_0 rfl uw_11 (by decide) rfl tw_525 rfl dX11_next_62 ?_
        refine x_get (T := TX8) (pc := 65) B 3 oi_1 rfl uw_8 (by decide) rfl tw_374 rfl dX11_next_65 ?_
        refine x_aload_n (pc := 68) B 1 dX11_next_68 rfl rfl ?_
        refine x_get (T := TX11) (pc := 69) B 0 oi_0 rfl uw_11 (by decide) rfl tw_525 rfl dX11_next_69 ?_
        refine x_get (T := TX8) (pc := 72) B 0 oi_1 rfl uw_8 (by decide) rfl tw_359 rfl dX11_next_72 ?_
        refine x_iload_n (pc := 75) B 2 dX11_next_75 rfl rfl ?_
        obtain ⟨q7, hq7, h⟩ := bnd h
        refine x_callV (rest := [.ref (ad 24), .ref (ad 81)]) (st' := [.int q7, .ref (ad 24), .ref (ad 81)]) (pc := 76) B oi_2 rfl (C_Land_cellOf_2 a1 q4.2 _ hq7) tw_583 tw_1033 tw_581 tw_582 tw_100 hd_Land_cellOf_2 ⟨Nat.le_of_ble_eq_true rfl, Nat.le_of_ble_eq_true rfl⟩ rfl rfl (Nat.le_of_ble_eq_true rfl) rfl dX11_next_76 ?_
        obtain ⟨q8, hq8, h⟩ := bnd h
        refine x_callV (rest := []) (st' := [.int (bI q8.1)]) (pc := 79) B oi_81 rfl (C_Ways_reach_81_24 q7 q4.2 _ hq8) tw_1053 tw_1050 tw_1051 tw_1052 tw_109 hd_Ways_reach_81_24 ⟨Nat.le_of_ble_eq_true rfl, Nat.le_of_ble_eq_true rfl⟩ rfl rfl (Nat.le_of_ble_eq_true rfl) rfl dX11_next_79 ?_
        refine x_istore (lv' := [(4, .int (bI q8.1)), (3, .int q4.1), (0, .ref (ad 0)), (1, .int a1), (2, .int a2)]) (pc := 82) B dX11_next_82 (by decide) rfl ?_
        refine x_iload (pc := 84) B 0 dX11_next_84 rfl ?_
        refine x_if_ne_b (tgt := 101) (pc := 86) B dX11_next_86 rfl (fun hc9 => ?_) (fun hc9 => ?_)
        · have h := ift hc9 h
          refine x_iload_n (pc := 101) B 4 dX11_next_101 rfl rfl ?_
          refine x_if_ne (tgt := 113) (pc := 102) B dX11_next_102 rfl (fun hc11 => ?_) (fun hc11 => ?_)
          · have h := iff_ hc11 h
            refine x_aload_n (pc := 113) B 2 dX11_next_113 rfl rfl ?_
            refine x_iload_n (pc := 114) B 1 dX11_next_114 rfl rfl ?_
            refine x_aload_n (pc := 115) B 2 dX11_next_115 rfl rfl ?_
            refine x_get (T := TX11) (pc := 116) B 4 oi_0 rfl uw_11 (by decide) rfl tw_529 rfl dX11_next_116 ?_
            refine x_iconst (v := 4) (pc := 119) B dX11_next_119 rfl ?_
            refine x_iload_n (pc := 120) B 3 dX11_next_120 rfl rfl ?_
            refine x_aload_n (pc := 121) B 2 dX11_next_121 rfl rfl ?_
            refine x_get (T := TX11) (pc := 122) B 0 oi_0 rfl uw_11 (by decide) rfl tw_525 rfl dX11_next_122 ?_
            refine x_get (T := TX8) (pc := 125) B 6 oi_1 rfl uw_8 (by decide) rfl tw_384 rfl dX11_next_125 ?_
            refine x_iconst (v := 0) (pc := 128) B dX11_next_128 rfl ?_
            obtain ⟨q12, hq12, h⟩ := bnd h
            refine x_callV (rest := [.int q4.1, .ref (ad 0)]) (st' := [.int q12.1, .int q4.1, .ref (ad 0)]) (pc := 129) B oi_79 rfl (C_Account_ruled_79 4 a1 (q8.2.1 1 6) 0 q8.2 _ hq12) tw_944 tw_941 tw_942 tw_943 tw_108 hd_Account_ruled_79 ⟨Nat.le_of_ble_eq_true rfl, Nat.le_of_ble_eq_true rfl⟩ rfl rfl (Nat.le_of_ble_eq_true rfl) rfl dX11_next_129 ?_
            obtain ⟨q13, hq13, h⟩ := bnd h
            refine x_callV (rest := []) (st' := [.int q13]) (pc := 132) B oi_0 rfl (C_CF_signsFor_0 q4.1 q12.1 q12.2 _ hq13) tw_1066 tw_1063 tw_1065 tw_34 tw_98 hd_CF_signsFor_0 ⟨Nat.le_of_ble_eq_true rfl, Nat.le_of_ble_eq_true rfl⟩ rfl rfl (Nat.le_of_ble_eq_true rfl) rfl dX11_next_132 ?_
            refine x_istore (lv' := [(5, .int q13), (4, .int (bI q8.1)), (3, .int q4.1), (0, .ref (ad 0)), (1, .int a1), (2, .int a2)]) (pc := 135) B dX11_next_135 (by decide) rfl ?_
            refine x_iload_n (pc := 137) B 5 dX11_next_137 rfl rfl ?_
            refine x_iconst (v := 1) (pc := 138) B dX11_next_138 rfl ?_
            refine x_icmp_ne (tgt := 158) (pc := 139) B dX11_next_139 rfl (fun hc14 => ?_) (fun hc14 => ?_)
            · have h := iff_ hc14 h
              refine x_iload (pc := 158) B 0 dX11_next_158 rfl ?_
              obtain rfl := Option.some.inj h
              exact x_iret (pc := 160) B hQ dX11_next_160
            · have h := ift hc14 h
              refine x_iload (pc := 142) B 0 dX11_next_142 rfl ?_
              refine jv_k h (fun (u17 : Bool) => XX D ad cI cJ p l e (Rm 6 153) s m args below meth c Q 6 q12.2 152 [] [.int (bI u17)]) (fun u17 h => ?_) (fun JJ => ?_)
              · refine x_callS (rest := []) (st' := [.int (bI u17)]) (pc := 152) B (T_CF_flag u17 q12.2) tw_606 tw_1024 tw_605 tw_98 hd_CF_flag ⟨Nat.le_of_ble_eq_true rfl, Nat.le_of_ble_eq_true rfl⟩ rfl rfl (Nat.le_of_ble_eq_true rfl) rfl dX11_next_152 ?_
                refine x_goto (tgt := 160) (pc := 155) B dX11_next_155 rfl ?_
                obtain rfl := Option.some.inj h
                exact x_iret (pc := 160) B hQ dX11_next_160
              · refine x_if_ne (tgt := 151) (pc := 144) B dX11_next_144 rfl (fun hc15 => ?_) (fun hc15 => ?_)
                · refine x_iconst (v := 0) (pc := 151) B dX11_next_151 rfl ?_
                  refine x_pick (lv' := []) [] rfl ?_
                  have z := JJ false hc15
                  exact z
                · refine x_iconst (v := 1) (pc := 147) B dX11_next_147 rfl ?_
                  refine x_goto (tgt := 152) (pc := 148) B dX11_next_148 rfl ?_
                  refine x_pick (lv' := []) [] rfl ?_
                  have z := JJ true hc15
                  exact z
          · have h := ift hc11 h
            refine x_aload_n (pc := 105) B 2 dX11_next_105 rfl rfl ?_
            refine x_get (T := TX11) (pc := 106) B 5 oi_0 rfl uw_11 (by decide) rfl tw_530 rfl dX11_next_106 ?_
            refine x_get (T := TX10) (pc := 109) B 6 oi_81 rfl uw_10 (by decide) rfl tw_478 rfl dX11_next_109 ?_
            obtain rfl := Option.some.inj h
            exact x_iret (pc := 112) B hQ dX11_next_112
        · have h := iff_ hc9 h
          refine x_iload_n (pc := 89) B 4 dX11_next_89 rfl rfl ?_
          refine x_iconst (v := 1) (pc := 90) B dX11_next_90 rfl ?_
          refine x_icmp_ne (tgt := 98) (pc := 91) B dX11_next_91 rfl (fun hc10 => ?_) (fun hc10 => ?_)
          · have h := iff_ hc10 h
            refine x_bipush (v := (-5)) (pc := 98) B dX11_next_98 rfl ?_
            obtain rfl := Option.some.inj h
            exact x_iret (pc := 100) B hQ dX11_next_100
          · have h := ift hc10 h
            refine x_iconst (v := 0) (pc := 94) B dX11_next_94 rfl ?_
            refine x_goto (tgt := 100) (pc := 95) B dX11_next_95 rfl ?_
            obtain rfl := Option.some.inj h
            exact x_iret (pc := 100) B hQ dX11_next_100
      · have h := iff_ hc6 h
        refine x_bipush (v := (-3)) (pc := 54) B dX11_next_54 rfl ?_
        obtain rfl := Option.some.inj h
        exact x_iret (pc := 56) B hQ dX11_next_56
    · have h := iff_ hc3 h
      refine x_iconst (v := (-1)) (pc := 17) B dX11_next_17 rfl ?_
      obtain rfl := Option.some.inj h
      exact x_iret (pc := 18) B hQ dX11_next_18
-- CurrentFarms.wire(I)I [0]
abbrev y_CF_wire_0 : MethodName := ⟨"CurrentFarms", "wire", "(I)I"⟩
abbrev cX11_wire : ByteArray := prog_1_method_24_code
theorem dX11_wire_0 : decode cX11_wire 0 = .ok (.iload_n 1, 1) := by decide +kernel
theorem dX11_wire_1 : decode cX11_wire 1 = .ok (.iconst 1, 1) := by decide +kernel
theorem dX11_wire_2 : decode cX11_wire 2 = .ok (.bipush 9, 2) := by decide +kernel
theorem dX11_wire_4 : decode cX11_wire 4 = .ok (.invokestatic 72, 3) := by decide +kernel
theorem dX11_wire_7 : decode cX11_wire 7 = .ok (.ifCond .ne 6, 3) := by decide +kernel
theorem dX11_wire_10 : decode cX11_wire 10 = .ok (.bipush (-2), 2) := by decide +kernel
theorem dX11_wire_12 : decode cX11_wire 12 = .ok (.ireturn, 1) := by decide +kernel
theorem dX11_wire_13 : decode cX11_wire 13 = .ok (.aload_n 0, 1) := by decide +kernel
theorem dX11_wire_14 : decode cX11_wire 14 = .ok (.getfield 12, 3) := by decide +kernel
theorem dX11_wire_17 : decode cX11_wire 17 = .ok (.getfield 107, 3) := by decide +kernel
theorem dX11_wire_20 : decode cX11_wire 20 = .ok (.getfield 253, 3) := by decide +kernel
theorem dX11_wire_23 : decode cX11_wire 23 = .ok (.istore_n 2, 1) := by decide +kernel
theorem dX11_wire_24 : decode cX11_wire 24 = .ok (.aload_n 0, 1) := by decide +kernel
theorem dX11_wire_25 : decode cX11_wire 25 = .ok (.getfield 12, 3) := by decide +kernel
theorem dX11_wire_28 : decode cX11_wire 28 = .ok (.getfield 107, 3) := by decide +kernel
theorem dX11_wire_31 : decode cX11_wire 31 = .ok (.iload_n 1, 1) := by decide +kernel
theorem dX11_wire_32 : decode cX11_wire 32 = .ok (.putfield 253, 3) := by decide +kernel
theorem dX11_wire_35 : decode cX11_wire 35 = .ok (.iload_n 2, 1) := by decide +kernel
theorem dX11_wire_36 : decode cX11_wire 36 = .ok (.ireturn, 1) := by decide +kernel
theorem hd_CF_wire_0 : y_CF_wire_0.cls ≠ "java/lang/invoke/MethodHandle" ∧ y_CF_wire_0.cls ≠ "java/lang/invoke/VarHandle" ∧ (parseMethodDescriptor y_CF_wire_0.desc).map (fun d => d.parameters.length) = some 1 := by decide +kernel
def f_CF_wire_0 (a1 : Int32) (M0 : Mem) : Option (Int32 × Mem) :=
  if wthn a1 1 9 then (jv_ (wI M0 24 4 a1) fun M2 => some (M0.1 24 4, M2)) else (some ((-2), M0))
set_option maxHeartbeats 4000000 in
set_option maxRecDepth 20000 in
theorem C_CF_wire_0 {D : va_G} {ad adK adV : Nat → Nat} {cI cJ : ClassId} {l : Launch} (a1 : Int32) (M0 : Mem) (o : Int32 × Mem) (h : f_CF_wire_0 a1 M0 = some o) : Ct D ad adK adV cI cJ l y_CF_wire_0 cX11_wire 3 (some .int) 1 22 [.ref (ad 0), .int a1] M0 (some (.int o.1)) o.2 := by
  refine x_start (lv := [(0, .ref (ad 0)), (1, .int a1)]) (own := "CurrentFarms") rfl (by decide) (Nat.le_of_ble_eq_true rfl) rfl ?_
  intro p e s m args below meth c Q hQ B
  unfold f_CF_wire_0 at h
  refine x_iload_n (pc := 0) B 1 dX11_wire_0 rfl rfl ?_
  refine x_iconst (v := 1) (pc := 1) B dX11_wire_1 rfl ?_
  refine x_bipush (v := 9) (pc := 2) B dX11_wire_2 rfl ?_
  refine x_callS (rest := []) (st' := [.int (bI (wthn a1 1 9))]) (pc := 4) B (T_CF_within a1 1 9 M0) tw_559 tw_557 tw_558 tw_98 hd_CF_within ⟨Nat.le_of_ble_eq_true rfl, Nat.le_of_ble_eq_true rfl⟩ rfl rfl (Nat.le_of_ble_eq_true rfl) rfl dX11_wire_4 ?_
  refine x_if_ne_b (tgt := 13) (pc := 7) B dX11_wire_7 rfl (fun hc1 => ?_) (fun hc1 => ?_)
  · have h := ift hc1 h
    refine x_aload_n (pc := 13) B 0 dX11_wire_13 rfl rfl ?_
    refine x_get (T := TX11) (pc := 14) B 0 oi_0 rfl uw_11 (by decide) rfl tw_525 rfl dX11_wire_14 ?_
    refine x_get (T := TX8) (pc := 17) B 3 oi_1 rfl uw_8 (by decide) rfl tw_374 rfl dX11_wire_17 ?_
    refine x_get (T := TX5) (pc := 20) B 4 oi_24 rfl uw_5 (by decide) rfl tw_273 rfl dX11_wire_20 ?_
    refine x_istore_n (lv' := [(2, .int (M0.1 24 4)), (0, .ref (ad 0)), (1, .int a1)]) (pc := 23) B dX11_wire_23 rfl (by decide) rfl ?_
    refine x_aload_n (pc := 24) B 1 dX11_wire_24 rfl rfl ?_
    refine x_get (T := TX11) (pc := 25) B 0 oi_0 rfl uw_11 (by decide) rfl tw_525 rfl dX11_wire_25 ?_
    refine x_get (T := TX8) (pc := 28) B 3 oi_1 rfl uw_8 (by decide) rfl tw_374 rfl dX11_wire_28 ?_
    refine x_iload_n (pc := 31) B 2 dX11_wire_31 rfl rfl ?_
    refine x_put (T := TX5) (pc := 32) B 4 oi_24 of_24_4 rfl uw_5 tyX5_ok nmX5 (by decide) rfl tw_273 rfl rfl rfl (Nat.le_of_ble_eq_true rfl) dX11_wire_32 ?_
    refine jv_m (P := fun M2 => XX D ad cI cJ p l e (Rm 1 22) s m args below meth c Q 3 M2 35 [(2, .int (M0.1 24 4)), (0, .ref (ad 0)), (1, .int a1)] []) h (fun M2 h => ?_)
    refine x_iload_n (pc := 35) B 0 dX11_wire_35 rfl rfl ?_
    obtain rfl := Option.some.inj h
    exact x_iret (pc := 36) B hQ dX11_wire_36
  · have h := iff_ hc1 h
    refine x_bipush (v := (-2)) (pc := 10) B dX11_wire_10 rfl ?_
    obtain rfl := Option.some.inj h
    exact x_iret (pc := 12) B hQ dX11_wire_12
-- CurrentFarms$Book.decidedBy(II)I [7]
abbrev y_Book_decidedBy_7 : MethodName := ⟨"CurrentFarms$Book", "decidedBy", "(II)I"⟩
abbrev cX1_decidedBy : ByteArray := prog_3_method_8_code
theorem dX1_decidedBy_0 : decode cX1_decidedBy 0 = .ok (.aload_n 0, 1) := by decide +kernel
theorem dX1_decidedBy_1 : decode cX1_decidedBy 1 = .ok (.iload_n 2, 1) := by decide +kernel
theorem dX1_decidedBy_2 : decode cX1_decidedBy 2 = .ok (.iconst (-1), 1) := by decide +kernel
theorem dX1_decidedBy_3 : decode cX1_decidedBy 3 = .ok (.invokevirtual 56, 3) := by decide +kernel
theorem dX1_decidedBy_6 : decode cX1_decidedBy 6 = .ok (.iconst 0, 1) := by decide +kernel
theorem dX1_decidedBy_7 : decode cX1_decidedBy 7 = .ok (.istore_n 3, 1) := by decide +kernel
theorem dX1_decidedBy_8 : decode cX1_decidedBy 8 = .ok (.iconst 0, 1) := by decide +kernel
theorem dX1_decidedBy_9 : decode cX1_decidedBy 9 = .ok (.istore 4, 2) := by decide +kernel
theorem dX1_decidedBy_11 : decode cX1_decidedBy 11 = .ok (.iload 4, 2) := by decide +kernel
theorem dX1_decidedBy_13 : decode cX1_decidedBy 13 = .ok (.bipush 10, 2) := by decide +kernel
theorem dX1_decidedBy_15 : decode cX1_decidedBy 15 = .ok (.if_icmp .ge 26, 3) := by decide +kernel
theorem dX1_decidedBy_18 : decode cX1_decidedBy 18 = .ok (.aload_n 0, 1) := by decide +kernel
theorem dX1_decidedBy_19 : decode cX1_decidedBy 19 = .ok (.iload 4, 2) := by decide +kernel
theorem dX1_decidedBy_21 : decode cX1_decidedBy 21 = .ok (.invokevirtual 60, 3) := by decide +kernel
theorem dX1_decidedBy_24 : decode cX1_decidedBy 24 = .ok (.iload_n 1, 1) := by decide +kernel
theorem dX1_decidedBy_25 : decode cX1_decidedBy 25 = .ok (.if_icmp .ne 10, 3) := by decide +kernel
theorem dX1_decidedBy_28 : decode cX1_decidedBy 28 = .ok (.iload_n 3, 1) := by decide +kernel
theorem dX1_decidedBy_29 : decode cX1_decidedBy 29 = .ok (.iconst 1, 1) := by decide +kernel
theorem dX1_decidedBy_30 : decode cX1_decidedBy 30 = .ok (.iload 4, 2) := by decide +kernel
theorem dX1_decidedBy_32 : decode cX1_decidedBy 32 = .ok (.ishl, 1) := by decide +kernel
theorem dX1_decidedBy_33 : decode cX1_decidedBy 33 = .ok (.ior, 1) := by decide +kernel
theorem dX1_decidedBy_34 : decode cX1_decidedBy 34 = .ok (.istore_n 3, 1) := by decide +kernel
theorem dX1_decidedBy_35 : decode cX1_decidedBy 35 = .ok (.iinc 4 1, 3) := by decide +kernel
theorem dX1_decidedBy_38 : decode cX1_decidedBy 38 = .ok (.goto (-27), 3) := by decide +kernel
theorem dX1_decidedBy_41 : decode cX1_decidedBy 41 = .ok (.iload_n 3, 1) := by decide +kernel
theorem dX1_decidedBy_42 : decode cX1_decidedBy 42 = .ok (.ireturn, 1) := by decide +kernel
theorem hd_Book_decidedBy_7 : y_Book_decidedBy_7.cls ≠ "java/lang/invoke/MethodHandle" ∧ y_Book_decidedBy_7.cls ≠ "java/lang/invoke/VarHandle" ∧ (parseMethodDescriptor y_Book_decidedBy_7.desc).map (fun d => d.parameters.length) = some 2 := by decide +kernel
def b_Book_decidedBy_7_11 (a1 : Int32) (q1 : Mem) (y2 : Int32 × Int32) : Option ((Int32 × Int32) ⊕ (Int32)) :=
  if decide (y2.2 < 10) then ((f_Book_decided_7 y2.2 q1).bind fun q4 => if decide (q4 = a1) then (some (.inl (y2.1 ||| (1 <<< (y2.2 &&& 31)), y2.2 + 1))) else (some (.inl (y2.1, y2.2 + 1)))) else (some (.inr y2.1))
def f_Book_decidedBy_7 (a1 : Int32) (a2 : Int32) (M0 : Mem) : Option (Int32 × Mem) :=
  (f_Book_look_7 a2 (-1) M0).bind fun q1 => (itr (b_Book_decidedBy_7_11 a1 q1) FU (0, 0)).bind fun q6 => some (q6, q1)
set_option maxHeartbeats 4000000 in
set_option maxRecDepth 20000 in
theorem C_Book_decidedBy_7 {D : va_G} {ad adK adV : Nat → Nat} {cI cJ : ClassId} {l : Launch} (a1 : Int32) (a2 : Int32) (M0 : Mem) (o : Int32 × Mem) (h : f_Book_decidedBy_7 a1 a2 M0 = some o) : Ct D ad adK adV cI cJ l y_Book_decidedBy_7 cX1_decidedBy 5 (some .int) 2 51 [.ref (ad 7), .int a1, .int a2] M0 (some (.int o.1)) o.2 := by
  refine x_start (lv := [(0, .ref (ad 7)), (1, .int a1), (2, .int a2)]) (own := "CurrentFarms$Book") rfl (by decide) (Nat.le_of_ble_eq_true rfl) rfl ?_
  intro p e s m args below meth c Q hQ B
  unfold f_Book_decidedBy_7 at h
  refine x_aload_n (pc := 0) B 0 dX1_decidedBy_0 rfl rfl ?_
  refine x_iload_n (pc := 1) B 2 dX1_decidedBy_1 rfl rfl ?_
  refine x_iconst (v := (-1)) (pc := 2) B dX1_decidedBy_2 rfl ?_
  obtain ⟨q1, hq1, h⟩ := bnd h
  refine x_callV (rest := []) (st' := []) (pc := 3) B oi_7 rfl (C_Book_look_7 a2 (-1) M0 _ hq1) tw_677 tw_674 tw_676 tw_5 tw_101 hd_Book_look_7 ⟨Nat.le_of_ble_eq_true rfl, Nat.le_of_ble_eq_true rfl⟩ rfl rfl (Nat.le_of_ble_eq_true rfl) rfl dX1_decidedBy_3 ?_
  refine x_iconst (v := 0) (pc := 6) B dX1_decidedBy_6 rfl ?_
  refine x_istore_n (lv' := [(3, .int 0), (0, .ref (ad 7)), (1, .int a1), (2, .int a2)]) (pc := 7) B dX1_decidedBy_7 rfl (by decide) rfl ?_
  refine x_iconst (v := 0) (pc := 8) B dX1_decidedBy_8 rfl ?_
  refine x_istore (lv' := [(4, .int 0), (3, .int 0), (0, .ref (ad 7)), (1, .int a1), (2, .int a2)]) (pc := 9) B dX1_decidedBy_9 (by decide) rfl ?_
  refine x_pick (lv' := [(0, .ref (ad 7)), (1, .int a1), (3, .int 0), (4, .int 0)]) [2, 3, 1, 0] rfl ?_
  obtain ⟨q6, hq6, h⟩ := bnd h
  refine x_loop (Head := fun (y2 : Int32 × Int32) => XX D ad cI cJ p l e (Rm 2 51) s m args below meth c Q 5 q1 11 [(0, .ref (ad 7)), (1, .int a1), (3, .int y2.1), (4, .int y2.2)] []) (Ex := fun (q6 : Int32) => XX D ad cI cJ p l e (Rm 2 51) s m args below meth c Q 5 q1 41 [(3, .int q6)] []) (fun y2 r h hback hexit => ?_) FU _ q6 hq6 ?_
  · unfold b_Book_decidedBy_7_11 at h
    refine x_iload (pc := 11) B 3 dX1_decidedBy_11 rfl ?_
    refine x_bipush (v := 10) (pc := 13) B dX1_decidedBy_13 rfl ?_
    refine x_icmp_ge (tgt := 41) (pc := 15) B dX1_decidedBy_15 rfl (fun hc3 => ?_) (fun hc3 => ?_)
    · have h := iff_ hc3 h
      refine x_pick (lv' := [(3, .int y2.1)]) [2] rfl ?_
      have z := hexit y2.1 (Option.some.inj h).symm
      exact z
    · have h := ift hc3 h
      refine x_aload_n (pc := 18) B 0 dX1_decidedBy_18 rfl rfl ?_
      refine x_iload (pc := 19) B 3 dX1_decidedBy_19 rfl ?_
      obtain ⟨q4, hq4, h⟩ := bnd h
      refine x_callV (rest := []) (st' := [.int q4]) (pc := 21) B oi_7 rfl (C_Book_decided_7 y2.2 q1 _ hq4) tw_682 tw_679 tw_681 tw_6 tw_101 hd_Book_decided_7 ⟨Nat.le_of_ble_eq_true rfl, Nat.le_of_ble_eq_true rfl⟩ rfl rfl (Nat.le_of_ble_eq_true rfl) rfl dX1_decidedBy_21 ?_
      refine x_iload_n (pc := 24) B 1 dX1_decidedBy_24 rfl rfl ?_
      refine x_icmp_ne (tgt := 35) (pc := 25) B dX1_decidedBy_25 rfl (fun hc5 => ?_) (fun hc5 => ?_)
      · have h := iff_ hc5 h
        refine x_iinc (k := 3) (v := y2.2 + 1) (lv' := [(4, .int (y2.2 + 1)), (0, .ref (ad 7)), (1, .int a1), (3, .int y2.1)]) (pc := 35) B dX1_decidedBy_35 rfl rfl (by decide) rfl ?_
        refine x_goto (tgt := 11) (pc := 38) B dX1_decidedBy_38 rfl ?_
        refine x_pick (lv' := [(0, .ref (ad 7)), (1, .int a1), (3, .int y2.1), (4, .int (y2.2 + 1))]) [1, 2, 3, 0] rfl ?_
        have z := hback (y2.1, y2.2 + 1) (Option.some.inj h).symm
        exact z
      · have h := ift hc5 h
        refine x_iload_n (pc := 28) B 2 dX1_decidedBy_28 rfl rfl ?_
        refine x_iconst (v := 1) (pc := 29) B dX1_decidedBy_29 rfl ?_
        refine x_iload (pc := 30) B 3 dX1_decidedBy_30 rfl ?_
        refine x_ishl (pc := 32) B dX1_decidedBy_32 ?_
        refine x_ior (pc := 33) B dX1_decidedBy_33 ?_
        refine x_istore_n (lv' := [(3, .int (y2.1 ||| (1 <<< (y2.2 &&& 31)))), (0, .ref (ad 7)), (1, .int a1), (4, .int y2.2)]) (pc := 34) B dX1_decidedBy_34 rfl (by decide) rfl ?_
        refine x_iinc (k := 3) (v := y2.2 + 1) (lv' := [(4, .int (y2.2 + 1)), (3, .int (y2.1 ||| (1 <<< (y2.2 &&& 31)))), (0, .ref (ad 7)), (1, .int a1)]) (pc := 35) B dX1_decidedBy_35 rfl rfl (by decide) rfl ?_
        refine x_goto (tgt := 11) (pc := 38) B dX1_decidedBy_38 rfl ?_
        refine x_pick (lv' := [(0, .ref (ad 7)), (1, .int a1), (3, .int (y2.1 ||| (1 <<< (y2.2 &&& 31)))), (4, .int (y2.2 + 1))]) [2, 3, 1, 0] rfl ?_
        have z := hback (y2.1 ||| (1 <<< (y2.2 &&& 31)), y2.2 + 1) (Option.some.inj h).symm
        exact z
  · refine x_iload_n (pc := 41) B 0 dX1_decidedBy_41 rfl rfl ?_
    obtain rfl := Option.some.inj h
    exact x_iret (pc := 42) B hQ dX1_decidedBy_42
-- CurrentFarms$Volts.draw(I)V [86]
abbrev y_Volts_draw_86 : MethodName := ⟨"CurrentFarms$Volts", "draw", "(I)V"⟩
abbrev cX9_draw : ByteArray := prog_11_method_3_code
theorem dX9_draw_0 : decode cX9_draw 0 = .ok (.aload_n 0, 1) := by decide +kernel
theorem dX9_draw_1 : decode cX9_draw 1 = .ok (.getfield 15, 3) := by decide +kernel
theorem dX9_draw_4 : decode cX9_draw 4 = .ok (.iconst 0, 1) := by decide +kernel
theorem dX9_draw_5 : decode cX9_draw 5 = .ok (.invokestatic 22, 3) := by decide +kernel
theorem dX9_draw_8 : decode cX9_draw 8 = .ok (.iconst 0, 1) := by decide +kernel
theorem dX9_draw_9 : decode cX9_draw 9 = .ok (.istore_n 2, 1) := by decide +kernel
theorem dX9_draw_10 : decode cX9_draw 10 = .ok (.iload_n 2, 1) := by decide +kernel
theorem dX9_draw_11 : decode cX9_draw 11 = .ok (.aload_n 0, 1) := by decide +kernel
theorem dX9_draw_12 : decode cX9_draw 12 = .ok (.getfield 18, 3) := by decide +kernel
theorem dX9_draw_15 : decode cX9_draw 15 = .ok (.getfield 59, 3) := by decide +kernel
theorem dX9_draw_18 : decode cX9_draw 18 = .ok (.getfield 63, 3) := by decide +kernel
theorem dX9_draw_21 : decode cX9_draw 21 = .ok (.if_icmp .ge 87, 3) := by decide +kernel
theorem dX9_draw_24 : decode cX9_draw 24 = .ok (.aload_n 0, 1) := by decide +kernel
theorem dX9_draw_25 : decode cX9_draw 25 = .ok (.getfield 18, 3) := by decide +kernel
theorem dX9_draw_28 : decode cX9_draw 28 = .ok (.getfield 59, 3) := by decide +kernel
theorem dX9_draw_31 : decode cX9_draw 31 = .ok (.iload_n 2, 1) := by decide +kernel
theorem dX9_draw_32 : decode cX9_draw 32 = .ok (.invokevirtual 68, 3) := by decide +kernel
theorem dX9_draw_35 : decode cX9_draw 35 = .ok (.istore_n 3, 1) := by decide +kernel
theorem dX9_draw_36 : decode cX9_draw 36 = .ok (.aload_n 0, 1) := by decide +kernel
theorem dX9_draw_37 : decode cX9_draw 37 = .ok (.getfield 9, 3) := by decide +kernel
theorem dX9_draw_40 : decode cX9_draw 40 = .ok (.iload_n 3, 1) := by decide +kernel
theorem dX9_draw_41 : decode cX9_draw 41 = .ok (.invokestatic 72, 3) := by decide +kernel
theorem dX9_draw_44 : decode cX9_draw 44 = .ok (.istore 4, 2) := by decide +kernel
theorem dX9_draw_46 : decode cX9_draw 46 = .ok (.iload 4, 2) := by decide +kernel
theorem dX9_draw_48 : decode cX9_draw 48 = .ok (.ifCond .le 54, 3) := by decide +kernel
theorem dX9_draw_51 : decode cX9_draw 51 = .ok (.iload_n 1, 1) := by decide +kernel
theorem dX9_draw_52 : decode cX9_draw 52 = .ok (.iload_n 2, 1) := by decide +kernel
theorem dX9_draw_53 : decode cX9_draw 53 = .ok (.invokestatic 76, 3) := by decide +kernel
theorem dX9_draw_56 : decode cX9_draw 56 = .ok (.ifCond .ne 6, 3) := by decide +kernel
theorem dX9_draw_59 : decode cX9_draw 59 = .ok (.goto 43, 3) := by decide +kernel
theorem dX9_draw_62 : decode cX9_draw 62 = .ok (.aload_n 0, 1) := by decide +kernel
theorem dX9_draw_63 : decode cX9_draw 63 = .ok (.getfield 15, 3) := by decide +kernel
theorem dX9_draw_66 : decode cX9_draw 66 = .ok (.iload_n 3, 1) := by decide +kernel
theorem dX9_draw_67 : decode cX9_draw 67 = .ok (.aload_n 0, 1) := by decide +kernel
theorem dX9_draw_68 : decode cX9_draw 68 = .ok (.getfield 15, 3) := by decide +kernel
theorem dX9_draw_71 : decode cX9_draw 71 = .ok (.iload_n 3, 1) := by decide +kernel
theorem dX9_draw_72 : decode cX9_draw 72 = .ok (.invokestatic 72, 3) := by decide +kernel
theorem dX9_draw_75 : decode cX9_draw 75 = .ok (.aload_n 0, 1) := by decide +kernel
theorem dX9_draw_76 : decode cX9_draw 76 = .ok (.getfield 18, 3) := by decide +kernel
theorem dX9_draw_79 : decode cX9_draw 79 = .ok (.getfield 59, 3) := by decide +kernel
theorem dX9_draw_82 : decode cX9_draw 82 = .ok (.getfield 80, 3) := by decide +kernel
theorem dX9_draw_85 : decode cX9_draw 85 = .ok (.iload_n 2, 1) := by decide +kernel
theorem dX9_draw_86 : decode cX9_draw 86 = .ok (.invokestatic 72, 3) := by decide +kernel
theorem dX9_draw_89 : decode cX9_draw 89 = .ok (.sipush 1000, 3) := by decide +kernel
theorem dX9_draw_92 : decode cX9_draw 92 = .ok (.imul, 1) := by decide +kernel
theorem dX9_draw_93 : decode cX9_draw 93 = .ok (.iload 4, 2) := by decide +kernel
theorem dX9_draw_95 : decode cX9_draw 95 = .ok (.invokestatic 83, 3) := by decide +kernel
theorem dX9_draw_98 : decode cX9_draw 98 = .ok (.iadd, 1) := by decide +kernel
theorem dX9_draw_99 : decode cX9_draw 99 = .ok (.invokestatic 86, 3) := by decide +kernel
theorem dX9_draw_102 : decode cX9_draw 102 = .ok (.iinc 2 1, 3) := by decide +kernel
theorem dX9_draw_105 : decode cX9_draw 105 = .ok (.goto (-95), 3) := by decide +kernel
theorem dX9_draw_108 : decode cX9_draw 108 = .ok (.aload_n 0, 1) := by decide +kernel
theorem dX9_draw_109 : decode cX9_draw 109 = .ok (.getfield 18, 3) := by decide +kernel
theorem dX9_draw_112 : decode cX9_draw 112 = .ok (.getfield 90, 3) := by decide +kernel
theorem dX9_draw_115 : decode cX9_draw 115 = .ok (.getfield 94, 3) := by decide +kernel
theorem dX9_draw_118 : decode cX9_draw 118 = .ok (.iconst 1, 1) := by decide +kernel
theorem dX9_draw_119 : decode cX9_draw 119 = .ok (.isub, 1) := by decide +kernel
theorem dX9_draw_120 : decode cX9_draw 120 = .ok (.istore_n 2, 1) := by decide +kernel
theorem dX9_draw_121 : decode cX9_draw 121 = .ok (.iload_n 2, 1) := by decide +kernel
theorem dX9_draw_122 : decode cX9_draw 122 = .ok (.ifCond .lt 64, 3) := by decide +kernel
theorem dX9_draw_125 : decode cX9_draw 125 = .ok (.aload_n 0, 1) := by decide +kernel
theorem dX9_draw_126 : decode cX9_draw 126 = .ok (.getfield 18, 3) := by decide +kernel
theorem dX9_draw_129 : decode cX9_draw 129 = .ok (.getfield 90, 3) := by decide +kernel
theorem dX9_draw_132 : decode cX9_draw 132 = .ok (.getfield 99, 3) := by decide +kernel
theorem dX9_draw_135 : decode cX9_draw 135 = .ok (.iload_n 2, 1) := by decide +kernel
theorem dX9_draw_136 : decode cX9_draw 136 = .ok (.invokestatic 72, 3) := by decide +kernel
theorem dX9_draw_139 : decode cX9_draw 139 = .ok (.istore_n 3, 1) := by decide +kernel
theorem dX9_draw_140 : decode cX9_draw 140 = .ok (.aload_n 0, 1) := by decide +kernel
theorem dX9_draw_141 : decode cX9_draw 141 = .ok (.getfield 18, 3) := by decide +kernel
theorem dX9_draw_144 : decode cX9_draw 144 = .ok (.getfield 90, 3) := by decide +kernel
theorem dX9_draw_147 : decode cX9_draw 147 = .ok (.iload_n 3, 1) := by decide +kernel
theorem dX9_draw_148 : decode cX9_draw 148 = .ok (.invokevirtual 102, 3) := by decide +kernel
theorem dX9_draw_151 : decode cX9_draw 151 = .ok (.istore 4, 2) := by decide +kernel
theorem dX9_draw_153 : decode cX9_draw 153 = .ok (.aload_n 0, 1) := by decide +kernel
theorem dX9_draw_154 : decode cX9_draw 154 = .ok (.getfield 15, 3) := by decide +kernel
theorem dX9_draw_157 : decode cX9_draw 157 = .ok (.iload 4, 2) := by decide +kernel
theorem dX9_draw_159 : decode cX9_draw 159 = .ok (.aload_n 0, 1) := by decide +kernel
theorem dX9_draw_160 : decode cX9_draw 160 = .ok (.getfield 15, 3) := by decide +kernel
theorem dX9_draw_163 : decode cX9_draw 163 = .ok (.iload 4, 2) := by decide +kernel
theorem dX9_draw_165 : decode cX9_draw 165 = .ok (.invokestatic 72, 3) := by decide +kernel
theorem dX9_draw_168 : decode cX9_draw 168 = .ok (.aload_n 0, 1) := by decide +kernel
theorem dX9_draw_169 : decode cX9_draw 169 = .ok (.getfield 15, 3) := by decide +kernel
theorem dX9_draw_172 : decode cX9_draw 172 = .ok (.iload_n 3, 1) := by decide +kernel
theorem dX9_draw_173 : decode cX9_draw 173 = .ok (.invokestatic 72, 3) := by decide +kernel
theorem dX9_draw_176 : decode cX9_draw 176 = .ok (.iadd, 1) := by decide +kernel
theorem dX9_draw_177 : decode cX9_draw 177 = .ok (.invokestatic 86, 3) := by decide +kernel
theorem dX9_draw_180 : decode cX9_draw 180 = .ok (.iinc 2 (-1), 3) := by decide +kernel
theorem dX9_draw_183 : decode cX9_draw 183 = .ok (.goto (-62), 3) := by decide +kernel
theorem dX9_draw_186 : decode cX9_draw 186 = .ok (.return_, 1) := by decide +kernel
theorem hd_Volts_draw_86 : y_Volts_draw_86.cls ≠ "java/lang/invoke/MethodHandle" ∧ y_Volts_draw_86.cls ≠ "java/lang/invoke/VarHandle" ∧ (parseMethodDescriptor y_Volts_draw_86.desc).map (fun d => d.parameters.length) = some 1 := by decide +kernel
def b_Volts_draw_86_10 (a1 : Int32) (y2 : Int32 × Mem) : Option ((Int32 × Mem) ⊕ (Mem)) :=
  if decide (y2.1 < (y2.2.1 2 4)) then ((f_Land_cellOf_2 y2.1 y2.2).bind fun q4 => if decide ((atv (y2.2.1 87) 48 q4) ≤ 0) then (some (.inl (y2.1 + 1, y2.2))) else (if hld a1 y2.1 then (jv_ (putv y2.2 88 48 q4 ((atv (y2.2.1 88) 48 q4) + (prt ((atv (y2.2.1 6) 10 y2.1) * 1000) (atv (y2.2.1 87) 48 q4)))) fun M7 => some (.inl (y2.1 + 1, M7))) else (some (.inl (y2.1 + 1, y2.2))))) else (some (.inr y2.2))
def b_Volts_draw_86_121  (y9 : Int32 × Mem) : Option ((Int32 × Mem) ⊕ (Mem)) :=
  if decide (y9.1 < 0) then (some (.inr y9.2)) else ((f_Line_ahead_24 (atv (y9.2.1 26) 48 y9.1) y9.2).bind fun q11 => jv_ (putv y9.2 88 48 q11 ((atv (y9.2.1 88) 48 q11) + (atv (y9.2.1 88) 48 (atv (y9.2.1 26) 48 y9.1)))) fun M12 => some (.inl (y9.1 + (-1), M12)))
def f_Volts_draw_86 (a1 : Int32) (M0 : Mem) : Option (Mem) :=
  jv_ (wR M0 88 (filv (M0.1 88) 48 0)) fun M1 => (itr (b_Volts_draw_86_10 a1) FU (0, M1)).bind fun q8 => (itr (b_Volts_draw_86_121) FU ((q8.1 24 2) - 1, q8)).bind fun q13 => some q13
set_option maxHeartbeats 4000000 in
set_option maxRecDepth 20000 in
theorem C_Volts_draw_86 {D : va_G} {ad adK adV : Nat → Nat} {cI cJ : ClassId} {l : Launch} (a1 : Int32) (M0 : Mem) (o : Mem) (h : f_Volts_draw_86 a1 M0 = some o) : Ct D ad adK adV cI cJ l y_Volts_draw_86 cX9_draw 5 none 3 63 [.ref (ad 86), .int a1] M0 none o := by
  refine x_start (lv := [(0, .ref (ad 86)), (1, .int a1)]) (own := "CurrentFarms$Volts") rfl (by decide) (Nat.le_of_ble_eq_true rfl) rfl ?_
  intro p e s m args below meth c Q hQ B
  unfold f_Volts_draw_86 at h
  refine x_aload_n (pc := 0) B 0 dX9_draw_0 rfl rfl ?_
  refine x_get (T := TX9) (pc := 1) B 2 oi_86 rfl uw_9 (by decide) rfl tw_507 rfl dX9_draw_1 ?_
  refine x_iconst (v := 0) (pc := 4) B dX9_draw_4 rfl ?_
  refine x_callS (rest := []) (st' := []) (pc := 5) B (T_fill 88 48 0 ai_88 (by decide) M0) tw_262 tw_1079 tw_261 tw_104 hd_Arrays_fill_53178 ⟨Nat.le_of_ble_eq_true rfl, Nat.le_of_ble_eq_true rfl⟩ rfl rfl (Nat.le_of_ble_eq_true rfl) rfl dX9_draw_5 ?_
  refine jv_m (P := fun M1 => XX D ad cI cJ p l e (Rm 3 63) s m args below meth c Q 5 M1 8 [(0, .ref (ad 86)), (1, .int a1)] []) h (fun M1 h => ?_)
  refine x_iconst (v := 0) (pc := 8) B dX9_draw_8 rfl ?_
  refine x_istore_n (lv' := [(2, .int 0), (0, .ref (ad 86)), (1, .int a1)]) (pc := 9) B dX9_draw_9 rfl (by decide) rfl ?_
  refine x_pick (lv' := [(0, .ref (ad 86)), (1, .int a1), (2, .int 0)]) [1, 2, 0] rfl ?_
  obtain ⟨q8, hq8, h⟩ := bnd h
  refine x_loop (Head := fun (y2 : Int32 × Mem) => XX D ad cI cJ p l e (Rm 3 63) s m args below meth c Q 5 y2.2 10 [(0, .ref (ad 86)), (1, .int a1), (2, .int y2.1)] []) (Ex := fun (q8 : Mem) => XX D ad cI cJ p l e (Rm 3 63) s m args below meth c Q 5 q8 108 [(0, .ref (ad 86))] []) (fun y2 r h hback hexit => ?_) FU _ q8 hq8 ?_
  · unfold b_Volts_draw_86_10 at h
    refine x_iload_n (pc := 10) B 2 dX9_draw_10 rfl rfl ?_
    refine x_aload_n (pc := 11) B 0 dX9_draw_11 rfl rfl ?_
    refine x_get (T := TX9) (pc := 12) B 0 oi_86 rfl uw_9 (by decide) rfl tw_504 rfl dX9_draw_12 ?_
    refine x_get (T := TX8) (pc := 15) B 0 oi_1 rfl uw_8 (by decide) rfl tw_361 rfl dX9_draw_15 ?_
    refine x_get (T := TX4) (pc := 18) B 4 oi_2 rfl uw_4 (by decide) rfl tw_150 rfl dX9_draw_18 ?_
    refine x_icmp_ge (tgt := 108) (pc := 21) B dX9_draw_21 rfl (fun hc3 => ?_) (fun hc3 => ?_)
    · have h := iff_ hc3 h
      refine x_pick (lv' := [(0, .ref (ad 86))]) [0] rfl ?_
      have z := hexit y2.2 (Option.some.inj h).symm
      exact z
    · have h := ift hc3 h
      refine x_aload_n (pc := 24) B 0 dX9_draw_24 rfl rfl ?_
      refine x_get (T := TX9) (pc := 25) B 0 oi_86 rfl uw_9 (by decide) rfl tw_504 rfl dX9_draw_25 ?_
      refine x_get (T := TX8) (pc := 28) B 0 oi_1 rfl uw_8 (by decide) rfl tw_361 rfl dX9_draw_28 ?_
      refine x_iload_n (pc := 31) B 2 dX9_draw_31 rfl rfl ?_
      obtain ⟨q4, hq4, h⟩ := bnd h
      refine x_callV (rest := []) (st' := [.int q4]) (pc := 32) B oi_2 rfl (C_Land_cellOf_2 y2.1 y2.2 _ hq4) tw_583 tw_1088 tw_581 tw_582 tw_100 hd_Land_cellOf_2 ⟨Nat.le_of_ble_eq_true rfl, Nat.le_of_ble_eq_true rfl⟩ rfl rfl (Nat.le_of_ble_eq_true rfl) rfl dX9_draw_32 ?_
      refine x_istore_n (lv' := [(3, .int q4), (0, .ref (ad 86)), (1, .int a1), (2, .int y2.1)]) (pc := 35) B dX9_draw_35 rfl (by decide) rfl ?_
      refine x_aload_n (pc := 36) B 1 dX9_draw_36 rfl rfl ?_
      refine x_get (T := TX9) (pc := 37) B 1 oi_86 rfl uw_9 (by decide) rfl tw_505 rfl dX9_draw_37 ?_
      refine x_iload_n (pc := 40) B 0 dX9_draw_40 rfl rfl ?_
      refine x_callSN (rest := []) (st' := [.int (atv (y2.2.1 87) 48 q4)]) (pc := 41) B (T_CF_at 87 48 q4 ai_87 (by decide) y2.2) tw_575 tw_1089 tw_574 tw_98 hd_CF_at ⟨Nat.le_of_ble_eq_true rfl, Nat.le_of_ble_eq_true rfl⟩ rfl rfl (Nat.le_of_ble_eq_true rfl) rfl dX9_draw_41 ?_
      refine x_istore (lv' := [(4, .int (atv (y2.2.1 87) 48 q4)), (3, .int q4), (0, .ref (ad 86)), (1, .int a1), (2, .int y2.1)]) (pc := 44) B dX9_draw_44 (by decide) rfl ?_
      refine x_iload (pc := 46) B 0 dX9_draw_46 rfl ?_
      refine x_if_le (tgt := 102) (pc := 48) B dX9_draw_48 rfl (fun hc5 => ?_) (fun hc5 => ?_)
      · have h := ift hc5 h
        refine x_iinc (k := 4) (v := y2.1 + 1) (lv' := [(2, .int (y2.1 + 1)), (4, .int (atv (y2.2.1 87) 48 q4)), (3, .int q4), (0, .ref (ad 86)), (1, .int a1)]) (pc := 102) B dX9_draw_102 rfl rfl (by decide) rfl ?_
        refine x_goto (tgt := 10) (pc := 105) B dX9_draw_105 rfl ?_
        refine x_pick (lv' := [(0, .ref (ad 86)), (1, .int a1), (2, .int (y2.1 + 1))]) [3, 4, 0] rfl ?_
        have z := hback (y2.1 + 1, y2.2) (Option.some.inj h).symm
        exact z
      · have h := iff_ hc5 h
        refine x_iload_n (pc := 51) B 3 dX9_draw_51 rfl rfl ?_
        refine x_iload_n (pc := 52) B 4 dX9_draw_52 rfl rfl ?_
        refine x_callSN (rest := []) (st' := [.int (bI (hld a1 y2.1))]) (pc := 53) B (T_CF_holds a1 y2.1 y2.2) tw_699 tw_1090 tw_698 tw_98 hd_CF_holds ⟨Nat.le_of_ble_eq_true rfl, Nat.le_of_ble_eq_true rfl⟩ rfl rfl (Nat.le_of_ble_eq_true rfl) rfl dX9_draw_53 ?_
        refine x_if_ne_b (tgt := 62) (pc := 56) B dX9_draw_56 rfl (fun hc6 => ?_) (fun hc6 => ?_)
        · have h := ift hc6 h
          refine x_aload_n (pc := 62) B 2 dX9_draw_62 rfl rfl ?_
          refine x_get (T := TX9) (pc := 63) B 2 oi_86 rfl uw_9 (by decide) rfl tw_507 rfl dX9_draw_63 ?_
          refine x_iload_n (pc := 66) B 1 dX9_draw_66 rfl rfl ?_
          refine x_aload_n (pc := 67) B 2 dX9_draw_67 rfl rfl ?_
          refine x_get (T := TX9) (pc := 68) B 2 oi_86 rfl uw_9 (by decide) rfl tw_507 rfl dX9_draw_68 ?_
          refine x_iload_n (pc := 71) B 1 dX9_draw_71 rfl rfl ?_
          refine x_callSN (rest := [.int q4, .ref (ad 88)]) (st' := [.int (atv (y2.2.1 88) 48 q4), .int q4, .ref (ad 88)]) (pc := 72) B (T_CF_at 88 48 q4 ai_88 (by decide) y2.2) tw_575 tw_1089 tw_574 tw_98 hd_CF_at ⟨Nat.le_of_ble_eq_true rfl, Nat.le_of_ble_eq_true rfl⟩ rfl rfl (Nat.le_of_ble_eq_true rfl) rfl dX9_draw_72 ?_
          refine x_aload_n (pc := 75) B 2 dX9_draw_75 rfl rfl ?_
          refine x_get (T := TX9) (pc := 76) B 0 oi_86 rfl uw_9 (by decide) rfl tw_504 rfl dX9_draw_76 ?_
          refine x_get (T := TX8) (pc := 79) B 0 oi_1 rfl uw_8 (by decide) rfl tw_361 rfl dX9_draw_79 ?_
          refine x_get (T := TX4) (pc := 82) B 3 oi_2 rfl uw_4 (by decide) rfl tw_147 rfl dX9_draw_82 ?_
          refine x_iload_n (pc := 85) B 4 dX9_draw_85 rfl rfl ?_
          refine x_callSN (rest := [.int (atv (y2.2.1 88) 48 q4), .int q4, .ref (ad 88)]) (st' := [.int (atv (y2.2.1 6) 10 y2.1), .int (atv (y2.2.1 88) 48 q4), .int q4, .ref (ad 88)]) (pc := 86) B (T_CF_at 6 10 y2.1 ai_6 (by decide) y2.2) tw_575 tw_1089 tw_574 tw_98 hd_CF_at ⟨Nat.le_of_ble_eq_true rfl, Nat.le_of_ble_eq_true rfl⟩ rfl rfl (Nat.le_of_ble_eq_true rfl) rfl dX9_draw_86 ?_
          refine x_sipush (v := 1000) (pc := 89) B dX9_draw_89 rfl ?_
          refine x_imul (pc := 92) B dX9_draw_92 ?_
          refine x_iload (pc := 93) B 0 dX9_draw_93 rfl ?_
          refine x_callSN (rest := [.int (atv (y2.2.1 88) 48 q4), .int q4, .ref (ad 88)]) (st' := [.int (prt ((atv (y2.2.1 6) 10 y2.1) * 1000) (atv (y2.2.1 87) 48 q4)), .int (atv (y2.2.1 88) 48 q4), .int q4, .ref (ad 88)]) (pc := 95) B (T_CF_parted ((atv (y2.2.1 6) 10 y2.1) * 1000) (atv (y2.2.1 87) 48 q4) y2.2) tw_736 tw_1091 tw_735 tw_98 hd_CF_parted ⟨Nat.le_of_ble_eq_true rfl, Nat.le_of_ble_eq_true rfl⟩ rfl rfl (Nat.le_of_ble_eq_true rfl) rfl dX9_draw_95 ?_
          refine x_iadd (pc := 98) B dX9_draw_98 ?_
          refine x_callSN (rest := []) (st' := []) (pc := 99) B (T_CF_put 88 48 q4 ((atv (y2.2.1 88) 48 q4) + (prt ((atv (y2.2.1 6) 10 y2.1) * 1000) (atv (y2.2.1 87) 48 q4))) ai_88 (by decide) y2.2) tw_588 tw_1092 tw_587 tw_98 hd_CF_put ⟨Nat.le_of_ble_eq_true rfl, Nat.le_of_ble_eq_true rfl⟩ rfl rfl (Nat.le_of_ble_eq_true rfl) rfl dX9_draw_99 ?_
          refine jv_m (P := fun M7 => XX D ad cI cJ p l e (Rm 3 63) s m args below meth c Q 5 M7 102 [(4, .int (atv (y2.2.1 87) 48 q4)), (3, .int q4), (0, .ref (ad 86)), (1, .int a1), (2, .int y2.1)] []) h (fun M7 h => ?_)
          refine x_iinc (k := 4) (v := y2.1 + 1) (lv' := [(2, .int (y2.1 + 1)), (4, .int (atv (y2.2.1 87) 48 q4)), (3, .int q4), (0, .ref (ad 86)), (1, .int a1)]) (pc := 102) B dX9_draw_102 rfl rfl (by decide) rfl ?_
          refine x_goto (tgt := 10) (pc := 105) B dX9_draw_105 rfl ?_
          refine x_pick (lv' := [(0, .ref (ad 86)), (1, .int a1), (2, .int (y2.1 + 1))]) [3, 4, 0] rfl ?_
          have z := hback (y2.1 + 1, M7) (Option.some.inj h).symm
          exact z
        · have h := iff_ hc6 h
          refine x_goto (tgt := 102) (pc := 59) B dX9_draw_59 rfl ?_
          refine x_iinc (k := 4) (v := y2.1 + 1) (lv' := [(2, .int (y2.1 + 1)), (4, .int (atv (y2.2.1 87) 48 q4)), (3, .int q4), (0, .ref (ad 86)), (1, .int a1)]) (pc := 102) B dX9_draw_102 rfl rfl (by decide) rfl ?_
          refine x_goto (tgt := 10) (pc := 105) B dX9_draw_105 rfl ?_
          refine x_pick (lv' := [(0, .ref (ad 86)), (1, .int a1), (2, .int (y2.1 + 1))]) [3, 4, 0] rfl ?_
          have z := hback (y2.1 + 1, y2.2) (Option.some.inj h).symm
          exact z
  · refine x_aload_n (pc := 108) B 0 dX9_draw_108 rfl rfl ?_
    refine x_get (T := TX9) (pc := 109) B 0 oi_86 rfl uw_9 (by decide) rfl tw_504 rfl dX9_draw_109 ?_
    refine x_get (T := TX8) (pc := 112) B 3 oi_1 rfl uw_8 (by decide) rfl tw_373 rfl dX9_draw_112 ?_
    refine x_get (T := TX5) (pc := 115) B 2 oi_24 rfl uw_5 (by decide) rfl tw_267 rfl dX9_draw_115 ?_
    refine x_iconst (v := 1) (pc := 118) B dX9_draw_118 rfl ?_
    refine x_isub (pc := 119) B dX9_draw_119 ?_
    refine x_istore_n (lv' := [(2, .int ((q8.1 24 2) - 1)), (0, .ref (ad 86))]) (pc := 120) B dX9_draw_120 rfl (by decide) rfl ?_
    refine x_pick (lv' := [(0, .ref (ad 86)), (2, .int ((q8.1 24 2) - 1))]) [1, 0] rfl ?_
    obtain ⟨q13, hq13, h⟩ := bnd h
    refine x_loop (Head := fun (y9 : Int32 × Mem) => XX D ad cI cJ p l e (Rm 3 63) s m args below meth c Q 5 y9.2 121 [(0, .ref (ad 86)), (2, .int y9.1)] []) (Ex := fun (q13 : Mem) => XX D ad cI cJ p l e (Rm 3 63) s m args below meth c Q 5 q13 186 [] []) (fun y9 r h hback hexit => ?_) FU _ q13 hq13 ?_
    · unfold b_Volts_draw_86_121 at h
      refine x_iload_n (pc := 121) B 1 dX9_draw_121 rfl rfl ?_
      refine x_if_lt (tgt := 186) (pc := 122) B dX9_draw_122 rfl (fun hc10 => ?_) (fun hc10 => ?_)
      · have h := ift hc10 h
        refine x_pick (lv' := []) [] rfl ?_
        have z := hexit y9.2 (Option.some.inj h).symm
        exact z
      · have h := iff_ hc10 h
        refine x_aload_n (pc := 125) B 0 dX9_draw_125 rfl rfl ?_
        refine x_get (T := TX9) (pc := 126) B 0 oi_86 rfl uw_9 (by decide) rfl tw_504 rfl dX9_draw_126 ?_
        refine x_get (T := TX8) (pc := 129) B 3 oi_1 rfl uw_8 (by decide) rfl tw_373 rfl dX9_draw_129 ?_
        refine x_get (T := TX5) (pc := 132) B 1 oi_24 rfl uw_5 (by decide) rfl tw_265 rfl dX9_draw_132 ?_
        refine x_iload_n (pc := 135) B 1 dX9_draw_135 rfl rfl ?_
        refine x_callSN (rest := []) (st' := [.int (atv (y9.2.1 26) 48 y9.1)]) (pc := 136) B (T_CF_at 26 48 y9.1 ai_26 (by decide) y9.2) tw_575 tw_1089 tw_574 tw_98 hd_CF_at ⟨Nat.le_of_ble_eq_true rfl, Nat.le_of_ble_eq_true rfl⟩ rfl rfl (Nat.le_of_ble_eq_true rfl) rfl dX9_draw_136 ?_
        refine x_istore_n (lv' := [(3, .int (atv (y9.2.1 26) 48 y9.1)), (0, .ref (ad 86)), (2, .int y9.1)]) (pc := 139) B dX9_draw_139 rfl (by decide) rfl ?_
        refine x_aload_n (pc := 140) B 1 dX9_draw_140 rfl rfl ?_
        refine x_get (T := TX9) (pc := 141) B 0 oi_86 rfl uw_9 (by decide) rfl tw_504 rfl dX9_draw_141 ?_
        refine x_get (T := TX8) (pc := 144) B 3 oi_1 rfl uw_8 (by decide) rfl tw_373 rfl dX9_draw_144 ?_
        refine x_iload_n (pc := 147) B 0 dX9_draw_147 rfl rfl ?_
        obtain ⟨q11, hq11, h⟩ := bnd h
        refine x_callV (rest := []) (st' := [.int q11]) (pc := 148) B oi_24 rfl (C_Line_ahead_24 (atv (y9.2.1 26) 48 y9.1) y9.2 _ hq11) tw_571 tw_1093 tw_569 tw_570 tw_103 hd_Line_ahead_24 ⟨Nat.le_of_ble_eq_true rfl, Nat.le_of_ble_eq_true rfl⟩ rfl rfl (Nat.le_of_ble_eq_true rfl) rfl dX9_draw_148 ?_
        refine x_istore (lv' := [(4, .int q11), (3, .int (atv (y9.2.1 26) 48 y9.1)), (0, .ref (ad 86)), (2, .int y9.1)]) (pc := 151) B dX9_draw_151 (by decide) rfl ?_
        refine x_aload_n (pc := 153) B 2 dX9_draw_153 rfl rfl ?_
        refine x_get (T := TX9) (pc := 154) B 2 oi_86 rfl uw_9 (by decide) rfl tw_507 rfl dX9_draw_154 ?_
        refine x_iload (pc := 157) B 0 dX9_draw_157 rfl ?_
        refine x_aload_n (pc := 159) B 2 dX9_draw_159 rfl rfl ?_
        refine x_get (T := TX9) (pc := 160) B 2 oi_86 rfl uw_9 (by decide) rfl tw_507 rfl dX9_draw_160 ?_
        refine x_iload (pc := 163) B 0 dX9_draw_163 rfl ?_
        refine x_callSN (rest := [.int q11, .ref (ad 88)]) (st' := [.int (atv (y9.2.1 88) 48 q11), .int q11, .ref (ad 88)]) (pc := 165) B (T_CF_at 88 48 q11 ai_88 (by decide) y9.2) tw_575 tw_1089 tw_574 tw_98 hd_CF_at ⟨Nat.le_of_ble_eq_true rfl, Nat.le_of_ble_eq_true rfl⟩ rfl rfl (Nat.le_of_ble_eq_true rfl) rfl dX9_draw_165 ?_
        refine x_aload_n (pc := 168) B 2 dX9_draw_168 rfl rfl ?_
        refine x_get (T := TX9) (pc := 169) B 2 oi_86 rfl uw_9 (by decide) rfl tw_507 rfl dX9_draw_169 ?_
        refine x_iload_n (pc := 172) B 1 dX9_draw_172 rfl rfl ?_
        refine x_callSN (rest := [.int (atv (y9.2.1 88) 48 q11), .int q11, .ref (ad 88)]) (st' := [.int (atv (y9.2.1 88) 48 (atv (y9.2.1 26) 48 y9.1)), .int (atv (y9.2.1 88) 48 q11), .int q11, .ref (ad 88)]) (pc := 173) B (T_CF_at 88 48 (atv (y9.2.1 26) 48 y9.1) ai_88 (by decide) y9.2) tw_575 tw_1089 tw_574 tw_98 hd_CF_at ⟨Nat.le_of_ble_eq_true rfl, Nat.le_of_ble_eq_true rfl⟩ rfl rfl (Nat.le_of_ble_eq_true rfl) rfl dX9_draw_173 ?_
        refine x_iadd (pc := 176) B dX9_draw_176 ?_
        refine x_callSN (rest := []) (st' := []) (pc := 177) B (T_CF_put 88 48 q11 ((atv (y9.2.1 88) 48 q11) + (atv (y9.2.1 88) 48 (atv (y9.2.1 26) 48 y9.1))) ai_88 (by decide) y9.2) tw_588 tw_1092 tw_587 tw_98 hd_CF_put ⟨Nat.le_of_ble_eq_true rfl, Nat.le_of_ble_eq_true rfl⟩ rfl rfl (Nat.le_of_ble_eq_true rfl) rfl dX9_draw_177 ?_
        refine jv_m (P := fun M12 => XX D ad cI cJ p l e (Rm 3 63) s m args below meth c Q 5 M12 180 [(4, .int q11), (3, .int (atv (y9.2.1 26) 48 y9.1)), (0, .ref (ad 86)), (2, .int y9.1)] []) h (fun M12 h => ?_)
        refine x_iinc (k := 3) (v := y9.1 + (-1)) (lv' := [(2, .int (y9.1 + (-1))), (4, .int q11), (3, .int (atv (y9.2.1 26) 48 y9.1)), (0, .ref (ad 86))]) (pc := 180) B dX9_draw_180 rfl rfl (by decide) rfl ?_
        refine x_goto (tgt := 121) (pc := 183) B dX9_draw_183 rfl ?_
        refine x_pick (lv' := [(0, .ref (ad 86)), (2, .int (y9.1 + (-1)))]) [3, 0] rfl ?_
        have z := hback (y9.1 + (-1), M12) (Option.some.inj h).symm
        exact z
    · obtain rfl := Option.some.inj h
      exact x_vret (pc := 186) B hQ dX9_draw_186
-- CurrentFarms$Volts.drop()I [86]
abbrev y_Volts_drop_86 : MethodName := ⟨"CurrentFarms$Volts", "drop", "()I"⟩
abbrev cX9_drop : ByteArray := prog_11_method_4_code
theorem dX9_drop_0 : decode cX9_drop 0 = .ok (.iconst 0, 1) := by decide +kernel
theorem dX9_drop_1 : decode cX9_drop 1 = .ok (.istore_n 1, 1) := by decide +kernel
theorem dX9_drop_2 : decode cX9_drop 2 = .ok (.iconst 0, 1) := by decide +kernel
theorem dX9_drop_3 : decode cX9_drop 3 = .ok (.istore_n 2, 1) := by decide +kernel
theorem dX9_drop_4 : decode cX9_drop 4 = .ok (.iload_n 2, 1) := by decide +kernel
theorem dX9_drop_5 : decode cX9_drop 5 = .ok (.aload_n 0, 1) := by decide +kernel
theorem dX9_drop_6 : decode cX9_drop 6 = .ok (.getfield 18, 3) := by decide +kernel
theorem dX9_drop_9 : decode cX9_drop 9 = .ok (.getfield 90, 3) := by decide +kernel
theorem dX9_drop_12 : decode cX9_drop 12 = .ok (.getfield 94, 3) := by decide +kernel
theorem dX9_drop_15 : decode cX9_drop 15 = .ok (.if_icmp .ge 100, 3) := by decide +kernel
theorem dX9_drop_18 : decode cX9_drop 18 = .ok (.aload_n 0, 1) := by decide +kernel
theorem dX9_drop_19 : decode cX9_drop 19 = .ok (.getfield 18, 3) := by decide +kernel
theorem dX9_drop_22 : decode cX9_drop 22 = .ok (.getfield 90, 3) := by decide +kernel
theorem dX9_drop_25 : decode cX9_drop 25 = .ok (.getfield 99, 3) := by decide +kernel
theorem dX9_drop_28 : decode cX9_drop 28 = .ok (.iload_n 2, 1) := by decide +kernel
theorem dX9_drop_29 : decode cX9_drop 29 = .ok (.invokestatic 72, 3) := by decide +kernel
theorem dX9_drop_32 : decode cX9_drop 32 = .ok (.istore_n 3, 1) := by decide +kernel
theorem dX9_drop_33 : decode cX9_drop 33 = .ok (.aload_n 0, 1) := by decide +kernel
theorem dX9_drop_34 : decode cX9_drop 34 = .ok (.getfield 18, 3) := by decide +kernel
theorem dX9_drop_37 : decode cX9_drop 37 = .ok (.getfield 90, 3) := by decide +kernel
theorem dX9_drop_40 : decode cX9_drop 40 = .ok (.getfield 105, 3) := by decide +kernel
theorem dX9_drop_43 : decode cX9_drop 43 = .ok (.aload_n 0, 1) := by decide +kernel
theorem dX9_drop_44 : decode cX9_drop 44 = .ok (.getfield 15, 3) := by decide +kernel
theorem dX9_drop_47 : decode cX9_drop 47 = .ok (.iload_n 3, 1) := by decide +kernel
theorem dX9_drop_48 : decode cX9_drop 48 = .ok (.invokestatic 72, 3) := by decide +kernel
theorem dX9_drop_51 : decode cX9_drop 51 = .ok (.imul, 1) := by decide +kernel
theorem dX9_drop_52 : decode cX9_drop 52 = .ok (.bipush 10, 2) := by decide +kernel
theorem dX9_drop_54 : decode cX9_drop 54 = .ok (.idiv, 1) := by decide +kernel
theorem dX9_drop_55 : decode cX9_drop 55 = .ok (.istore 4, 2) := by decide +kernel
theorem dX9_drop_57 : decode cX9_drop 57 = .ok (.aload_n 0, 1) := by decide +kernel
theorem dX9_drop_58 : decode cX9_drop 58 = .ok (.getfield 9, 3) := by decide +kernel
theorem dX9_drop_61 : decode cX9_drop 61 = .ok (.aload_n 0, 1) := by decide +kernel
theorem dX9_drop_62 : decode cX9_drop 62 = .ok (.getfield 18, 3) := by decide +kernel
theorem dX9_drop_65 : decode cX9_drop 65 = .ok (.getfield 90, 3) := by decide +kernel
theorem dX9_drop_68 : decode cX9_drop 68 = .ok (.iload_n 3, 1) := by decide +kernel
theorem dX9_drop_69 : decode cX9_drop 69 = .ok (.invokevirtual 102, 3) := by decide +kernel
theorem dX9_drop_72 : decode cX9_drop 72 = .ok (.invokestatic 72, 3) := by decide +kernel
theorem dX9_drop_75 : decode cX9_drop 75 = .ok (.iload 4, 2) := by decide +kernel
theorem dX9_drop_77 : decode cX9_drop 77 = .ok (.isub, 1) := by decide +kernel
theorem dX9_drop_78 : decode cX9_drop 78 = .ok (.istore 5, 2) := by decide +kernel
theorem dX9_drop_80 : decode cX9_drop 80 = .ok (.iload_n 1, 1) := by decide +kernel
theorem dX9_drop_81 : decode cX9_drop 81 = .ok (.iload 5, 2) := by decide +kernel
theorem dX9_drop_83 : decode cX9_drop 83 = .ok (.aload_n 0, 1) := by decide +kernel
theorem dX9_drop_84 : decode cX9_drop 84 = .ok (.getfield 9, 3) := by decide +kernel
theorem dX9_drop_87 : decode cX9_drop 87 = .ok (.iload_n 3, 1) := by decide +kernel
theorem dX9_drop_88 : decode cX9_drop 88 = .ok (.invokestatic 72, 3) := by decide +kernel
theorem dX9_drop_91 : decode cX9_drop 91 = .ok (.isub, 1) := by decide +kernel
theorem dX9_drop_92 : decode cX9_drop 92 = .ok (.invokestatic 108, 3) := by decide +kernel
theorem dX9_drop_95 : decode cX9_drop 95 = .ok (.invokestatic 113, 3) := by decide +kernel
theorem dX9_drop_98 : decode cX9_drop 98 = .ok (.istore_n 1, 1) := by decide +kernel
theorem dX9_drop_99 : decode cX9_drop 99 = .ok (.aload_n 0, 1) := by decide +kernel
theorem dX9_drop_100 : decode cX9_drop 100 = .ok (.getfield 9, 3) := by decide +kernel
theorem dX9_drop_103 : decode cX9_drop 103 = .ok (.iload_n 3, 1) := by decide +kernel
theorem dX9_drop_104 : decode cX9_drop 104 = .ok (.iload 5, 2) := by decide +kernel
theorem dX9_drop_106 : decode cX9_drop 106 = .ok (.invokestatic 86, 3) := by decide +kernel
theorem dX9_drop_109 : decode cX9_drop 109 = .ok (.iinc 2 1, 3) := by decide +kernel
theorem dX9_drop_112 : decode cX9_drop 112 = .ok (.goto (-108), 3) := by decide +kernel
theorem dX9_drop_115 : decode cX9_drop 115 = .ok (.iload_n 1, 1) := by decide +kernel
theorem dX9_drop_116 : decode cX9_drop 116 = .ok (.ireturn, 1) := by decide +kernel
theorem hd_Volts_drop_86 : y_Volts_drop_86.cls ≠ "java/lang/invoke/MethodHandle" ∧ y_Volts_drop_86.cls ≠ "java/lang/invoke/VarHandle" ∧ (parseMethodDescriptor y_Volts_drop_86.desc).map (fun d => d.parameters.length) = some 0 := by decide +kernel
def b_Volts_drop_86_4  (y1 : Int32 × Int32 × Mem) : Option ((Int32 × Int32 × Mem) ⊕ (Int32 × Mem)) :=
  if decide (y1.2.1 < (y1.2.2.1 24 2)) then (jv_ (((y1.2.2.1 24 4) * (atv (y1.2.2.1 88) 48 (atv (y1.2.2.1 26) 48 y1.2.1))) / 10 : Int32) fun x3 => (f_Line_ahead_24 (atv (y1.2.2.1 26) 48 y1.2.1) y1.2.2).bind fun q4 => jv_ (jmax y1.1 (jabs (((atv (y1.2.2.1 87) 48 q4) - x3) - (atv (y1.2.2.1 87) 48 (atv (y1.2.2.1 26) 48 y1.2.1)))) : Int32) fun x5 => jv_ (putv y1.2.2 87 48 (atv (y1.2.2.1 26) 48 y1.2.1) ((atv (y1.2.2.1 87) 48 q4) - x3)) fun M6 => some (.inl (x5, y1.2.1 + 1, M6))) else (some (.inr (y1.1, y1.2.2)))
def f_Volts_drop_86  (M0 : Mem) : Option (Int32 × Mem) :=
  (itr (b_Volts_drop_86_4) FU (0, 0, M0)).bind fun q7 => some (q7.1, q7.2)
set_option maxHeartbeats 4000000 in
set_option maxRecDepth 20000 in
theorem C_Volts_drop_86 {D : va_G} {ad adK adV : Nat → Nat} {cI cJ : ClassId} {l : Launch}  (M0 : Mem) (o : Int32 × Mem) (h : f_Volts_drop_86  M0 = some o) : Ct D ad adK adV cI cJ l y_Volts_drop_86 cX9_drop 6 (some .int) 3 63 [.ref (ad 86)] M0 (some (.int o.1)) o.2 := by
  refine x_start (lv := [(0, .ref (ad 86))]) (own := "CurrentFarms$Volts") rfl (by decide) (Nat.le_of_ble_eq_true rfl) rfl ?_
  intro p e s m args below meth c Q hQ B
  unfold f_Volts_drop_86 at h
  refine x_iconst (v := 0) (pc := 0) B dX9_drop_0 rfl ?_
  refine x_istore_n (lv' := [(1, .int 0), (0, .ref (ad 86))]) (pc := 1) B dX9_drop_1 rfl (by decide) rfl ?_
  refine x_iconst (v := 0) (pc := 2) B dX9_drop_2 rfl ?_
  refine x_istore_n (lv' := [(2, .int 0), (1, .int 0), (0, .ref (ad 86))]) (pc := 3) B dX9_drop_3 rfl (by decide) rfl ?_
  refine x_pick (lv' := [(0, .ref (ad 86)), (1, .int 0), (2, .int 0)]) [2, 1, 0] rfl ?_
  obtain ⟨q7, hq7, h⟩ := bnd h
  refine x_loop (Head := fun (y1 : Int32 × Int32 × Mem) => XX D ad cI cJ p l e (Rm 3 63) s m args below meth c Q 6 y1.2.2 4 [(0, .ref (ad 86)), (1, .int y1.1), (2, .int y1.2.1)] []) (Ex := fun (q7 : Int32 × Mem) => XX D ad cI cJ p l e (Rm 3 63) s m args below meth c Q 6 q7.2 115 [(1, .int q7.1)] []) (fun y1 r h hback hexit => ?_) FU _ q7 hq7 ?_
  · unfold b_Volts_drop_86_4 at h
    refine x_iload_n (pc := 4) B 2 dX9_drop_4 rfl rfl ?_
    refine x_aload_n (pc := 5) B 0 dX9_drop_5 rfl rfl ?_
    refine x_get (T := TX9) (pc := 6) B 0 oi_86 rfl uw_9 (by decide) rfl tw_504 rfl dX9_drop_6 ?_
    refine x_get (T := TX8) (pc := 9) B 3 oi_1 rfl uw_8 (by decide) rfl tw_373 rfl dX9_drop_9 ?_
    refine x_get (T := TX5) (pc := 12) B 2 oi_24 rfl uw_5 (by decide) rfl tw_267 rfl dX9_drop_12 ?_
    refine x_icmp_ge (tgt := 115) (pc := 15) B dX9_drop_15 rfl (fun hc2 => ?_) (fun hc2 => ?_)
    · have h := iff_ hc2 h
      refine x_pick (lv' := [(1, .int y1.1)]) [1] rfl ?_
      have z := hexit (y1.1, y1.2.2) (Option.some.inj h).symm
      exact z
    · have h := ift hc2 h
      refine x_aload_n (pc := 18) B 0 dX9_drop_18 rfl rfl ?_
      refine x_get (T := TX9) (pc := 19) B 0 oi_86 rfl uw_9 (by decide) rfl tw_504 rfl dX9_drop_19 ?_
      refine x_get (T := TX8) (pc := 22) B 3 oi_1 rfl uw_8 (by decide) rfl tw_373 rfl dX9_drop_22 ?_
      refine x_get (T := TX5) (pc := 25) B 1 oi_24 rfl uw_5 (by decide) rfl tw_265 rfl dX9_drop_25 ?_
      refine x_iload_n (pc := 28) B 2 dX9_drop_28 rfl rfl ?_
      refine x_callSN (rest := []) (st' := [.int (atv (y1.2.2.1 26) 48 y1.2.1)]) (pc := 29) B (T_CF_at 26 48 y1.2.1 ai_26 (by decide) y1.2.2) tw_575 tw_1089 tw_574 tw_98 hd_CF_at ⟨Nat.le_of_ble_eq_true rfl, Nat.le_of_ble_eq_true rfl⟩ rfl rfl (Nat.le_of_ble_eq_true rfl) rfl dX9_drop_29 ?_
      refine x_istore_n (lv' := [(3, .int (atv (y1.2.2.1 26) 48 y1.2.1)), (0, .ref (ad 86)), (1, .int y1.1), (2, .int y1.2.1)]) (pc := 32) B dX9_drop_32 rfl (by decide) rfl ?_
      refine x_aload_n (pc := 33) B 1 dX9_drop_33 rfl rfl ?_
      refine x_get (T := TX9) (pc := 34) B 0 oi_86 rfl uw_9 (by decide) rfl tw_504 rfl dX9_drop_34 ?_
      refine x_get (T := TX8) (pc := 37) B 3 oi_1 rfl uw_8 (by decide) rfl tw_373 rfl dX9_drop_37 ?_
      refine x_get (T := TX5) (pc := 40) B 4 oi_24 rfl uw_5 (by decide) rfl tw_272 rfl dX9_drop_40 ?_
      refine x_aload_n (pc := 43) B 1 dX9_drop_43 rfl rfl ?_
      refine x_get (T := TX9) (pc := 44) B 2 oi_86 rfl uw_9 (by decide) rfl tw_507 rfl dX9_drop_44 ?_
      refine x_iload_n (pc := 47) B 0 dX9_drop_47 rfl rfl ?_
      refine x_callSN (rest := [.int (y1.2.2.1 24 4)]) (st' := [.int (atv (y1.2.2.1 88) 48 (atv (y1.2.2.1 26) 48 y1.2.1)), .int (y1.2.2.1 24 4)]) (pc := 48) B (T_CF_at 88 48 (atv (y1.2.2.1 26) 48 y1.2.1) ai_88 (by decide) y1.2.2) tw_575 tw_1089 tw_574 tw_98 hd_CF_at ⟨Nat.le_of_ble_eq_true rfl, Nat.le_of_ble_eq_true rfl⟩ rfl rfl (Nat.le_of_ble_eq_true rfl) rfl dX9_drop_48 ?_
      refine x_imul (pc := 51) B dX9_drop_51 ?_
      refine x_bipush (v := 10) (pc := 52) B dX9_drop_52 rfl ?_
      refine x_idiv (pc := 54) B dX9_drop_54 (by decide) ?_
      refine jv_m (P := fun (x3 : Int32) => XX D ad cI cJ p l e (Rm 3 63) s m args below meth c Q 6 y1.2.2 55 [(3, .int (atv (y1.2.2.1 26) 48 y1.2.1)), (0, .ref (ad 86)), (1, .int y1.1), (2, .int y1.2.1)] [.int x3]) h (fun x3 h => ?_)
      refine x_istore (lv' := [(4, .int x3), (3, .int (atv (y1.2.2.1 26) 48 y1.2.1)), (0, .ref (ad 86)), (1, .int y1.1), (2, .int y1.2.1)]) (pc := 55) B dX9_drop_55 (by decide) rfl ?_
      refine x_aload_n (pc := 57) B 2 dX9_drop_57 rfl rfl ?_
      refine x_get (T := TX9) (pc := 58) B 1 oi_86 rfl uw_9 (by decide) rfl tw_505 rfl dX9_drop_58 ?_
      refine x_aload_n (pc := 61) B 2 dX9_drop_61 rfl rfl ?_
      refine x_get (T := TX9) (pc := 62) B 0 oi_86 rfl uw_9 (by decide) rfl tw_504 rfl dX9_drop_62 ?_
      refine x_get (T := TX8) (pc := 65) B 3 oi_1 rfl uw_8 (by decide) rfl tw_373 rfl dX9_drop_65 ?_
      refine x_iload_n (pc := 68) B 1 dX9_drop_68 rfl rfl ?_
      obtain ⟨q4, hq4, h⟩ := bnd h
      refine x_callV (rest := [.ref (ad 87)]) (st' := [.int q4, .ref (ad 87)]) (pc := 69) B oi_24 rfl (C_Line_ahead_24 (atv (y1.2.2.1 26) 48 y1.2.1) y1.2.2 _ hq4) tw_571 tw_1093 tw_569 tw_570 tw_103 hd_Line_ahead_24 ⟨Nat.le_of_ble_eq_true rfl, Nat.le_of_ble_eq_true rfl⟩ rfl rfl (Nat.le_of_ble_eq_true rfl) rfl dX9_drop_69 ?_
      refine x_callSN (rest := []) (st' := [.int (atv (y1.2.2.1 87) 48 q4)]) (pc := 72) B (T_CF_at 87 48 q4 ai_87 (by decide) y1.2.2) tw_575 tw_1089 tw_574 tw_98 hd_CF_at ⟨Nat.le_of_ble_eq_true rfl, Nat.le_of_ble_eq_true rfl⟩ rfl rfl (Nat.le_of_ble_eq_true rfl) rfl dX9_drop_72 ?_
      refine x_iload (pc := 75) B 0 dX9_drop_75 rfl ?_
      refine x_isub (pc := 77) B dX9_drop_77 ?_
      refine x_istore (lv' := [(5, .int ((atv (y1.2.2.1 87) 48 q4) - x3)), (4, .int x3), (3, .int (atv (y1.2.2.1 26) 48 y1.2.1)), (0, .ref (ad 86)), (1, .int y1.1), (2, .int y1.2.1)]) (pc := 78) B dX9_drop_78 (by decide) rfl ?_
      refine x_iload_n (pc := 80) B 4 dX9_drop_80 rfl rfl ?_
      refine x_iload (pc := 81) B 0 dX9_drop_81 rfl ?_
      refine x_aload_n (pc := 83) B 3 dX9_drop_83 rfl rfl ?_
      refine x_get (T := TX9) (pc := 84) B 1 oi_86 rfl uw_9 (by decide) rfl tw_505 rfl dX9_drop_84 ?_
      refine x_iload_n (pc := 87) B 2 dX9_drop_87 rfl rfl ?_
      refine x_callSN (rest := [.int ((atv (y1.2.2.1 87) 48 q4) - x3), .int y1.1]) (st' := [.int (atv (y1.2.2.1 87) 48 (atv (y1.2.2.1 26) 48 y1.2.1)), .int ((atv (y1.2.2.1 87) 48 q4) - x3), .int y1.1]) (pc := 88) B (T_CF_at 87 48 (atv (y1.2.2.1 26) 48 y1.2.1) ai_87 (by decide) y1.2.2) tw_575 tw_1089 tw_574 tw_98 hd_CF_at ⟨Nat.le_of_ble_eq_true rfl, Nat.le_of_ble_eq_true rfl⟩ rfl rfl (Nat.le_of_ble_eq_true rfl) rfl dX9_drop_88 ?_
      refine x_isub (pc := 91) B dX9_drop_91 ?_
      refine x_mabs (pc := 92) B tw_1098 tw_597 tw_112 tw_598 (by decide) (Nat.le_of_ble_eq_true rfl) dX9_drop_92 ?_
      refine x_mmax (pc := 95) B tw_1099 tw_608 tw_112 tw_609 (by decide) (Nat.le_of_ble_eq_true rfl) dX9_drop_95 ?_
      refine jv_m (P := fun (x5 : Int32) => XX D ad cI cJ p l e (Rm 3 63) s m args below meth c Q 6 y1.2.2 98 [(5, .int ((atv (y1.2.2.1 87) 48 q4) - x3)), (4, .int x3), (3, .int (atv (y1.2.2.1 26) 48 y1.2.1)), (0, .ref (ad 86)), (1, .int y1.1), (2, .int y1.2.1)] [.int x5]) h (fun x5 h => ?_)
      refine x_istore_n (lv' := [(1, .int x5), (5, .int ((atv (y1.2.2.1 87) 48 q4) - x3)), (4, .int x3), (3, .int (atv (y1.2.2.1 26) 48 y1.2.1)), (0, .ref (ad 86)), (2, .int y1.2.1)]) (pc := 98) B dX9_drop_98 rfl (by decide) rfl ?_
      refine x_aload_n (pc := 99) B 4 dX9_drop_99 rfl rfl ?_
      refine x_get (T := TX9) (pc := 100) B 1 oi_86 rfl uw_9 (by decide) rfl tw_505 rfl dX9_drop_100 ?_
      refine x_iload_n (pc := 103) B 3 dX9_drop_103 rfl rfl ?_
      refine x_iload (pc := 104) B 1 dX9_drop_104 rfl ?_
      refine x_callSN (rest := []) (st' := []) (pc := 106) B (T_CF_put 87 48 (atv (y1.2.2.1 26) 48 y1.2.1) ((atv (y1.2.2.1 87) 48 q4) - x3) ai_87 (by decide) y1.2.2) tw_588 tw_1092 tw_587 tw_98 hd_CF_put ⟨Nat.le_of_ble_eq_true rfl, Nat.le_of_ble_eq_true rfl⟩ rfl rfl (Nat.le_of_ble_eq_true rfl) rfl dX9_drop_106 ?_
      refine jv_m (P := fun M6 => XX D ad cI cJ p l e (Rm 3 63) s m args below meth c Q 6 M6 109 [(1, .int x5), (5, .int ((atv (y1.2.2.1 87) 48 q4) - x3)), (4, .int x3), (3, .int (atv (y1.2.2.1 26) 48 y1.2.1)), (0, .ref (ad 86)), (2, .int y1.2.1)] []) h (fun M6 h => ?_)
      refine x_iinc (k := 5) (v := y1.2.1 + 1) (lv' := [(2, .int (y1.2.1 + 1)), (1, .int x5), (5, .int ((atv (y1.2.2.1 87) 48 q4) - x3)), (4, .int x3), (3, .int (atv (y1.2.2.1 26) 48 y1.2.1)), (0, .ref (ad 86))]) (pc := 109) B dX9_drop_109 rfl rfl (by decide) rfl ?_
      refine x_goto (tgt := 4) (pc := 112) B dX9_drop_112 rfl ?_
      refine x_pick (lv' := [(0, .ref (ad 86)), (1, .int x5), (2, .int (y1.2.1 + 1))]) [5, 1, 0] rfl ?_
      have z := hback (x5, y1.2.1 + 1, M6) (Option.some.inj h).symm
      exact z
  · refine x_iload_n (pc := 115) B 0 dX9_drop_115 rfl rfl ?_
    obtain rfl := Option.some.inj h
    exact x_iret (pc := 116) B hQ dX9_drop_116
-- CurrentFarms$Volts.sweep()V [86]
abbrev y_Volts_sweep_86 : MethodName := ⟨"CurrentFarms$Volts", "sweep", "()V"⟩
abbrev cX9_sweep : ByteArray := prog_11_method_2_code
theorem dX9_sweep_0 : decode cX9_sweep 0 = .ok (.aload_n 0, 1) := by decide +kernel
theorem dX9_sweep_1 : decode cX9_sweep 1 = .ok (.getfield 9, 3) := by decide +kernel
theorem dX9_sweep_4 : decode cX9_sweep 4 = .ok (.sipush 1000, 3) := by decide +kernel
theorem dX9_sweep_7 : decode cX9_sweep 7 = .ok (.invokestatic 22, 3) := by decide +kernel
theorem dX9_sweep_10 : decode cX9_sweep 10 = .ok (.aload_n 0, 1) := by decide +kernel
theorem dX9_sweep_11 : decode cX9_sweep 11 = .ok (.iconst 0, 1) := by decide +kernel
theorem dX9_sweep_12 : decode cX9_sweep 12 = .ok (.putfield 28, 3) := by decide +kernel
theorem dX9_sweep_15 : decode cX9_sweep 15 = .ok (.aload_n 0, 1) := by decide +kernel
theorem dX9_sweep_16 : decode cX9_sweep 16 = .ok (.iconst 0, 1) := by decide +kernel
theorem dX9_sweep_17 : decode cX9_sweep 17 = .ok (.putfield 32, 3) := by decide +kernel
theorem dX9_sweep_20 : decode cX9_sweep 20 = .ok (.aload_n 0, 1) := by decide +kernel
theorem dX9_sweep_21 : decode cX9_sweep 21 = .ok (.getfield 18, 3) := by decide +kernel
theorem dX9_sweep_24 : decode cX9_sweep 24 = .ok (.getfield 36, 3) := by decide +kernel
theorem dX9_sweep_27 : decode cX9_sweep 27 = .ok (.iconst 2, 1) := by decide +kernel
theorem dX9_sweep_28 : decode cX9_sweep 28 = .ok (.aload_n 0, 1) := by decide +kernel
theorem dX9_sweep_29 : decode cX9_sweep 29 = .ok (.getfield 18, 3) := by decide +kernel
theorem dX9_sweep_32 : decode cX9_sweep 32 = .ok (.getfield 42, 3) := by decide +kernel
theorem dX9_sweep_35 : decode cX9_sweep 35 = .ok (.invokevirtual 45, 3) := by decide +kernel
theorem dX9_sweep_38 : decode cX9_sweep 38 = .ok (.istore_n 1, 1) := by decide +kernel
theorem dX9_sweep_39 : decode cX9_sweep 39 = .ok (.iconst 0, 1) := by decide +kernel
theorem dX9_sweep_40 : decode cX9_sweep 40 = .ok (.istore_n 2, 1) := by decide +kernel
theorem dX9_sweep_41 : decode cX9_sweep 41 = .ok (.iload_n 2, 1) := by decide +kernel
theorem dX9_sweep_42 : decode cX9_sweep 42 = .ok (.bipush 30, 2) := by decide +kernel
theorem dX9_sweep_44 : decode cX9_sweep 44 = .ok (.if_icmp .ge 48, 3) := by decide +kernel
theorem dX9_sweep_47 : decode cX9_sweep 47 = .ok (.aload_n 0, 1) := by decide +kernel
theorem dX9_sweep_48 : decode cX9_sweep 48 = .ok (.getfield 28, 3) := by decide +kernel
theorem dX9_sweep_51 : decode cX9_sweep 51 = .ok (.ifCond .ne 41, 3) := by decide +kernel
theorem dX9_sweep_54 : decode cX9_sweep 54 = .ok (.aload_n 0, 1) := by decide +kernel
theorem dX9_sweep_55 : decode cX9_sweep 55 = .ok (.iload_n 1, 1) := by decide +kernel
theorem dX9_sweep_56 : decode cX9_sweep 56 = .ok (.invokevirtual 51, 3) := by decide +kernel
theorem dX9_sweep_59 : decode cX9_sweep 59 = .ok (.aload_n 0, 1) := by decide +kernel
theorem dX9_sweep_60 : decode cX9_sweep 60 = .ok (.aload_n 0, 1) := by decide +kernel
theorem dX9_sweep_61 : decode cX9_sweep 61 = .ok (.invokevirtual 55, 3) := by decide +kernel
theorem dX9_sweep_64 : decode cX9_sweep 64 = .ok (.iconst 1, 1) := by decide +kernel
theorem dX9_sweep_65 : decode cX9_sweep 65 = .ok (.if_icmp .gt 7, 3) := by decide +kernel
theorem dX9_sweep_68 : decode cX9_sweep 68 = .ok (.iconst 1, 1) := by decide +kernel
theorem dX9_sweep_69 : decode cX9_sweep 69 = .ok (.goto 4, 3) := by decide +kernel
theorem dX9_sweep_72 : decode cX9_sweep 72 = .ok (.iconst 0, 1) := by decide +kernel
theorem dX9_sweep_73 : decode cX9_sweep 73 = .ok (.putfield 28, 3) := by decide +kernel
theorem dX9_sweep_76 : decode cX9_sweep 76 = .ok (.aload_n 0, 1) := by decide +kernel
theorem dX9_sweep_77 : decode cX9_sweep 77 = .ok (.dup, 1) := by decide +kernel
theorem dX9_sweep_78 : decode cX9_sweep 78 = .ok (.getfield 32, 3) := by decide +kernel
theorem dX9_sweep_81 : decode cX9_sweep 81 = .ok (.iconst 1, 1) := by decide +kernel
theorem dX9_sweep_82 : decode cX9_sweep 82 = .ok (.iadd, 1) := by decide +kernel
theorem dX9_sweep_83 : decode cX9_sweep 83 = .ok (.putfield 32, 3) := by decide +kernel
theorem dX9_sweep_86 : decode cX9_sweep 86 = .ok (.iinc 2 1, 3) := by decide +kernel
theorem dX9_sweep_89 : decode cX9_sweep 89 = .ok (.goto (-48), 3) := by decide +kernel
theorem dX9_sweep_92 : decode cX9_sweep 92 = .ok (.return_, 1) := by decide +kernel
theorem hd_Volts_sweep_86 : y_Volts_sweep_86.cls ≠ "java/lang/invoke/MethodHandle" ∧ y_Volts_sweep_86.cls ≠ "java/lang/invoke/VarHandle" ∧ (parseMethodDescriptor y_Volts_sweep_86.desc).map (fun d => d.parameters.length) = some 0 := by decide +kernel
def b_Volts_sweep_86_41 (q4 : Int32 × Mem) (y5 : Int32 × Mem) : Option ((Int32 × Mem) ⊕ (Mem)) :=
  if decide (y5.1 < 30) then (if isb (y5.2.1 86 4) then if decide (y5.2.1 86 4 = 1) then (some (.inr y5.2)) else ((f_Volts_draw_86 q4.1 y5.2).bind fun q9 => (f_Volts_drop_86 q9).bind fun q10 => jv_ ((decide (q10.1 ≤ 1)) : Bool) fun u13 => jv_ (wI q10.2 86 4 (bI u13)) fun M14 => jv_ (wI M14 86 3 ((M14.1 86 3) + 1)) fun M15 => some (.inl (y5.1 + 1, M15))) else none) else (some (.inr y5.2))
def f_Volts_sweep_86  (M0 : Mem) : Option (Mem) :=
  jv_ (wR M0 87 (filv (M0.1 87) 48 1000)) fun M1 => jv_ (wI M1 86 4 0) fun M2 => jv_ (wI M2 86 3 0) fun M3 => (f_Book_decidedBy_7 2 (M3.1 1 6) M3).bind fun q4 => (itr (b_Volts_sweep_86_41 q4) FU (0, q4.2)).bind fun q16 => some q16
set_option maxHeartbeats 4000000 in
set_option maxRecDepth 20000 in
theorem C_Volts_sweep_86 {D : va_G} {ad adK adV : Nat → Nat} {cI cJ : ClassId} {l : Launch}  (M0 : Mem) (o : Mem) (h : f_Volts_sweep_86  M0 = some o) : Ct D ad adK adV cI cJ l y_Volts_sweep_86 cX9_sweep 3 none 4 88 [.ref (ad 86)] M0 none o := by
  refine x_start (lv := [(0, .ref (ad 86))]) (own := "CurrentFarms$Volts") rfl (by decide) (Nat.le_of_ble_eq_true rfl) rfl ?_
  intro p e s m args below meth c Q hQ B
  unfold f_Volts_sweep_86 at h
  refine x_aload_n (pc := 0) B 0 dX9_sweep_0 rfl rfl ?_
  refine x_get (T := TX9) (pc := 1) B 1 oi_86 rfl uw_9 (by decide) rfl tw_505 rfl dX9_sweep_1 ?_
  refine x_sipush (v := 1000) (pc := 4) B dX9_sweep_4 rfl ?_
  refine x_callS (rest := []) (st' := []) (pc := 7) B (T_fill 87 48 1000 ai_87 (by decide) M0) tw_262 tw_1079 tw_261 tw_104 hd_Arrays_fill_53178 ⟨Nat.le_of_ble_eq_true rfl, Nat.le_of_ble_eq_true rfl⟩ rfl rfl (Nat.le_of_ble_eq_true rfl) rfl dX9_sweep_7 ?_
  refine jv_m (P := fun M1 => XX D ad cI cJ p l e (Rm 4 88) s m args below meth c Q 3 M1 10 [(0, .ref (ad 86))] []) h (fun M1 h => ?_)
  refine x_aload_n (pc := 10) B 0 dX9_sweep_10 rfl rfl ?_
  refine x_iconst (v := 0) (pc := 11) B dX9_sweep_11 rfl ?_
  refine x_put (T := TX9) (pc := 12) B 4 oi_86 of_86_4 rfl uw_9 tyX9_ok nmX9 (by decide) rfl tw_510 rfl rfl rfl (Nat.le_of_ble_eq_true rfl) dX9_sweep_12 ?_
  refine jv_m (P := fun M2 => XX D ad cI cJ p l e (Rm 4 88) s m args below meth c Q 3 M2 15 [(0, .ref (ad 86))] []) h (fun M2 h => ?_)
  refine x_aload_n (pc := 15) B 0 dX9_sweep_15 rfl rfl ?_
  refine x_iconst (v := 0) (pc := 16) B dX9_sweep_16 rfl ?_
  refine x_put (T := TX9) (pc := 17) B 3 oi_86 of_86_3 rfl uw_9 tyX9_ok nmX9 (by decide) rfl tw_508 rfl rfl rfl (Nat.le_of_ble_eq_true rfl) dX9_sweep_17 ?_
  refine jv_m (P := fun M3 => XX D ad cI cJ p l e (Rm 4 88) s m args below meth c Q 3 M3 20 [(0, .ref (ad 86))] []) h (fun M3 h => ?_)
  refine x_aload_n (pc := 20) B 0 dX9_sweep_20 rfl rfl ?_
  refine x_get (T := TX9) (pc := 21) B 0 oi_86 rfl uw_9 (by decide) rfl tw_504 rfl dX9_sweep_21 ?_
  refine x_get (T := TX8) (pc := 24) B 1 oi_1 rfl uw_8 (by decide) rfl tw_364 rfl dX9_sweep_24 ?_
  refine x_iconst (v := 2) (pc := 27) B dX9_sweep_27 rfl ?_
  refine x_aload_n (pc := 28) B 0 dX9_sweep_28 rfl rfl ?_
  refine x_get (T := TX9) (pc := 29) B 0 oi_86 rfl uw_9 (by decide) rfl tw_504 rfl dX9_sweep_29 ?_
  refine x_get (T := TX8) (pc := 32) B 6 oi_1 rfl uw_8 (by decide) rfl tw_381 rfl dX9_sweep_32 ?_
  obtain ⟨q4, hq4, h⟩ := bnd h
  refine x_callV (rest := []) (st' := [.int q4.1]) (pc := 35) B oi_7 rfl (C_Book_decidedBy_7 2 (M3.1 1 6) M3 _ hq4) tw_1083 tw_1080 tw_1081 tw_1082 tw_101 hd_Book_decidedBy_7 ⟨Nat.le_of_ble_eq_true rfl, Nat.le_of_ble_eq_true rfl⟩ rfl rfl (Nat.le_of_ble_eq_true rfl) rfl dX9_sweep_35 ?_
  refine x_istore_n (lv' := [(1, .int q4.1), (0, .ref (ad 86))]) (pc := 38) B dX9_sweep_38 rfl (by decide) rfl ?_
  refine x_iconst (v := 0) (pc := 39) B dX9_sweep_39 rfl ?_
  refine x_istore_n (lv' := [(2, .int 0), (1, .int q4.1), (0, .ref (ad 86))]) (pc := 40) B dX9_sweep_40 rfl (by decide) rfl ?_
  refine x_pick (lv' := [(0, .ref (ad 86)), (1, .int q4.1), (2, .int 0)]) [2, 1, 0] rfl ?_
  obtain ⟨q16, hq16, h⟩ := bnd h
  refine x_loop (Head := fun (y5 : Int32 × Mem) => XX D ad cI cJ p l e (Rm 4 88) s m args below meth c Q 3 y5.2 41 [(0, .ref (ad 86)), (1, .int q4.1), (2, .int y5.1)] []) (Ex := fun (q16 : Mem) => XX D ad cI cJ p l e (Rm 4 88) s m args below meth c Q 3 q16 92 [] []) (fun y5 r h hback hexit => ?_) FU _ q16 hq16 ?_
  · unfold b_Volts_sweep_86_41 at h
    refine x_iload_n (pc := 41) B 2 dX9_sweep_41 rfl rfl ?_
    refine x_bipush (v := 30) (pc := 42) B dX9_sweep_42 rfl ?_
    refine x_icmp_ge (tgt := 92) (pc := 44) B dX9_sweep_44 rfl (fun hc6 => ?_) (fun hc6 => ?_)
    · have h := iff_ hc6 h
      refine x_pick (lv' := []) [] rfl ?_
      have z := hexit y5.2 (Option.some.inj h).symm
      exact z
    · have h := ift hc6 h
      refine x_aload_n (pc := 47) B 0 dX9_sweep_47 rfl rfl ?_
      obtain ⟨hk7, h⟩ := ifn h
      refine x_getZ (T := TX9) (pc := 48) B 4 oi_86 rfl uw_9 (by decide) rfl tw_510 rfl hk7 dX9_sweep_48 ?_
      refine x_if_ne_b (tgt := 92) (pc := 51) B dX9_sweep_51 rfl (fun hc8 => ?_) (fun hc8 => ?_)
      · have h := ift hc8 h
        refine x_pick (lv' := []) [] rfl ?_
        have z := hexit y5.2 (Option.some.inj h).symm
        exact z
      · have h := iff_ hc8 h
        refine x_aload_n (pc := 54) B 0 dX9_sweep_54 rfl rfl ?_
        refine x_iload_n (pc := 55) B 1 dX9_sweep_55 rfl rfl ?_
        obtain ⟨q9, hq9, h⟩ := bnd h
        refine x_callV (rest := []) (st' := []) (pc := 56) B oi_86 rfl (C_Volts_draw_86 q4.1 y5.2 _ hq9) tw_1087 tw_1084 tw_1086 tw_35 tw_110 hd_Volts_draw_86 ⟨Nat.le_of_ble_eq_true rfl, Nat.le_of_ble_eq_true rfl⟩ rfl rfl (Nat.le_of_ble_eq_true rfl) rfl dX9_sweep_56 ?_
        refine x_aload_n (pc := 59) B 0 dX9_sweep_59 rfl rfl ?_
        refine x_aload_n (pc := 60) B 0 dX9_sweep_60 rfl rfl ?_
        obtain ⟨q10, hq10, h⟩ := bnd h
        refine x_callV (rest := [.ref (ad 86)]) (st' := [.int q10.1, .ref (ad 86)]) (pc := 61) B oi_86 rfl (C_Volts_drop_86  q9 _ hq10) tw_1097 tw_1094 tw_1096 tw_36 tw_110 hd_Volts_drop_86 ⟨Nat.le_of_ble_eq_true rfl, Nat.le_of_ble_eq_true rfl⟩ rfl rfl (Nat.le_of_ble_eq_true rfl) rfl dX9_sweep_61 ?_
        refine x_iconst (v := 1) (pc := 64) B dX9_sweep_64 rfl ?_
        refine jv_k h (fun (u13 : Bool) => XX D ad cI cJ p l e (Rm 4 88) s m args below meth c Q 3 q10.2 73 [(0, .ref (ad 86)), (1, .int q4.1), (2, .int y5.1)] [.int (bI u13), .ref (ad 86)]) (fun u13 h => ?_) (fun JJ => ?_)
        · refine x_put (T := TX9) (pc := 73) B 4 oi_86 of_86_4 rfl uw_9 tyX9_ok nmX9 (by decide) rfl tw_510 rfl (nrw_b _) (fts_b _) (Nat.le_of_ble_eq_true rfl) dX9_sweep_73 ?_
          refine jv_m (P := fun M14 => XX D ad cI cJ p l e (Rm 4 88) s m args below meth c Q 3 M14 76 [(0, .ref (ad 86)), (1, .int q4.1), (2, .int y5.1)] []) h (fun M14 h => ?_)
          refine x_aload_n (pc := 76) B 0 dX9_sweep_76 rfl rfl ?_
          refine x_dup (pc := 77) B dX9_sweep_77 rfl ?_
          refine x_get (T := TX9) (pc := 78) B 3 oi_86 rfl uw_9 (by decide) rfl tw_508 rfl dX9_sweep_78 ?_
          refine x_iconst (v := 1) (pc := 81) B dX9_sweep_81 rfl ?_
          refine x_iadd (pc := 82) B dX9_sweep_82 ?_
          refine x_put (T := TX9) (pc := 83) B 3 oi_86 of_86_3 rfl uw_9 tyX9_ok nmX9 (by decide) rfl tw_508 rfl rfl rfl (Nat.le_of_ble_eq_true rfl) dX9_sweep_83 ?_
          refine jv_m (P := fun M15 => XX D ad cI cJ p l e (Rm 4 88) s m args below meth c Q 3 M15 86 [(0, .ref (ad 86)), (1, .int q4.1), (2, .int y5.1)] []) h (fun M15 h => ?_)
          refine x_iinc (k := 2) (v := y5.1 + 1) (lv' := [(2, .int (y5.1 + 1)), (0, .ref (ad 86)), (1, .int q4.1)]) (pc := 86) B dX9_sweep_86 rfl rfl (by decide) rfl ?_
          refine x_goto (tgt := 41) (pc := 89) B dX9_sweep_89 rfl ?_
          refine x_pick (lv' := [(0, .ref (ad 86)), (1, .int q4.1), (2, .int (y5.1 + 1))]) [1, 2, 0] rfl ?_
          have z := hback (y5.1 + 1, M15) (Option.some.inj h).symm
          exact z
        · refine x_icmp_gt (tgt := 72) (pc := 65) B dX9_sweep_65 rfl (fun hc11 => ?_) (fun hc11 => ?_)
          · refine x_iconst (v := 0) (pc := 72) B dX9_sweep_72 rfl ?_
            have z := JJ false hc11
            exact z
          · refine x_iconst (v := 1) (pc := 68) B dX9_sweep_68 rfl ?_
            refine x_goto (tgt := 73) (pc := 69) B dX9_sweep_69 rfl ?_
            have z := JJ true hc11
            exact z
  · obtain rfl := Option.some.inj h
    exact x_vret (pc := 92) B hQ dX9_sweep_92
-- CurrentFarms.volt(I)I [0]
abbrev y_CF_volt_0 : MethodName := ⟨"CurrentFarms", "volt", "(I)I"⟩
abbrev cX11_volt : ByteArray := prog_1_method_25_code
theorem dX11_volt_0 : decode cX11_volt 0 = .ok (.iload_n 1, 1) := by decide +kernel
theorem dX11_volt_1 : decode cX11_volt 1 = .ok (.invokestatic 68, 3) := by decide +kernel
theorem dX11_volt_4 : decode cX11_volt 4 = .ok (.ifCond .eq 11, 3) := by decide +kernel
theorem dX11_volt_7 : decode cX11_volt 7 = .ok (.aload_n 0, 1) := by decide +kernel
theorem dX11_volt_8 : decode cX11_volt 8 = .ok (.iload_n 1, 1) := by decide +kernel
theorem dX11_volt_9 : decode cX11_volt 9 = .ok (.invokevirtual 195, 3) := by decide +kernel
theorem dX11_volt_12 : decode cX11_volt 12 = .ok (.ifCond .ne 5, 3) := by decide +kernel
theorem dX11_volt_15 : decode cX11_volt 15 = .ok (.iconst (-1), 1) := by decide +kernel
theorem dX11_volt_16 : decode cX11_volt 16 = .ok (.ireturn, 1) := by decide +kernel
theorem dX11_volt_17 : decode cX11_volt 17 = .ok (.aload_n 0, 1) := by decide +kernel
theorem dX11_volt_18 : decode cX11_volt 18 = .ok (.getfield 57, 3) := by decide +kernel
theorem dX11_volt_21 : decode cX11_volt 21 = .ok (.invokevirtual 256, 3) := by decide +kernel
theorem dX11_volt_24 : decode cX11_volt 24 = .ok (.aload_n 0, 1) := by decide +kernel
theorem dX11_volt_25 : decode cX11_volt 25 = .ok (.getfield 57, 3) := by decide +kernel
theorem dX11_volt_28 : decode cX11_volt 28 = .ok (.getfield 259, 3) := by decide +kernel
theorem dX11_volt_31 : decode cX11_volt 31 = .ok (.iload_n 1, 1) := by decide +kernel
theorem dX11_volt_32 : decode cX11_volt 32 = .ok (.invokestatic 88, 3) := by decide +kernel
theorem dX11_volt_35 : decode cX11_volt 35 = .ok (.ireturn, 1) := by decide +kernel
theorem hd_CF_volt_0 : y_CF_volt_0.cls ≠ "java/lang/invoke/MethodHandle" ∧ y_CF_volt_0.cls ≠ "java/lang/invoke/VarHandle" ∧ (parseMethodDescriptor y_CF_volt_0.desc).map (fun d => d.parameters.length) = some 1 := by decide +kernel
def f_CF_volt_0 (a1 : Int32) (M0 : Mem) : Option (Int32 × Mem) :=
  if wthn a1 0 47 then ((f_CF_isOnLine_0 a1 M0).bind fun q2 => if q2 then ((f_Volts_sweep_86 M0).bind fun q4 => some (atv (q4.1 87) 48 a1, q4)) else (some ((-1), M0))) else (some ((-1), M0))
set_option maxHeartbeats 4000000 in
set_option maxRecDepth 20000 in
theorem C_CF_volt_0 {D : va_G} {ad adK adV : Nat → Nat} {cI cJ : ClassId} {l : Launch} (a1 : Int32) (M0 : Mem) (o : Int32 × Mem) (h : f_CF_volt_0 a1 M0 = some o) : Ct D ad adK adV cI cJ l y_CF_volt_0 cX11_volt 2 (some .int) 5 110 [.ref (ad 0), .int a1] M0 (some (.int o.1)) o.2 := by
  refine x_start (lv := [(0, .ref (ad 0)), (1, .int a1)]) (own := "CurrentFarms") rfl (by decide) (Nat.le_of_ble_eq_true rfl) rfl ?_
  intro p e s m args below meth c Q hQ B
  unfold f_CF_volt_0 at h
  refine x_iload_n (pc := 0) B 1 dX11_volt_0 rfl rfl ?_
  refine x_callS (rest := []) (st' := [.int (bI (wthn a1 0 47))]) (pc := 1) B (T_CF_isCell a1 M0) tw_556 tw_554 tw_555 tw_98 hd_CF_isCell ⟨Nat.le_of_ble_eq_true rfl, Nat.le_of_ble_eq_true rfl⟩ rfl rfl (Nat.le_of_ble_eq_true rfl) rfl dX11_volt_1 ?_
  refine x_if_eq_b (tgt := 15) (pc := 4) B dX11_volt_4 rfl (fun hc1 => ?_) (fun hc1 => ?_)
  · have h := iff_ hc1 h
    refine x_iconst (v := (-1)) (pc := 15) B dX11_volt_15 rfl ?_
    obtain rfl := Option.some.inj h
    exact x_iret (pc := 16) B hQ dX11_volt_16
  · have h := ift hc1 h
    refine x_aload_n (pc := 7) B 0 dX11_volt_7 rfl rfl ?_
    refine x_iload_n (pc := 8) B 1 dX11_volt_8 rfl rfl ?_
    obtain ⟨q2, hq2, h⟩ := bnd h
    refine x_callV (rest := []) (st' := [.int (bI q2)]) (pc := 9) B oi_0 rfl (C_CF_isOnLine_0 a1 M0 _ hq2) tw_567 tw_564 tw_566 tw_1 tw_98 hd_CF_isOnLine_0 ⟨Nat.le_of_ble_eq_true rfl, Nat.le_of_ble_eq_true rfl⟩ rfl rfl (Nat.le_of_ble_eq_true rfl) rfl dX11_volt_9 ?_
    refine x_if_ne_b (tgt := 17) (pc := 12) B dX11_volt_12 rfl (fun hc3 => ?_) (fun hc3 => ?_)
    · have h := ift hc3 h
      refine x_aload_n (pc := 17) B 0 dX11_volt_17 rfl rfl ?_
      refine x_get (T := TX11) (pc := 18) B 6 oi_0 rfl uw_11 (by decide) rfl tw_531 rfl dX11_volt_18 ?_
      obtain ⟨q4, hq4, h⟩ := bnd h
      refine x_callV (rest := []) (st' := []) (pc := 21) B oi_86 rfl (C_Volts_sweep_86  M0 _ hq4) tw_1078 tw_1075 tw_1076 tw_1077 tw_110 hd_Volts_sweep_86 ⟨Nat.le_of_ble_eq_true rfl, Nat.le_of_ble_eq_true rfl⟩ rfl rfl (Nat.le_of_ble_eq_true rfl) rfl dX11_volt_21 ?_
      refine x_aload_n (pc := 24) B 0 dX11_volt_24 rfl rfl ?_
      refine x_get (T := TX11) (pc := 25) B 6 oi_0 rfl uw_11 (by decide) rfl tw_531 rfl dX11_volt_25 ?_
      refine x_get (T := TX9) (pc := 28) B 1 oi_86 rfl uw_9 (by decide) rfl tw_506 rfl dX11_volt_28 ?_
      refine x_iload_n (pc := 31) B 1 dX11_volt_31 rfl rfl ?_
      refine x_callS (rest := []) (st' := [.int (atv (q4.1 87) 48 a1)]) (pc := 32) B (T_CF_at 87 48 a1 ai_87 (by decide) q4) tw_575 tw_585 tw_574 tw_98 hd_CF_at ⟨Nat.le_of_ble_eq_true rfl, Nat.le_of_ble_eq_true rfl⟩ rfl rfl (Nat.le_of_ble_eq_true rfl) rfl dX11_volt_32 ?_
      obtain rfl := Option.some.inj h
      exact x_iret (pc := 35) B hQ dX11_volt_35
    · have h := iff_ hc3 h
      refine x_iconst (v := (-1)) (pc := 15) B dX11_volt_15 rfl ?_
      obtain rfl := Option.some.inj h
      exact x_iret (pc := 16) B hQ dX11_volt_16
-- CurrentFarms$Volts.lost()I [86]
abbrev y_Volts_lost_86 : MethodName := ⟨"CurrentFarms$Volts", "lost", "()I"⟩
abbrev cX9_lost : ByteArray := prog_11_method_5_code
theorem dX9_lost_0 : decode cX9_lost 0 = .ok (.lconst 0, 1) := by decide +kernel
theorem dX9_lost_1 : decode cX9_lost 1 = .ok (.lstore_n 1, 1) := by decide +kernel
theorem dX9_lost_2 : decode cX9_lost 2 = .ok (.iconst 0, 1) := by decide +kernel
theorem dX9_lost_3 : decode cX9_lost 3 = .ok (.istore_n 3, 1) := by decide +kernel
theorem dX9_lost_4 : decode cX9_lost 4 = .ok (.iload_n 3, 1) := by decide +kernel
theorem dX9_lost_5 : decode cX9_lost 5 = .ok (.aload_n 0, 1) := by decide +kernel
theorem dX9_lost_6 : decode cX9_lost 6 = .ok (.getfield 18, 3) := by decide +kernel
theorem dX9_lost_9 : decode cX9_lost 9 = .ok (.getfield 90, 3) := by decide +kernel
theorem dX9_lost_12 : decode cX9_lost 12 = .ok (.getfield 94, 3) := by decide +kernel
theorem dX9_lost_15 : decode cX9_lost 15 = .ok (.if_icmp .ge 53, 3) := by decide +kernel
theorem dX9_lost_18 : decode cX9_lost 18 = .ok (.aload_n 0, 1) := by decide +kernel
theorem dX9_lost_19 : decode cX9_lost 19 = .ok (.getfield 15, 3) := by decide +kernel
theorem dX9_lost_22 : decode cX9_lost 22 = .ok (.aload_n 0, 1) := by decide +kernel
theorem dX9_lost_23 : decode cX9_lost 23 = .ok (.getfield 18, 3) := by decide +kernel
theorem dX9_lost_26 : decode cX9_lost 26 = .ok (.getfield 90, 3) := by decide +kernel
theorem dX9_lost_29 : decode cX9_lost 29 = .ok (.getfield 99, 3) := by decide +kernel
theorem dX9_lost_32 : decode cX9_lost 32 = .ok (.iload_n 3, 1) := by decide +kernel
theorem dX9_lost_33 : decode cX9_lost 33 = .ok (.invokestatic 72, 3) := by decide +kernel
theorem dX9_lost_36 : decode cX9_lost 36 = .ok (.invokestatic 72, 3) := by decide +kernel
theorem dX9_lost_39 : decode cX9_lost 39 = .ok (.i2l, 1) := by decide +kernel
theorem dX9_lost_40 : decode cX9_lost 40 = .ok (.lstore 4, 2) := by decide +kernel
theorem dX9_lost_42 : decode cX9_lost 42 = .ok (.lload_n 1, 1) := by decide +kernel
theorem dX9_lost_43 : decode cX9_lost 43 = .ok (.aload_n 0, 1) := by decide +kernel
theorem dX9_lost_44 : decode cX9_lost 44 = .ok (.getfield 18, 3) := by decide +kernel
theorem dX9_lost_47 : decode cX9_lost 47 = .ok (.getfield 90, 3) := by decide +kernel
theorem dX9_lost_50 : decode cX9_lost 50 = .ok (.getfield 105, 3) := by decide +kernel
theorem dX9_lost_53 : decode cX9_lost 53 = .ok (.i2l, 1) := by decide +kernel
theorem dX9_lost_54 : decode cX9_lost 54 = .ok (.lload 4, 2) := by decide +kernel
theorem dX9_lost_56 : decode cX9_lost 56 = .ok (.lmul, 1) := by decide +kernel
theorem dX9_lost_57 : decode cX9_lost 57 = .ok (.lload 4, 2) := by decide +kernel
theorem dX9_lost_59 : decode cX9_lost 59 = .ok (.lmul, 1) := by decide +kernel
theorem dX9_lost_60 : decode cX9_lost 60 = .ok (.ladd, 1) := by decide +kernel
theorem dX9_lost_61 : decode cX9_lost 61 = .ok (.lstore_n 1, 1) := by decide +kernel
theorem dX9_lost_62 : decode cX9_lost 62 = .ok (.iinc 3 1, 3) := by decide +kernel
theorem dX9_lost_65 : decode cX9_lost 65 = .ok (.goto (-61), 3) := by decide +kernel
theorem dX9_lost_68 : decode cX9_lost 68 = .ok (.ldc2_w 116, 3) := by decide +kernel
theorem dX9_lost_71 : decode cX9_lost 71 = .ok (.lload_n 1, 1) := by decide +kernel
theorem dX9_lost_72 : decode cX9_lost 72 = .ok (.ldc2_w 118, 3) := by decide +kernel
theorem dX9_lost_75 : decode cX9_lost 75 = .ok (.ldiv, 1) := by decide +kernel
theorem dX9_lost_76 : decode cX9_lost 76 = .ok (.invokestatic 120, 3) := by decide +kernel
theorem dX9_lost_79 : decode cX9_lost 79 = .ok (.l2i, 1) := by decide +kernel
theorem dX9_lost_80 : decode cX9_lost 80 = .ok (.ireturn, 1) := by decide +kernel
theorem hd_Volts_lost_86 : y_Volts_lost_86.cls ≠ "java/lang/invoke/MethodHandle" ∧ y_Volts_lost_86.cls ≠ "java/lang/invoke/VarHandle" ∧ (parseMethodDescriptor y_Volts_lost_86.desc).map (fun d => d.parameters.length) = some 0 := by decide +kernel
def b_Volts_lost_86_4 (M0 : Mem) (y1 : Int64 × Int32) : Option ((Int64 × Int32) ⊕ (Int64)) :=
  if decide (y1.2 < (M0.1 24 2)) then (jv_ (y1.1 + ((((M0.1 24 4).toInt64) * ((atv (M0.1 88) 48 (atv (M0.1 26) 48 y1.2)).toInt64)) * ((atv (M0.1 88) 48 (atv (M0.1 26) 48 y1.2)).toInt64)) : Int64) fun x3 => some (.inl (x3, y1.2 + 1))) else (some (.inr y1.1))
def f_Volts_lost_86  (M0 : Mem) : Option (Int32) :=
  (itr (b_Volts_lost_86_4 M0) FU (0, 0)).bind fun q4 => some ((jminL (1000000000 : Int64) (q4 / 1000)).toInt32)
set_option maxHeartbeats 4000000 in
set_option maxRecDepth 20000 in
theorem C_Volts_lost_86 {D : va_G} {ad adK adV : Nat → Nat} {cI cJ : ClassId} {l : Launch}  (M0 : Mem) (o : Int32) (h : f_Volts_lost_86  M0 = some o) : Ct D ad adK adV cI cJ l y_Volts_lost_86 cX9_lost 6 (some .int) 1 21 [.ref (ad 86)] M0 (some (.int o)) M0 := by
  refine x_start (lv := [(0, .ref (ad 86))]) (own := "CurrentFarms$Volts") rfl (by decide) (Nat.le_of_ble_eq_true rfl) rfl ?_
  intro p e s m args below meth c Q hQ B
  unfold f_Volts_lost_86 at h
  refine x_lconst (v := 0) (pc := 0) B dX9_lost_0 rfl ?_
  refine x_lstore_n (lv' := [(1, .long 0), (0, .ref (ad 86))]) (pc := 1) B dX9_lost_1 rfl (by decide) rfl ?_
  refine x_iconst (v := 0) (pc := 2) B dX9_lost_2 rfl ?_
  refine x_istore_n (lv' := [(3, .int 0), (1, .long 0), (0, .ref (ad 86))]) (pc := 3) B dX9_lost_3 rfl (by decide) rfl ?_
  refine x_pick (lv' := [(0, .ref (ad 86)), (1, .long 0), (3, .int 0)]) [2, 1, 0] rfl ?_
  obtain ⟨q4, hq4, h⟩ := bnd h
  refine x_loop (Head := fun (y1 : Int64 × Int32) => XX D ad cI cJ p l e (Rm 1 21) s m args below meth c Q 6 M0 4 [(0, .ref (ad 86)), (1, .long y1.1), (3, .int y1.2)] []) (Ex := fun (q4 : Int64) => XX D ad cI cJ p l e (Rm 1 21) s m args below meth c Q 6 M0 68 [(1, .long q4)] []) (fun y1 r h hback hexit => ?_) FU _ q4 hq4 ?_
  · unfold b_Volts_lost_86_4 at h
    refine x_iload_n (pc := 4) B 2 dX9_lost_4 rfl rfl ?_
    refine x_aload_n (pc := 5) B 0 dX9_lost_5 rfl rfl ?_
    refine x_get (T := TX9) (pc := 6) B 0 oi_86 rfl uw_9 (by decide) rfl tw_504 rfl dX9_lost_6 ?_
    refine x_get (T := TX8) (pc := 9) B 3 oi_1 rfl uw_8 (by decide) rfl tw_373 rfl dX9_lost_9 ?_
    refine x_get (T := TX5) (pc := 12) B 2 oi_24 rfl uw_5 (by decide) rfl tw_267 rfl dX9_lost_12 ?_
    refine x_icmp_ge (tgt := 68) (pc := 15) B dX9_lost_15 rfl (fun hc2 => ?_) (fun hc2 => ?_)
    · have h := iff_ hc2 h
      refine x_pick (lv' := [(1, .long y1.1)]) [1] rfl ?_
      have z := hexit y1.1 (Option.some.inj h).symm
      exact z
    · have h := ift hc2 h
      refine x_aload_n (pc := 18) B 0 dX9_lost_18 rfl rfl ?_
      refine x_get (T := TX9) (pc := 19) B 2 oi_86 rfl uw_9 (by decide) rfl tw_507 rfl dX9_lost_19 ?_
      refine x_aload_n (pc := 22) B 0 dX9_lost_22 rfl rfl ?_
      refine x_get (T := TX9) (pc := 23) B 0 oi_86 rfl uw_9 (by decide) rfl tw_504 rfl dX9_lost_23 ?_
      refine x_get (T := TX8) (pc := 26) B 3 oi_1 rfl uw_8 (by decide) rfl tw_373 rfl dX9_lost_26 ?_
      refine x_get (T := TX5) (pc := 29) B 1 oi_24 rfl uw_5 (by decide) rfl tw_265 rfl dX9_lost_29 ?_
      refine x_iload_n (pc := 32) B 2 dX9_lost_32 rfl rfl ?_
      refine x_callSN (rest := [.ref (ad 88)]) (st' := [.int (atv (M0.1 26) 48 y1.2), .ref (ad 88)]) (pc := 33) B (T_CF_at 26 48 y1.2 ai_26 (by decide) M0) tw_575 tw_1089 tw_574 tw_98 hd_CF_at ⟨Nat.le_of_ble_eq_true rfl, Nat.le_of_ble_eq_true rfl⟩ rfl rfl (Nat.le_of_ble_eq_true rfl) rfl dX9_lost_33 ?_
      refine x_callSN (rest := []) (st' := [.int (atv (M0.1 88) 48 (atv (M0.1 26) 48 y1.2))]) (pc := 36) B (T_CF_at 88 48 (atv (M0.1 26) 48 y1.2) ai_88 (by decide) M0) tw_575 tw_1089 tw_574 tw_98 hd_CF_at ⟨Nat.le_of_ble_eq_true rfl, Nat.le_of_ble_eq_true rfl⟩ rfl rfl (Nat.le_of_ble_eq_true rfl) rfl dX9_lost_36 ?_
      refine x_i2l (pc := 39) B dX9_lost_39 ?_
      refine x_lstore (lv' := [(4, .long ((atv (M0.1 88) 48 (atv (M0.1 26) 48 y1.2)).toInt64)), (0, .ref (ad 86)), (1, .long y1.1), (3, .int y1.2)]) (pc := 40) B dX9_lost_40 (by decide) rfl ?_
      refine x_lload_n (pc := 42) B 2 dX9_lost_42 rfl rfl ?_
      refine x_aload_n (pc := 43) B 1 dX9_lost_43 rfl rfl ?_
      refine x_get (T := TX9) (pc := 44) B 0 oi_86 rfl uw_9 (by decide) rfl tw_504 rfl dX9_lost_44 ?_
      refine x_get (T := TX8) (pc := 47) B 3 oi_1 rfl uw_8 (by decide) rfl tw_373 rfl dX9_lost_47 ?_
      refine x_get (T := TX5) (pc := 50) B 4 oi_24 rfl uw_5 (by decide) rfl tw_272 rfl dX9_lost_50 ?_
      refine x_i2l (pc := 53) B dX9_lost_53 ?_
      refine x_lload (pc := 54) B 0 dX9_lost_54 rfl ?_
      refine x_lmul (pc := 56) B dX9_lost_56 ?_
      refine x_lload (pc := 57) B 0 dX9_lost_57 rfl ?_
      refine x_lmul (pc := 59) B dX9_lost_59 ?_
      refine x_ladd (pc := 60) B dX9_lost_60 ?_
      refine jv_m (P := fun (x3 : Int64) => XX D ad cI cJ p l e (Rm 1 21) s m args below meth c Q 6 M0 61 [(4, .long ((atv (M0.1 88) 48 (atv (M0.1 26) 48 y1.2)).toInt64)), (0, .ref (ad 86)), (1, .long y1.1), (3, .int y1.2)] [.long x3]) h (fun x3 h => ?_)
      refine x_lstore_n (lv' := [(1, .long x3), (4, .long ((atv (M0.1 88) 48 (atv (M0.1 26) 48 y1.2)).toInt64)), (0, .ref (ad 86)), (3, .int y1.2)]) (pc := 61) B dX9_lost_61 rfl (by decide) rfl ?_
      refine x_iinc (k := 3) (v := y1.2 + 1) (lv' := [(3, .int (y1.2 + 1)), (1, .long x3), (4, .long ((atv (M0.1 88) 48 (atv (M0.1 26) 48 y1.2)).toInt64)), (0, .ref (ad 86))]) (pc := 62) B dX9_lost_62 rfl rfl (by decide) rfl ?_
      refine x_goto (tgt := 4) (pc := 65) B dX9_lost_65 rfl ?_
      refine x_pick (lv' := [(0, .ref (ad 86)), (1, .long x3), (3, .int (y1.2 + 1))]) [3, 1, 0] rfl ?_
      have z := hback (x3, y1.2 + 1) (Option.some.inj h).symm
      exact z
  · refine x_ldc2 (v := 1000000000) (pc := 68) B tw_1108 dX9_lost_68 ?_
    refine x_lload_n (pc := 71) B 0 dX9_lost_71 rfl rfl ?_
    refine x_ldc2 (v := 1000) (pc := 72) B tw_1109 dX9_lost_72 ?_
    refine x_ldiv (pc := 75) B dX9_lost_75 (by decide) ?_
    refine x_mmin_long (pc := 76) B tw_1110 tw_772 tw_112 tw_773 (by decide) (Nat.le_of_ble_eq_true rfl) dX9_lost_76 ?_
    refine x_l2i (pc := 79) B dX9_lost_79 ?_
    obtain rfl := Option.some.inj h
    exact x_iret (pc := 80) B hQ dX9_lost_80
-- CurrentFarms.lose(I)I [0]
abbrev y_CF_lose_0 : MethodName := ⟨"CurrentFarms", "lose", "(I)I"⟩
abbrev cX11_lose : ByteArray := prog_1_method_26_code
theorem dX11_lose_0 : decode cX11_lose 0 = .ok (.iload_n 1, 1) := by decide +kernel
theorem dX11_lose_1 : decode cX11_lose 1 = .ok (.iconst 0, 1) := by decide +kernel
theorem dX11_lose_2 : decode cX11_lose 2 = .ok (.iconst 2, 1) := by decide +kernel
theorem dX11_lose_3 : decode cX11_lose 3 = .ok (.invokestatic 72, 3) := by decide +kernel
theorem dX11_lose_6 : decode cX11_lose 6 = .ok (.ifCond .ne 5, 3) := by decide +kernel
theorem dX11_lose_9 : decode cX11_lose 9 = .ok (.iconst (-1), 1) := by decide +kernel
theorem dX11_lose_10 : decode cX11_lose 10 = .ok (.ireturn, 1) := by decide +kernel
theorem dX11_lose_11 : decode cX11_lose 11 = .ok (.aload_n 0, 1) := by decide +kernel
theorem dX11_lose_12 : decode cX11_lose 12 = .ok (.getfield 57, 3) := by decide +kernel
theorem dX11_lose_15 : decode cX11_lose 15 = .ok (.invokevirtual 256, 3) := by decide +kernel
theorem dX11_lose_18 : decode cX11_lose 18 = .ok (.iload_n 1, 1) := by decide +kernel
theorem dX11_lose_19 : decode cX11_lose 19 = .ok (.ifCond .ne 11, 3) := by decide +kernel
theorem dX11_lose_22 : decode cX11_lose 22 = .ok (.aload_n 0, 1) := by decide +kernel
theorem dX11_lose_23 : decode cX11_lose 23 = .ok (.getfield 57, 3) := by decide +kernel
theorem dX11_lose_26 : decode cX11_lose 26 = .ok (.getfield 261, 3) := by decide +kernel
theorem dX11_lose_29 : decode cX11_lose 29 = .ok (.ireturn, 1) := by decide +kernel
theorem dX11_lose_30 : decode cX11_lose 30 = .ok (.iload_n 1, 1) := by decide +kernel
theorem dX11_lose_31 : decode cX11_lose 31 = .ok (.iconst 1, 1) := by decide +kernel
theorem dX11_lose_32 : decode cX11_lose 32 = .ok (.if_icmp .ne 16, 3) := by decide +kernel
theorem dX11_lose_35 : decode cX11_lose 35 = .ok (.aload_n 0, 1) := by decide +kernel
theorem dX11_lose_36 : decode cX11_lose 36 = .ok (.getfield 57, 3) := by decide +kernel
theorem dX11_lose_39 : decode cX11_lose 39 = .ok (.getfield 264, 3) := by decide +kernel
theorem dX11_lose_42 : decode cX11_lose 42 = .ok (.invokestatic 226, 3) := by decide +kernel
theorem dX11_lose_45 : decode cX11_lose 45 = .ok (.goto 10, 3) := by decide +kernel
theorem dX11_lose_48 : decode cX11_lose 48 = .ok (.aload_n 0, 1) := by decide +kernel
theorem dX11_lose_49 : decode cX11_lose 49 = .ok (.getfield 57, 3) := by decide +kernel
theorem dX11_lose_52 : decode cX11_lose 52 = .ok (.invokevirtual 268, 3) := by decide +kernel
theorem dX11_lose_55 : decode cX11_lose 55 = .ok (.ireturn, 1) := by decide +kernel
theorem hd_CF_lose_0 : y_CF_lose_0.cls ≠ "java/lang/invoke/MethodHandle" ∧ y_CF_lose_0.cls ≠ "java/lang/invoke/VarHandle" ∧ (parseMethodDescriptor y_CF_lose_0.desc).map (fun d => d.parameters.length) = some 1 := by decide +kernel
def f_CF_lose_0 (a1 : Int32) (M0 : Mem) : Option (Int32 × Mem) :=
  if wthn a1 0 2 then ((f_Volts_sweep_86 M0).bind fun q2 => if decide (a1 = 0) then (some (q2.1 86 3, q2)) else (if decide (a1 = 1) then (if isb (q2.1 86 4) then some (bI (decide (q2.1 86 4 = 1)), q2) else none) else ((f_Volts_lost_86 q2).bind fun q6 => some (q6, q2)))) else (some ((-1), M0))
set_option maxHeartbeats 4000000 in
set_option maxRecDepth 20000 in
theorem C_CF_lose_0 {D : va_G} {ad adK adV : Nat → Nat} {cI cJ : ClassId} {l : Launch} (a1 : Int32) (M0 : Mem) (o : Int32 × Mem) (h : f_CF_lose_0 a1 M0 = some o) : Ct D ad adK adV cI cJ l y_CF_lose_0 cX11_lose 2 (some .int) 5 110 [.ref (ad 0), .int a1] M0 (some (.int o.1)) o.2 := by
  refine x_start (lv := [(0, .ref (ad 0)), (1, .int a1)]) (own := "CurrentFarms") rfl (by decide) (Nat.le_of_ble_eq_true rfl) rfl ?_
  intro p e s m args below meth c Q hQ B
  unfold f_CF_lose_0 at h
  refine x_iload_n (pc := 0) B 1 dX11_lose_0 rfl rfl ?_
  refine x_iconst (v := 0) (pc := 1) B dX11_lose_1 rfl ?_
  refine x_iconst (v := 2) (pc := 2) B dX11_lose_2 rfl ?_
  refine x_callS (rest := []) (st' := [.int (bI (wthn a1 0 2))]) (pc := 3) B (T_CF_within a1 0 2 M0) tw_559 tw_557 tw_558 tw_98 hd_CF_within ⟨Nat.le_of_ble_eq_true rfl, Nat.le_of_ble_eq_true rfl⟩ rfl rfl (Nat.le_of_ble_eq_true rfl) rfl dX11_lose_3 ?_
  refine x_if_ne_b (tgt := 11) (pc := 6) B dX11_lose_6 rfl (fun hc1 => ?_) (fun hc1 => ?_)
  · have h := ift hc1 h
    refine x_aload_n (pc := 11) B 0 dX11_lose_11 rfl rfl ?_
    refine x_get (T := TX11) (pc := 12) B 6 oi_0 rfl uw_11 (by decide) rfl tw_531 rfl dX11_lose_12 ?_
    obtain ⟨q2, hq2, h⟩ := bnd h
    refine x_callV (rest := []) (st' := []) (pc := 15) B oi_86 rfl (C_Volts_sweep_86  M0 _ hq2) tw_1078 tw_1075 tw_1076 tw_1077 tw_110 hd_Volts_sweep_86 ⟨Nat.le_of_ble_eq_true rfl, Nat.le_of_ble_eq_true rfl⟩ rfl rfl (Nat.le_of_ble_eq_true rfl) rfl dX11_lose_15 ?_
    refine x_iload_n (pc := 18) B 1 dX11_lose_18 rfl rfl ?_
    refine x_if_ne (tgt := 30) (pc := 19) B dX11_lose_19 rfl (fun hc3 => ?_) (fun hc3 => ?_)
    · have h := iff_ hc3 h
      refine x_iload_n (pc := 30) B 1 dX11_lose_30 rfl rfl ?_
      refine x_iconst (v := 1) (pc := 31) B dX11_lose_31 rfl ?_
      refine x_icmp_ne (tgt := 48) (pc := 32) B dX11_lose_32 rfl (fun hc4 => ?_) (fun hc4 => ?_)
      · have h := iff_ hc4 h
        refine x_aload_n (pc := 48) B 0 dX11_lose_48 rfl rfl ?_
        refine x_get (T := TX11) (pc := 49) B 6 oi_0 rfl uw_11 (by decide) rfl tw_531 rfl dX11_lose_49 ?_
        obtain ⟨q6, hq6, h⟩ := bnd h
        refine x_callV (rest := []) (st' := [.int q6]) (pc := 52) B oi_86 rfl (C_Volts_lost_86  q2 _ hq6) tw_1107 tw_1104 tw_1105 tw_1106 tw_110 hd_Volts_lost_86 ⟨Nat.le_of_ble_eq_true rfl, Nat.le_of_ble_eq_true rfl⟩ rfl rfl (Nat.le_of_ble_eq_true rfl) rfl dX11_lose_52 ?_
        obtain rfl := Option.some.inj h
        exact x_iret (pc := 55) B hQ dX11_lose_55
      · have h := ift hc4 h
        refine x_aload_n (pc := 35) B 0 dX11_lose_35 rfl rfl ?_
        refine x_get (T := TX11) (pc := 36) B 6 oi_0 rfl uw_11 (by decide) rfl tw_531 rfl dX11_lose_36 ?_
        obtain ⟨hk5, h⟩ := ifn h
        refine x_getZ (T := TX9) (pc := 39) B 4 oi_86 rfl uw_9 (by decide) rfl tw_511 rfl hk5 dX11_lose_39 ?_
        refine x_callS (rest := []) (st' := [.int (bI (decide (q2.1 86 4 = 1)))]) (pc := 42) B (T_CF_flag (decide (q2.1 86 4 = 1)) q2) tw_606 tw_1024 tw_605 tw_98 hd_CF_flag ⟨Nat.le_of_ble_eq_true rfl, Nat.le_of_ble_eq_true rfl⟩ rfl rfl (Nat.le_of_ble_eq_true rfl) rfl dX11_lose_42 ?_
        refine x_goto (tgt := 55) (pc := 45) B dX11_lose_45 rfl ?_
        obtain rfl := Option.some.inj h
        exact x_iret (pc := 55) B hQ dX11_lose_55
    · have h := ift hc3 h
      refine x_aload_n (pc := 22) B 0 dX11_lose_22 rfl rfl ?_
      refine x_get (T := TX11) (pc := 23) B 6 oi_0 rfl uw_11 (by decide) rfl tw_531 rfl dX11_lose_23 ?_
      refine x_get (T := TX9) (pc := 26) B 3 oi_86 rfl uw_9 (by decide) rfl tw_509 rfl dX11_lose_26 ?_
      obtain rfl := Option.some.inj h
      exact x_iret (pc := 29) B hQ dX11_lose_29
  · have h := iff_ hc1 h
    refine x_iconst (v := (-1)) (pc := 9) B dX11_lose_9 rfl ?_
    obtain rfl := Option.some.inj h
    exact x_iret (pc := 10) B hQ dX11_lose_10
-- CurrentFarms.read(III)I [0]
abbrev y_CF_read_0 : MethodName := ⟨"CurrentFarms", "read", "(III)I"⟩
abbrev cX11_read : ByteArray := prog_1_method_27_code
theorem dX11_read_0 : decode cX11_read 0 = .ok (.aload_n 0, 1) := by decide +kernel
theorem dX11_read_1 : decode cX11_read 1 = .ok (.iload_n 1, 1) := by decide +kernel
theorem dX11_read_2 : decode cX11_read 2 = .ok (.invokevirtual 126, 3) := by decide +kernel
theorem dX11_read_5 : decode cX11_read 5 = .ok (.ifCond .eq 11, 3) := by decide +kernel
theorem dX11_read_8 : decode cX11_read 8 = .ok (.aload_n 0, 1) := by decide +kernel
theorem dX11_read_9 : decode cX11_read 9 = .ok (.iload_n 2, 1) := by decide +kernel
theorem dX11_read_10 : decode cX11_read 10 = .ok (.invokevirtual 129, 3) := by decide +kernel
theorem dX11_read_13 : decode cX11_read 13 = .ok (.ifCond .ne 5, 3) := by decide +kernel
theorem dX11_read_16 : decode cX11_read 16 = .ok (.iconst (-1), 1) := by decide +kernel
theorem dX11_read_17 : decode cX11_read 17 = .ok (.ireturn, 1) := by decide +kernel
theorem dX11_read_18 : decode cX11_read 18 = .ok (.iload_n 3, 1) := by decide +kernel
theorem dX11_read_19 : decode cX11_read 19 = .ok (.iconst 0, 1) := by decide +kernel
theorem dX11_read_20 : decode cX11_read 20 = .ok (.sipush 9999, 3) := by decide +kernel
theorem dX11_read_23 : decode cX11_read 23 = .ok (.invokestatic 72, 3) := by decide +kernel
theorem dX11_read_26 : decode cX11_read 26 = .ok (.ifCond .ne 6, 3) := by decide +kernel
theorem dX11_read_29 : decode cX11_read 29 = .ok (.bipush (-2), 2) := by decide +kernel
theorem dX11_read_31 : decode cX11_read 31 = .ok (.ireturn, 1) := by decide +kernel
theorem dX11_read_32 : decode cX11_read 32 = .ok (.aload_n 0, 1) := by decide +kernel
theorem dX11_read_33 : decode cX11_read 33 = .ok (.getfield 12, 3) := by decide +kernel
theorem dX11_read_36 : decode cX11_read 36 = .ok (.getfield 132, 3) := by decide +kernel
theorem dX11_read_39 : decode cX11_read 39 = .ok (.iload_n 1, 1) := by decide +kernel
theorem dX11_read_40 : decode cX11_read 40 = .ok (.iload_n 2, 1) := by decide +kernel
theorem dX11_read_41 : decode cX11_read 41 = .ok (.iconst (-1), 1) := by decide +kernel
theorem dX11_read_42 : decode cX11_read 42 = .ok (.invokevirtual 153, 3) := by decide +kernel
theorem dX11_read_45 : decode cX11_read 45 = .ok (.iconst 3, 1) := by decide +kernel
theorem dX11_read_46 : decode cX11_read 46 = .ok (.if_icmp .eq 6, 3) := by decide +kernel
theorem dX11_read_49 : decode cX11_read 49 = .ok (.bipush (-3), 2) := by decide +kernel
theorem dX11_read_51 : decode cX11_read 51 = .ok (.ireturn, 1) := by decide +kernel
theorem dX11_read_52 : decode cX11_read 52 = .ok (.aload_n 0, 1) := by decide +kernel
theorem dX11_read_53 : decode cX11_read 53 = .ok (.getfield 12, 3) := by decide +kernel
theorem dX11_read_56 : decode cX11_read 56 = .ok (.getfield 271, 3) := by decide +kernel
theorem dX11_read_59 : decode cX11_read 59 = .ok (.iload_n 1, 1) := by decide +kernel
theorem dX11_read_60 : decode cX11_read 60 = .ok (.iload_n 2, 1) := by decide +kernel
theorem dX11_read_61 : decode cX11_read 61 = .ok (.invokevirtual 275, 3) := by decide +kernel
theorem dX11_read_64 : decode cX11_read 64 = .ok (.istore 4, 2) := by decide +kernel
theorem dX11_read_66 : decode cX11_read 66 = .ok (.aload_n 0, 1) := by decide +kernel
theorem dX11_read_67 : decode cX11_read 67 = .ok (.getfield 12, 3) := by decide +kernel
theorem dX11_read_70 : decode cX11_read 70 = .ok (.getfield 271, 3) := by decide +kernel
theorem dX11_read_73 : decode cX11_read 73 = .ok (.getfield 280, 3) := by decide +kernel
theorem dX11_read_76 : decode cX11_read 76 = .ok (.iload_n 1, 1) := by decide +kernel
theorem dX11_read_77 : decode cX11_read 77 = .ok (.iload_n 2, 1) := by decide +kernel
theorem dX11_read_78 : decode cX11_read 78 = .ok (.invokestatic 283, 3) := by decide +kernel
theorem dX11_read_81 : decode cX11_read 81 = .ok (.iload_n 3, 1) := by decide +kernel
theorem dX11_read_82 : decode cX11_read 82 = .ok (.invokestatic 92, 3) := by decide +kernel
theorem dX11_read_85 : decode cX11_read 85 = .ok (.iload 4, 2) := by decide +kernel
theorem dX11_read_87 : decode cX11_read 87 = .ok (.ireturn, 1) := by decide +kernel
theorem hd_CF_read_0 : y_CF_read_0.cls ≠ "java/lang/invoke/MethodHandle" ∧ y_CF_read_0.cls ≠ "java/lang/invoke/VarHandle" ∧ (parseMethodDescriptor y_CF_read_0.desc).map (fun d => d.parameters.length) = some 3 := by decide +kernel
def f_CF_read_0 (a1 : Int32) (a2 : Int32) (a3 : Int32) (M0 : Mem) : Option (Int32 × Mem) :=
  (f_CF_isFarm_0 a1 M0).bind fun q1 => if q1 then ((f_CF_isPast_0 a2 M0).bind fun q3 => if q3 then (if wthn a3 0 9999 then ((f_Book_kindIn_7 a1 a2 (-1) M0).bind fun q6 => if decide (q6.1 = 3) then ((f_Coins_readOf_36 a1 a2 q6.2).bind fun q8 => jv_ (putv q6.2 37 1210 (slt a1 a2) a3) fun M9 => some (q8, M9)) else (some ((-3), q6.2))) else (some ((-2), M0))) else (some ((-1), M0))) else (some ((-1), M0))
set_option maxHeartbeats 4000000 in
set_option maxRecDepth 20000 in
theorem C_CF_read_0 {D : va_G} {ad adK adV : Nat → Nat} {cI cJ : ClassId} {l : Launch} (a1 : Int32) (a2 : Int32) (a3 : Int32) (M0 : Mem) (o : Int32 × Mem) (h : f_CF_read_0 a1 a2 a3 M0 = some o) : Ct D ad adK adV cI cJ l y_CF_read_0 cX11_read 5 (some .int) 4 94 [.ref (ad 0), .int a1, .int a2, .int a3] M0 (some (.int o.1)) o.2 := by
  refine x_start (lv := [(0, .ref (ad 0)), (1, .int a1), (2, .int a2), (3, .int a3)]) (own := "CurrentFarms") rfl (by decide) (Nat.le_of_ble_eq_true rfl) rfl ?_
  intro p e s m args below meth c Q hQ B
  unfold f_CF_read_0 at h
  refine x_aload_n (pc := 0) B 0 dX11_read_0 rfl rfl ?_
  refine x_iload_n (pc := 1) B 1 dX11_read_1 rfl rfl ?_
  obtain ⟨q1, hq1, h⟩ := bnd h
  refine x_callV (rest := []) (st' := [.int (bI q1)]) (pc := 2) B oi_0 rfl (C_CF_isFarm_0 a1 M0 _ hq1) tw_638 tw_635 tw_637 tw_2 tw_98 hd_CF_isFarm_0 ⟨Nat.le_of_ble_eq_true rfl, Nat.le_of_ble_eq_true rfl⟩ rfl rfl (Nat.le_of_ble_eq_true rfl) rfl dX11_read_2 ?_
  refine x_if_eq_b (tgt := 16) (pc := 5) B dX11_read_5 rfl (fun hc2 => ?_) (fun hc2 => ?_)
  · have h := iff_ hc2 h
    refine x_iconst (v := (-1)) (pc := 16) B dX11_read_16 rfl ?_
    obtain rfl := Option.some.inj h
    exact x_iret (pc := 17) B hQ dX11_read_17
  · have h := ift hc2 h
    refine x_aload_n (pc := 8) B 0 dX11_read_8 rfl rfl ?_
    refine x_iload_n (pc := 9) B 2 dX11_read_9 rfl rfl ?_
    obtain ⟨q3, hq3, h⟩ := bnd h
    refine x_callV (rest := []) (st' := [.int (bI q3)]) (pc := 10) B oi_0 rfl (C_CF_isPast_0 a2 M0 _ hq3) tw_642 tw_639 tw_641 tw_3 tw_98 hd_CF_isPast_0 ⟨Nat.le_of_ble_eq_true rfl, Nat.le_of_ble_eq_true rfl⟩ rfl rfl (Nat.le_of_ble_eq_true rfl) rfl dX11_read_10 ?_
    refine x_if_ne_b (tgt := 18) (pc := 13) B dX11_read_13 rfl (fun hc4 => ?_) (fun hc4 => ?_)
    · have h := ift hc4 h
      refine x_iload_n (pc := 18) B 3 dX11_read_18 rfl rfl ?_
      refine x_iconst (v := 0) (pc := 19) B dX11_read_19 rfl ?_
      refine x_sipush (v := 9999) (pc := 20) B dX11_read_20 rfl ?_
      refine x_callS (rest := []) (st' := [.int (bI (wthn a3 0 9999))]) (pc := 23) B (T_CF_within a3 0 9999 M0) tw_559 tw_557 tw_558 tw_98 hd_CF_within ⟨Nat.le_of_ble_eq_true rfl, Nat.le_of_ble_eq_true rfl⟩ rfl rfl (Nat.le_of_ble_eq_true rfl) rfl dX11_read_23 ?_
      refine x_if_ne_b (tgt := 32) (pc := 26) B dX11_read_26 rfl (fun hc5 => ?_) (fun hc5 => ?_)
      · have h := ift hc5 h
        refine x_aload_n (pc := 32) B 0 dX11_read_32 rfl rfl ?_
        refine x_get (T := TX11) (pc := 33) B 0 oi_0 rfl uw_11 (by decide) rfl tw_525 rfl dX11_read_33 ?_
        refine x_get (T := TX8) (pc := 36) B 1 oi_1 rfl uw_8 (by decide) rfl tw_367 rfl dX11_read_36 ?_
        refine x_iload_n (pc := 39) B 1 dX11_read_39 rfl rfl ?_
        refine x_iload_n (pc := 40) B 2 dX11_read_40 rfl rfl ?_
        refine x_iconst (v := (-1)) (pc := 41) B dX11_read_41 rfl ?_
        obtain ⟨q6, hq6, h⟩ := bnd h
        refine x_callV (rest := []) (st' := [.int q6.1]) (pc := 42) B oi_7 rfl (C_Book_kindIn_7 a1 a2 (-1) M0 _ hq6) tw_673 tw_670 tw_671 tw_672 tw_101 hd_Book_kindIn_7 ⟨Nat.le_of_ble_eq_true rfl, Nat.le_of_ble_eq_true rfl⟩ rfl rfl (Nat.le_of_ble_eq_true rfl) rfl dX11_read_42 ?_
        refine x_iconst (v := 3) (pc := 45) B dX11_read_45 rfl ?_
        refine x_icmp_eq (tgt := 52) (pc := 46) B dX11_read_46 rfl (fun hc7 => ?_) (fun hc7 => ?_)
        · have h := ift hc7 h
          refine x_aload_n (pc := 52) B 0 dX11_read_52 rfl rfl ?_
          refine x_get (T := TX11) (pc := 53) B 0 oi_0 rfl uw_11 (by decide) rfl tw_525 rfl dX11_read_53 ?_
          refine x_get (T := TX8) (pc := 56) B 5 oi_1 rfl uw_8 (by decide) rfl tw_380 rfl dX11_read_56 ?_
          refine x_iload_n (pc := 59) B 1 dX11_read_59 rfl rfl ?_
          refine x_iload_n (pc := 60) B 2 dX11_read_60 rfl rfl ?_
          obtain ⟨q8, hq8, h⟩ := bnd h
          refine x_callV (rest := []) (st' := [.int q8]) (pc := 61) B oi_36 rfl (C_Coins_readOf_36 a1 a2 q6.2 _ hq8) tw_725 tw_1115 tw_723 tw_724 tw_106 hd_Coins_readOf_36 ⟨Nat.le_of_ble_eq_true rfl, Nat.le_of_ble_eq_true rfl⟩ rfl rfl (Nat.le_of_ble_eq_true rfl) rfl dX11_read_61 ?_
          refine x_istore (lv' := [(4, .int q8), (0, .ref (ad 0)), (1, .int a1), (2, .int a2), (3, .int a3)]) (pc := 64) B dX11_read_64 (by decide) rfl ?_
          refine x_aload_n (pc := 66) B 1 dX11_read_66 rfl rfl ?_
          refine x_get (T := TX11) (pc := 67) B 0 oi_0 rfl uw_11 (by decide) rfl tw_525 rfl dX11_read_67 ?_
          refine x_get (T := TX8) (pc := 70) B 5 oi_1 rfl uw_8 (by decide) rfl tw_380 rfl dX11_read_70 ?_
          refine x_get (T := TX3) (pc := 73) B 0 oi_36 rfl uw_3 (by decide) rfl tw_334 rfl dX11_read_73 ?_
          refine x_iload_n (pc := 76) B 2 dX11_read_76 rfl rfl ?_
          refine x_iload_n (pc := 77) B 3 dX11_read_77 rfl rfl ?_
          refine x_callS (rest := [.ref (ad 37)]) (st' := [.int (slt a1 a2), .ref (ad 37)]) (pc := 78) B (T_CF_slot a1 a2 q6.2) tw_728 tw_1116 tw_727 tw_98 hd_CF_slot ⟨Nat.le_of_ble_eq_true rfl, Nat.le_of_ble_eq_true rfl⟩ rfl rfl (Nat.le_of_ble_eq_true rfl) rfl dX11_read_78 ?_
          refine x_iload_n (pc := 81) B 4 dX11_read_81 rfl rfl ?_
          refine x_callS (rest := []) (st' := []) (pc := 82) B (T_CF_put 37 1210 (slt a1 a2) a3 ai_37 (by decide) q6.2) tw_588 tw_586 tw_587 tw_98 hd_CF_put ⟨Nat.le_of_ble_eq_true rfl, Nat.le_of_ble_eq_true rfl⟩ rfl rfl (Nat.le_of_ble_eq_true rfl) rfl dX11_read_82 ?_
          refine jv_m (P := fun M9 => XX D ad cI cJ p l e (Rm 4 94) s m args below meth c Q 5 M9 85 [(4, .int q8), (0, .ref (ad 0)), (1, .int a1), (2, .int a2), (3, .int a3)] []) h (fun M9 h => ?_)
          refine x_iload (pc := 85) B 0 dX11_read_85 rfl ?_
          obtain rfl := Option.some.inj h
          exact x_iret (pc := 87) B hQ dX11_read_87
        · have h := iff_ hc7 h
          refine x_bipush (v := (-3)) (pc := 49) B dX11_read_49 rfl ?_
          obtain rfl := Option.some.inj h
          exact x_iret (pc := 51) B hQ dX11_read_51
      · have h := iff_ hc5 h
        refine x_bipush (v := (-2)) (pc := 29) B dX11_read_29 rfl ?_
        obtain rfl := Option.some.inj h
        exact x_iret (pc := 31) B hQ dX11_read_31
    · have h := iff_ hc4 h
      refine x_iconst (v := (-1)) (pc := 16) B dX11_read_16 rfl ?_
      obtain rfl := Option.some.inj h
      exact x_iret (pc := 17) B hQ dX11_read_17
-- CurrentFarms.units(II)I [0]
abbrev y_CF_units_0 : MethodName := ⟨"CurrentFarms", "units", "(II)I"⟩
abbrev cX11_units : ByteArray := prog_1_method_28_code
theorem dX11_units_0 : decode cX11_units 0 = .ok (.aload_n 0, 1) := by decide +kernel
theorem dX11_units_1 : decode cX11_units 1 = .ok (.iload_n 1, 1) := by decide +kernel
theorem dX11_units_2 : decode cX11_units 2 = .ok (.invokevirtual 126, 3) := by decide +kernel
theorem dX11_units_5 : decode cX11_units 5 = .ok (.ifCond .eq 11, 3) := by decide +kernel
theorem dX11_units_8 : decode cX11_units 8 = .ok (.aload_n 0, 1) := by decide +kernel
theorem dX11_units_9 : decode cX11_units 9 = .ok (.iload_n 2, 1) := by decide +kernel
theorem dX11_units_10 : decode cX11_units 10 = .ok (.invokevirtual 129, 3) := by decide +kernel
theorem dX11_units_13 : decode cX11_units 13 = .ok (.ifCond .ne 5, 3) := by decide +kernel
theorem dX11_units_16 : decode cX11_units 16 = .ok (.iconst (-1), 1) := by decide +kernel
theorem dX11_units_17 : decode cX11_units 17 = .ok (.ireturn, 1) := by decide +kernel
theorem dX11_units_18 : decode cX11_units 18 = .ok (.aload_n 0, 1) := by decide +kernel
theorem dX11_units_19 : decode cX11_units 19 = .ok (.getfield 37, 3) := by decide +kernel
theorem dX11_units_22 : decode cX11_units 22 = .ok (.iload_n 1, 1) := by decide +kernel
theorem dX11_units_23 : decode cX11_units 23 = .ok (.iload_n 2, 1) := by decide +kernel
theorem dX11_units_24 : decode cX11_units 24 = .ok (.invokevirtual 286, 3) := by decide +kernel
theorem dX11_units_27 : decode cX11_units 27 = .ok (.aload_n 0, 1) := by decide +kernel
theorem dX11_units_28 : decode cX11_units 28 = .ok (.getfield 37, 3) := by decide +kernel
theorem dX11_units_31 : decode cX11_units 31 = .ok (.getfield 289, 3) := by decide +kernel
theorem dX11_units_34 : decode cX11_units 34 = .ok (.ireturn, 1) := by decide +kernel
theorem hd_CF_units_0 : y_CF_units_0.cls ≠ "java/lang/invoke/MethodHandle" ∧ y_CF_units_0.cls ≠ "java/lang/invoke/VarHandle" ∧ (parseMethodDescriptor y_CF_units_0.desc).map (fun d => d.parameters.length) = some 2 := by decide +kernel
def f_CF_units_0 (a1 : Int32) (a2 : Int32) (M0 : Mem) : Option (Int32 × Mem) :=
  (f_CF_isFarm_0 a1 M0).bind fun q1 => if q1 then ((f_CF_isPast_0 a2 M0).bind fun q3 => if q3 then ((f_Account_walk_79 a1 a2 M0).bind fun q5 => some (q5.1 79 2, q5)) else (some ((-1), M0))) else (some ((-1), M0))
set_option maxHeartbeats 4000000 in
set_option maxRecDepth 20000 in
theorem C_CF_units_0 {D : va_G} {ad adK adV : Nat → Nat} {cI cJ : ClassId} {l : Launch} (a1 : Int32) (a2 : Int32) (M0 : Mem) (o : Int32 × Mem) (h : f_CF_units_0 a1 a2 M0 = some o) : Ct D ad adK adV cI cJ l y_CF_units_0 cX11_units 3 (some .int) 5 129 [.ref (ad 0), .int a1, .int a2] M0 (some (.int o.1)) o.2 := by
  refine x_start (lv := [(0, .ref (ad 0)), (1, .int a1), (2, .int a2)]) (own := "CurrentFarms") rfl (by decide) (Nat.le_of_ble_eq_true rfl) rfl ?_
  intro p e s m args below meth c Q hQ B
  unfold f_CF_units_0 at h
  refine x_aload_n (pc := 0) B 0 dX11_units_0 rfl rfl ?_
  refine x_iload_n (pc := 1) B 1 dX11_units_1 rfl rfl ?_
  obtain ⟨q1, hq1, h⟩ := bnd h
  refine x_callV (rest := []) (st' := [.int (bI q1)]) (pc := 2) B oi_0 rfl (C_CF_isFarm_0 a1 M0 _ hq1) tw_638 tw_635 tw_637 tw_2 tw_98 hd_CF_isFarm_0 ⟨Nat.le_of_ble_eq_true rfl, Nat.le_of_ble_eq_true rfl⟩ rfl rfl (Nat.le_of_ble_eq_true rfl) rfl dX11_units_2 ?_
  refine x_if_eq_b (tgt := 16) (pc := 5) B dX11_units_5 rfl (fun hc2 => ?_) (fun hc2 => ?_)
  · have h := iff_ hc2 h
    refine x_iconst (v := (-1)) (pc := 16) B dX11_units_16 rfl ?_
    obtain rfl := Option.some.inj h
    exact x_iret (pc := 17) B hQ dX11_units_17
  · have h := ift hc2 h
    refine x_aload_n (pc := 8) B 0 dX11_units_8 rfl rfl ?_
    refine x_iload_n (pc := 9) B 2 dX11_units_9 rfl rfl ?_
    obtain ⟨q3, hq3, h⟩ := bnd h
    refine x_callV (rest := []) (st' := [.int (bI q3)]) (pc := 10) B oi_0 rfl (C_CF_isPast_0 a2 M0 _ hq3) tw_642 tw_639 tw_641 tw_3 tw_98 hd_CF_isPast_0 ⟨Nat.le_of_ble_eq_true rfl, Nat.le_of_ble_eq_true rfl⟩ rfl rfl (Nat.le_of_ble_eq_true rfl) rfl dX11_units_10 ?_
    refine x_if_ne_b (tgt := 18) (pc := 13) B dX11_units_13 rfl (fun hc4 => ?_) (fun hc4 => ?_)
    · have h := ift hc4 h
      refine x_aload_n (pc := 18) B 0 dX11_units_18 rfl rfl ?_
      refine x_get (T := TX11) (pc := 19) B 4 oi_0 rfl uw_11 (by decide) rfl tw_529 rfl dX11_units_19 ?_
      refine x_iload_n (pc := 22) B 1 dX11_units_22 rfl rfl ?_
      refine x_iload_n (pc := 23) B 2 dX11_units_23 rfl rfl ?_
      obtain ⟨q5, hq5, h⟩ := bnd h
      refine x_callV (rest := []) (st' := []) (pc := 24) B oi_79 rfl (C_Account_walk_79 a1 a2 M0 _ hq5) tw_707 tw_704 tw_705 tw_706 tw_108 hd_Account_walk_79 ⟨Nat.le_of_ble_eq_true rfl, Nat.le_of_ble_eq_true rfl⟩ rfl rfl (Nat.le_of_ble_eq_true rfl) rfl dX11_units_24 ?_
      refine x_aload_n (pc := 27) B 0 dX11_units_27 rfl rfl ?_
      refine x_get (T := TX11) (pc := 28) B 4 oi_0 rfl uw_11 (by decide) rfl tw_529 rfl dX11_units_28 ?_
      refine x_get (T := TX0) (pc := 31) B 2 oi_79 rfl uw_0 (by decide) rfl tw_431 rfl dX11_units_31 ?_
      obtain rfl := Option.some.inj h
      exact x_iret (pc := 34) B hQ dX11_units_34
    · have h := iff_ hc4 h
      refine x_iconst (v := (-1)) (pc := 16) B dX11_units_16 rfl ?_
      obtain rfl := Option.some.inj h
      exact x_iret (pc := 17) B hQ dX11_units_17
-- CurrentFarms.bill(II)I [0]
abbrev y_CF_bill_0 : MethodName := ⟨"CurrentFarms", "bill", "(II)I"⟩
abbrev cX11_bill : ByteArray := prog_1_method_29_code
theorem dX11_bill_0 : decode cX11_bill 0 = .ok (.aload_n 0, 1) := by decide +kernel
theorem dX11_bill_1 : decode cX11_bill 1 = .ok (.iload_n 1, 1) := by decide +kernel
theorem dX11_bill_2 : decode cX11_bill 2 = .ok (.invokevirtual 126, 3) := by decide +kernel
theorem dX11_bill_5 : decode cX11_bill 5 = .ok (.ifCond .eq 11, 3) := by decide +kernel
theorem dX11_bill_8 : decode cX11_bill 8 = .ok (.aload_n 0, 1) := by decide +kernel
theorem dX11_bill_9 : decode cX11_bill 9 = .ok (.iload_n 2, 1) := by decide +kernel
theorem dX11_bill_10 : decode cX11_bill 10 = .ok (.invokevirtual 129, 3) := by decide +kernel
theorem dX11_bill_13 : decode cX11_bill 13 = .ok (.ifCond .ne 5, 3) := by decide +kernel
theorem dX11_bill_16 : decode cX11_bill 16 = .ok (.iconst (-1), 1) := by decide +kernel
theorem dX11_bill_17 : decode cX11_bill 17 = .ok (.ireturn, 1) := by decide +kernel
theorem dX11_bill_18 : decode cX11_bill 18 = .ok (.aload_n 0, 1) := by decide +kernel
theorem dX11_bill_19 : decode cX11_bill 19 = .ok (.getfield 37, 3) := by decide +kernel
theorem dX11_bill_22 : decode cX11_bill 22 = .ok (.iload_n 1, 1) := by decide +kernel
theorem dX11_bill_23 : decode cX11_bill 23 = .ok (.iload_n 2, 1) := by decide +kernel
theorem dX11_bill_24 : decode cX11_bill 24 = .ok (.invokevirtual 286, 3) := by decide +kernel
theorem dX11_bill_27 : decode cX11_bill 27 = .ok (.aload_n 0, 1) := by decide +kernel
theorem dX11_bill_28 : decode cX11_bill 28 = .ok (.getfield 37, 3) := by decide +kernel
theorem dX11_bill_31 : decode cX11_bill 31 = .ok (.getfield 292, 3) := by decide +kernel
theorem dX11_bill_34 : decode cX11_bill 34 = .ok (.ireturn, 1) := by decide +kernel
theorem hd_CF_bill_0 : y_CF_bill_0.cls ≠ "java/lang/invoke/MethodHandle" ∧ y_CF_bill_0.cls ≠ "java/lang/invoke/VarHandle" ∧ (parseMethodDescriptor y_CF_bill_0.desc).map (fun d => d.parameters.length) = some 2 := by decide +kernel
def f_CF_bill_0 (a1 : Int32) (a2 : Int32) (M0 : Mem) : Option (Int32 × Mem) :=
  (f_CF_isFarm_0 a1 M0).bind fun q1 => if q1 then ((f_CF_isPast_0 a2 M0).bind fun q3 => if q3 then ((f_Account_walk_79 a1 a2 M0).bind fun q5 => some (q5.1 79 3, q5)) else (some ((-1), M0))) else (some ((-1), M0))
set_option maxHeartbeats 4000000 in
set_option maxRecDepth 20000 in
theorem C_CF_bill_0 {D : va_G} {ad adK adV : Nat → Nat} {cI cJ : ClassId} {l : Launch} (a1 : Int32) (a2 : Int32) (M0 : Mem) (o : Int32 × Mem) (h : f_CF_bill_0 a1 a2 M0 = some o) : Ct D ad adK adV cI cJ l y_CF_bill_0 cX11_bill 3 (some .int) 5 129 [.ref (ad 0), .int a1, .int a2] M0 (some (.int o.1)) o.2 := by
  refine x_start (lv := [(0, .ref (ad 0)), (1, .int a1), (2, .int a2)]) (own := "CurrentFarms") rfl (by decide) (Nat.le_of_ble_eq_true rfl) rfl ?_
  intro p e s m args below meth c Q hQ B
  unfold f_CF_bill_0 at h
  refine x_aload_n (pc := 0) B 0 dX11_bill_0 rfl rfl ?_
  refine x_iload_n (pc := 1) B 1 dX11_bill_1 rfl rfl ?_
  obtain ⟨q1, hq1, h⟩ := bnd h
  refine x_callV (rest := []) (st' := [.int (bI q1)]) (pc := 2) B oi_0 rfl (C_CF_isFarm_0 a1 M0 _ hq1) tw_638 tw_635 tw_637 tw_2 tw_98 hd_CF_isFarm_0 ⟨Nat.le_of_ble_eq_true rfl, Nat.le_of_ble_eq_true rfl⟩ rfl rfl (Nat.le_of_ble_eq_true rfl) rfl dX11_bill_2 ?_
  refine x_if_eq_b (tgt := 16) (pc := 5) B dX11_bill_5 rfl (fun hc2 => ?_) (fun hc2 => ?_)
  · have h := iff_ hc2 h
    refine x_iconst (v := (-1)) (pc := 16) B dX11_bill_16 rfl ?_
    obtain rfl := Option.some.inj h
    exact x_iret (pc := 17) B hQ dX11_bill_17
  · have h := ift hc2 h
    refine x_aload_n (pc := 8) B 0 dX11_bill_8 rfl rfl ?_
    refine x_iload_n (pc := 9) B 2 dX11_bill_9 rfl rfl ?_
    obtain ⟨q3, hq3, h⟩ := bnd h
    refine x_callV (rest := []) (st' := [.int (bI q3)]) (pc := 10) B oi_0 rfl (C_CF_isPast_0 a2 M0 _ hq3) tw_642 tw_639 tw_641 tw_3 tw_98 hd_CF_isPast_0 ⟨Nat.le_of_ble_eq_true rfl, Nat.le_of_ble_eq_true rfl⟩ rfl rfl (Nat.le_of_ble_eq_true rfl) rfl dX11_bill_10 ?_
    refine x_if_ne_b (tgt := 18) (pc := 13) B dX11_bill_13 rfl (fun hc4 => ?_) (fun hc4 => ?_)
    · have h := ift hc4 h
      refine x_aload_n (pc := 18) B 0 dX11_bill_18 rfl rfl ?_
      refine x_get (T := TX11) (pc := 19) B 4 oi_0 rfl uw_11 (by decide) rfl tw_529 rfl dX11_bill_19 ?_
      refine x_iload_n (pc := 22) B 1 dX11_bill_22 rfl rfl ?_
      refine x_iload_n (pc := 23) B 2 dX11_bill_23 rfl rfl ?_
      obtain ⟨q5, hq5, h⟩ := bnd h
      refine x_callV (rest := []) (st' := []) (pc := 24) B oi_79 rfl (C_Account_walk_79 a1 a2 M0 _ hq5) tw_707 tw_704 tw_705 tw_706 tw_108 hd_Account_walk_79 ⟨Nat.le_of_ble_eq_true rfl, Nat.le_of_ble_eq_true rfl⟩ rfl rfl (Nat.le_of_ble_eq_true rfl) rfl dX11_bill_24 ?_
      refine x_aload_n (pc := 27) B 0 dX11_bill_27 rfl rfl ?_
      refine x_get (T := TX11) (pc := 28) B 4 oi_0 rfl uw_11 (by decide) rfl tw_529 rfl dX11_bill_28 ?_
      refine x_get (T := TX0) (pc := 31) B 3 oi_79 rfl uw_0 (by decide) rfl tw_433 rfl dX11_bill_31 ?_
      obtain rfl := Option.some.inj h
      exact x_iret (pc := 34) B hQ dX11_bill_34
    · have h := iff_ hc4 h
      refine x_iconst (v := (-1)) (pc := 16) B dX11_bill_16 rfl ?_
      obtain rfl := Option.some.inj h
      exact x_iret (pc := 17) B hQ dX11_bill_17
-- CurrentFarms.pay(III)I [0]
abbrev y_CF_pay_0 : MethodName := ⟨"CurrentFarms", "pay", "(III)I"⟩
abbrev cX11_pay : ByteArray := prog_1_method_30_code
theorem dX11_pay_0 : decode cX11_pay 0 = .ok (.aload_n 0, 1) := by decide +kernel
theorem dX11_pay_1 : decode cX11_pay 1 = .ok (.iload_n 1, 1) := by decide +kernel
theorem dX11_pay_2 : decode cX11_pay 2 = .ok (.invokevirtual 126, 3) := by decide +kernel
theorem dX11_pay_5 : decode cX11_pay 5 = .ok (.ifCond .eq 11, 3) := by decide +kernel
theorem dX11_pay_8 : decode cX11_pay 8 = .ok (.aload_n 0, 1) := by decide +kernel
theorem dX11_pay_9 : decode cX11_pay 9 = .ok (.iload_n 2, 1) := by decide +kernel
theorem dX11_pay_10 : decode cX11_pay 10 = .ok (.invokevirtual 129, 3) := by decide +kernel
theorem dX11_pay_13 : decode cX11_pay 13 = .ok (.ifCond .ne 5, 3) := by decide +kernel
theorem dX11_pay_16 : decode cX11_pay 16 = .ok (.iconst (-1), 1) := by decide +kernel
theorem dX11_pay_17 : decode cX11_pay 17 = .ok (.ireturn, 1) := by decide +kernel
theorem dX11_pay_18 : decode cX11_pay 18 = .ok (.iload_n 3, 1) := by decide +kernel
theorem dX11_pay_19 : decode cX11_pay 19 = .ok (.iconst 1, 1) := by decide +kernel
theorem dX11_pay_20 : decode cX11_pay 20 = .ok (.sipush 9999, 3) := by decide +kernel
theorem dX11_pay_23 : decode cX11_pay 23 = .ok (.invokestatic 72, 3) := by decide +kernel
theorem dX11_pay_26 : decode cX11_pay 26 = .ok (.ifCond .ne 6, 3) := by decide +kernel
theorem dX11_pay_29 : decode cX11_pay 29 = .ok (.bipush (-2), 2) := by decide +kernel
theorem dX11_pay_31 : decode cX11_pay 31 = .ok (.ireturn, 1) := by decide +kernel
theorem dX11_pay_32 : decode cX11_pay 32 = .ok (.aload_n 0, 1) := by decide +kernel
theorem dX11_pay_33 : decode cX11_pay 33 = .ok (.getfield 12, 3) := by decide +kernel
theorem dX11_pay_36 : decode cX11_pay 36 = .ok (.getfield 271, 3) := by decide +kernel
theorem dX11_pay_39 : decode cX11_pay 39 = .ok (.iload_n 1, 1) := by decide +kernel
theorem dX11_pay_40 : decode cX11_pay 40 = .ok (.iload_n 2, 1) := by decide +kernel
theorem dX11_pay_41 : decode cX11_pay 41 = .ok (.invokevirtual 295, 3) := by decide +kernel
theorem dX11_pay_44 : decode cX11_pay 44 = .ok (.iload_n 3, 1) := by decide +kernel
theorem dX11_pay_45 : decode cX11_pay 45 = .ok (.iadd, 1) := by decide +kernel
theorem dX11_pay_46 : decode cX11_pay 46 = .ok (.istore 4, 2) := by decide +kernel
theorem dX11_pay_48 : decode cX11_pay 48 = .ok (.aload_n 0, 1) := by decide +kernel
theorem dX11_pay_49 : decode cX11_pay 49 = .ok (.getfield 12, 3) := by decide +kernel
theorem dX11_pay_52 : decode cX11_pay 52 = .ok (.getfield 271, 3) := by decide +kernel
theorem dX11_pay_55 : decode cX11_pay 55 = .ok (.getfield 298, 3) := by decide +kernel
theorem dX11_pay_58 : decode cX11_pay 58 = .ok (.iload_n 1, 1) := by decide +kernel
theorem dX11_pay_59 : decode cX11_pay 59 = .ok (.iload_n 2, 1) := by decide +kernel
theorem dX11_pay_60 : decode cX11_pay 60 = .ok (.invokestatic 283, 3) := by decide +kernel
theorem dX11_pay_63 : decode cX11_pay 63 = .ok (.iload 4, 2) := by decide +kernel
theorem dX11_pay_65 : decode cX11_pay 65 = .ok (.invokestatic 92, 3) := by decide +kernel
theorem dX11_pay_68 : decode cX11_pay 68 = .ok (.iload 4, 2) := by decide +kernel
theorem dX11_pay_70 : decode cX11_pay 70 = .ok (.ireturn, 1) := by decide +kernel
theorem hd_CF_pay_0 : y_CF_pay_0.cls ≠ "java/lang/invoke/MethodHandle" ∧ y_CF_pay_0.cls ≠ "java/lang/invoke/VarHandle" ∧ (parseMethodDescriptor y_CF_pay_0.desc).map (fun d => d.parameters.length) = some 3 := by decide +kernel
def f_CF_pay_0 (a1 : Int32) (a2 : Int32) (a3 : Int32) (M0 : Mem) : Option (Int32 × Mem) :=
  (f_CF_isFarm_0 a1 M0).bind fun q1 => if q1 then ((f_CF_isPast_0 a2 M0).bind fun q3 => if q3 then (if wthn a3 1 9999 then ((f_Coins_paidOf_36 a1 a2 M0).bind fun q6 => jv_ (putv M0 38 1210 (slt a1 a2) (q6 + a3)) fun M7 => some (q6 + a3, M7)) else (some ((-2), M0))) else (some ((-1), M0))) else (some ((-1), M0))
set_option maxHeartbeats 4000000 in
set_option maxRecDepth 20000 in
theorem C_CF_pay_0 {D : va_G} {ad adK adV : Nat → Nat} {cI cJ : ClassId} {l : Launch} (a1 : Int32) (a2 : Int32) (a3 : Int32) (M0 : Mem) (o : Int32 × Mem) (h : f_CF_pay_0 a1 a2 a3 M0 = some o) : Ct D ad adK adV cI cJ l y_CF_pay_0 cX11_pay 5 (some .int) 2 44 [.ref (ad 0), .int a1, .int a2, .int a3] M0 (some (.int o.1)) o.2 := by
  refine x_start (lv := [(0, .ref (ad 0)), (1, .int a1), (2, .int a2), (3, .int a3)]) (own := "CurrentFarms") rfl (by decide) (Nat.le_of_ble_eq_true rfl) rfl ?_
  intro p e s m args below meth c Q hQ B
  unfold f_CF_pay_0 at h
  refine x_aload_n (pc := 0) B 0 dX11_pay_0 rfl rfl ?_
  refine x_iload_n (pc := 1) B 1 dX11_pay_1 rfl rfl ?_
  obtain ⟨q1, hq1, h⟩ := bnd h
  refine x_callV (rest := []) (st' := [.int (bI q1)]) (pc := 2) B oi_0 rfl (C_CF_isFarm_0 a1 M0 _ hq1) tw_638 tw_635 tw_637 tw_2 tw_98 hd_CF_isFarm_0 ⟨Nat.le_of_ble_eq_true rfl, Nat.le_of_ble_eq_true rfl⟩ rfl rfl (Nat.le_of_ble_eq_true rfl) rfl dX11_pay_2 ?_
  refine x_if_eq_b (tgt := 16) (pc := 5) B dX11_pay_5 rfl (fun hc2 => ?_) (fun hc2 => ?_)
  · have h := iff_ hc2 h
    refine x_iconst (v := (-1)) (pc := 16) B dX11_pay_16 rfl ?_
    obtain rfl := Option.some.inj h
    exact x_iret (pc := 17) B hQ dX11_pay_17
  · have h := ift hc2 h
    refine x_aload_n (pc := 8) B 0 dX11_pay_8 rfl rfl ?_
    refine x_iload_n (pc := 9) B 2 dX11_pay_9 rfl rfl ?_
    obtain ⟨q3, hq3, h⟩ := bnd h
    refine x_callV (rest := []) (st' := [.int (bI q3)]) (pc := 10) B oi_0 rfl (C_CF_isPast_0 a2 M0 _ hq3) tw_642 tw_639 tw_641 tw_3 tw_98 hd_CF_isPast_0 ⟨Nat.le_of_ble_eq_true rfl, Nat.le_of_ble_eq_true rfl⟩ rfl rfl (Nat.le_of_ble_eq_true rfl) rfl dX11_pay_10 ?_
    refine x_if_ne_b (tgt := 18) (pc := 13) B dX11_pay_13 rfl (fun hc4 => ?_) (fun hc4 => ?_)
    · have h := ift hc4 h
      refine x_iload_n (pc := 18) B 3 dX11_pay_18 rfl rfl ?_
      refine x_iconst (v := 1) (pc := 19) B dX11_pay_19 rfl ?_
      refine x_sipush (v := 9999) (pc := 20) B dX11_pay_20 rfl ?_
      refine x_callS (rest := []) (st' := [.int (bI (wthn a3 1 9999))]) (pc := 23) B (T_CF_within a3 1 9999 M0) tw_559 tw_557 tw_558 tw_98 hd_CF_within ⟨Nat.le_of_ble_eq_true rfl, Nat.le_of_ble_eq_true rfl⟩ rfl rfl (Nat.le_of_ble_eq_true rfl) rfl dX11_pay_23 ?_
      refine x_if_ne_b (tgt := 32) (pc := 26) B dX11_pay_26 rfl (fun hc5 => ?_) (fun hc5 => ?_)
      · have h := ift hc5 h
        refine x_aload_n (pc := 32) B 0 dX11_pay_32 rfl rfl ?_
        refine x_get (T := TX11) (pc := 33) B 0 oi_0 rfl uw_11 (by decide) rfl tw_525 rfl dX11_pay_33 ?_
        refine x_get (T := TX8) (pc := 36) B 5 oi_1 rfl uw_8 (by decide) rfl tw_380 rfl dX11_pay_36 ?_
        refine x_iload_n (pc := 39) B 1 dX11_pay_39 rfl rfl ?_
        refine x_iload_n (pc := 40) B 2 dX11_pay_40 rfl rfl ?_
        obtain ⟨q6, hq6, h⟩ := bnd h
        refine x_callV (rest := []) (st' := [.int q6]) (pc := 41) B oi_36 rfl (C_Coins_paidOf_36 a1 a2 M0 _ hq6) tw_767 tw_1129 tw_765 tw_766 tw_106 hd_Coins_paidOf_36 ⟨Nat.le_of_ble_eq_true rfl, Nat.le_of_ble_eq_true rfl⟩ rfl rfl (Nat.le_of_ble_eq_true rfl) rfl dX11_pay_41 ?_
        refine x_iload_n (pc := 44) B 3 dX11_pay_44 rfl rfl ?_
        refine x_iadd (pc := 45) B dX11_pay_45 ?_
        refine x_istore (lv' := [(4, .int (q6 + a3)), (0, .ref (ad 0)), (1, .int a1), (2, .int a2), (3, .int a3)]) (pc := 46) B dX11_pay_46 (by decide) rfl ?_
        refine x_aload_n (pc := 48) B 1 dX11_pay_48 rfl rfl ?_
        refine x_get (T := TX11) (pc := 49) B 0 oi_0 rfl uw_11 (by decide) rfl tw_525 rfl dX11_pay_49 ?_
        refine x_get (T := TX8) (pc := 52) B 5 oi_1 rfl uw_8 (by decide) rfl tw_380 rfl dX11_pay_52 ?_
        refine x_get (T := TX3) (pc := 55) B 1 oi_36 rfl uw_3 (by decide) rfl tw_336 rfl dX11_pay_55 ?_
        refine x_iload_n (pc := 58) B 2 dX11_pay_58 rfl rfl ?_
        refine x_iload_n (pc := 59) B 3 dX11_pay_59 rfl rfl ?_
        refine x_callS (rest := [.ref (ad 38)]) (st' := [.int (slt a1 a2), .ref (ad 38)]) (pc := 60) B (T_CF_slot a1 a2 M0) tw_728 tw_1116 tw_727 tw_98 hd_CF_slot ⟨Nat.le_of_ble_eq_true rfl, Nat.le_of_ble_eq_true rfl⟩ rfl rfl (Nat.le_of_ble_eq_true rfl) rfl dX11_pay_60 ?_
        refine x_iload (pc := 63) B 0 dX11_pay_63 rfl ?_
        refine x_callS (rest := []) (st' := []) (pc := 65) B (T_CF_put 38 1210 (slt a1 a2) (q6 + a3) ai_38 (by decide) M0) tw_588 tw_586 tw_587 tw_98 hd_CF_put ⟨Nat.le_of_ble_eq_true rfl, Nat.le_of_ble_eq_true rfl⟩ rfl rfl (Nat.le_of_ble_eq_true rfl) rfl dX11_pay_65 ?_
        refine jv_m (P := fun M7 => XX D ad cI cJ p l e (Rm 2 44) s m args below meth c Q 5 M7 68 [(4, .int (q6 + a3)), (0, .ref (ad 0)), (1, .int a1), (2, .int a2), (3, .int a3)] []) h (fun M7 h => ?_)
        refine x_iload (pc := 68) B 0 dX11_pay_68 rfl ?_
        obtain rfl := Option.some.inj h
        exact x_iret (pc := 70) B hQ dX11_pay_70
      · have h := iff_ hc5 h
        refine x_bipush (v := (-2)) (pc := 29) B dX11_pay_29 rfl ?_
        obtain rfl := Option.some.inj h
        exact x_iret (pc := 31) B hQ dX11_pay_31
    · have h := iff_ hc4 h
      refine x_iconst (v := (-1)) (pc := 16) B dX11_pay_16 rfl ?_
      obtain rfl := Option.some.inj h
      exact x_iret (pc := 17) B hQ dX11_pay_17
-- CurrentFarms.owe(II)I [0]
abbrev y_CF_owe_0 : MethodName := ⟨"CurrentFarms", "owe", "(II)I"⟩
abbrev cX11_owe : ByteArray := prog_1_method_31_code
theorem dX11_owe_0 : decode cX11_owe 0 = .ok (.aload_n 0, 1) := by decide +kernel
theorem dX11_owe_1 : decode cX11_owe 1 = .ok (.iload_n 1, 1) := by decide +kernel
theorem dX11_owe_2 : decode cX11_owe 2 = .ok (.invokevirtual 126, 3) := by decide +kernel
theorem dX11_owe_5 : decode cX11_owe 5 = .ok (.ifCond .eq 11, 3) := by decide +kernel
theorem dX11_owe_8 : decode cX11_owe 8 = .ok (.aload_n 0, 1) := by decide +kernel
theorem dX11_owe_9 : decode cX11_owe 9 = .ok (.iload_n 2, 1) := by decide +kernel
theorem dX11_owe_10 : decode cX11_owe 10 = .ok (.invokevirtual 129, 3) := by decide +kernel
theorem dX11_owe_13 : decode cX11_owe 13 = .ok (.ifCond .ne 5, 3) := by decide +kernel
theorem dX11_owe_16 : decode cX11_owe 16 = .ok (.iconst (-1), 1) := by decide +kernel
theorem dX11_owe_17 : decode cX11_owe 17 = .ok (.ireturn, 1) := by decide +kernel
theorem dX11_owe_18 : decode cX11_owe 18 = .ok (.aload_n 0, 1) := by decide +kernel
theorem dX11_owe_19 : decode cX11_owe 19 = .ok (.getfield 37, 3) := by decide +kernel
theorem dX11_owe_22 : decode cX11_owe 22 = .ok (.iload_n 1, 1) := by decide +kernel
theorem dX11_owe_23 : decode cX11_owe 23 = .ok (.iload_n 2, 1) := by decide +kernel
theorem dX11_owe_24 : decode cX11_owe 24 = .ok (.invokevirtual 286, 3) := by decide +kernel
theorem dX11_owe_27 : decode cX11_owe 27 = .ok (.aload_n 0, 1) := by decide +kernel
theorem dX11_owe_28 : decode cX11_owe 28 = .ok (.getfield 37, 3) := by decide +kernel
theorem dX11_owe_31 : decode cX11_owe 31 = .ok (.getfield 301, 3) := by decide +kernel
theorem dX11_owe_34 : decode cX11_owe 34 = .ok (.ireturn, 1) := by decide +kernel
theorem hd_CF_owe_0 : y_CF_owe_0.cls ≠ "java/lang/invoke/MethodHandle" ∧ y_CF_owe_0.cls ≠ "java/lang/invoke/VarHandle" ∧ (parseMethodDescriptor y_CF_owe_0.desc).map (fun d => d.parameters.length) = some 2 := by decide +kernel
def f_CF_owe_0 (a1 : Int32) (a2 : Int32) (M0 : Mem) : Option (Int32 × Mem) :=
  (f_CF_isFarm_0 a1 M0).bind fun q1 => if q1 then ((f_CF_isPast_0 a2 M0).bind fun q3 => if q3 then ((f_Account_walk_79 a1 a2 M0).bind fun q5 => some (q5.1 79 4, q5)) else (some ((-1), M0))) else (some ((-1), M0))
set_option maxHeartbeats 4000000 in
set_option maxRecDepth 20000 in
theorem C_CF_owe_0 {D : va_G} {ad adK adV : Nat → Nat} {cI cJ : ClassId} {l : Launch} (a1 : Int32) (a2 : Int32) (M0 : Mem) (o : Int32 × Mem) (h : f_CF_owe_0 a1 a2 M0 = some o) : Ct D ad adK adV cI cJ l y_CF_owe_0 cX11_owe 3 (some .int) 5 129 [.ref (ad 0), .int a1, .int a2] M0 (some (.int o.1)) o.2 := by
  refine x_start (lv := [(0, .ref (ad 0)), (1, .int a1), (2, .int a2)]) (own := "CurrentFarms") rfl (by decide) (Nat.le_of_ble_eq_true rfl) rfl ?_
  intro p e s m args below meth c Q hQ B
  unfold f_CF_owe_0 at h
  refine x_aload_n (pc := 0) B 0 dX11_owe_0 rfl rfl ?_
  refine x_iload_n (pc := 1) B 1 dX11_owe_1 rfl rfl ?_
  obtain ⟨q1, hq1, h⟩ := bnd h
  refine x_callV (rest := []) (st' := [.int (bI q1)]) (pc := 2) B oi_0 rfl (C_CF_isFarm_0 a1 M0 _ hq1) tw_638 tw_635 tw_637 tw_2 tw_98 hd_CF_isFarm_0 ⟨Nat.le_of_ble_eq_true rfl, Nat.le_of_ble_eq_true rfl⟩ rfl rfl (Nat.le_of_ble_eq_true rfl) rfl dX11_owe_2 ?_
  refine x_if_eq_b (tgt := 16) (pc := 5) B dX11_owe_5 rfl (fun hc2 => ?_) (fun hc2 => ?_)
  · have h := iff_ hc2 h
    refine x_iconst (v := (-1)) (pc := 16) B dX11_owe_16 rfl ?_
    obtain rfl := Option.some.inj h
    exact x_iret (pc := 17) B hQ dX11_owe_17
  · have h := ift hc2 h
    refine x_aload_n (pc := 8) B 0 dX11_owe_8 rfl rfl ?_
    refine x_iload_n (pc := 9) B 2 dX11_owe_9 rfl rfl ?_
    obtain ⟨q3, hq3, h⟩ := bnd h
    refine x_callV (rest := []) (st' := [.int (bI q3)]) (pc := 10) B oi_0 rfl (C_CF_isPast_0 a2 M0 _ hq3) tw_642 tw_639 tw_641 tw_3 tw_98 hd_CF_isPast_0 ⟨Nat.le_of_ble_eq_true rfl, Nat.le_of_ble_eq_true rfl⟩ rfl rfl (Nat.le_of_ble_eq_true rfl) rfl dX11_owe_10 ?_
    refine x_if_ne_b (tgt := 18) (pc := 13) B dX11_owe_13 rfl (fun hc4 => ?_) (fun hc4 => ?_)
    · have h := ift hc4 h
      refine x_aload_n (pc := 18) B 0 dX11_owe_18 rfl rfl ?_
      refine x_get (T := TX11) (pc := 19) B 4 oi_0 rfl uw_11 (by decide) rfl tw_529 rfl dX11_owe_19 ?_
      refine x_iload_n (pc := 22) B 1 dX11_owe_22 rfl rfl ?_
      refine x_iload_n (pc := 23) B 2 dX11_owe_23 rfl rfl ?_
      obtain ⟨q5, hq5, h⟩ := bnd h
      refine x_callV (rest := []) (st' := []) (pc := 24) B oi_79 rfl (C_Account_walk_79 a1 a2 M0 _ hq5) tw_707 tw_704 tw_705 tw_706 tw_108 hd_Account_walk_79 ⟨Nat.le_of_ble_eq_true rfl, Nat.le_of_ble_eq_true rfl⟩ rfl rfl (Nat.le_of_ble_eq_true rfl) rfl dX11_owe_24 ?_
      refine x_aload_n (pc := 27) B 0 dX11_owe_27 rfl rfl ?_
      refine x_get (T := TX11) (pc := 28) B 4 oi_0 rfl uw_11 (by decide) rfl tw_529 rfl dX11_owe_28 ?_
      refine x_get (T := TX0) (pc := 31) B 4 oi_79 rfl uw_0 (by decide) rfl tw_435 rfl dX11_owe_31 ?_
      obtain rfl := Option.some.inj h
      exact x_iret (pc := 34) B hQ dX11_owe_34
    · have h := iff_ hc4 h
      refine x_iconst (v := (-1)) (pc := 16) B dX11_owe_16 rfl ?_
      obtain rfl := Option.some.inj h
      exact x_iret (pc := 17) B hQ dX11_owe_17
-- CurrentFarms$Coins.lend(IIIII)V [36]
abbrev y_Coins_lend_36 : MethodName := ⟨"CurrentFarms$Coins", "lend", "(IIIII)V"⟩
abbrev cX3_lend : ByteArray := prog_5_method_5_code
theorem dX3_lend_0 : decode cX3_lend 0 = .ok (.aload_n 0, 1) := by decide +kernel
theorem dX3_lend_1 : decode cX3_lend 1 = .ok (.iload_n 1, 1) := by decide +kernel
theorem dX3_lend_2 : decode cX3_lend 2 = .ok (.putfield 28, 3) := by decide +kernel
theorem dX3_lend_5 : decode cX3_lend 5 = .ok (.aload_n 0, 1) := by decide +kernel
theorem dX3_lend_6 : decode cX3_lend 6 = .ok (.iload_n 2, 1) := by decide +kernel
theorem dX3_lend_7 : decode cX3_lend 7 = .ok (.putfield 32, 3) := by decide +kernel
theorem dX3_lend_10 : decode cX3_lend 10 = .ok (.aload_n 0, 1) := by decide +kernel
theorem dX3_lend_11 : decode cX3_lend 11 = .ok (.iload_n 3, 1) := by decide +kernel
theorem dX3_lend_12 : decode cX3_lend 12 = .ok (.putfield 35, 3) := by decide +kernel
theorem dX3_lend_15 : decode cX3_lend 15 = .ok (.aload_n 0, 1) := by decide +kernel
theorem dX3_lend_16 : decode cX3_lend 16 = .ok (.iload 4, 2) := by decide +kernel
theorem dX3_lend_18 : decode cX3_lend 18 = .ok (.putfield 38, 3) := by decide +kernel
theorem dX3_lend_21 : decode cX3_lend 21 = .ok (.aload_n 0, 1) := by decide +kernel
theorem dX3_lend_22 : decode cX3_lend 22 = .ok (.iload 5, 2) := by decide +kernel
theorem dX3_lend_24 : decode cX3_lend 24 = .ok (.putfield 41, 3) := by decide +kernel
theorem dX3_lend_27 : decode cX3_lend 27 = .ok (.return_, 1) := by decide +kernel
theorem hd_Coins_lend_36 : y_Coins_lend_36.cls ≠ "java/lang/invoke/MethodHandle" ∧ y_Coins_lend_36.cls ≠ "java/lang/invoke/VarHandle" ∧ (parseMethodDescriptor y_Coins_lend_36.desc).map (fun d => d.parameters.length) = some 5 := by decide +kernel
def f_Coins_lend_36 (a1 : Int32) (a2 : Int32) (a3 : Int32) (a4 : Int32) (a5 : Int32) (M0 : Mem) : Option (Mem) :=
  jv_ (wI M0 36 2 a1) fun M1 => jv_ (wI M1 36 3 a2) fun M2 => jv_ (wI M2 36 4 a3) fun M3 => jv_ (wI M3 36 5 a4) fun M4 => jv_ (wI M4 36 6 a5) fun M5 => some M5
set_option maxHeartbeats 4000000 in
set_option maxRecDepth 20000 in
theorem C_Coins_lend_36 {D : va_G} {ad adK adV : Nat → Nat} {cI cJ : ClassId} {l : Launch} (a1 : Int32) (a2 : Int32) (a3 : Int32) (a4 : Int32) (a5 : Int32) (M0 : Mem) (o : Mem) (h : f_Coins_lend_36 a1 a2 a3 a4 a5 M0 = some o) : Ct D ad adK adV cI cJ l y_Coins_lend_36 cX3_lend 6 none 0 0 [.ref (ad 36), .int a1, .int a2, .int a3, .int a4, .int a5] M0 none o := by
  refine x_start (lv := [(0, .ref (ad 36)), (1, .int a1), (2, .int a2), (3, .int a3), (4, .int a4), (5, .int a5)]) (own := "CurrentFarms$Coins") rfl (by decide) (Nat.le_of_ble_eq_true rfl) rfl ?_
  intro p e s m args below meth c Q hQ B
  unfold f_Coins_lend_36 at h
  refine x_aload_n (pc := 0) B 0 dX3_lend_0 rfl rfl ?_
  refine x_iload_n (pc := 1) B 1 dX3_lend_1 rfl rfl ?_
  refine x_put (T := TX3) (pc := 2) B 2 oi_36 of_36_2 rfl uw_3 tyX3_ok nmX3 (by decide) rfl tw_337 rfl rfl rfl (Nat.le_of_ble_eq_true rfl) dX3_lend_2 ?_
  refine jv_m (P := fun M1 => XX D ad cI cJ p l e (Rm 0 0) s m args below meth c Q 6 M1 5 [(0, .ref (ad 36)), (1, .int a1), (2, .int a2), (3, .int a3), (4, .int a4), (5, .int a5)] []) h (fun M1 h => ?_)
  refine x_aload_n (pc := 5) B 0 dX3_lend_5 rfl rfl ?_
  refine x_iload_n (pc := 6) B 2 dX3_lend_6 rfl rfl ?_
  refine x_put (T := TX3) (pc := 7) B 3 oi_36 of_36_3 rfl uw_3 tyX3_ok nmX3 (by decide) rfl tw_338 rfl rfl rfl (Nat.le_of_ble_eq_true rfl) dX3_lend_7 ?_
  refine jv_m (P := fun M2 => XX D ad cI cJ p l e (Rm 0 0) s m args below meth c Q 6 M2 10 [(0, .ref (ad 36)), (1, .int a1), (2, .int a2), (3, .int a3), (4, .int a4), (5, .int a5)] []) h (fun M2 h => ?_)
  refine x_aload_n (pc := 10) B 0 dX3_lend_10 rfl rfl ?_
  refine x_iload_n (pc := 11) B 3 dX3_lend_11 rfl rfl ?_
  refine x_put (T := TX3) (pc := 12) B 4 oi_36 of_36_4 rfl uw_3 tyX3_ok nmX3 (by decide) rfl tw_339 rfl rfl rfl (Nat.le_of_ble_eq_true rfl) dX3_lend_12 ?_
  refine jv_m (P := fun M3 => XX D ad cI cJ p l e (Rm 0 0) s m args below meth c Q 6 M3 15 [(0, .ref (ad 36)), (1, .int a1), (2, .int a2), (3, .int a3), (4, .int a4), (5, .int a5)] []) h (fun M3 h => ?_)
  refine x_aload_n (pc := 15) B 0 dX3_lend_15 rfl rfl ?_
  refine x_iload (pc := 16) B 4 dX3_lend_16 rfl ?_
  refine x_put (T := TX3) (pc := 18) B 5 oi_36 of_36_5 rfl uw_3 tyX3_ok nmX3 (by decide) rfl tw_340 rfl rfl rfl (Nat.le_of_ble_eq_true rfl) dX3_lend_18 ?_
  refine jv_m (P := fun M4 => XX D ad cI cJ p l e (Rm 0 0) s m args below meth c Q 6 M4 21 [(0, .ref (ad 36)), (1, .int a1), (2, .int a2), (3, .int a3), (4, .int a4), (5, .int a5)] []) h (fun M4 h => ?_)
  refine x_aload_n (pc := 21) B 0 dX3_lend_21 rfl rfl ?_
  refine x_iload (pc := 22) B 5 dX3_lend_22 rfl ?_
  refine x_put (T := TX3) (pc := 24) B 6 oi_36 of_36_6 rfl uw_3 tyX3_ok nmX3 (by decide) rfl tw_342 rfl rfl rfl (Nat.le_of_ble_eq_true rfl) dX3_lend_24 ?_
  refine jv_m (P := fun M5 => XX D ad cI cJ p l e (Rm 0 0) s m args below meth c Q 6 M5 27 [(0, .ref (ad 36)), (1, .int a1), (2, .int a2), (3, .int a3), (4, .int a4), (5, .int a5)] []) h (fun M5 h => ?_)
  obtain rfl := Option.some.inj h
  exact x_vret (pc := 27) B hQ dX3_lend_27
-- CurrentFarms.loan(IIIII)I [0]
abbrev y_CF_loan_0 : MethodName := ⟨"CurrentFarms", "loan", "(IIIII)I"⟩
abbrev cX11_loan : ByteArray := prog_1_method_32_code
theorem dX11_loan_0 : decode cX11_loan 0 = .ok (.iload_n 1, 1) := by decide +kernel
theorem dX11_loan_1 : decode cX11_loan 1 = .ok (.iconst 0, 1) := by decide +kernel
theorem dX11_loan_2 : decode cX11_loan 2 = .ok (.ldc_w 304, 3) := by decide +kernel
theorem dX11_loan_5 : decode cX11_loan 5 = .ok (.invokestatic 72, 3) := by decide +kernel
theorem dX11_loan_8 : decode cX11_loan 8 = .ok (.ifCond .eq 13, 3) := by decide +kernel
theorem dX11_loan_11 : decode cX11_loan 11 = .ok (.iload_n 2, 1) := by decide +kernel
theorem dX11_loan_12 : decode cX11_loan 12 = .ok (.iconst 0, 1) := by decide +kernel
theorem dX11_loan_13 : decode cX11_loan 13 = .ok (.bipush 120, 2) := by decide +kernel
theorem dX11_loan_15 : decode cX11_loan 15 = .ok (.invokestatic 72, 3) := by decide +kernel
theorem dX11_loan_18 : decode cX11_loan 18 = .ok (.ifCond .ne 6, 3) := by decide +kernel
theorem dX11_loan_21 : decode cX11_loan 21 = .ok (.bipush (-2), 2) := by decide +kernel
theorem dX11_loan_23 : decode cX11_loan 23 = .ok (.ireturn, 1) := by decide +kernel
theorem dX11_loan_24 : decode cX11_loan 24 = .ok (.iload_n 3, 1) := by decide +kernel
theorem dX11_loan_25 : decode cX11_loan 25 = .ok (.iconst 0, 1) := by decide +kernel
theorem dX11_loan_26 : decode cX11_loan 26 = .ok (.bipush 20, 2) := by decide +kernel
theorem dX11_loan_28 : decode cX11_loan 28 = .ok (.invokestatic 72, 3) := by decide +kernel
theorem dX11_loan_31 : decode cX11_loan 31 = .ok (.ifCond .eq 26, 3) := by decide +kernel
theorem dX11_loan_34 : decode cX11_loan 34 = .ok (.iload 4, 2) := by decide +kernel
theorem dX11_loan_36 : decode cX11_loan 36 = .ok (.iconst 1, 1) := by decide +kernel
theorem dX11_loan_37 : decode cX11_loan 37 = .ok (.bipush 60, 2) := by decide +kernel
theorem dX11_loan_39 : decode cX11_loan 39 = .ok (.invokestatic 72, 3) := by decide +kernel
theorem dX11_loan_42 : decode cX11_loan 42 = .ok (.ifCond .eq 15, 3) := by decide +kernel
theorem dX11_loan_45 : decode cX11_loan 45 = .ok (.iload 5, 2) := by decide +kernel
theorem dX11_loan_47 : decode cX11_loan 47 = .ok (.iconst 0, 1) := by decide +kernel
theorem dX11_loan_48 : decode cX11_loan 48 = .ok (.ldc_w 304, 3) := by decide +kernel
theorem dX11_loan_51 : decode cX11_loan 51 = .ok (.invokestatic 72, 3) := by decide +kernel
theorem dX11_loan_54 : decode cX11_loan 54 = .ok (.ifCond .ne 6, 3) := by decide +kernel
theorem dX11_loan_57 : decode cX11_loan 57 = .ok (.bipush (-2), 2) := by decide +kernel
theorem dX11_loan_59 : decode cX11_loan 59 = .ok (.ireturn, 1) := by decide +kernel
theorem dX11_loan_60 : decode cX11_loan 60 = .ok (.aload_n 0, 1) := by decide +kernel
theorem dX11_loan_61 : decode cX11_loan 61 = .ok (.getfield 12, 3) := by decide +kernel
theorem dX11_loan_64 : decode cX11_loan 64 = .ok (.getfield 271, 3) := by decide +kernel
theorem dX11_loan_67 : decode cX11_loan 67 = .ok (.iload_n 1, 1) := by decide +kernel
theorem dX11_loan_68 : decode cX11_loan 68 = .ok (.iload_n 2, 1) := by decide +kernel
theorem dX11_loan_69 : decode cX11_loan 69 = .ok (.iload_n 3, 1) := by decide +kernel
theorem dX11_loan_70 : decode cX11_loan 70 = .ok (.iload 4, 2) := by decide +kernel
theorem dX11_loan_72 : decode cX11_loan 72 = .ok (.iload 5, 2) := by decide +kernel
theorem dX11_loan_74 : decode cX11_loan 74 = .ok (.invokevirtual 305, 3) := by decide +kernel
theorem dX11_loan_77 : decode cX11_loan 77 = .ok (.iconst 1, 1) := by decide +kernel
theorem dX11_loan_78 : decode cX11_loan 78 = .ok (.ireturn, 1) := by decide +kernel
theorem hd_CF_loan_0 : y_CF_loan_0.cls ≠ "java/lang/invoke/MethodHandle" ∧ y_CF_loan_0.cls ≠ "java/lang/invoke/VarHandle" ∧ (parseMethodDescriptor y_CF_loan_0.desc).map (fun d => d.parameters.length) = some 5 := by decide +kernel
def f_CF_loan_0 (a1 : Int32) (a2 : Int32) (a3 : Int32) (a4 : Int32) (a5 : Int32) (M0 : Mem) : Option (Int32 × Mem) :=
  if wthn a1 0 99999 then (if wthn a2 0 120 then (if wthn a3 0 20 then (if wthn a4 1 60 then (if wthn a5 0 99999 then ((f_Coins_lend_36 a1 a2 a3 a4 a5 M0).bind fun q6 => some (1, q6)) else (some ((-2), M0))) else (some ((-2), M0))) else (some ((-2), M0))) else (some ((-2), M0))) else (some ((-2), M0))
set_option maxHeartbeats 4000000 in
set_option maxRecDepth 20000 in
theorem C_CF_loan_0 {D : va_G} {ad adK adV : Nat → Nat} {cI cJ : ClassId} {l : Launch} (a1 : Int32) (a2 : Int32) (a3 : Int32) (a4 : Int32) (a5 : Int32) (M0 : Mem) (o : Int32 × Mem) (h : f_CF_loan_0 a1 a2 a3 a4 a5 M0 = some o) : Ct D ad adK adV cI cJ l y_CF_loan_0 cX11_loan 6 (some .int) 1 25 [.ref (ad 0), .int a1, .int a2, .int a3, .int a4, .int a5] M0 (some (.int o.1)) o.2 := by
  refine x_start (lv := [(0, .ref (ad 0)), (1, .int a1), (2, .int a2), (3, .int a3), (4, .int a4), (5, .int a5)]) (own := "CurrentFarms") rfl (by decide) (Nat.le_of_ble_eq_true rfl) rfl ?_
  intro p e s m args below meth c Q hQ B
  unfold f_CF_loan_0 at h
  refine x_iload_n (pc := 0) B 1 dX11_loan_0 rfl rfl ?_
  refine x_iconst (v := 0) (pc := 1) B dX11_loan_1 rfl ?_
  refine x_ldcw (v := 99999) (pc := 2) B tw_1138 dX11_loan_2 ?_
  refine x_callS (rest := []) (st' := [.int (bI (wthn a1 0 99999))]) (pc := 5) B (T_CF_within a1 0 99999 M0) tw_559 tw_557 tw_558 tw_98 hd_CF_within ⟨Nat.le_of_ble_eq_true rfl, Nat.le_of_ble_eq_true rfl⟩ rfl rfl (Nat.le_of_ble_eq_true rfl) rfl dX11_loan_5 ?_
  refine x_if_eq_b (tgt := 21) (pc := 8) B dX11_loan_8 rfl (fun hc1 => ?_) (fun hc1 => ?_)
  · have h := iff_ hc1 h
    refine x_bipush (v := (-2)) (pc := 21) B dX11_loan_21 rfl ?_
    obtain rfl := Option.some.inj h
    exact x_iret (pc := 23) B hQ dX11_loan_23
  · have h := ift hc1 h
    refine x_iload_n (pc := 11) B 2 dX11_loan_11 rfl rfl ?_
    refine x_iconst (v := 0) (pc := 12) B dX11_loan_12 rfl ?_
    refine x_bipush (v := 120) (pc := 13) B dX11_loan_13 rfl ?_
    refine x_callS (rest := []) (st' := [.int (bI (wthn a2 0 120))]) (pc := 15) B (T_CF_within a2 0 120 M0) tw_559 tw_557 tw_558 tw_98 hd_CF_within ⟨Nat.le_of_ble_eq_true rfl, Nat.le_of_ble_eq_true rfl⟩ rfl rfl (Nat.le_of_ble_eq_true rfl) rfl dX11_loan_15 ?_
    refine x_if_ne_b (tgt := 24) (pc := 18) B dX11_loan_18 rfl (fun hc2 => ?_) (fun hc2 => ?_)
    · have h := ift hc2 h
      refine x_iload_n (pc := 24) B 3 dX11_loan_24 rfl rfl ?_
      refine x_iconst (v := 0) (pc := 25) B dX11_loan_25 rfl ?_
      refine x_bipush (v := 20) (pc := 26) B dX11_loan_26 rfl ?_
      refine x_callS (rest := []) (st' := [.int (bI (wthn a3 0 20))]) (pc := 28) B (T_CF_within a3 0 20 M0) tw_559 tw_557 tw_558 tw_98 hd_CF_within ⟨Nat.le_of_ble_eq_true rfl, Nat.le_of_ble_eq_true rfl⟩ rfl rfl (Nat.le_of_ble_eq_true rfl) rfl dX11_loan_28 ?_
      refine x_if_eq_b (tgt := 57) (pc := 31) B dX11_loan_31 rfl (fun hc3 => ?_) (fun hc3 => ?_)
      · have h := iff_ hc3 h
        refine x_bipush (v := (-2)) (pc := 57) B dX11_loan_57 rfl ?_
        obtain rfl := Option.some.inj h
        exact x_iret (pc := 59) B hQ dX11_loan_59
      · have h := ift hc3 h
        refine x_iload (pc := 34) B 4 dX11_loan_34 rfl ?_
        refine x_iconst (v := 1) (pc := 36) B dX11_loan_36 rfl ?_
        refine x_bipush (v := 60) (pc := 37) B dX11_loan_37 rfl ?_
        refine x_callS (rest := []) (st' := [.int (bI (wthn a4 1 60))]) (pc := 39) B (T_CF_within a4 1 60 M0) tw_559 tw_557 tw_558 tw_98 hd_CF_within ⟨Nat.le_of_ble_eq_true rfl, Nat.le_of_ble_eq_true rfl⟩ rfl rfl (Nat.le_of_ble_eq_true rfl) rfl dX11_loan_39 ?_
        refine x_if_eq_b (tgt := 57) (pc := 42) B dX11_loan_42 rfl (fun hc4 => ?_) (fun hc4 => ?_)
        · have h := iff_ hc4 h
          refine x_bipush (v := (-2)) (pc := 57) B dX11_loan_57 rfl ?_
          obtain rfl := Option.some.inj h
          exact x_iret (pc := 59) B hQ dX11_loan_59
        · have h := ift hc4 h
          refine x_iload (pc := 45) B 5 dX11_loan_45 rfl ?_
          refine x_iconst (v := 0) (pc := 47) B dX11_loan_47 rfl ?_
          refine x_ldcw (v := 99999) (pc := 48) B tw_1138 dX11_loan_48 ?_
          refine x_callS (rest := []) (st' := [.int (bI (wthn a5 0 99999))]) (pc := 51) B (T_CF_within a5 0 99999 M0) tw_559 tw_557 tw_558 tw_98 hd_CF_within ⟨Nat.le_of_ble_eq_true rfl, Nat.le_of_ble_eq_true rfl⟩ rfl rfl (Nat.le_of_ble_eq_true rfl) rfl dX11_loan_51 ?_
          refine x_if_ne_b (tgt := 60) (pc := 54) B dX11_loan_54 rfl (fun hc5 => ?_) (fun hc5 => ?_)
          · have h := ift hc5 h
            refine x_aload_n (pc := 60) B 0 dX11_loan_60 rfl rfl ?_
            refine x_get (T := TX11) (pc := 61) B 0 oi_0 rfl uw_11 (by decide) rfl tw_525 rfl dX11_loan_61 ?_
            refine x_get (T := TX8) (pc := 64) B 5 oi_1 rfl uw_8 (by decide) rfl tw_380 rfl dX11_loan_64 ?_
            refine x_iload_n (pc := 67) B 1 dX11_loan_67 rfl rfl ?_
            refine x_iload_n (pc := 68) B 2 dX11_loan_68 rfl rfl ?_
            refine x_iload_n (pc := 69) B 3 dX11_loan_69 rfl rfl ?_
            refine x_iload (pc := 70) B 4 dX11_loan_70 rfl ?_
            refine x_iload (pc := 72) B 5 dX11_loan_72 rfl ?_
            obtain ⟨q6, hq6, h⟩ := bnd h
            refine x_callV (rest := []) (st' := []) (pc := 74) B oi_36 rfl (C_Coins_lend_36 a1 a2 a3 a4 a5 M0 _ hq6) tw_1142 tw_1139 tw_1140 tw_1141 tw_106 hd_Coins_lend_36 ⟨Nat.le_of_ble_eq_true rfl, Nat.le_of_ble_eq_true rfl⟩ rfl rfl (Nat.le_of_ble_eq_true rfl) rfl dX11_loan_74 ?_
            refine x_iconst (v := 1) (pc := 77) B dX11_loan_77 rfl ?_
            obtain rfl := Option.some.inj h
            exact x_iret (pc := 78) B hQ dX11_loan_78
          · have h := iff_ hc5 h
            refine x_bipush (v := (-2)) (pc := 57) B dX11_loan_57 rfl ?_
            obtain rfl := Option.some.inj h
            exact x_iret (pc := 59) B hQ dX11_loan_59
    · have h := iff_ hc2 h
      refine x_bipush (v := (-2)) (pc := 21) B dX11_loan_21 rfl ?_
      obtain rfl := Option.some.inj h
      exact x_iret (pc := 23) B hQ dX11_loan_23
-- CurrentFarms$Coins.dueIn(I)I [36]
abbrev y_Coins_dueIn_36 : MethodName := ⟨"CurrentFarms$Coins", "dueIn", "(I)I"⟩
abbrev cX3_dueIn : ByteArray := prog_5_method_6_code
theorem dX3_dueIn_0 : decode cX3_dueIn 0 = .ok (.iconst 0, 1) := by decide +kernel
theorem dX3_dueIn_1 : decode cX3_dueIn 1 = .ok (.istore_n 2, 1) := by decide +kernel
theorem dX3_dueIn_2 : decode cX3_dueIn 2 = .ok (.aload_n 0, 1) := by decide +kernel
theorem dX3_dueIn_3 : decode cX3_dueIn 3 = .ok (.getfield 28, 3) := by decide +kernel
theorem dX3_dueIn_6 : decode cX3_dueIn 6 = .ok (.istore_n 3, 1) := by decide +kernel
theorem dX3_dueIn_7 : decode cX3_dueIn 7 = .ok (.aload_n 0, 1) := by decide +kernel
theorem dX3_dueIn_8 : decode cX3_dueIn 8 = .ok (.getfield 38, 3) := by decide +kernel
theorem dX3_dueIn_11 : decode cX3_dueIn 11 = .ok (.iload_n 1, 1) := by decide +kernel
theorem dX3_dueIn_12 : decode cX3_dueIn 12 = .ok (.aload_n 0, 1) := by decide +kernel
theorem dX3_dueIn_13 : decode cX3_dueIn 13 = .ok (.getfield 32, 3) := by decide +kernel
theorem dX3_dueIn_16 : decode cX3_dueIn 16 = .ok (.isub, 1) := by decide +kernel
theorem dX3_dueIn_17 : decode cX3_dueIn 17 = .ok (.invokestatic 52, 3) := by decide +kernel
theorem dX3_dueIn_20 : decode cX3_dueIn 20 = .ok (.istore 4, 2) := by decide +kernel
theorem dX3_dueIn_22 : decode cX3_dueIn 22 = .ok (.iload_n 1, 1) := by decide +kernel
theorem dX3_dueIn_23 : decode cX3_dueIn 23 = .ok (.aload_n 0, 1) := by decide +kernel
theorem dX3_dueIn_24 : decode cX3_dueIn 24 = .ok (.getfield 32, 3) := by decide +kernel
theorem dX3_dueIn_27 : decode cX3_dueIn 27 = .ok (.isub, 1) := by decide +kernel
theorem dX3_dueIn_28 : decode cX3_dueIn 28 = .ok (.aload_n 0, 1) := by decide +kernel
theorem dX3_dueIn_29 : decode cX3_dueIn 29 = .ok (.getfield 38, 3) := by decide +kernel
theorem dX3_dueIn_32 : decode cX3_dueIn 32 = .ok (.if_icmp .le 5, 3) := by decide +kernel
theorem dX3_dueIn_35 : decode cX3_dueIn 35 = .ok (.iconst 0, 1) := by decide +kernel
theorem dX3_dueIn_36 : decode cX3_dueIn 36 = .ok (.ireturn, 1) := by decide +kernel
theorem dX3_dueIn_37 : decode cX3_dueIn 37 = .ok (.iconst 1, 1) := by decide +kernel
theorem dX3_dueIn_38 : decode cX3_dueIn 38 = .ok (.istore 5, 2) := by decide +kernel
theorem dX3_dueIn_40 : decode cX3_dueIn 40 = .ok (.iload 5, 2) := by decide +kernel
theorem dX3_dueIn_42 : decode cX3_dueIn 42 = .ok (.iload 4, 2) := by decide +kernel
theorem dX3_dueIn_44 : decode cX3_dueIn 44 = .ok (.if_icmp .gt 42, 3) := by decide +kernel
theorem dX3_dueIn_47 : decode cX3_dueIn 47 = .ok (.iload_n 3, 1) := by decide +kernel
theorem dX3_dueIn_48 : decode cX3_dueIn 48 = .ok (.aload_n 0, 1) := by decide +kernel
theorem dX3_dueIn_49 : decode cX3_dueIn 49 = .ok (.getfield 38, 3) := by decide +kernel
theorem dX3_dueIn_52 : decode cX3_dueIn 52 = .ok (.iload 5, 2) := by decide +kernel
theorem dX3_dueIn_54 : decode cX3_dueIn 54 = .ok (.isub, 1) := by decide +kernel
theorem dX3_dueIn_55 : decode cX3_dueIn 55 = .ok (.iconst 1, 1) := by decide +kernel
theorem dX3_dueIn_56 : decode cX3_dueIn 56 = .ok (.iadd, 1) := by decide +kernel
theorem dX3_dueIn_57 : decode cX3_dueIn 57 = .ok (.invokestatic 57, 3) := by decide +kernel
theorem dX3_dueIn_60 : decode cX3_dueIn 60 = .ok (.istore 6, 2) := by decide +kernel
theorem dX3_dueIn_62 : decode cX3_dueIn 62 = .ok (.iload 6, 2) := by decide +kernel
theorem dX3_dueIn_64 : decode cX3_dueIn 64 = .ok (.iload_n 3, 1) := by decide +kernel
theorem dX3_dueIn_65 : decode cX3_dueIn 65 = .ok (.aload_n 0, 1) := by decide +kernel
theorem dX3_dueIn_66 : decode cX3_dueIn 66 = .ok (.getfield 35, 3) := by decide +kernel
theorem dX3_dueIn_69 : decode cX3_dueIn 69 = .ok (.imul, 1) := by decide +kernel
theorem dX3_dueIn_70 : decode cX3_dueIn 70 = .ok (.bipush 100, 2) := by decide +kernel
theorem dX3_dueIn_72 : decode cX3_dueIn 72 = .ok (.idiv, 1) := by decide +kernel
theorem dX3_dueIn_73 : decode cX3_dueIn 73 = .ok (.iadd, 1) := by decide +kernel
theorem dX3_dueIn_74 : decode cX3_dueIn 74 = .ok (.istore_n 2, 1) := by decide +kernel
theorem dX3_dueIn_75 : decode cX3_dueIn 75 = .ok (.iload_n 3, 1) := by decide +kernel
theorem dX3_dueIn_76 : decode cX3_dueIn 76 = .ok (.iload 6, 2) := by decide +kernel
theorem dX3_dueIn_78 : decode cX3_dueIn 78 = .ok (.isub, 1) := by decide +kernel
theorem dX3_dueIn_79 : decode cX3_dueIn 79 = .ok (.istore_n 3, 1) := by decide +kernel
theorem dX3_dueIn_80 : decode cX3_dueIn 80 = .ok (.iinc 5 1, 3) := by decide +kernel
theorem dX3_dueIn_83 : decode cX3_dueIn 83 = .ok (.goto (-43), 3) := by decide +kernel
theorem dX3_dueIn_86 : decode cX3_dueIn 86 = .ok (.iload_n 2, 1) := by decide +kernel
theorem dX3_dueIn_87 : decode cX3_dueIn 87 = .ok (.ireturn, 1) := by decide +kernel
theorem hd_Coins_dueIn_36 : y_Coins_dueIn_36.cls ≠ "java/lang/invoke/MethodHandle" ∧ y_Coins_dueIn_36.cls ≠ "java/lang/invoke/VarHandle" ∧ (parseMethodDescriptor y_Coins_dueIn_36.desc).map (fun d => d.parameters.length) = some 1 := by decide +kernel
def b_Coins_dueIn_36_40 (a1 : Int32) (M0 : Mem) (y2 : Int32 × Int32 × Int32) : Option ((Int32 × Int32 × Int32) ⊕ (Int32)) :=
  if decide (y2.2.2 ≤ (jmin (M0.1 36 5) (a1 - (M0.1 36 3)))) then (jv_ ((prt y2.2.1 (((M0.1 36 5) - y2.2.2) + 1)) + ((y2.2.1 * (M0.1 36 4)) / 100) : Int32) fun x4 => some (.inl (x4, y2.2.1 - (prt y2.2.1 (((M0.1 36 5) - y2.2.2) + 1)), y2.2.2 + 1))) else (some (.inr y2.1))
def f_Coins_dueIn_36 (a1 : Int32) (M0 : Mem) : Option (Int32) :=
  if decide ((a1 - (M0.1 36 3)) ≤ (M0.1 36 5)) then ((itr (b_Coins_dueIn_36_40 a1 M0) FU (0, M0.1 36 2, 1)).bind fun q5 => some q5) else (some 0)
set_option maxHeartbeats 4000000 in
set_option maxRecDepth 20000 in
theorem C_Coins_dueIn_36 {D : va_G} {ad adK adV : Nat → Nat} {cI cJ : ClassId} {l : Launch} (a1 : Int32) (M0 : Mem) (o : Int32) (h : f_Coins_dueIn_36 a1 M0 = some o) : Ct D ad adK adV cI cJ l y_Coins_dueIn_36 cX3_dueIn 7 (some .int) 1 21 [.ref (ad 36), .int a1] M0 (some (.int o)) M0 := by
  refine x_start (lv := [(0, .ref (ad 36)), (1, .int a1)]) (own := "CurrentFarms$Coins") rfl (by decide) (Nat.le_of_ble_eq_true rfl) rfl ?_
  intro p e s m args below meth c Q hQ B
  unfold f_Coins_dueIn_36 at h
  refine x_iconst (v := 0) (pc := 0) B dX3_dueIn_0 rfl ?_
  refine x_istore_n (lv' := [(2, .int 0), (0, .ref (ad 36)), (1, .int a1)]) (pc := 1) B dX3_dueIn_1 rfl (by decide) rfl ?_
  refine x_aload_n (pc := 2) B 1 dX3_dueIn_2 rfl rfl ?_
  refine x_get (T := TX3) (pc := 3) B 2 oi_36 rfl uw_3 (by decide) rfl tw_337 rfl dX3_dueIn_3 ?_
  refine x_istore_n (lv' := [(3, .int (M0.1 36 2)), (2, .int 0), (0, .ref (ad 36)), (1, .int a1)]) (pc := 6) B dX3_dueIn_6 rfl (by decide) rfl ?_
  refine x_aload_n (pc := 7) B 2 dX3_dueIn_7 rfl rfl ?_
  refine x_get (T := TX3) (pc := 8) B 5 oi_36 rfl uw_3 (by decide) rfl tw_340 rfl dX3_dueIn_8 ?_
  refine x_iload_n (pc := 11) B 3 dX3_dueIn_11 rfl rfl ?_
  refine x_aload_n (pc := 12) B 2 dX3_dueIn_12 rfl rfl ?_
  refine x_get (T := TX3) (pc := 13) B 3 oi_36 rfl uw_3 (by decide) rfl tw_338 rfl dX3_dueIn_13 ?_
  refine x_isub (pc := 16) B dX3_dueIn_16 ?_
  refine x_mmin (pc := 17) B tw_1151 tw_753 tw_112 tw_754 (by decide) (Nat.le_of_ble_eq_true rfl) dX3_dueIn_17 ?_
  refine x_istore (lv' := [(4, .int (jmin (M0.1 36 5) (a1 - (M0.1 36 3)))), (3, .int (M0.1 36 2)), (2, .int 0), (0, .ref (ad 36)), (1, .int a1)]) (pc := 20) B dX3_dueIn_20 (by decide) rfl ?_
  refine x_iload_n (pc := 22) B 4 dX3_dueIn_22 rfl rfl ?_
  refine x_aload_n (pc := 23) B 3 dX3_dueIn_23 rfl rfl ?_
  refine x_get (T := TX3) (pc := 24) B 3 oi_36 rfl uw_3 (by decide) rfl tw_338 rfl dX3_dueIn_24 ?_
  refine x_isub (pc := 27) B dX3_dueIn_27 ?_
  refine x_aload_n (pc := 28) B 3 dX3_dueIn_28 rfl rfl ?_
  refine x_get (T := TX3) (pc := 29) B 5 oi_36 rfl uw_3 (by decide) rfl tw_340 rfl dX3_dueIn_29 ?_
  refine x_icmp_le (tgt := 37) (pc := 32) B dX3_dueIn_32 rfl (fun hc1 => ?_) (fun hc1 => ?_)
  · have h := ift hc1 h
    refine x_iconst (v := 1) (pc := 37) B dX3_dueIn_37 rfl ?_
    refine x_istore (lv' := [(5, .int 1), (4, .int (jmin (M0.1 36 5) (a1 - (M0.1 36 3)))), (3, .int (M0.1 36 2)), (2, .int 0), (0, .ref (ad 36)), (1, .int a1)]) (pc := 38) B dX3_dueIn_38 (by decide) rfl ?_
    refine x_pick (lv' := [(0, .ref (ad 36)), (2, .int 0), (3, .int (M0.1 36 2)), (4, .int (jmin (M0.1 36 5) (a1 - (M0.1 36 3)))), (5, .int 1)]) [4, 3, 2, 1, 0] rfl ?_
    obtain ⟨q5, hq5, h⟩ := bnd h
    refine x_loop (Head := fun (y2 : Int32 × Int32 × Int32) => XX D ad cI cJ p l e (Rm 1 21) s m args below meth c Q 7 M0 40 [(0, .ref (ad 36)), (2, .int y2.1), (3, .int y2.2.1), (4, .int (jmin (M0.1 36 5) (a1 - (M0.1 36 3)))), (5, .int y2.2.2)] []) (Ex := fun (q5 : Int32) => XX D ad cI cJ p l e (Rm 1 21) s m args below meth c Q 7 M0 86 [(2, .int q5)] []) (fun y2 r h hback hexit => ?_) FU _ q5 hq5 ?_
    · unfold b_Coins_dueIn_36_40 at h
      refine x_iload (pc := 40) B 4 dX3_dueIn_40 rfl ?_
      refine x_iload (pc := 42) B 3 dX3_dueIn_42 rfl ?_
      refine x_icmp_gt (tgt := 86) (pc := 44) B dX3_dueIn_44 rfl (fun hc3 => ?_) (fun hc3 => ?_)
      · have h := iff_ hc3 h
        refine x_pick (lv' := [(2, .int y2.1)]) [1] rfl ?_
        have z := hexit y2.1 (Option.some.inj h).symm
        exact z
      · have h := ift hc3 h
        refine x_iload_n (pc := 47) B 2 dX3_dueIn_47 rfl rfl ?_
        refine x_aload_n (pc := 48) B 0 dX3_dueIn_48 rfl rfl ?_
        refine x_get (T := TX3) (pc := 49) B 5 oi_36 rfl uw_3 (by decide) rfl tw_340 rfl dX3_dueIn_49 ?_
        refine x_iload (pc := 52) B 4 dX3_dueIn_52 rfl ?_
        refine x_isub (pc := 54) B dX3_dueIn_54 ?_
        refine x_iconst (v := 1) (pc := 55) B dX3_dueIn_55 rfl ?_
        refine x_iadd (pc := 56) B dX3_dueIn_56 ?_
        refine x_callSN (rest := []) (st' := [.int (prt y2.2.1 (((M0.1 36 5) - y2.2.2) + 1))]) (pc := 57) B (T_CF_parted y2.2.1 (((M0.1 36 5) - y2.2.2) + 1) M0) tw_736 tw_1152 tw_735 tw_98 hd_CF_parted ⟨Nat.le_of_ble_eq_true rfl, Nat.le_of_ble_eq_true rfl⟩ rfl rfl (Nat.le_of_ble_eq_true rfl) rfl dX3_dueIn_57 ?_
        refine x_istore (lv' := [(6, .int (prt y2.2.1 (((M0.1 36 5) - y2.2.2) + 1))), (0, .ref (ad 36)), (2, .int y2.1), (3, .int y2.2.1), (4, .int (jmin (M0.1 36 5) (a1 - (M0.1 36 3)))), (5, .int y2.2.2)]) (pc := 60) B dX3_dueIn_60 (by decide) rfl ?_
        refine x_iload (pc := 62) B 0 dX3_dueIn_62 rfl ?_
        refine x_iload_n (pc := 64) B 3 dX3_dueIn_64 rfl rfl ?_
        refine x_aload_n (pc := 65) B 1 dX3_dueIn_65 rfl rfl ?_
        refine x_get (T := TX3) (pc := 66) B 4 oi_36 rfl uw_3 (by decide) rfl tw_339 rfl dX3_dueIn_66 ?_
        refine x_imul (pc := 69) B dX3_dueIn_69 ?_
        refine x_bipush (v := 100) (pc := 70) B dX3_dueIn_70 rfl ?_
        refine x_idiv (pc := 72) B dX3_dueIn_72 (by decide) ?_
        refine x_iadd (pc := 73) B dX3_dueIn_73 ?_
        refine jv_m (P := fun (x4 : Int32) => XX D ad cI cJ p l e (Rm 1 21) s m args below meth c Q 7 M0 74 [(6, .int (prt y2.2.1 (((M0.1 36 5) - y2.2.2) + 1))), (0, .ref (ad 36)), (2, .int y2.1), (3, .int y2.2.1), (4, .int (jmin (M0.1 36 5) (a1 - (M0.1 36 3)))), (5, .int y2.2.2)] [.int x4]) h (fun x4 h => ?_)
        refine x_istore_n (lv' := [(2, .int x4), (6, .int (prt y2.2.1 (((M0.1 36 5) - y2.2.2) + 1))), (0, .ref (ad 36)), (3, .int y2.2.1), (4, .int (jmin (M0.1 36 5) (a1 - (M0.1 36 3)))), (5, .int y2.2.2)]) (pc := 74) B dX3_dueIn_74 rfl (by decide) rfl ?_
        refine x_iload_n (pc := 75) B 3 dX3_dueIn_75 rfl rfl ?_
        refine x_iload (pc := 76) B 1 dX3_dueIn_76 rfl ?_
        refine x_isub (pc := 78) B dX3_dueIn_78 ?_
        refine x_istore_n (lv' := [(3, .int (y2.2.1 - (prt y2.2.1 (((M0.1 36 5) - y2.2.2) + 1)))), (2, .int x4), (6, .int (prt y2.2.1 (((M0.1 36 5) - y2.2.2) + 1))), (0, .ref (ad 36)), (4, .int (jmin (M0.1 36 5) (a1 - (M0.1 36 3)))), (5, .int y2.2.2)]) (pc := 79) B dX3_dueIn_79 rfl (by decide) rfl ?_
        refine x_iinc (k := 5) (v := y2.2.2 + 1) (lv' := [(5, .int (y2.2.2 + 1)), (3, .int (y2.2.1 - (prt y2.2.1 (((M0.1 36 5) - y2.2.2) + 1)))), (2, .int x4), (6, .int (prt y2.2.1 (((M0.1 36 5) - y2.2.2) + 1))), (0, .ref (ad 36)), (4, .int (jmin (M0.1 36 5) (a1 - (M0.1 36 3))))]) (pc := 80) B dX3_dueIn_80 rfl rfl (by decide) rfl ?_
        refine x_goto (tgt := 40) (pc := 83) B dX3_dueIn_83 rfl ?_
        refine x_pick (lv' := [(0, .ref (ad 36)), (2, .int x4), (3, .int (y2.2.1 - (prt y2.2.1 (((M0.1 36 5) - y2.2.2) + 1)))), (4, .int (jmin (M0.1 36 5) (a1 - (M0.1 36 3)))), (5, .int (y2.2.2 + 1))]) [4, 2, 1, 5, 0] rfl ?_
        have z := hback (x4, y2.2.1 - (prt y2.2.1 (((M0.1 36 5) - y2.2.2) + 1)), y2.2.2 + 1) (Option.some.inj h).symm
        exact z
    · refine x_iload_n (pc := 86) B 0 dX3_dueIn_86 rfl rfl ?_
      obtain rfl := Option.some.inj h
      exact x_iret (pc := 87) B hQ dX3_dueIn_87
  · have h := iff_ hc1 h
    refine x_iconst (v := 0) (pc := 35) B dX3_dueIn_35 rfl ?_
    obtain rfl := Option.some.inj h
    exact x_iret (pc := 36) B hQ dX3_dueIn_36
-- CurrentFarms.due(I)I [0]
abbrev y_CF_due_0 : MethodName := ⟨"CurrentFarms", "due", "(I)I"⟩
abbrev cX11_due : ByteArray := prog_1_method_33_code
theorem dX11_due_0 : decode cX11_due 0 = .ok (.iload_n 1, 1) := by decide +kernel
theorem dX11_due_1 : decode cX11_due 1 = .ok (.iconst 0, 1) := by decide +kernel
theorem dX11_due_2 : decode cX11_due 2 = .ok (.sipush 240, 3) := by decide +kernel
theorem dX11_due_5 : decode cX11_due 5 = .ok (.invokestatic 72, 3) := by decide +kernel
theorem dX11_due_8 : decode cX11_due 8 = .ok (.ifCond .eq 17, 3) := by decide +kernel
theorem dX11_due_11 : decode cX11_due 11 = .ok (.aload_n 0, 1) := by decide +kernel
theorem dX11_due_12 : decode cX11_due 12 = .ok (.getfield 12, 3) := by decide +kernel
theorem dX11_due_15 : decode cX11_due 15 = .ok (.getfield 271, 3) := by decide +kernel
theorem dX11_due_18 : decode cX11_due 18 = .ok (.iload_n 1, 1) := by decide +kernel
theorem dX11_due_19 : decode cX11_due 19 = .ok (.invokevirtual 309, 3) := by decide +kernel
theorem dX11_due_22 : decode cX11_due 22 = .ok (.goto 4, 3) := by decide +kernel
theorem dX11_due_25 : decode cX11_due 25 = .ok (.iconst (-1), 1) := by decide +kernel
theorem dX11_due_26 : decode cX11_due 26 = .ok (.ireturn, 1) := by decide +kernel
theorem hd_CF_due_0 : y_CF_due_0.cls ≠ "java/lang/invoke/MethodHandle" ∧ y_CF_due_0.cls ≠ "java/lang/invoke/VarHandle" ∧ (parseMethodDescriptor y_CF_due_0.desc).map (fun d => d.parameters.length) = some 1 := by decide +kernel
def f_CF_due_0 (a1 : Int32) (M0 : Mem) : Option (Int32) :=
  if wthn a1 0 240 then ((f_Coins_dueIn_36 a1 M0).bind fun q2 => some q2) else (some (-1))
set_option maxHeartbeats 4000000 in
set_option maxRecDepth 20000 in
theorem C_CF_due_0 {D : va_G} {ad adK adV : Nat → Nat} {cI cJ : ClassId} {l : Launch} (a1 : Int32) (M0 : Mem) (o : Int32) (h : f_CF_due_0 a1 M0 = some o) : Ct D ad adK adV cI cJ l y_CF_due_0 cX11_due 2 (some .int) 2 47 [.ref (ad 0), .int a1] M0 (some (.int o)) M0 := by
  refine x_start (lv := [(0, .ref (ad 0)), (1, .int a1)]) (own := "CurrentFarms") rfl (by decide) (Nat.le_of_ble_eq_true rfl) rfl ?_
  intro p e s m args below meth c Q hQ B
  unfold f_CF_due_0 at h
  refine x_iload_n (pc := 0) B 1 dX11_due_0 rfl rfl ?_
  refine x_iconst (v := 0) (pc := 1) B dX11_due_1 rfl ?_
  refine x_sipush (v := 240) (pc := 2) B dX11_due_2 rfl ?_
  refine x_callS (rest := []) (st' := [.int (bI (wthn a1 0 240))]) (pc := 5) B (T_CF_within a1 0 240 M0) tw_559 tw_557 tw_558 tw_98 hd_CF_within ⟨Nat.le_of_ble_eq_true rfl, Nat.le_of_ble_eq_true rfl⟩ rfl rfl (Nat.le_of_ble_eq_true rfl) rfl dX11_due_5 ?_
  refine x_if_eq_b (tgt := 25) (pc := 8) B dX11_due_8 rfl (fun hc1 => ?_) (fun hc1 => ?_)
  · have h := iff_ hc1 h
    refine x_iconst (v := (-1)) (pc := 25) B dX11_due_25 rfl ?_
    obtain rfl := Option.some.inj h
    exact x_iret (pc := 26) B hQ dX11_due_26
  · have h := ift hc1 h
    refine x_aload_n (pc := 11) B 0 dX11_due_11 rfl rfl ?_
    refine x_get (T := TX11) (pc := 12) B 0 oi_0 rfl uw_11 (by decide) rfl tw_525 rfl dX11_due_12 ?_
    refine x_get (T := TX8) (pc := 15) B 5 oi_1 rfl uw_8 (by decide) rfl tw_380 rfl dX11_due_15 ?_
    refine x_iload_n (pc := 18) B 1 dX11_due_18 rfl rfl ?_
    obtain ⟨q2, hq2, h⟩ := bnd h
    refine x_callV (rest := []) (st' := [.int q2]) (pc := 19) B oi_36 rfl (C_Coins_dueIn_36 a1 M0 _ hq2) tw_1150 tw_1147 tw_1148 tw_1149 tw_106 hd_Coins_dueIn_36 ⟨Nat.le_of_ble_eq_true rfl, Nat.le_of_ble_eq_true rfl⟩ rfl rfl (Nat.le_of_ble_eq_true rfl) rfl dX11_due_19 ?_
    refine x_goto (tgt := 26) (pc := 22) B dX11_due_22 rfl ?_
    obtain rfl := Option.some.inj h
    exact x_iret (pc := 26) B hQ dX11_due_26
-- CurrentFarms$Coins.firstShort()I [36]
abbrev y_Coins_firstShort_36 : MethodName := ⟨"CurrentFarms$Coins", "firstShort", "()I"⟩
abbrev cX3_firstShort : ByteArray := prog_5_method_7_code
theorem dX3_firstShort_0 : decode cX3_firstShort 0 = .ok (.aload_n 0, 1) := by decide +kernel
theorem dX3_firstShort_1 : decode cX3_firstShort 1 = .ok (.getfield 41, 3) := by decide +kernel
theorem dX3_firstShort_4 : decode cX3_firstShort 4 = .ok (.i2l, 1) := by decide +kernel
theorem dX3_firstShort_5 : decode cX3_firstShort 5 = .ok (.lstore_n 1, 1) := by decide +kernel
theorem dX3_firstShort_6 : decode cX3_firstShort 6 = .ok (.aload_n 0, 1) := by decide +kernel
theorem dX3_firstShort_7 : decode cX3_firstShort 7 = .ok (.getfield 32, 3) := by decide +kernel
theorem dX3_firstShort_10 : decode cX3_firstShort 10 = .ok (.istore_n 3, 1) := by decide +kernel
theorem dX3_firstShort_11 : decode cX3_firstShort 11 = .ok (.iload_n 3, 1) := by decide +kernel
theorem dX3_firstShort_12 : decode cX3_firstShort 12 = .ok (.aload_n 0, 1) := by decide +kernel
theorem dX3_firstShort_13 : decode cX3_firstShort 13 = .ok (.getfield 32, 3) := by decide +kernel
theorem dX3_firstShort_16 : decode cX3_firstShort 16 = .ok (.aload_n 0, 1) := by decide +kernel
theorem dX3_firstShort_17 : decode cX3_firstShort 17 = .ok (.getfield 38, 3) := by decide +kernel
theorem dX3_firstShort_20 : decode cX3_firstShort 20 = .ok (.iadd, 1) := by decide +kernel
theorem dX3_firstShort_21 : decode cX3_firstShort 21 = .ok (.if_icmp .gt 53, 3) := by decide +kernel
theorem dX3_firstShort_24 : decode cX3_firstShort 24 = .ok (.iconst 0, 1) := by decide +kernel
theorem dX3_firstShort_25 : decode cX3_firstShort 25 = .ok (.istore 4, 2) := by decide +kernel
theorem dX3_firstShort_27 : decode cX3_firstShort 27 = .ok (.iload 4, 2) := by decide +kernel
theorem dX3_firstShort_29 : decode cX3_firstShort 29 = .ok (.bipush 10, 2) := by decide +kernel
theorem dX3_firstShort_31 : decode cX3_firstShort 31 = .ok (.if_icmp .ge 20, 3) := by decide +kernel
theorem dX3_firstShort_34 : decode cX3_firstShort 34 = .ok (.lload_n 1, 1) := by decide +kernel
theorem dX3_firstShort_35 : decode cX3_firstShort 35 = .ok (.aload_n 0, 1) := by decide +kernel
theorem dX3_firstShort_36 : decode cX3_firstShort 36 = .ok (.iload 4, 2) := by decide +kernel
theorem dX3_firstShort_38 : decode cX3_firstShort 38 = .ok (.iload_n 3, 1) := by decide +kernel
theorem dX3_firstShort_39 : decode cX3_firstShort 39 = .ok (.invokevirtual 60, 3) := by decide +kernel
theorem dX3_firstShort_42 : decode cX3_firstShort 42 = .ok (.i2l, 1) := by decide +kernel
theorem dX3_firstShort_43 : decode cX3_firstShort 43 = .ok (.ladd, 1) := by decide +kernel
theorem dX3_firstShort_44 : decode cX3_firstShort 44 = .ok (.lstore_n 1, 1) := by decide +kernel
theorem dX3_firstShort_45 : decode cX3_firstShort 45 = .ok (.iinc 4 1, 3) := by decide +kernel
theorem dX3_firstShort_48 : decode cX3_firstShort 48 = .ok (.goto (-21), 3) := by decide +kernel
theorem dX3_firstShort_51 : decode cX3_firstShort 51 = .ok (.lload_n 1, 1) := by decide +kernel
theorem dX3_firstShort_52 : decode cX3_firstShort 52 = .ok (.aload_n 0, 1) := by decide +kernel
theorem dX3_firstShort_53 : decode cX3_firstShort 53 = .ok (.iload_n 3, 1) := by decide +kernel
theorem dX3_firstShort_54 : decode cX3_firstShort 54 = .ok (.invokevirtual 63, 3) := by decide +kernel
theorem dX3_firstShort_57 : decode cX3_firstShort 57 = .ok (.i2l, 1) := by decide +kernel
theorem dX3_firstShort_58 : decode cX3_firstShort 58 = .ok (.lsub, 1) := by decide +kernel
theorem dX3_firstShort_59 : decode cX3_firstShort 59 = .ok (.lstore_n 1, 1) := by decide +kernel
theorem dX3_firstShort_60 : decode cX3_firstShort 60 = .ok (.lload_n 1, 1) := by decide +kernel
theorem dX3_firstShort_61 : decode cX3_firstShort 61 = .ok (.lconst 0, 1) := by decide +kernel
theorem dX3_firstShort_62 : decode cX3_firstShort 62 = .ok (.lcmp, 1) := by decide +kernel
theorem dX3_firstShort_63 : decode cX3_firstShort 63 = .ok (.ifCond .ge 5, 3) := by decide +kernel
theorem dX3_firstShort_66 : decode cX3_firstShort 66 = .ok (.iload_n 3, 1) := by decide +kernel
theorem dX3_firstShort_67 : decode cX3_firstShort 67 = .ok (.ireturn, 1) := by decide +kernel
theorem dX3_firstShort_68 : decode cX3_firstShort 68 = .ok (.iinc 3 1, 3) := by decide +kernel
theorem dX3_firstShort_71 : decode cX3_firstShort 71 = .ok (.goto (-60), 3) := by decide +kernel
theorem dX3_firstShort_74 : decode cX3_firstShort 74 = .ok (.bipush (-5), 2) := by decide +kernel
theorem dX3_firstShort_76 : decode cX3_firstShort 76 = .ok (.ireturn, 1) := by decide +kernel
theorem hd_Coins_firstShort_36 : y_Coins_firstShort_36.cls ≠ "java/lang/invoke/MethodHandle" ∧ y_Coins_firstShort_36.cls ≠ "java/lang/invoke/VarHandle" ∧ (parseMethodDescriptor y_Coins_firstShort_36.desc).map (fun d => d.parameters.length) = some 0 := by decide +kernel
def b_Coins_firstShort_36_27 (M0 : Mem) (y1 : Int64 × Int32) (y3 : Int64 × Int32) : Option ((Int64 × Int32) ⊕ (Int64)) :=
  if decide (y3.2 < 10) then ((f_Coins_paidOf_36 y3.2 y1.2 M0).bind fun q5 => some (.inl (y3.1 + q5.toInt64, y3.2 + 1))) else (some (.inr y3.1))
def b_Coins_firstShort_36_11 (M0 : Mem) (y1 : Int64 × Int32) : Option ((Int64 × Int32) ⊕ ((Unit) ⊕ (Int32))) :=
  if decide (y1.2 ≤ ((M0.1 36 3) + (M0.1 36 5))) then ((itr (b_Coins_firstShort_36_27 M0 y1) FU (y1.1, 0)).bind fun q6 => (f_Coins_dueIn_36 y1.2 M0).bind fun q7 => if decide ((lg_cmp (q6 - q7.toInt64) 0) < 0) then (some (.inr (.inr (y1.2)))) else (some (.inl (q6 - q7.toInt64, y1.2 + 1)))) else (some (.inr (.inl ())))
def f_Coins_firstShort_36  (M0 : Mem) : Option (Int32) :=
  (itr (b_Coins_firstShort_36_11 M0) FU ((M0.1 36 6).toInt64, M0.1 36 3)).bind fun q9 => (Sum.elim (fun (y10 : Unit) => some (-5)) (fun (y11 : Int32) => some y11)) q9
set_option maxHeartbeats 4000000 in
set_option maxRecDepth 20000 in
theorem C_Coins_firstShort_36 {D : va_G} {ad adK adV : Nat → Nat} {cI cJ : ClassId} {l : Launch}  (M0 : Mem) (o : Int32) (h : f_Coins_firstShort_36  M0 = some o) : Ct D ad adK adV cI cJ l y_Coins_firstShort_36 cX3_firstShort 5 (some .int) 2 47 [.ref (ad 36)] M0 (some (.int o)) M0 := by
  refine x_start (lv := [(0, .ref (ad 36))]) (own := "CurrentFarms$Coins") rfl (by decide) (Nat.le_of_ble_eq_true rfl) rfl ?_
  intro p e s m args below meth c Q hQ B
  unfold f_Coins_firstShort_36 at h
  refine x_aload_n (pc := 0) B 0 dX3_firstShort_0 rfl rfl ?_
  refine x_get (T := TX3) (pc := 1) B 6 oi_36 rfl uw_3 (by decide) rfl tw_342 rfl dX3_firstShort_1 ?_
  refine x_i2l (pc := 4) B dX3_firstShort_4 ?_
  refine x_lstore_n (lv' := [(1, .long ((M0.1 36 6).toInt64)), (0, .ref (ad 36))]) (pc := 5) B dX3_firstShort_5 rfl (by decide) rfl ?_
  refine x_aload_n (pc := 6) B 1 dX3_firstShort_6 rfl rfl ?_
  refine x_get (T := TX3) (pc := 7) B 3 oi_36 rfl uw_3 (by decide) rfl tw_338 rfl dX3_firstShort_7 ?_
  refine x_istore_n (lv' := [(3, .int (M0.1 36 3)), (1, .long ((M0.1 36 6).toInt64)), (0, .ref (ad 36))]) (pc := 10) B dX3_firstShort_10 rfl (by decide) rfl ?_
  refine x_pick (lv' := [(0, .ref (ad 36)), (1, .long ((M0.1 36 6).toInt64)), (3, .int (M0.1 36 3))]) [2, 1, 0] rfl ?_
  obtain ⟨q9, hq9, h⟩ := bnd h
  refine x_loop (Head := fun (y1 : Int64 × Int32) => XX D ad cI cJ p l e (Rm 2 47) s m args below meth c Q 5 M0 11 [(0, .ref (ad 36)), (1, .long y1.1), (3, .int y1.2)] []) (Ex := (Sum.elim (fun (y10 : Unit) => XX D ad cI cJ p l e (Rm 2 47) s m args below meth c Q 5 M0 74 [] []) (fun (y11 : Int32) => XX D ad cI cJ p l e (Rm 2 47) s m args below meth c Q 5 M0 66 [(3, .int y11)] []))) (fun y1 r h hback hexit => ?_) FU _ q9 hq9 ?_
  · unfold b_Coins_firstShort_36_11 at h
    refine x_iload_n (pc := 11) B 2 dX3_firstShort_11 rfl rfl ?_
    refine x_aload_n (pc := 12) B 0 dX3_firstShort_12 rfl rfl ?_
    refine x_get (T := TX3) (pc := 13) B 3 oi_36 rfl uw_3 (by decide) rfl tw_338 rfl dX3_firstShort_13 ?_
    refine x_aload_n (pc := 16) B 0 dX3_firstShort_16 rfl rfl ?_
    refine x_get (T := TX3) (pc := 17) B 5 oi_36 rfl uw_3 (by decide) rfl tw_340 rfl dX3_firstShort_17 ?_
    refine x_iadd (pc := 20) B dX3_firstShort_20 ?_
    refine x_icmp_gt (tgt := 74) (pc := 21) B dX3_firstShort_21 rfl (fun hc2 => ?_) (fun hc2 => ?_)
    · have h := iff_ hc2 h
      refine x_pick (lv' := []) [] rfl ?_
      have z := hexit (.inl ()) (Option.some.inj h).symm
      exact z
    · have h := ift hc2 h
      refine x_iconst (v := 0) (pc := 24) B dX3_firstShort_24 rfl ?_
      refine x_istore (lv' := [(4, .int 0), (0, .ref (ad 36)), (1, .long y1.1), (3, .int y1.2)]) (pc := 25) B dX3_firstShort_25 (by decide) rfl ?_
      refine x_pick (lv' := [(0, .ref (ad 36)), (1, .long y1.1), (3, .int y1.2), (4, .int 0)]) [1, 2, 3, 0] rfl ?_
      obtain ⟨q6, hq6, h⟩ := bnd h
      refine x_loop (Head := fun (y3 : Int64 × Int32) => XX D ad cI cJ p l e (Rm 2 47) s m args below meth c Q 5 M0 27 [(0, .ref (ad 36)), (1, .long y3.1), (3, .int y1.2), (4, .int y3.2)] []) (Ex := fun (q6 : Int64) => XX D ad cI cJ p l e (Rm 2 47) s m args below meth c Q 5 M0 51 [(0, .ref (ad 36)), (1, .long q6), (3, .int y1.2)] []) (fun y3 r h hback hexit => ?_) FU _ q6 hq6 ?_
      · unfold b_Coins_firstShort_36_27 at h
        refine x_iload (pc := 27) B 3 dX3_firstShort_27 rfl ?_
        refine x_bipush (v := 10) (pc := 29) B dX3_firstShort_29 rfl ?_
        refine x_icmp_ge (tgt := 51) (pc := 31) B dX3_firstShort_31 rfl (fun hc4 => ?_) (fun hc4 => ?_)
        · have h := iff_ hc4 h
          refine x_pick (lv' := [(0, .ref (ad 36)), (1, .long y3.1), (3, .int y1.2)]) [0, 1, 2] rfl ?_
          have z := hexit y3.1 (Option.some.inj h).symm
          exact z
        · have h := ift hc4 h
          refine x_lload_n (pc := 34) B 1 dX3_firstShort_34 rfl rfl ?_
          refine x_aload_n (pc := 35) B 0 dX3_firstShort_35 rfl rfl ?_
          refine x_iload (pc := 36) B 3 dX3_firstShort_36 rfl ?_
          refine x_iload_n (pc := 38) B 2 dX3_firstShort_38 rfl rfl ?_
          obtain ⟨q5, hq5, h⟩ := bnd h
          refine x_callV (rest := [.long y3.1]) (st' := [.int q5, .long y3.1]) (pc := 39) B oi_36 rfl (C_Coins_paidOf_36 y3.2 y1.2 M0 _ hq5) tw_767 tw_1161 tw_765 tw_766 tw_106 hd_Coins_paidOf_36 ⟨Nat.le_of_ble_eq_true rfl, Nat.le_of_ble_eq_true rfl⟩ rfl rfl (Nat.le_of_ble_eq_true rfl) rfl dX3_firstShort_39 ?_
          refine x_i2l (pc := 42) B dX3_firstShort_42 ?_
          refine x_ladd (pc := 43) B dX3_firstShort_43 ?_
          refine x_lstore_n (lv' := [(1, .long (y3.1 + q5.toInt64)), (0, .ref (ad 36)), (3, .int y1.2), (4, .int y3.2)]) (pc := 44) B dX3_firstShort_44 rfl (by decide) rfl ?_
          refine x_iinc (k := 3) (v := y3.2 + 1) (lv' := [(4, .int (y3.2 + 1)), (1, .long (y3.1 + q5.toInt64)), (0, .ref (ad 36)), (3, .int y1.2)]) (pc := 45) B dX3_firstShort_45 rfl rfl (by decide) rfl ?_
          refine x_goto (tgt := 27) (pc := 48) B dX3_firstShort_48 rfl ?_
          refine x_pick (lv' := [(0, .ref (ad 36)), (1, .long (y3.1 + q5.toInt64)), (3, .int y1.2), (4, .int (y3.2 + 1))]) [2, 1, 3, 0] rfl ?_
          have z := hback (y3.1 + q5.toInt64, y3.2 + 1) (Option.some.inj h).symm
          exact z
      · refine x_lload_n (pc := 51) B 1 dX3_firstShort_51 rfl rfl ?_
        refine x_aload_n (pc := 52) B 0 dX3_firstShort_52 rfl rfl ?_
        refine x_iload_n (pc := 53) B 2 dX3_firstShort_53 rfl rfl ?_
        obtain ⟨q7, hq7, h⟩ := bnd h
        refine x_callV (rest := [.long q6]) (st' := [.int q7, .long q6]) (pc := 54) B oi_36 rfl (C_Coins_dueIn_36 y1.2 M0 _ hq7) tw_1150 tw_1162 tw_1148 tw_1149 tw_106 hd_Coins_dueIn_36 ⟨Nat.le_of_ble_eq_true rfl, Nat.le_of_ble_eq_true rfl⟩ rfl rfl (Nat.le_of_ble_eq_true rfl) rfl dX3_firstShort_54 ?_
        refine x_i2l (pc := 57) B dX3_firstShort_57 ?_
        refine x_lsub (pc := 58) B dX3_firstShort_58 ?_
        refine x_lstore_n (lv' := [(1, .long (q6 - q7.toInt64)), (0, .ref (ad 36)), (3, .int y1.2)]) (pc := 59) B dX3_firstShort_59 rfl (by decide) rfl ?_
        refine x_lload_n (pc := 60) B 0 dX3_firstShort_60 rfl rfl ?_
        refine x_lconst (v := 0) (pc := 61) B dX3_firstShort_61 rfl ?_
        refine x_lcmp (pc := 62) B dX3_firstShort_62 ?_
        refine x_if_ge (tgt := 68) (pc := 63) B dX3_firstShort_63 rfl (fun hc8 => ?_) (fun hc8 => ?_)
        · have h := iff_ hc8 h
          refine x_iinc (k := 2) (v := y1.2 + 1) (lv' := [(3, .int (y1.2 + 1)), (1, .long (q6 - q7.toInt64)), (0, .ref (ad 36))]) (pc := 68) B dX3_firstShort_68 rfl rfl (by decide) rfl ?_
          refine x_goto (tgt := 11) (pc := 71) B dX3_firstShort_71 rfl ?_
          refine x_pick (lv' := [(0, .ref (ad 36)), (1, .long (q6 - q7.toInt64)), (3, .int (y1.2 + 1))]) [2, 1, 0] rfl ?_
          have z := hback (q6 - q7.toInt64, y1.2 + 1) (Option.some.inj h).symm
          exact z
        · have h := ift hc8 h
          refine x_pick (lv' := [(3, .int y1.2)]) [2] rfl ?_
          have z := hexit (.inr (y1.2)) (Option.some.inj h).symm
          exact z
  · rcases q9 with y10 | rest0_11
    · have h := selL h
      refine x_bipush (v := (-5)) (pc := 74) B dX3_firstShort_74 rfl ?_
      obtain rfl := Option.some.inj h
      exact x_iret (pc := 76) B hQ dX3_firstShort_76
    · have h := selR h
      obtain ⟨y11, rfl⟩ : ∃ z_, z_ = rest0_11 := ⟨_, rfl⟩
      refine x_iload_n (pc := 66) B 0 dX3_firstShort_66 rfl rfl ?_
      obtain rfl := Option.some.inj h
      exact x_iret (pc := 67) B hQ dX3_firstShort_67
-- CurrentFarms.cannot()I [0]
abbrev y_CF_cannot_0 : MethodName := ⟨"CurrentFarms", "cannot", "()I"⟩
abbrev cX11_cannot : ByteArray := prog_1_method_34_code
theorem dX11_cannot_0 : decode cX11_cannot 0 = .ok (.aload_n 0, 1) := by decide +kernel
theorem dX11_cannot_1 : decode cX11_cannot 1 = .ok (.getfield 12, 3) := by decide +kernel
theorem dX11_cannot_4 : decode cX11_cannot 4 = .ok (.getfield 271, 3) := by decide +kernel
theorem dX11_cannot_7 : decode cX11_cannot 7 = .ok (.getfield 312, 3) := by decide +kernel
theorem dX11_cannot_10 : decode cX11_cannot 10 = .ok (.ifCond .le 16, 3) := by decide +kernel
theorem dX11_cannot_13 : decode cX11_cannot 13 = .ok (.aload_n 0, 1) := by decide +kernel
theorem dX11_cannot_14 : decode cX11_cannot 14 = .ok (.getfield 12, 3) := by decide +kernel
theorem dX11_cannot_17 : decode cX11_cannot 17 = .ok (.getfield 271, 3) := by decide +kernel
theorem dX11_cannot_20 : decode cX11_cannot 20 = .ok (.invokevirtual 315, 3) := by decide +kernel
theorem dX11_cannot_23 : decode cX11_cannot 23 = .ok (.goto 5, 3) := by decide +kernel
theorem dX11_cannot_26 : decode cX11_cannot 26 = .ok (.bipush (-3), 2) := by decide +kernel
theorem dX11_cannot_28 : decode cX11_cannot 28 = .ok (.ireturn, 1) := by decide +kernel
theorem hd_CF_cannot_0 : y_CF_cannot_0.cls ≠ "java/lang/invoke/MethodHandle" ∧ y_CF_cannot_0.cls ≠ "java/lang/invoke/VarHandle" ∧ (parseMethodDescriptor y_CF_cannot_0.desc).map (fun d => d.parameters.length) = some 0 := by decide +kernel
def f_CF_cannot_0  (M0 : Mem) : Option (Int32) :=
  if decide ((M0.1 36 5) ≤ 0) then (some (-3)) else ((f_Coins_firstShort_36 M0).bind fun q2 => some q2)
set_option maxHeartbeats 4000000 in
set_option maxRecDepth 20000 in
theorem C_CF_cannot_0 {D : va_G} {ad adK adV : Nat → Nat} {cI cJ : ClassId} {l : Launch}  (M0 : Mem) (o : Int32) (h : f_CF_cannot_0  M0 = some o) : Ct D ad adK adV cI cJ l y_CF_cannot_0 cX11_cannot 1 (some .int) 3 71 [.ref (ad 0)] M0 (some (.int o)) M0 := by
  refine x_start (lv := [(0, .ref (ad 0))]) (own := "CurrentFarms") rfl (by decide) (Nat.le_of_ble_eq_true rfl) rfl ?_
  intro p e s m args below meth c Q hQ B
  unfold f_CF_cannot_0 at h
  refine x_aload_n (pc := 0) B 0 dX11_cannot_0 rfl rfl ?_
  refine x_get (T := TX11) (pc := 1) B 0 oi_0 rfl uw_11 (by decide) rfl tw_525 rfl dX11_cannot_1 ?_
  refine x_get (T := TX8) (pc := 4) B 5 oi_1 rfl uw_8 (by decide) rfl tw_380 rfl dX11_cannot_4 ?_
  refine x_get (T := TX3) (pc := 7) B 5 oi_36 rfl uw_3 (by decide) rfl tw_341 rfl dX11_cannot_7 ?_
  refine x_if_le (tgt := 26) (pc := 10) B dX11_cannot_10 rfl (fun hc1 => ?_) (fun hc1 => ?_)
  · have h := ift hc1 h
    refine x_bipush (v := (-3)) (pc := 26) B dX11_cannot_26 rfl ?_
    obtain rfl := Option.some.inj h
    exact x_iret (pc := 28) B hQ dX11_cannot_28
  · have h := iff_ hc1 h
    refine x_aload_n (pc := 13) B 0 dX11_cannot_13 rfl rfl ?_
    refine x_get (T := TX11) (pc := 14) B 0 oi_0 rfl uw_11 (by decide) rfl tw_525 rfl dX11_cannot_14 ?_
    refine x_get (T := TX8) (pc := 17) B 5 oi_1 rfl uw_8 (by decide) rfl tw_380 rfl dX11_cannot_17 ?_
    obtain ⟨q2, hq2, h⟩ := bnd h
    refine x_callV (rest := []) (st' := [.int q2]) (pc := 20) B oi_36 rfl (C_Coins_firstShort_36  M0 _ hq2) tw_1160 tw_1157 tw_1158 tw_1159 tw_106 hd_Coins_firstShort_36 ⟨Nat.le_of_ble_eq_true rfl, Nat.le_of_ble_eq_true rfl⟩ rfl rfl (Nat.le_of_ble_eq_true rfl) rfl dX11_cannot_20 ?_
    refine x_goto (tgt := 28) (pc := 23) B dX11_cannot_23 rfl ?_
    obtain rfl := Option.some.inj h
    exact x_iret (pc := 28) B hQ dX11_cannot_28
-- CurrentFarms$Breaks.placeOf(I)I [29]
abbrev y_Breaks_placeOf_29 : MethodName := ⟨"CurrentFarms$Breaks", "placeOf", "(I)I"⟩
abbrev cX2_placeOf : ByteArray := prog_4_method_4_code
theorem dX2_placeOf_0 : decode cX2_placeOf 0 = .ok (.iconst 0, 1) := by decide +kernel
theorem dX2_placeOf_1 : decode cX2_placeOf 1 = .ok (.istore_n 2, 1) := by decide +kernel
theorem dX2_placeOf_2 : decode cX2_placeOf 2 = .ok (.iload_n 2, 1) := by decide +kernel
theorem dX2_placeOf_3 : decode cX2_placeOf 3 = .ok (.aload_n 0, 1) := by decide +kernel
theorem dX2_placeOf_4 : decode cX2_placeOf 4 = .ok (.getfield 34, 3) := by decide +kernel
theorem dX2_placeOf_7 : decode cX2_placeOf 7 = .ok (.if_icmp .ge 23, 3) := by decide +kernel
theorem dX2_placeOf_10 : decode cX2_placeOf 10 = .ok (.aload_n 0, 1) := by decide +kernel
theorem dX2_placeOf_11 : decode cX2_placeOf 11 = .ok (.getfield 9, 3) := by decide +kernel
theorem dX2_placeOf_14 : decode cX2_placeOf 14 = .ok (.iload_n 2, 1) := by decide +kernel
theorem dX2_placeOf_15 : decode cX2_placeOf 15 = .ok (.invokestatic 42, 3) := by decide +kernel
theorem dX2_placeOf_18 : decode cX2_placeOf 18 = .ok (.iload_n 1, 1) := by decide +kernel
theorem dX2_placeOf_19 : decode cX2_placeOf 19 = .ok (.if_icmp .ne 5, 3) := by decide +kernel
theorem dX2_placeOf_22 : decode cX2_placeOf 22 = .ok (.iload_n 2, 1) := by decide +kernel
theorem dX2_placeOf_23 : decode cX2_placeOf 23 = .ok (.ireturn, 1) := by decide +kernel
theorem dX2_placeOf_24 : decode cX2_placeOf 24 = .ok (.iinc 2 1, 3) := by decide +kernel
theorem dX2_placeOf_27 : decode cX2_placeOf 27 = .ok (.goto (-25), 3) := by decide +kernel
theorem dX2_placeOf_30 : decode cX2_placeOf 30 = .ok (.iconst (-1), 1) := by decide +kernel
theorem dX2_placeOf_31 : decode cX2_placeOf 31 = .ok (.ireturn, 1) := by decide +kernel
theorem hd_Breaks_placeOf_29 : y_Breaks_placeOf_29.cls ≠ "java/lang/invoke/MethodHandle" ∧ y_Breaks_placeOf_29.cls ≠ "java/lang/invoke/VarHandle" ∧ (parseMethodDescriptor y_Breaks_placeOf_29.desc).map (fun d => d.parameters.length) = some 1 := by decide +kernel
def b_Breaks_placeOf_29_2 (a1 : Int32) (M0 : Mem) (y1 : Int32) : Option ((Int32) ⊕ ((Unit) ⊕ (Int32))) :=
  if decide (y1 < (M0.1 29 2)) then (if decide ((atv (M0.1 30) 6 y1) = a1) then (some (.inr (.inr (y1)))) else (some (.inl (y1 + 1)))) else (some (.inr (.inl ())))
def f_Breaks_placeOf_29 (a1 : Int32) (M0 : Mem) : Option (Int32) :=
  (itr (b_Breaks_placeOf_29_2 a1 M0) FU 0).bind fun q4 => (Sum.elim (fun (y5 : Unit) => some (-1)) (fun (y6 : Int32) => some y6)) q4
set_option maxHeartbeats 4000000 in
set_option maxRecDepth 20000 in
theorem C_Breaks_placeOf_29 {D : va_G} {ad adK adV : Nat → Nat} {cI cJ : ClassId} {l : Launch} (a1 : Int32) (M0 : Mem) (o : Int32) (h : f_Breaks_placeOf_29 a1 M0 = some o) : Ct D ad adK adV cI cJ l y_Breaks_placeOf_29 cX2_placeOf 3 (some .int) 1 21 [.ref (ad 29), .int a1] M0 (some (.int o)) M0 := by
  refine x_start (lv := [(0, .ref (ad 29)), (1, .int a1)]) (own := "CurrentFarms$Breaks") rfl (by decide) (Nat.le_of_ble_eq_true rfl) rfl ?_
  intro p e s m args below meth c Q hQ B
  unfold f_Breaks_placeOf_29 at h
  refine x_iconst (v := 0) (pc := 0) B dX2_placeOf_0 rfl ?_
  refine x_istore_n (lv' := [(2, .int 0), (0, .ref (ad 29)), (1, .int a1)]) (pc := 1) B dX2_placeOf_1 rfl (by decide) rfl ?_
  refine x_pick (lv' := [(0, .ref (ad 29)), (1, .int a1), (2, .int 0)]) [1, 2, 0] rfl ?_
  obtain ⟨q4, hq4, h⟩ := bnd h
  refine x_loop (Head := fun (y1 : Int32) => XX D ad cI cJ p l e (Rm 1 21) s m args below meth c Q 3 M0 2 [(0, .ref (ad 29)), (1, .int a1), (2, .int y1)] []) (Ex := (Sum.elim (fun (y5 : Unit) => XX D ad cI cJ p l e (Rm 1 21) s m args below meth c Q 3 M0 30 [] []) (fun (y6 : Int32) => XX D ad cI cJ p l e (Rm 1 21) s m args below meth c Q 3 M0 22 [(2, .int y6)] []))) (fun y1 r h hback hexit => ?_) FU _ q4 hq4 ?_
  · unfold b_Breaks_placeOf_29_2 at h
    refine x_iload_n (pc := 2) B 2 dX2_placeOf_2 rfl rfl ?_
    refine x_aload_n (pc := 3) B 0 dX2_placeOf_3 rfl rfl ?_
    refine x_get (T := TX2) (pc := 4) B 2 oi_29 rfl uw_2 (by decide) rfl tw_300 rfl dX2_placeOf_4 ?_
    refine x_icmp_ge (tgt := 30) (pc := 7) B dX2_placeOf_7 rfl (fun hc2 => ?_) (fun hc2 => ?_)
    · have h := iff_ hc2 h
      refine x_pick (lv' := []) [] rfl ?_
      have z := hexit (.inl ()) (Option.some.inj h).symm
      exact z
    · have h := ift hc2 h
      refine x_aload_n (pc := 10) B 0 dX2_placeOf_10 rfl rfl ?_
      refine x_get (T := TX2) (pc := 11) B 0 oi_29 rfl uw_2 (by decide) rfl tw_297 rfl dX2_placeOf_11 ?_
      refine x_iload_n (pc := 14) B 2 dX2_placeOf_14 rfl rfl ?_
      refine x_callSN (rest := []) (st' := [.int (atv (M0.1 30) 6 y1)]) (pc := 15) B (T_CF_at 30 6 y1 ai_30 (by decide) M0) tw_575 tw_1171 tw_574 tw_98 hd_CF_at ⟨Nat.le_of_ble_eq_true rfl, Nat.le_of_ble_eq_true rfl⟩ rfl rfl (Nat.le_of_ble_eq_true rfl) rfl dX2_placeOf_15 ?_
      refine x_iload_n (pc := 18) B 1 dX2_placeOf_18 rfl rfl ?_
      refine x_icmp_ne (tgt := 24) (pc := 19) B dX2_placeOf_19 rfl (fun hc3 => ?_) (fun hc3 => ?_)
      · have h := iff_ hc3 h
        refine x_iinc (k := 2) (v := y1 + 1) (lv' := [(2, .int (y1 + 1)), (0, .ref (ad 29)), (1, .int a1)]) (pc := 24) B dX2_placeOf_24 rfl rfl (by decide) rfl ?_
        refine x_goto (tgt := 2) (pc := 27) B dX2_placeOf_27 rfl ?_
        refine x_pick (lv' := [(0, .ref (ad 29)), (1, .int a1), (2, .int (y1 + 1))]) [1, 2, 0] rfl ?_
        have z := hback (y1 + 1) (Option.some.inj h).symm
        exact z
      · have h := ift hc3 h
        refine x_pick (lv' := [(2, .int y1)]) [2] rfl ?_
        have z := hexit (.inr (y1)) (Option.some.inj h).symm
        exact z
  · rcases q4 with y5 | rest0_6
    · have h := selL h
      refine x_iconst (v := (-1)) (pc := 30) B dX2_placeOf_30 rfl ?_
      obtain rfl := Option.some.inj h
      exact x_iret (pc := 31) B hQ dX2_placeOf_31
    · have h := selR h
      obtain ⟨y6, rfl⟩ : ∃ z_, z_ = rest0_6 := ⟨_, rfl⟩
      refine x_iload_n (pc := 22) B 0 dX2_placeOf_22 rfl rfl ?_
      obtain rfl := Option.some.inj h
      exact x_iret (pc := 23) B hQ dX2_placeOf_23
-- CurrentFarms$Breaks.add(II)V [29]
abbrev y_Breaks_add_29 : MethodName := ⟨"CurrentFarms$Breaks", "add", "(II)V"⟩
abbrev cX2_add : ByteArray := prog_4_method_3_code
theorem dX2_add_0 : decode cX2_add 0 = .ok (.aload_n 0, 1) := by decide +kernel
theorem dX2_add_1 : decode cX2_add 1 = .ok (.getfield 9, 3) := by decide +kernel
theorem dX2_add_4 : decode cX2_add 4 = .ok (.aload_n 0, 1) := by decide +kernel
theorem dX2_add_5 : decode cX2_add 5 = .ok (.getfield 34, 3) := by decide +kernel
theorem dX2_add_8 : decode cX2_add 8 = .ok (.iload_n 1, 1) := by decide +kernel
theorem dX2_add_9 : decode cX2_add 9 = .ok (.invokestatic 38, 3) := by decide +kernel
theorem dX2_add_12 : decode cX2_add 12 = .ok (.aload_n 0, 1) := by decide +kernel
theorem dX2_add_13 : decode cX2_add 13 = .ok (.getfield 15, 3) := by decide +kernel
theorem dX2_add_16 : decode cX2_add 16 = .ok (.aload_n 0, 1) := by decide +kernel
theorem dX2_add_17 : decode cX2_add 17 = .ok (.getfield 34, 3) := by decide +kernel
theorem dX2_add_20 : decode cX2_add 20 = .ok (.iload_n 2, 1) := by decide +kernel
theorem dX2_add_21 : decode cX2_add 21 = .ok (.invokestatic 38, 3) := by decide +kernel
theorem dX2_add_24 : decode cX2_add 24 = .ok (.aload_n 0, 1) := by decide +kernel
theorem dX2_add_25 : decode cX2_add 25 = .ok (.dup, 1) := by decide +kernel
theorem dX2_add_26 : decode cX2_add 26 = .ok (.getfield 34, 3) := by decide +kernel
theorem dX2_add_29 : decode cX2_add 29 = .ok (.iconst 1, 1) := by decide +kernel
theorem dX2_add_30 : decode cX2_add 30 = .ok (.iadd, 1) := by decide +kernel
theorem dX2_add_31 : decode cX2_add 31 = .ok (.putfield 34, 3) := by decide +kernel
theorem dX2_add_34 : decode cX2_add 34 = .ok (.return_, 1) := by decide +kernel
theorem hd_Breaks_add_29 : y_Breaks_add_29.cls ≠ "java/lang/invoke/MethodHandle" ∧ y_Breaks_add_29.cls ≠ "java/lang/invoke/VarHandle" ∧ (parseMethodDescriptor y_Breaks_add_29.desc).map (fun d => d.parameters.length) = some 2 := by decide +kernel
def f_Breaks_add_29 (a1 : Int32) (a2 : Int32) (M0 : Mem) : Option (Mem) :=
  jv_ (putv M0 30 6 (M0.1 29 2) a1) fun M1 => jv_ (putv M1 31 6 (M1.1 29 2) a2) fun M2 => jv_ (wI M2 29 2 ((M2.1 29 2) + 1)) fun M3 => some M3
set_option maxHeartbeats 4000000 in
set_option maxRecDepth 20000 in
theorem C_Breaks_add_29 {D : va_G} {ad adK adV : Nat → Nat} {cI cJ : ClassId} {l : Launch} (a1 : Int32) (a2 : Int32) (M0 : Mem) (o : Mem) (h : f_Breaks_add_29 a1 a2 M0 = some o) : Ct D ad adK adV cI cJ l y_Breaks_add_29 cX2_add 3 none 1 22 [.ref (ad 29), .int a1, .int a2] M0 none o := by
  refine x_start (lv := [(0, .ref (ad 29)), (1, .int a1), (2, .int a2)]) (own := "CurrentFarms$Breaks") rfl (by decide) (Nat.le_of_ble_eq_true rfl) rfl ?_
  intro p e s m args below meth c Q hQ B
  unfold f_Breaks_add_29 at h
  refine x_aload_n (pc := 0) B 0 dX2_add_0 rfl rfl ?_
  refine x_get (T := TX2) (pc := 1) B 0 oi_29 rfl uw_2 (by decide) rfl tw_297 rfl dX2_add_1 ?_
  refine x_aload_n (pc := 4) B 0 dX2_add_4 rfl rfl ?_
  refine x_get (T := TX2) (pc := 5) B 2 oi_29 rfl uw_2 (by decide) rfl tw_300 rfl dX2_add_5 ?_
  refine x_iload_n (pc := 8) B 1 dX2_add_8 rfl rfl ?_
  refine x_callSN (rest := []) (st' := []) (pc := 9) B (T_CF_put 30 6 (M0.1 29 2) a1 ai_30 (by decide) M0) tw_588 tw_1176 tw_587 tw_98 hd_CF_put ⟨Nat.le_of_ble_eq_true rfl, Nat.le_of_ble_eq_true rfl⟩ rfl rfl (Nat.le_of_ble_eq_true rfl) rfl dX2_add_9 ?_
  refine jv_m (P := fun M1 => XX D ad cI cJ p l e (Rm 1 22) s m args below meth c Q 3 M1 12 [(0, .ref (ad 29)), (1, .int a1), (2, .int a2)] []) h (fun M1 h => ?_)
  refine x_aload_n (pc := 12) B 0 dX2_add_12 rfl rfl ?_
  refine x_get (T := TX2) (pc := 13) B 1 oi_29 rfl uw_2 (by decide) rfl tw_299 rfl dX2_add_13 ?_
  refine x_aload_n (pc := 16) B 0 dX2_add_16 rfl rfl ?_
  refine x_get (T := TX2) (pc := 17) B 2 oi_29 rfl uw_2 (by decide) rfl tw_300 rfl dX2_add_17 ?_
  refine x_iload_n (pc := 20) B 2 dX2_add_20 rfl rfl ?_
  refine x_callSN (rest := []) (st' := []) (pc := 21) B (T_CF_put 31 6 (M1.1 29 2) a2 ai_31 (by decide) M1) tw_588 tw_1176 tw_587 tw_98 hd_CF_put ⟨Nat.le_of_ble_eq_true rfl, Nat.le_of_ble_eq_true rfl⟩ rfl rfl (Nat.le_of_ble_eq_true rfl) rfl dX2_add_21 ?_
  refine jv_m (P := fun M2 => XX D ad cI cJ p l e (Rm 1 22) s m args below meth c Q 3 M2 24 [(0, .ref (ad 29)), (1, .int a1), (2, .int a2)] []) h (fun M2 h => ?_)
  refine x_aload_n (pc := 24) B 0 dX2_add_24 rfl rfl ?_
  refine x_dup (pc := 25) B dX2_add_25 rfl ?_
  refine x_get (T := TX2) (pc := 26) B 2 oi_29 rfl uw_2 (by decide) rfl tw_300 rfl dX2_add_26 ?_
  refine x_iconst (v := 1) (pc := 29) B dX2_add_29 rfl ?_
  refine x_iadd (pc := 30) B dX2_add_30 ?_
  refine x_put (T := TX2) (pc := 31) B 2 oi_29 of_29_2 rfl uw_2 tyX2_ok nmX2 (by decide) rfl tw_300 rfl rfl rfl (Nat.le_of_ble_eq_true rfl) dX2_add_31 ?_
  refine jv_m (P := fun M3 => XX D ad cI cJ p l e (Rm 1 22) s m args below meth c Q 3 M3 34 [(0, .ref (ad 29)), (1, .int a1), (2, .int a2)] []) h (fun M3 h => ?_)
  obtain rfl := Option.some.inj h
  exact x_vret (pc := 34) B hQ dX2_add_34
-- CurrentFarms.storm(II)I [0]
abbrev y_CF_storm_0 : MethodName := ⟨"CurrentFarms", "storm", "(II)I"⟩
abbrev cX11_storm : ByteArray := prog_1_method_35_code
theorem dX11_storm_0 : decode cX11_storm 0 = .ok (.iload_n 1, 1) := by decide +kernel
theorem dX11_storm_1 : decode cX11_storm 1 = .ok (.invokestatic 68, 3) := by decide +kernel
theorem dX11_storm_4 : decode cX11_storm 4 = .ok (.ifCond .ne 5, 3) := by decide +kernel
theorem dX11_storm_7 : decode cX11_storm 7 = .ok (.iconst (-1), 1) := by decide +kernel
theorem dX11_storm_8 : decode cX11_storm 8 = .ok (.ireturn, 1) := by decide +kernel
theorem dX11_storm_9 : decode cX11_storm 9 = .ok (.iload_n 2, 1) := by decide +kernel
theorem dX11_storm_10 : decode cX11_storm 10 = .ok (.iconst 1, 1) := by decide +kernel
theorem dX11_storm_11 : decode cX11_storm 11 = .ok (.bipush 20, 2) := by decide +kernel
theorem dX11_storm_13 : decode cX11_storm 13 = .ok (.invokestatic 72, 3) := by decide +kernel
theorem dX11_storm_16 : decode cX11_storm 16 = .ok (.ifCond .ne 6, 3) := by decide +kernel
theorem dX11_storm_19 : decode cX11_storm 19 = .ok (.bipush (-2), 2) := by decide +kernel
theorem dX11_storm_21 : decode cX11_storm 21 = .ok (.ireturn, 1) := by decide +kernel
theorem dX11_storm_22 : decode cX11_storm 22 = .ok (.aload_n 0, 1) := by decide +kernel
theorem dX11_storm_23 : decode cX11_storm 23 = .ok (.getfield 12, 3) := by decide +kernel
theorem dX11_storm_26 : decode cX11_storm 26 = .ok (.getfield 107, 3) := by decide +kernel
theorem dX11_storm_29 : decode cX11_storm 29 = .ok (.iload_n 1, 1) := by decide +kernel
theorem dX11_storm_30 : decode cX11_storm 30 = .ok (.invokevirtual 318, 3) := by decide +kernel
theorem dX11_storm_33 : decode cX11_storm 33 = .ok (.iconst (-1), 1) := by decide +kernel
theorem dX11_storm_34 : decode cX11_storm 34 = .ok (.if_icmp .eq 17, 3) := by decide +kernel
theorem dX11_storm_37 : decode cX11_storm 37 = .ok (.aload_n 0, 1) := by decide +kernel
theorem dX11_storm_38 : decode cX11_storm 38 = .ok (.getfield 12, 3) := by decide +kernel
theorem dX11_storm_41 : decode cX11_storm 41 = .ok (.getfield 205, 3) := by decide +kernel
theorem dX11_storm_44 : decode cX11_storm 44 = .ok (.iload_n 1, 1) := by decide +kernel
theorem dX11_storm_45 : decode cX11_storm 45 = .ok (.invokevirtual 321, 3) := by decide +kernel
theorem dX11_storm_48 : decode cX11_storm 48 = .ok (.ifCond .lt 6, 3) := by decide +kernel
theorem dX11_storm_51 : decode cX11_storm 51 = .ok (.bipush (-3), 2) := by decide +kernel
theorem dX11_storm_53 : decode cX11_storm 53 = .ok (.ireturn, 1) := by decide +kernel
theorem dX11_storm_54 : decode cX11_storm 54 = .ok (.aload_n 0, 1) := by decide +kernel
theorem dX11_storm_55 : decode cX11_storm 55 = .ok (.getfield 12, 3) := by decide +kernel
theorem dX11_storm_58 : decode cX11_storm 58 = .ok (.getfield 205, 3) := by decide +kernel
theorem dX11_storm_61 : decode cX11_storm 61 = .ok (.getfield 209, 3) := by decide +kernel
theorem dX11_storm_64 : decode cX11_storm 64 = .ok (.bipush 6, 2) := by decide +kernel
theorem dX11_storm_66 : decode cX11_storm 66 = .ok (.if_icmp .lt 6, 3) := by decide +kernel
theorem dX11_storm_69 : decode cX11_storm 69 = .ok (.bipush (-4), 2) := by decide +kernel
theorem dX11_storm_71 : decode cX11_storm 71 = .ok (.ireturn, 1) := by decide +kernel
theorem dX11_storm_72 : decode cX11_storm 72 = .ok (.aload_n 0, 1) := by decide +kernel
theorem dX11_storm_73 : decode cX11_storm 73 = .ok (.getfield 12, 3) := by decide +kernel
theorem dX11_storm_76 : decode cX11_storm 76 = .ok (.getfield 205, 3) := by decide +kernel
theorem dX11_storm_79 : decode cX11_storm 79 = .ok (.iload_n 1, 1) := by decide +kernel
theorem dX11_storm_80 : decode cX11_storm 80 = .ok (.iload_n 2, 1) := by decide +kernel
theorem dX11_storm_81 : decode cX11_storm 81 = .ok (.invokevirtual 324, 3) := by decide +kernel
theorem dX11_storm_84 : decode cX11_storm 84 = .ok (.aload_n 0, 1) := by decide +kernel
theorem dX11_storm_85 : decode cX11_storm 85 = .ok (.getfield 12, 3) := by decide +kernel
theorem dX11_storm_88 : decode cX11_storm 88 = .ok (.getfield 205, 3) := by decide +kernel
theorem dX11_storm_91 : decode cX11_storm 91 = .ok (.getfield 209, 3) := by decide +kernel
theorem dX11_storm_94 : decode cX11_storm 94 = .ok (.ireturn, 1) := by decide +kernel
theorem hd_CF_storm_0 : y_CF_storm_0.cls ≠ "java/lang/invoke/MethodHandle" ∧ y_CF_storm_0.cls ≠ "java/lang/invoke/VarHandle" ∧ (parseMethodDescriptor y_CF_storm_0.desc).map (fun d => d.parameters.length) = some 2 := by decide +kernel
def f_CF_storm_0 (a1 : Int32) (a2 : Int32) (M0 : Mem) : Option (Int32 × Mem) :=
  if wthn a1 0 47 then (if wthn a2 1 20 then ((f_Line_ahead_24 a1 M0).bind fun q3 => if decide (q3 = (-1)) then (some ((-3), M0)) else ((f_Breaks_placeOf_29 a1 M0).bind fun q5 => if decide (q5 < 0) then (if decide ((M0.1 29 2) < 6) then ((f_Breaks_add_29 a1 a2 M0).bind fun q8 => some (q8.1 29 2, q8)) else (some ((-4), M0))) else (some ((-3), M0)))) else (some ((-2), M0))) else (some ((-1), M0))
set_option maxHeartbeats 4000000 in
set_option maxRecDepth 20000 in
theorem C_CF_storm_0 {D : va_G} {ad adK adV : Nat → Nat} {cI cJ : ClassId} {l : Launch} (a1 : Int32) (a2 : Int32) (M0 : Mem) (o : Int32 × Mem) (h : f_CF_storm_0 a1 a2 M0 = some o) : Ct D ad adK adV cI cJ l y_CF_storm_0 cX11_storm 3 (some .int) 3 63 [.ref (ad 0), .int a1, .int a2] M0 (some (.int o.1)) o.2 := by
  refine x_start (lv := [(0, .ref (ad 0)), (1, .int a1), (2, .int a2)]) (own := "CurrentFarms") rfl (by decide) (Nat.le_of_ble_eq_true rfl) rfl ?_
  intro p e s m args below meth c Q hQ B
  unfold f_CF_storm_0 at h
  refine x_iload_n (pc := 0) B 1 dX11_storm_0 rfl rfl ?_
  refine x_callS (rest := []) (st' := [.int (bI (wthn a1 0 47))]) (pc := 1) B (T_CF_isCell a1 M0) tw_556 tw_554 tw_555 tw_98 hd_CF_isCell ⟨Nat.le_of_ble_eq_true rfl, Nat.le_of_ble_eq_true rfl⟩ rfl rfl (Nat.le_of_ble_eq_true rfl) rfl dX11_storm_1 ?_
  refine x_if_ne_b (tgt := 9) (pc := 4) B dX11_storm_4 rfl (fun hc1 => ?_) (fun hc1 => ?_)
  · have h := ift hc1 h
    refine x_iload_n (pc := 9) B 2 dX11_storm_9 rfl rfl ?_
    refine x_iconst (v := 1) (pc := 10) B dX11_storm_10 rfl ?_
    refine x_bipush (v := 20) (pc := 11) B dX11_storm_11 rfl ?_
    refine x_callS (rest := []) (st' := [.int (bI (wthn a2 1 20))]) (pc := 13) B (T_CF_within a2 1 20 M0) tw_559 tw_557 tw_558 tw_98 hd_CF_within ⟨Nat.le_of_ble_eq_true rfl, Nat.le_of_ble_eq_true rfl⟩ rfl rfl (Nat.le_of_ble_eq_true rfl) rfl dX11_storm_13 ?_
    refine x_if_ne_b (tgt := 22) (pc := 16) B dX11_storm_16 rfl (fun hc2 => ?_) (fun hc2 => ?_)
    · have h := ift hc2 h
      refine x_aload_n (pc := 22) B 0 dX11_storm_22 rfl rfl ?_
      refine x_get (T := TX11) (pc := 23) B 0 oi_0 rfl uw_11 (by decide) rfl tw_525 rfl dX11_storm_23 ?_
      refine x_get (T := TX8) (pc := 26) B 3 oi_1 rfl uw_8 (by decide) rfl tw_374 rfl dX11_storm_26 ?_
      refine x_iload_n (pc := 29) B 1 dX11_storm_29 rfl rfl ?_
      obtain ⟨q3, hq3, h⟩ := bnd h
      refine x_callV (rest := []) (st' := [.int q3]) (pc := 30) B oi_24 rfl (C_Line_ahead_24 a1 M0 _ hq3) tw_571 tw_568 tw_569 tw_570 tw_103 hd_Line_ahead_24 ⟨Nat.le_of_ble_eq_true rfl, Nat.le_of_ble_eq_true rfl⟩ rfl rfl (Nat.le_of_ble_eq_true rfl) rfl dX11_storm_30 ?_
      refine x_iconst (v := (-1)) (pc := 33) B dX11_storm_33 rfl ?_
      refine x_icmp_eq (tgt := 51) (pc := 34) B dX11_storm_34 rfl (fun hc4 => ?_) (fun hc4 => ?_)
      · have h := ift hc4 h
        refine x_bipush (v := (-3)) (pc := 51) B dX11_storm_51 rfl ?_
        obtain rfl := Option.some.inj h
        exact x_iret (pc := 53) B hQ dX11_storm_53
      · have h := iff_ hc4 h
        refine x_aload_n (pc := 37) B 0 dX11_storm_37 rfl rfl ?_
        refine x_get (T := TX11) (pc := 38) B 0 oi_0 rfl uw_11 (by decide) rfl tw_525 rfl dX11_storm_38 ?_
        refine x_get (T := TX8) (pc := 41) B 4 oi_1 rfl uw_8 (by decide) rfl tw_377 rfl dX11_storm_41 ?_
        refine x_iload_n (pc := 44) B 1 dX11_storm_44 rfl rfl ?_
        obtain ⟨q5, hq5, h⟩ := bnd h
        refine x_callV (rest := []) (st' := [.int q5]) (pc := 45) B oi_29 rfl (C_Breaks_placeOf_29 a1 M0 _ hq5) tw_1170 tw_1167 tw_1168 tw_1169 tw_105 hd_Breaks_placeOf_29 ⟨Nat.le_of_ble_eq_true rfl, Nat.le_of_ble_eq_true rfl⟩ rfl rfl (Nat.le_of_ble_eq_true rfl) rfl dX11_storm_45 ?_
        refine x_if_lt (tgt := 54) (pc := 48) B dX11_storm_48 rfl (fun hc6 => ?_) (fun hc6 => ?_)
        · have h := ift hc6 h
          refine x_aload_n (pc := 54) B 0 dX11_storm_54 rfl rfl ?_
          refine x_get (T := TX11) (pc := 55) B 0 oi_0 rfl uw_11 (by decide) rfl tw_525 rfl dX11_storm_55 ?_
          refine x_get (T := TX8) (pc := 58) B 4 oi_1 rfl uw_8 (by decide) rfl tw_377 rfl dX11_storm_58 ?_
          refine x_get (T := TX2) (pc := 61) B 2 oi_29 rfl uw_2 (by decide) rfl tw_301 rfl dX11_storm_61 ?_
          refine x_bipush (v := 6) (pc := 64) B dX11_storm_64 rfl ?_
          refine x_icmp_lt (tgt := 72) (pc := 66) B dX11_storm_66 rfl (fun hc7 => ?_) (fun hc7 => ?_)
          · have h := ift hc7 h
            refine x_aload_n (pc := 72) B 0 dX11_storm_72 rfl rfl ?_
            refine x_get (T := TX11) (pc := 73) B 0 oi_0 rfl uw_11 (by decide) rfl tw_525 rfl dX11_storm_73 ?_
            refine x_get (T := TX8) (pc := 76) B 4 oi_1 rfl uw_8 (by decide) rfl tw_377 rfl dX11_storm_76 ?_
            refine x_iload_n (pc := 79) B 1 dX11_storm_79 rfl rfl ?_
            refine x_iload_n (pc := 80) B 2 dX11_storm_80 rfl rfl ?_
            obtain ⟨q8, hq8, h⟩ := bnd h
            refine x_callV (rest := []) (st' := []) (pc := 81) B oi_29 rfl (C_Breaks_add_29 a1 a2 M0 _ hq8) tw_1175 tw_1172 tw_1173 tw_1174 tw_105 hd_Breaks_add_29 ⟨Nat.le_of_ble_eq_true rfl, Nat.le_of_ble_eq_true rfl⟩ rfl rfl (Nat.le_of_ble_eq_true rfl) rfl dX11_storm_81 ?_
            refine x_aload_n (pc := 84) B 0 dX11_storm_84 rfl rfl ?_
            refine x_get (T := TX11) (pc := 85) B 0 oi_0 rfl uw_11 (by decide) rfl tw_525 rfl dX11_storm_85 ?_
            refine x_get (T := TX8) (pc := 88) B 4 oi_1 rfl uw_8 (by decide) rfl tw_377 rfl dX11_storm_88 ?_
            refine x_get (T := TX2) (pc := 91) B 2 oi_29 rfl uw_2 (by decide) rfl tw_301 rfl dX11_storm_91 ?_
            obtain rfl := Option.some.inj h
            exact x_iret (pc := 94) B hQ dX11_storm_94
          · have h := iff_ hc7 h
            refine x_bipush (v := (-4)) (pc := 69) B dX11_storm_69 rfl ?_
            obtain rfl := Option.some.inj h
            exact x_iret (pc := 71) B hQ dX11_storm_71
        · have h := iff_ hc6 h
          refine x_bipush (v := (-3)) (pc := 51) B dX11_storm_51 rfl ?_
          obtain rfl := Option.some.inj h
          exact x_iret (pc := 53) B hQ dX11_storm_53
    · have h := iff_ hc2 h
      refine x_bipush (v := (-2)) (pc := 19) B dX11_storm_19 rfl ?_
      obtain rfl := Option.some.inj h
      exact x_iret (pc := 21) B hQ dX11_storm_21
  · have h := iff_ hc1 h
    refine x_iconst (v := (-1)) (pc := 7) B dX11_storm_7 rfl ?_
    obtain rfl := Option.some.inj h
    exact x_iret (pc := 8) B hQ dX11_storm_8
-- CurrentFarms$Line.upward(I)J [24]
abbrev y_Line_upward_24 : MethodName := ⟨"CurrentFarms$Line", "upward", "(I)J"⟩
abbrev cX5_upward : ByteArray := prog_7_method_9_code
theorem dX5_upward_0 : decode cX5_upward 0 = .ok (.lconst 0, 1) := by decide +kernel
theorem dX5_upward_1 : decode cX5_upward 1 = .ok (.lstore_n 2, 1) := by decide +kernel
theorem dX5_upward_2 : decode cX5_upward 2 = .ok (.aload_n 0, 1) := by decide +kernel
theorem dX5_upward_3 : decode cX5_upward 3 = .ok (.iload_n 1, 1) := by decide +kernel
theorem dX5_upward_4 : decode cX5_upward 4 = .ok (.invokevirtual 66, 3) := by decide +kernel
theorem dX5_upward_7 : decode cX5_upward 7 = .ok (.istore 4, 2) := by decide +kernel
theorem dX5_upward_9 : decode cX5_upward 9 = .ok (.iconst 0, 1) := by decide +kernel
theorem dX5_upward_10 : decode cX5_upward 10 = .ok (.istore 5, 2) := by decide +kernel
theorem dX5_upward_12 : decode cX5_upward 12 = .ok (.iload 5, 2) := by decide +kernel
theorem dX5_upward_14 : decode cX5_upward 14 = .ok (.iload 4, 2) := by decide +kernel
theorem dX5_upward_16 : decode cX5_upward 16 = .ok (.if_icmp .gt 23, 3) := by decide +kernel
theorem dX5_upward_19 : decode cX5_upward 19 = .ok (.lload_n 2, 1) := by decide +kernel
theorem dX5_upward_20 : decode cX5_upward 20 = .ok (.lconst 1, 1) := by decide +kernel
theorem dX5_upward_21 : decode cX5_upward 21 = .ok (.aload_n 0, 1) := by decide +kernel
theorem dX5_upward_22 : decode cX5_upward 22 = .ok (.getfield 25, 3) := by decide +kernel
theorem dX5_upward_25 : decode cX5_upward 25 = .ok (.iload 5, 2) := by decide +kernel
theorem dX5_upward_27 : decode cX5_upward 27 = .ok (.invokestatic 52, 3) := by decide +kernel
theorem dX5_upward_30 : decode cX5_upward 30 = .ok (.lshl, 1) := by decide +kernel
theorem dX5_upward_31 : decode cX5_upward 31 = .ok (.lor, 1) := by decide +kernel
theorem dX5_upward_32 : decode cX5_upward 32 = .ok (.lstore_n 2, 1) := by decide +kernel
theorem dX5_upward_33 : decode cX5_upward 33 = .ok (.iinc 5 1, 3) := by decide +kernel
theorem dX5_upward_36 : decode cX5_upward 36 = .ok (.goto (-24), 3) := by decide +kernel
theorem dX5_upward_39 : decode cX5_upward 39 = .ok (.lload_n 2, 1) := by decide +kernel
theorem dX5_upward_40 : decode cX5_upward 40 = .ok (.lreturn, 1) := by decide +kernel
theorem hd_Line_upward_24 : y_Line_upward_24.cls ≠ "java/lang/invoke/MethodHandle" ∧ y_Line_upward_24.cls ≠ "java/lang/invoke/VarHandle" ∧ (parseMethodDescriptor y_Line_upward_24.desc).map (fun d => d.parameters.length) = some 1 := by decide +kernel
def b_Line_upward_24_12 (q1 : Int32 × Mem) (y2 : Int64 × Int32) : Option ((Int64 × Int32) ⊕ (Int64)) :=
  if decide (y2.2 ≤ q1.1) then (some (.inl (y2.1 ||| (1 <<< ((atv (q1.2.1 27) 48 y2.2).toInt64 &&& 63)), y2.2 + 1))) else (some (.inr y2.1))
def f_Line_upward_24 (a1 : Int32) (M0 : Mem) : Option (Int64 × Mem) :=
  (f_Line_climb_24 a1 M0).bind fun q1 => (itr (b_Line_upward_24_12 q1) FU (0, 0)).bind fun q4 => some (q4, q1.2)
set_option maxHeartbeats 4000000 in
set_option maxRecDepth 20000 in
theorem C_Line_upward_24 {D : va_G} {ad adK adV : Nat → Nat} {cI cJ : ClassId} {l : Launch} (a1 : Int32) (M0 : Mem) (o : Int64 × Mem) (h : f_Line_upward_24 a1 M0 = some o) : Ct D ad adK adV cI cJ l y_Line_upward_24 cX5_upward 6 (some .long) 4 86 [.ref (ad 24), .int a1] M0 (some (.long o.1)) o.2 := by
  refine x_start (lv := [(0, .ref (ad 24)), (1, .int a1)]) (own := "CurrentFarms$Line") rfl (by decide) (Nat.le_of_ble_eq_true rfl) rfl ?_
  intro p e s m args below meth c Q hQ B
  unfold f_Line_upward_24 at h
  refine x_lconst (v := 0) (pc := 0) B dX5_upward_0 rfl ?_
  refine x_lstore_n (lv' := [(2, .long 0), (0, .ref (ad 24)), (1, .int a1)]) (pc := 1) B dX5_upward_1 rfl (by decide) rfl ?_
  refine x_aload_n (pc := 2) B 1 dX5_upward_2 rfl rfl ?_
  refine x_iload_n (pc := 3) B 2 dX5_upward_3 rfl rfl ?_
  obtain ⟨q1, hq1, h⟩ := bnd h
  refine x_callV (rest := []) (st' := [.int q1.1]) (pc := 4) B oi_24 rfl (C_Line_climb_24 a1 M0 _ hq1) tw_718 tw_1038 tw_716 tw_717 tw_103 hd_Line_climb_24 ⟨Nat.le_of_ble_eq_true rfl, Nat.le_of_ble_eq_true rfl⟩ rfl rfl (Nat.le_of_ble_eq_true rfl) rfl dX5_upward_4 ?_
  refine x_istore (lv' := [(4, .int q1.1), (2, .long 0), (0, .ref (ad 24)), (1, .int a1)]) (pc := 7) B dX5_upward_7 (by decide) rfl ?_
  refine x_iconst (v := 0) (pc := 9) B dX5_upward_9 rfl ?_
  refine x_istore (lv' := [(5, .int 0), (4, .int q1.1), (2, .long 0), (0, .ref (ad 24)), (1, .int a1)]) (pc := 10) B dX5_upward_10 (by decide) rfl ?_
  refine x_pick (lv' := [(0, .ref (ad 24)), (2, .long 0), (4, .int q1.1), (5, .int 0)]) [3, 2, 1, 0] rfl ?_
  obtain ⟨q4, hq4, h⟩ := bnd h
  refine x_loop (Head := fun (y2 : Int64 × Int32) => XX D ad cI cJ p l e (Rm 4 86) s m args below meth c Q 6 q1.2 12 [(0, .ref (ad 24)), (2, .long y2.1), (4, .int q1.1), (5, .int y2.2)] []) (Ex := fun (q4 : Int64) => XX D ad cI cJ p l e (Rm 4 86) s m args below meth c Q 6 q1.2 39 [(2, .long q4)] []) (fun y2 r h hback hexit => ?_) FU _ q4 hq4 ?_
  · unfold b_Line_upward_24_12 at h
    refine x_iload (pc := 12) B 3 dX5_upward_12 rfl ?_
    refine x_iload (pc := 14) B 2 dX5_upward_14 rfl ?_
    refine x_icmp_gt (tgt := 39) (pc := 16) B dX5_upward_16 rfl (fun hc3 => ?_) (fun hc3 => ?_)
    · have h := iff_ hc3 h
      refine x_pick (lv' := [(2, .long y2.1)]) [1] rfl ?_
      have z := hexit y2.1 (Option.some.inj h).symm
      exact z
    · have h := ift hc3 h
      refine x_lload_n (pc := 19) B 1 dX5_upward_19 rfl rfl ?_
      refine x_lconst (v := 1) (pc := 20) B dX5_upward_20 rfl ?_
      refine x_aload_n (pc := 21) B 0 dX5_upward_21 rfl rfl ?_
      refine x_get (T := TX5) (pc := 22) B 5 oi_24 rfl uw_5 (by decide) rfl tw_274 rfl dX5_upward_22 ?_
      refine x_iload (pc := 25) B 3 dX5_upward_25 rfl ?_
      refine x_callSN (rest := [.long 1, .long y2.1]) (st' := [.int (atv (q1.2.1 27) 48 y2.2), .long 1, .long y2.1]) (pc := 27) B (T_CF_at 27 48 y2.2 ai_27 (by decide) q1.2) tw_575 tw_573 tw_574 tw_98 hd_CF_at ⟨Nat.le_of_ble_eq_true rfl, Nat.le_of_ble_eq_true rfl⟩ rfl rfl (Nat.le_of_ble_eq_true rfl) rfl dX5_upward_27 ?_
      refine x_lshl (pc := 30) B dX5_upward_30 ?_
      refine x_lor (pc := 31) B dX5_upward_31 ?_
      refine x_lstore_n (lv' := [(2, .long (y2.1 ||| (1 <<< ((atv (q1.2.1 27) 48 y2.2).toInt64 &&& 63)))), (0, .ref (ad 24)), (4, .int q1.1), (5, .int y2.2)]) (pc := 32) B dX5_upward_32 rfl (by decide) rfl ?_
      refine x_iinc (k := 3) (v := y2.2 + 1) (lv' := [(5, .int (y2.2 + 1)), (2, .long (y2.1 ||| (1 <<< ((atv (q1.2.1 27) 48 y2.2).toInt64 &&& 63)))), (0, .ref (ad 24)), (4, .int q1.1)]) (pc := 33) B dX5_upward_33 rfl rfl (by decide) rfl ?_
      refine x_goto (tgt := 12) (pc := 36) B dX5_upward_36 rfl ?_
      refine x_pick (lv' := [(0, .ref (ad 24)), (2, .long (y2.1 ||| (1 <<< ((atv (q1.2.1 27) 48 y2.2).toInt64 &&& 63)))), (4, .int q1.1), (5, .int (y2.2 + 1))]) [2, 1, 3, 0] rfl ?_
      have z := hback (y2.1 ||| (1 <<< ((atv (q1.2.1 27) 48 y2.2).toInt64 &&& 63)), y2.2 + 1) (Option.some.inj h).symm
      exact z
  · refine x_lload_n (pc := 39) B 0 dX5_upward_39 rfl rfl ?_
    obtain rfl := Option.some.inj h
    exact x_lret (pc := 40) B hQ dX5_upward_40
-- CurrentFarms$Breaks.breaksOn(J)I [29]
abbrev y_Breaks_breaksOn_29 : MethodName := ⟨"CurrentFarms$Breaks", "breaksOn", "(J)I"⟩
abbrev cX2_breaksOn : ByteArray := prog_4_method_6_code
theorem dX2_breaksOn_0 : decode cX2_breaksOn 0 = .ok (.iconst 0, 1) := by decide +kernel
theorem dX2_breaksOn_1 : decode cX2_breaksOn 1 = .ok (.istore_n 3, 1) := by decide +kernel
theorem dX2_breaksOn_2 : decode cX2_breaksOn 2 = .ok (.iconst 0, 1) := by decide +kernel
theorem dX2_breaksOn_3 : decode cX2_breaksOn 3 = .ok (.istore 4, 2) := by decide +kernel
theorem dX2_breaksOn_5 : decode cX2_breaksOn 5 = .ok (.iload 4, 2) := by decide +kernel
theorem dX2_breaksOn_7 : decode cX2_breaksOn 7 = .ok (.aload_n 0, 1) := by decide +kernel
theorem dX2_breaksOn_8 : decode cX2_breaksOn 8 = .ok (.getfield 34, 3) := by decide +kernel
theorem dX2_breaksOn_11 : decode cX2_breaksOn 11 = .ok (.if_icmp .ge 34, 3) := by decide +kernel
theorem dX2_breaksOn_14 : decode cX2_breaksOn 14 = .ok (.lload_n 1, 1) := by decide +kernel
theorem dX2_breaksOn_15 : decode cX2_breaksOn 15 = .ok (.aload_n 0, 1) := by decide +kernel
theorem dX2_breaksOn_16 : decode cX2_breaksOn 16 = .ok (.getfield 9, 3) := by decide +kernel
theorem dX2_breaksOn_19 : decode cX2_breaksOn 19 = .ok (.iload 4, 2) := by decide +kernel
theorem dX2_breaksOn_21 : decode cX2_breaksOn 21 = .ok (.invokestatic 42, 3) := by decide +kernel
theorem dX2_breaksOn_24 : decode cX2_breaksOn 24 = .ok (.lshr, 1) := by decide +kernel
theorem dX2_breaksOn_25 : decode cX2_breaksOn 25 = .ok (.lconst 1, 1) := by decide +kernel
theorem dX2_breaksOn_26 : decode cX2_breaksOn 26 = .ok (.land, 1) := by decide +kernel
theorem dX2_breaksOn_27 : decode cX2_breaksOn 27 = .ok (.lconst 1, 1) := by decide +kernel
theorem dX2_breaksOn_28 : decode cX2_breaksOn 28 = .ok (.lcmp, 1) := by decide +kernel
theorem dX2_breaksOn_29 : decode cX2_breaksOn 29 = .ok (.ifCond .ne 10, 3) := by decide +kernel
theorem dX2_breaksOn_32 : decode cX2_breaksOn 32 = .ok (.iload_n 3, 1) := by decide +kernel
theorem dX2_breaksOn_33 : decode cX2_breaksOn 33 = .ok (.iconst 1, 1) := by decide +kernel
theorem dX2_breaksOn_34 : decode cX2_breaksOn 34 = .ok (.iload 4, 2) := by decide +kernel
theorem dX2_breaksOn_36 : decode cX2_breaksOn 36 = .ok (.ishl, 1) := by decide +kernel
theorem dX2_breaksOn_37 : decode cX2_breaksOn 37 = .ok (.ior, 1) := by decide +kernel
theorem dX2_breaksOn_38 : decode cX2_breaksOn 38 = .ok (.istore_n 3, 1) := by decide +kernel
theorem dX2_breaksOn_39 : decode cX2_breaksOn 39 = .ok (.iinc 4 1, 3) := by decide +kernel
theorem dX2_breaksOn_42 : decode cX2_breaksOn 42 = .ok (.goto (-37), 3) := by decide +kernel
theorem dX2_breaksOn_45 : decode cX2_breaksOn 45 = .ok (.iload_n 3, 1) := by decide +kernel
theorem dX2_breaksOn_46 : decode cX2_breaksOn 46 = .ok (.ireturn, 1) := by decide +kernel
theorem hd_Breaks_breaksOn_29 : y_Breaks_breaksOn_29.cls ≠ "java/lang/invoke/MethodHandle" ∧ y_Breaks_breaksOn_29.cls ≠ "java/lang/invoke/VarHandle" ∧ (parseMethodDescriptor y_Breaks_breaksOn_29.desc).map (fun d => d.parameters.length) = some 1 := by decide +kernel
def b_Breaks_breaksOn_29_5 (a1 : Int64) (M0 : Mem) (y1 : Int32 × Int32) : Option ((Int32 × Int32) ⊕ (Int32)) :=
  if decide (y1.2 < (M0.1 29 2)) then (if decide ((lg_cmp ((a1 >>> ((atv (M0.1 30) 6 y1.2).toInt64 &&& 63)) &&& 1) 1) = 0) then (some (.inl (y1.1 ||| (1 <<< (y1.2 &&& 31)), y1.2 + 1))) else (some (.inl (y1.1, y1.2 + 1)))) else (some (.inr y1.1))
def f_Breaks_breaksOn_29 (a1 : Int64) (M0 : Mem) : Option (Int32) :=
  (itr (b_Breaks_breaksOn_29_5 a1 M0) FU (0, 0)).bind fun q4 => some q4
set_option maxHeartbeats 4000000 in
set_option maxRecDepth 20000 in
theorem C_Breaks_breaksOn_29 {D : va_G} {ad adK adV : Nat → Nat} {cI cJ : ClassId} {l : Launch} (a1 : Int64) (M0 : Mem) (o : Int32) (h : f_Breaks_breaksOn_29 a1 M0 = some o) : Ct D ad adK adV cI cJ l y_Breaks_breaksOn_29 cX2_breaksOn 5 (some .int) 1 21 [.ref (ad 29), .long a1] M0 (some (.int o)) M0 := by
  refine x_start (lv := [(0, .ref (ad 29)), (1, .long a1)]) (own := "CurrentFarms$Breaks") rfl (by decide) (Nat.le_of_ble_eq_true rfl) rfl ?_
  intro p e s m args below meth c Q hQ B
  unfold f_Breaks_breaksOn_29 at h
  refine x_iconst (v := 0) (pc := 0) B dX2_breaksOn_0 rfl ?_
  refine x_istore_n (lv' := [(3, .int 0), (0, .ref (ad 29)), (1, .long a1)]) (pc := 1) B dX2_breaksOn_1 rfl (by decide) rfl ?_
  refine x_iconst (v := 0) (pc := 2) B dX2_breaksOn_2 rfl ?_
  refine x_istore (lv' := [(4, .int 0), (3, .int 0), (0, .ref (ad 29)), (1, .long a1)]) (pc := 3) B dX2_breaksOn_3 (by decide) rfl ?_
  refine x_pick (lv' := [(0, .ref (ad 29)), (1, .long a1), (3, .int 0), (4, .int 0)]) [2, 3, 1, 0] rfl ?_
  obtain ⟨q4, hq4, h⟩ := bnd h
  refine x_loop (Head := fun (y1 : Int32 × Int32) => XX D ad cI cJ p l e (Rm 1 21) s m args below meth c Q 5 M0 5 [(0, .ref (ad 29)), (1, .long a1), (3, .int y1.1), (4, .int y1.2)] []) (Ex := fun (q4 : Int32) => XX D ad cI cJ p l e (Rm 1 21) s m args below meth c Q 5 M0 45 [(3, .int q4)] []) (fun y1 r h hback hexit => ?_) FU _ q4 hq4 ?_
  · unfold b_Breaks_breaksOn_29_5 at h
    refine x_iload (pc := 5) B 3 dX2_breaksOn_5 rfl ?_
    refine x_aload_n (pc := 7) B 0 dX2_breaksOn_7 rfl rfl ?_
    refine x_get (T := TX2) (pc := 8) B 2 oi_29 rfl uw_2 (by decide) rfl tw_300 rfl dX2_breaksOn_8 ?_
    refine x_icmp_ge (tgt := 45) (pc := 11) B dX2_breaksOn_11 rfl (fun hc2 => ?_) (fun hc2 => ?_)
    · have h := iff_ hc2 h
      refine x_pick (lv' := [(3, .int y1.1)]) [2] rfl ?_
      have z := hexit y1.1 (Option.some.inj h).symm
      exact z
    · have h := ift hc2 h
      refine x_lload_n (pc := 14) B 1 dX2_breaksOn_14 rfl rfl ?_
      refine x_aload_n (pc := 15) B 0 dX2_breaksOn_15 rfl rfl ?_
      refine x_get (T := TX2) (pc := 16) B 0 oi_29 rfl uw_2 (by decide) rfl tw_297 rfl dX2_breaksOn_16 ?_
      refine x_iload (pc := 19) B 3 dX2_breaksOn_19 rfl ?_
      refine x_callSN (rest := [.long a1]) (st' := [.int (atv (M0.1 30) 6 y1.2), .long a1]) (pc := 21) B (T_CF_at 30 6 y1.2 ai_30 (by decide) M0) tw_575 tw_1171 tw_574 tw_98 hd_CF_at ⟨Nat.le_of_ble_eq_true rfl, Nat.le_of_ble_eq_true rfl⟩ rfl rfl (Nat.le_of_ble_eq_true rfl) rfl dX2_breaksOn_21 ?_
      refine x_lshr (pc := 24) B dX2_breaksOn_24 ?_
      refine x_lconst (v := 1) (pc := 25) B dX2_breaksOn_25 rfl ?_
      refine x_land (pc := 26) B dX2_breaksOn_26 ?_
      refine x_lconst (v := 1) (pc := 27) B dX2_breaksOn_27 rfl ?_
      refine x_lcmp (pc := 28) B dX2_breaksOn_28 ?_
      refine x_if_ne (tgt := 39) (pc := 29) B dX2_breaksOn_29 rfl (fun hc3 => ?_) (fun hc3 => ?_)
      · have h := iff_ hc3 h
        refine x_iinc (k := 3) (v := y1.2 + 1) (lv' := [(4, .int (y1.2 + 1)), (0, .ref (ad 29)), (1, .long a1), (3, .int y1.1)]) (pc := 39) B dX2_breaksOn_39 rfl rfl (by decide) rfl ?_
        refine x_goto (tgt := 5) (pc := 42) B dX2_breaksOn_42 rfl ?_
        refine x_pick (lv' := [(0, .ref (ad 29)), (1, .long a1), (3, .int y1.1), (4, .int (y1.2 + 1))]) [1, 2, 3, 0] rfl ?_
        have z := hback (y1.1, y1.2 + 1) (Option.some.inj h).symm
        exact z
      · have h := ift hc3 h
        refine x_iload_n (pc := 32) B 2 dX2_breaksOn_32 rfl rfl ?_
        refine x_iconst (v := 1) (pc := 33) B dX2_breaksOn_33 rfl ?_
        refine x_iload (pc := 34) B 3 dX2_breaksOn_34 rfl ?_
        refine x_ishl (pc := 36) B dX2_breaksOn_36 ?_
        refine x_ior (pc := 37) B dX2_breaksOn_37 ?_
        refine x_istore_n (lv' := [(3, .int (y1.1 ||| (1 <<< (y1.2 &&& 31)))), (0, .ref (ad 29)), (1, .long a1), (4, .int y1.2)]) (pc := 38) B dX2_breaksOn_38 rfl (by decide) rfl ?_
        refine x_iinc (k := 3) (v := y1.2 + 1) (lv' := [(4, .int (y1.2 + 1)), (3, .int (y1.1 ||| (1 <<< (y1.2 &&& 31)))), (0, .ref (ad 29)), (1, .long a1)]) (pc := 39) B dX2_breaksOn_39 rfl rfl (by decide) rfl ?_
        refine x_goto (tgt := 5) (pc := 42) B dX2_breaksOn_42 rfl ?_
        refine x_pick (lv' := [(0, .ref (ad 29)), (1, .long a1), (3, .int (y1.1 ||| (1 <<< (y1.2 &&& 31)))), (4, .int (y1.2 + 1))]) [2, 3, 1, 0] rfl ?_
        have z := hback (y1.1 ||| (1 <<< (y1.2 &&& 31)), y1.2 + 1) (Option.some.inj h).symm
        exact z
  · refine x_iload_n (pc := 45) B 0 dX2_breaksOn_45 rfl rfl ?_
    obtain rfl := Option.some.inj h
    exact x_iret (pc := 46) B hQ dX2_breaksOn_46
-- CurrentFarms$Breaks.milk(LCurrentFarms$Land;)I [29, 2]
abbrev y_Breaks_milk_29_2 : MethodName := ⟨"CurrentFarms$Breaks", "milk", "(LCurrentFarms$Land;)I"⟩
abbrev cX2_milk : ByteArray := prog_4_method_7_code
theorem dX2_milk_0 : decode cX2_milk 0 = .ok (.aload_n 0, 1) := by decide +kernel
theorem dX2_milk_1 : decode cX2_milk 1 = .ok (.getfield 27, 3) := by decide +kernel
theorem dX2_milk_4 : decode cX2_milk 4 = .ok (.iconst 0, 1) := by decide +kernel
theorem dX2_milk_5 : decode cX2_milk 5 = .ok (.invokestatic 101, 3) := by decide +kernel
theorem dX2_milk_8 : decode cX2_milk 8 = .ok (.iconst 0, 1) := by decide +kernel
theorem dX2_milk_9 : decode cX2_milk 9 = .ok (.istore_n 2, 1) := by decide +kernel
theorem dX2_milk_10 : decode cX2_milk 10 = .ok (.iconst 0, 1) := by decide +kernel
theorem dX2_milk_11 : decode cX2_milk 11 = .ok (.istore_n 3, 1) := by decide +kernel
theorem dX2_milk_12 : decode cX2_milk 12 = .ok (.iload_n 3, 1) := by decide +kernel
theorem dX2_milk_13 : decode cX2_milk 13 = .ok (.aload_n 0, 1) := by decide +kernel
theorem dX2_milk_14 : decode cX2_milk 14 = .ok (.getfield 34, 3) := by decide +kernel
theorem dX2_milk_17 : decode cX2_milk 17 = .ok (.if_icmp .ge 74, 3) := by decide +kernel
theorem dX2_milk_20 : decode cX2_milk 20 = .ok (.aload_n 0, 1) := by decide +kernel
theorem dX2_milk_21 : decode cX2_milk 21 = .ok (.getfield 18, 3) := by decide +kernel
theorem dX2_milk_24 : decode cX2_milk 24 = .ok (.iload_n 3, 1) := by decide +kernel
theorem dX2_milk_25 : decode cX2_milk 25 = .ok (.invokestatic 42, 3) := by decide +kernel
theorem dX2_milk_28 : decode cX2_milk 28 = .ok (.istore 4, 2) := by decide +kernel
theorem dX2_milk_30 : decode cX2_milk 30 = .ok (.iload_n 2, 1) := by decide +kernel
theorem dX2_milk_31 : decode cX2_milk 31 = .ok (.aload_n 0, 1) := by decide +kernel
theorem dX2_milk_32 : decode cX2_milk 32 = .ok (.getfield 15, 3) := by decide +kernel
theorem dX2_milk_35 : decode cX2_milk 35 = .ok (.iload 4, 2) := by decide +kernel
theorem dX2_milk_37 : decode cX2_milk 37 = .ok (.invokestatic 42, 3) := by decide +kernel
theorem dX2_milk_40 : decode cX2_milk 40 = .ok (.iadd, 1) := by decide +kernel
theorem dX2_milk_41 : decode cX2_milk 41 = .ok (.istore_n 2, 1) := by decide +kernel
theorem dX2_milk_42 : decode cX2_milk 42 = .ok (.iconst 0, 1) := by decide +kernel
theorem dX2_milk_43 : decode cX2_milk 43 = .ok (.istore 5, 2) := by decide +kernel
theorem dX2_milk_45 : decode cX2_milk 45 = .ok (.iload 5, 2) := by decide +kernel
theorem dX2_milk_47 : decode cX2_milk 47 = .ok (.bipush 10, 2) := by decide +kernel
theorem dX2_milk_49 : decode cX2_milk 49 = .ok (.if_icmp .ge 36, 3) := by decide +kernel
theorem dX2_milk_52 : decode cX2_milk 52 = .ok (.aload_n 0, 1) := by decide +kernel
theorem dX2_milk_53 : decode cX2_milk 53 = .ok (.getfield 24, 3) := by decide +kernel
theorem dX2_milk_56 : decode cX2_milk 56 = .ok (.iload 5, 2) := by decide +kernel
theorem dX2_milk_58 : decode cX2_milk 58 = .ok (.invokestatic 42, 3) := by decide +kernel
theorem dX2_milk_61 : decode cX2_milk 61 = .ok (.iload 4, 2) := by decide +kernel
theorem dX2_milk_63 : decode cX2_milk 63 = .ok (.invokestatic 81, 3) := by decide +kernel
theorem dX2_milk_66 : decode cX2_milk 66 = .ok (.ifCond .eq 13, 3) := by decide +kernel
theorem dX2_milk_69 : decode cX2_milk 69 = .ok (.aload_n 0, 1) := by decide +kernel
theorem dX2_milk_70 : decode cX2_milk 70 = .ok (.getfield 27, 3) := by decide +kernel
theorem dX2_milk_73 : decode cX2_milk 73 = .ok (.iload 5, 2) := by decide +kernel
theorem dX2_milk_75 : decode cX2_milk 75 = .ok (.iload_n 2, 1) := by decide +kernel
theorem dX2_milk_76 : decode cX2_milk 76 = .ok (.invokestatic 38, 3) := by decide +kernel
theorem dX2_milk_79 : decode cX2_milk 79 = .ok (.iinc 5 1, 3) := by decide +kernel
theorem dX2_milk_82 : decode cX2_milk 82 = .ok (.goto (-37), 3) := by decide +kernel
theorem dX2_milk_85 : decode cX2_milk 85 = .ok (.iinc 3 1, 3) := by decide +kernel
theorem dX2_milk_88 : decode cX2_milk 88 = .ok (.goto (-76), 3) := by decide +kernel
theorem dX2_milk_91 : decode cX2_milk 91 = .ok (.iconst 0, 1) := by decide +kernel
theorem dX2_milk_92 : decode cX2_milk 92 = .ok (.istore_n 3, 1) := by decide +kernel
theorem dX2_milk_93 : decode cX2_milk 93 = .ok (.iconst 0, 1) := by decide +kernel
theorem dX2_milk_94 : decode cX2_milk 94 = .ok (.istore 4, 2) := by decide +kernel
theorem dX2_milk_96 : decode cX2_milk 96 = .ok (.iload 4, 2) := by decide +kernel
theorem dX2_milk_98 : decode cX2_milk 98 = .ok (.bipush 10, 2) := by decide +kernel
theorem dX2_milk_100 : decode cX2_milk 100 = .ok (.if_icmp .ge 31, 3) := by decide +kernel
theorem dX2_milk_103 : decode cX2_milk 103 = .ok (.iload_n 3, 1) := by decide +kernel
theorem dX2_milk_104 : decode cX2_milk 104 = .ok (.aload_n 0, 1) := by decide +kernel
theorem dX2_milk_105 : decode cX2_milk 105 = .ok (.getfield 27, 3) := by decide +kernel
theorem dX2_milk_108 : decode cX2_milk 108 = .ok (.iload 4, 2) := by decide +kernel
theorem dX2_milk_110 : decode cX2_milk 110 = .ok (.invokestatic 42, 3) := by decide +kernel
theorem dX2_milk_113 : decode cX2_milk 113 = .ok (.aload_n 1, 1) := by decide +kernel
theorem dX2_milk_114 : decode cX2_milk 114 = .ok (.getfield 107, 3) := by decide +kernel
theorem dX2_milk_117 : decode cX2_milk 117 = .ok (.iload 4, 2) := by decide +kernel
theorem dX2_milk_119 : decode cX2_milk 119 = .ok (.invokestatic 42, 3) := by decide +kernel
theorem dX2_milk_122 : decode cX2_milk 122 = .ok (.imul, 1) := by decide +kernel
theorem dX2_milk_123 : decode cX2_milk 123 = .ok (.iadd, 1) := by decide +kernel
theorem dX2_milk_124 : decode cX2_milk 124 = .ok (.istore_n 3, 1) := by decide +kernel
theorem dX2_milk_125 : decode cX2_milk 125 = .ok (.iinc 4 1, 3) := by decide +kernel
theorem dX2_milk_128 : decode cX2_milk 128 = .ok (.goto (-32), 3) := by decide +kernel
theorem dX2_milk_131 : decode cX2_milk 131 = .ok (.iload_n 3, 1) := by decide +kernel
theorem dX2_milk_132 : decode cX2_milk 132 = .ok (.ireturn, 1) := by decide +kernel
theorem hd_Breaks_milk_29_2 : y_Breaks_milk_29_2.cls ≠ "java/lang/invoke/MethodHandle" ∧ y_Breaks_milk_29_2.cls ≠ "java/lang/invoke/VarHandle" ∧ (parseMethodDescriptor y_Breaks_milk_29_2.desc).map (fun d => d.parameters.length) = some 1 := by decide +kernel
def b_Breaks_milk_29_2_45 (y2 : Int32 × Int32 × Mem) (y4 : Int32 × Mem) : Option ((Int32 × Mem) ⊕ (Mem)) :=
  if decide (y4.1 < 10) then (if hld (atv (y4.2.1 34) 10 y4.1) (atv (y2.2.2.1 32) 6 y2.2.1) then (jv_ (putv y4.2 35 10 y4.1 (y2.1 + (atv (y2.2.2.1 31) 6 (atv (y2.2.2.1 32) 6 y2.2.1)))) fun M7 => some (.inl (y4.1 + 1, M7))) else (some (.inl (y4.1 + 1, y4.2)))) else (some (.inr y4.2))
def b_Breaks_milk_29_2_12  (y2 : Int32 × Int32 × Mem) : Option ((Int32 × Int32 × Mem) ⊕ (Mem)) :=
  if decide (y2.2.1 < (y2.2.2.1 29 2)) then ((itr (b_Breaks_milk_29_2_45 y2) FU (0, y2.2.2)).bind fun q8 => some (.inl (y2.1 + (atv (y2.2.2.1 31) 6 (atv (y2.2.2.1 32) 6 y2.2.1)), y2.2.1 + 1, q8))) else (some (.inr y2.2.2))
def b_Breaks_milk_29_2_96 (q9 : Mem) (y10 : Int32 × Int32) : Option ((Int32 × Int32) ⊕ (Int32)) :=
  if decide (y10.2 < 10) then (some (.inl (y10.1 + ((atv (q9.1 35) 10 y10.2) * (atv (q9.1 6) 10 y10.2)), y10.2 + 1))) else (some (.inr y10.1))
def f_Breaks_milk_29_2  (M0 : Mem) : Option (Int32 × Mem) :=
  jv_ (wR M0 35 (filv (M0.1 35) 10 0)) fun M1 => (itr (b_Breaks_milk_29_2_12) FU (0, 0, M1)).bind fun q9 => (itr (b_Breaks_milk_29_2_96 q9) FU (0, 0)).bind fun q12 => some (q12, q9)
set_option maxHeartbeats 4000000 in
set_option maxRecDepth 20000 in
theorem C_Breaks_milk_29_2 {D : va_G} {ad adK adV : Nat → Nat} {cI cJ : ClassId} {l : Launch}  (M0 : Mem) (o : Int32 × Mem) (h : f_Breaks_milk_29_2  M0 = some o) : Ct D ad adK adV cI cJ l y_Breaks_milk_29_2 cX2_milk 6 (some .int) 1 23 [.ref (ad 29), .ref (ad 2)] M0 (some (.int o.1)) o.2 := by
  refine x_start (lv := [(0, .ref (ad 29)), (1, .ref (ad 2))]) (own := "CurrentFarms$Breaks") rfl (by decide) (Nat.le_of_ble_eq_true rfl) rfl ?_
  intro p e s m args below meth c Q hQ B
  unfold f_Breaks_milk_29_2 at h
  refine x_aload_n (pc := 0) B 0 dX2_milk_0 rfl rfl ?_
  refine x_get (T := TX2) (pc := 1) B 7 oi_29 rfl uw_2 (by decide) rfl tw_308 rfl dX2_milk_1 ?_
  refine x_iconst (v := 0) (pc := 4) B dX2_milk_4 rfl ?_
  refine x_callS (rest := []) (st' := []) (pc := 5) B (T_fill 35 10 0 ai_35 (by decide) M0) tw_262 tw_1201 tw_261 tw_104 hd_Arrays_fill_53178 ⟨Nat.le_of_ble_eq_true rfl, Nat.le_of_ble_eq_true rfl⟩ rfl rfl (Nat.le_of_ble_eq_true rfl) rfl dX2_milk_5 ?_
  refine jv_m (P := fun M1 => XX D ad cI cJ p l e (Rm 1 23) s m args below meth c Q 6 M1 8 [(0, .ref (ad 29)), (1, .ref (ad 2))] []) h (fun M1 h => ?_)
  refine x_iconst (v := 0) (pc := 8) B dX2_milk_8 rfl ?_
  refine x_istore_n (lv' := [(2, .int 0), (0, .ref (ad 29)), (1, .ref (ad 2))]) (pc := 9) B dX2_milk_9 rfl (by decide) rfl ?_
  refine x_iconst (v := 0) (pc := 10) B dX2_milk_10 rfl ?_
  refine x_istore_n (lv' := [(3, .int 0), (2, .int 0), (0, .ref (ad 29)), (1, .ref (ad 2))]) (pc := 11) B dX2_milk_11 rfl (by decide) rfl ?_
  refine x_pick (lv' := [(0, .ref (ad 29)), (1, .ref (ad 2)), (2, .int 0), (3, .int 0)]) [2, 3, 1, 0] rfl ?_
  obtain ⟨q9, hq9, h⟩ := bnd h
  refine x_loop (Head := fun (y2 : Int32 × Int32 × Mem) => XX D ad cI cJ p l e (Rm 1 23) s m args below meth c Q 6 y2.2.2 12 [(0, .ref (ad 29)), (1, .ref (ad 2)), (2, .int y2.1), (3, .int y2.2.1)] []) (Ex := fun (q9 : Mem) => XX D ad cI cJ p l e (Rm 1 23) s m args below meth c Q 6 q9 91 [(0, .ref (ad 29)), (1, .ref (ad 2))] []) (fun y2 r h hback hexit => ?_) FU _ q9 hq9 ?_
  · unfold b_Breaks_milk_29_2_12 at h
    refine x_iload_n (pc := 12) B 3 dX2_milk_12 rfl rfl ?_
    refine x_aload_n (pc := 13) B 0 dX2_milk_13 rfl rfl ?_
    refine x_get (T := TX2) (pc := 14) B 2 oi_29 rfl uw_2 (by decide) rfl tw_300 rfl dX2_milk_14 ?_
    refine x_icmp_ge (tgt := 91) (pc := 17) B dX2_milk_17 rfl (fun hc3 => ?_) (fun hc3 => ?_)
    · have h := iff_ hc3 h
      refine x_pick (lv' := [(0, .ref (ad 29)), (1, .ref (ad 2))]) [0, 1] rfl ?_
      have z := hexit y2.2.2 (Option.some.inj h).symm
      exact z
    · have h := ift hc3 h
      refine x_aload_n (pc := 20) B 0 dX2_milk_20 rfl rfl ?_
      refine x_get (T := TX2) (pc := 21) B 3 oi_29 rfl uw_2 (by decide) rfl tw_302 rfl dX2_milk_21 ?_
      refine x_iload_n (pc := 24) B 3 dX2_milk_24 rfl rfl ?_
      refine x_callSN (rest := []) (st' := [.int (atv (y2.2.2.1 32) 6 y2.2.1)]) (pc := 25) B (T_CF_at 32 6 y2.2.1 ai_32 (by decide) y2.2.2) tw_575 tw_1171 tw_574 tw_98 hd_CF_at ⟨Nat.le_of_ble_eq_true rfl, Nat.le_of_ble_eq_true rfl⟩ rfl rfl (Nat.le_of_ble_eq_true rfl) rfl dX2_milk_25 ?_
      refine x_istore (lv' := [(4, .int (atv (y2.2.2.1 32) 6 y2.2.1)), (0, .ref (ad 29)), (1, .ref (ad 2)), (2, .int y2.1), (3, .int y2.2.1)]) (pc := 28) B dX2_milk_28 (by decide) rfl ?_
      refine x_iload_n (pc := 30) B 3 dX2_milk_30 rfl rfl ?_
      refine x_aload_n (pc := 31) B 1 dX2_milk_31 rfl rfl ?_
      refine x_get (T := TX2) (pc := 32) B 1 oi_29 rfl uw_2 (by decide) rfl tw_299 rfl dX2_milk_32 ?_
      refine x_iload (pc := 35) B 0 dX2_milk_35 rfl ?_
      refine x_callSN (rest := [.int y2.1]) (st' := [.int (atv (y2.2.2.1 31) 6 (atv (y2.2.2.1 32) 6 y2.2.1)), .int y2.1]) (pc := 37) B (T_CF_at 31 6 (atv (y2.2.2.1 32) 6 y2.2.1) ai_31 (by decide) y2.2.2) tw_575 tw_1171 tw_574 tw_98 hd_CF_at ⟨Nat.le_of_ble_eq_true rfl, Nat.le_of_ble_eq_true rfl⟩ rfl rfl (Nat.le_of_ble_eq_true rfl) rfl dX2_milk_37 ?_
      refine x_iadd (pc := 40) B dX2_milk_40 ?_
      refine x_istore_n (lv' := [(2, .int (y2.1 + (atv (y2.2.2.1 31) 6 (atv (y2.2.2.1 32) 6 y2.2.1)))), (4, .int (atv (y2.2.2.1 32) 6 y2.2.1)), (0, .ref (ad 29)), (1, .ref (ad 2)), (3, .int y2.2.1)]) (pc := 41) B dX2_milk_41 rfl (by decide) rfl ?_
      refine x_iconst (v := 0) (pc := 42) B dX2_milk_42 rfl ?_
      refine x_istore (lv' := [(5, .int 0), (2, .int (y2.1 + (atv (y2.2.2.1 31) 6 (atv (y2.2.2.1 32) 6 y2.2.1)))), (4, .int (atv (y2.2.2.1 32) 6 y2.2.1)), (0, .ref (ad 29)), (1, .ref (ad 2)), (3, .int y2.2.1)]) (pc := 43) B dX2_milk_43 (by decide) rfl ?_
      refine x_pick (lv' := [(0, .ref (ad 29)), (1, .ref (ad 2)), (2, .int (y2.1 + (atv (y2.2.2.1 31) 6 (atv (y2.2.2.1 32) 6 y2.2.1)))), (3, .int y2.2.1), (4, .int (atv (y2.2.2.1 32) 6 y2.2.1)), (5, .int 0)]) [3, 4, 1, 5, 2, 0] rfl ?_
      obtain ⟨q8, hq8, h⟩ := bnd h
      refine x_loop (Head := fun (y4 : Int32 × Mem) => XX D ad cI cJ p l e (Rm 1 23) s m args below meth c Q 6 y4.2 45 [(0, .ref (ad 29)), (1, .ref (ad 2)), (2, .int (y2.1 + (atv (y2.2.2.1 31) 6 (atv (y2.2.2.1 32) 6 y2.2.1)))), (3, .int y2.2.1), (4, .int (atv (y2.2.2.1 32) 6 y2.2.1)), (5, .int y4.1)] []) (Ex := fun (q8 : Mem) => XX D ad cI cJ p l e (Rm 1 23) s m args below meth c Q 6 q8 85 [(0, .ref (ad 29)), (1, .ref (ad 2)), (2, .int (y2.1 + (atv (y2.2.2.1 31) 6 (atv (y2.2.2.1 32) 6 y2.2.1)))), (3, .int y2.2.1)] []) (fun y4 r h hback hexit => ?_) FU _ q8 hq8 ?_
      · unfold b_Breaks_milk_29_2_45 at h
        refine x_iload (pc := 45) B 5 dX2_milk_45 rfl ?_
        refine x_bipush (v := 10) (pc := 47) B dX2_milk_47 rfl ?_
        refine x_icmp_ge (tgt := 85) (pc := 49) B dX2_milk_49 rfl (fun hc5 => ?_) (fun hc5 => ?_)
        · have h := iff_ hc5 h
          refine x_pick (lv' := [(0, .ref (ad 29)), (1, .ref (ad 2)), (2, .int (y2.1 + (atv (y2.2.2.1 31) 6 (atv (y2.2.2.1 32) 6 y2.2.1)))), (3, .int y2.2.1)]) [0, 1, 2, 3] rfl ?_
          have z := hexit y4.2 (Option.some.inj h).symm
          exact z
        · have h := ift hc5 h
          refine x_aload_n (pc := 52) B 0 dX2_milk_52 rfl rfl ?_
          refine x_get (T := TX2) (pc := 53) B 6 oi_29 rfl uw_2 (by decide) rfl tw_307 rfl dX2_milk_53 ?_
          refine x_iload (pc := 56) B 5 dX2_milk_56 rfl ?_
          refine x_callSN (rest := []) (st' := [.int (atv (y4.2.1 34) 10 y4.1)]) (pc := 58) B (T_CF_at 34 10 y4.1 ai_34 (by decide) y4.2) tw_575 tw_1171 tw_574 tw_98 hd_CF_at ⟨Nat.le_of_ble_eq_true rfl, Nat.le_of_ble_eq_true rfl⟩ rfl rfl (Nat.le_of_ble_eq_true rfl) rfl dX2_milk_58 ?_
          refine x_iload (pc := 61) B 4 dX2_milk_61 rfl ?_
          refine x_callSN (rest := []) (st' := [.int (bI (hld (atv (y4.2.1 34) 10 y4.1) (atv (y2.2.2.1 32) 6 y2.2.1)))]) (pc := 63) B (T_CF_holds (atv (y4.2.1 34) 10 y4.1) (atv (y2.2.2.1 32) 6 y2.2.1) y4.2) tw_699 tw_1191 tw_698 tw_98 hd_CF_holds ⟨Nat.le_of_ble_eq_true rfl, Nat.le_of_ble_eq_true rfl⟩ rfl rfl (Nat.le_of_ble_eq_true rfl) rfl dX2_milk_63 ?_
          refine x_if_eq_b (tgt := 79) (pc := 66) B dX2_milk_66 rfl (fun hc6 => ?_) (fun hc6 => ?_)
          · have h := iff_ hc6 h
            refine x_iinc (k := 5) (v := y4.1 + 1) (lv' := [(5, .int (y4.1 + 1)), (0, .ref (ad 29)), (1, .ref (ad 2)), (2, .int (y2.1 + (atv (y2.2.2.1 31) 6 (atv (y2.2.2.1 32) 6 y2.2.1)))), (3, .int y2.2.1), (4, .int (atv (y2.2.2.1 32) 6 y2.2.1))]) (pc := 79) B dX2_milk_79 rfl rfl (by decide) rfl ?_
            refine x_goto (tgt := 45) (pc := 82) B dX2_milk_82 rfl ?_
            refine x_pick (lv' := [(0, .ref (ad 29)), (1, .ref (ad 2)), (2, .int (y2.1 + (atv (y2.2.2.1 31) 6 (atv (y2.2.2.1 32) 6 y2.2.1)))), (3, .int y2.2.1), (4, .int (atv (y2.2.2.1 32) 6 y2.2.1)), (5, .int (y4.1 + 1))]) [1, 2, 3, 4, 5, 0] rfl ?_
            have z := hback (y4.1 + 1, y4.2) (Option.some.inj h).symm
            exact z
          · have h := ift hc6 h
            refine x_aload_n (pc := 69) B 0 dX2_milk_69 rfl rfl ?_
            refine x_get (T := TX2) (pc := 70) B 7 oi_29 rfl uw_2 (by decide) rfl tw_308 rfl dX2_milk_70 ?_
            refine x_iload (pc := 73) B 5 dX2_milk_73 rfl ?_
            refine x_iload_n (pc := 75) B 2 dX2_milk_75 rfl rfl ?_
            refine x_callSN (rest := []) (st' := []) (pc := 76) B (T_CF_put 35 10 y4.1 (y2.1 + (atv (y2.2.2.1 31) 6 (atv (y2.2.2.1 32) 6 y2.2.1))) ai_35 (by decide) y4.2) tw_588 tw_1176 tw_587 tw_98 hd_CF_put ⟨Nat.le_of_ble_eq_true rfl, Nat.le_of_ble_eq_true rfl⟩ rfl rfl (Nat.le_of_ble_eq_true rfl) rfl dX2_milk_76 ?_
            refine jv_m (P := fun M7 => XX D ad cI cJ p l e (Rm 1 23) s m args below meth c Q 6 M7 79 [(0, .ref (ad 29)), (1, .ref (ad 2)), (2, .int (y2.1 + (atv (y2.2.2.1 31) 6 (atv (y2.2.2.1 32) 6 y2.2.1)))), (3, .int y2.2.1), (4, .int (atv (y2.2.2.1 32) 6 y2.2.1)), (5, .int y4.1)] []) h (fun M7 h => ?_)
            refine x_iinc (k := 5) (v := y4.1 + 1) (lv' := [(5, .int (y4.1 + 1)), (0, .ref (ad 29)), (1, .ref (ad 2)), (2, .int (y2.1 + (atv (y2.2.2.1 31) 6 (atv (y2.2.2.1 32) 6 y2.2.1)))), (3, .int y2.2.1), (4, .int (atv (y2.2.2.1 32) 6 y2.2.1))]) (pc := 79) B dX2_milk_79 rfl rfl (by decide) rfl ?_
            refine x_goto (tgt := 45) (pc := 82) B dX2_milk_82 rfl ?_
            refine x_pick (lv' := [(0, .ref (ad 29)), (1, .ref (ad 2)), (2, .int (y2.1 + (atv (y2.2.2.1 31) 6 (atv (y2.2.2.1 32) 6 y2.2.1)))), (3, .int y2.2.1), (4, .int (atv (y2.2.2.1 32) 6 y2.2.1)), (5, .int (y4.1 + 1))]) [1, 2, 3, 4, 5, 0] rfl ?_
            have z := hback (y4.1 + 1, M7) (Option.some.inj h).symm
            exact z
      · refine x_iinc (k := 3) (v := y2.2.1 + 1) (lv' := [(3, .int (y2.2.1 + 1)), (0, .ref (ad 29)), (1, .ref (ad 2)), (2, .int (y2.1 + (atv (y2.2.2.1 31) 6 (atv (y2.2.2.1 32) 6 y2.2.1))))]) (pc := 85) B dX2_milk_85 rfl rfl (by decide) rfl ?_
        refine x_goto (tgt := 12) (pc := 88) B dX2_milk_88 rfl ?_
        refine x_pick (lv' := [(0, .ref (ad 29)), (1, .ref (ad 2)), (2, .int (y2.1 + (atv (y2.2.2.1 31) 6 (atv (y2.2.2.1 32) 6 y2.2.1)))), (3, .int (y2.2.1 + 1))]) [1, 2, 3, 0] rfl ?_
        have z := hback (y2.1 + (atv (y2.2.2.1 31) 6 (atv (y2.2.2.1 32) 6 y2.2.1)), y2.2.1 + 1, q8) (Option.some.inj h).symm
        exact z
  · refine x_iconst (v := 0) (pc := 91) B dX2_milk_91 rfl ?_
    refine x_istore_n (lv' := [(3, .int 0), (0, .ref (ad 29)), (1, .ref (ad 2))]) (pc := 92) B dX2_milk_92 rfl (by decide) rfl ?_
    refine x_iconst (v := 0) (pc := 93) B dX2_milk_93 rfl ?_
    refine x_istore (lv' := [(4, .int 0), (3, .int 0), (0, .ref (ad 29)), (1, .ref (ad 2))]) (pc := 94) B dX2_milk_94 (by decide) rfl ?_
    refine x_pick (lv' := [(0, .ref (ad 29)), (1, .ref (ad 2)), (3, .int 0), (4, .int 0)]) [2, 3, 1, 0] rfl ?_
    obtain ⟨q12, hq12, h⟩ := bnd h
    refine x_loop (Head := fun (y10 : Int32 × Int32) => XX D ad cI cJ p l e (Rm 1 23) s m args below meth c Q 6 q9 96 [(0, .ref (ad 29)), (1, .ref (ad 2)), (3, .int y10.1), (4, .int y10.2)] []) (Ex := fun (q12 : Int32) => XX D ad cI cJ p l e (Rm 1 23) s m args below meth c Q 6 q9 131 [(3, .int q12)] []) (fun y10 r h hback hexit => ?_) FU _ q12 hq12 ?_
    · unfold b_Breaks_milk_29_2_96 at h
      refine x_iload (pc := 96) B 3 dX2_milk_96 rfl ?_
      refine x_bipush (v := 10) (pc := 98) B dX2_milk_98 rfl ?_
      refine x_icmp_ge (tgt := 131) (pc := 100) B dX2_milk_100 rfl (fun hc11 => ?_) (fun hc11 => ?_)
      · have h := iff_ hc11 h
        refine x_pick (lv' := [(3, .int y10.1)]) [2] rfl ?_
        have z := hexit y10.1 (Option.some.inj h).symm
        exact z
      · have h := ift hc11 h
        refine x_iload_n (pc := 103) B 2 dX2_milk_103 rfl rfl ?_
        refine x_aload_n (pc := 104) B 0 dX2_milk_104 rfl rfl ?_
        refine x_get (T := TX2) (pc := 105) B 7 oi_29 rfl uw_2 (by decide) rfl tw_308 rfl dX2_milk_105 ?_
        refine x_iload (pc := 108) B 3 dX2_milk_108 rfl ?_
        refine x_callSN (rest := [.int y10.1]) (st' := [.int (atv (q9.1 35) 10 y10.2), .int y10.1]) (pc := 110) B (T_CF_at 35 10 y10.2 ai_35 (by decide) q9) tw_575 tw_1171 tw_574 tw_98 hd_CF_at ⟨Nat.le_of_ble_eq_true rfl, Nat.le_of_ble_eq_true rfl⟩ rfl rfl (Nat.le_of_ble_eq_true rfl) rfl dX2_milk_110 ?_
        refine x_aload_n (pc := 113) B 1 dX2_milk_113 rfl rfl ?_
        refine x_get (T := TX4) (pc := 114) B 3 oi_2 rfl uw_4 (by decide) rfl tw_148 rfl dX2_milk_114 ?_
        refine x_iload (pc := 117) B 3 dX2_milk_117 rfl ?_
        refine x_callSN (rest := [.int (atv (q9.1 35) 10 y10.2), .int y10.1]) (st' := [.int (atv (q9.1 6) 10 y10.2), .int (atv (q9.1 35) 10 y10.2), .int y10.1]) (pc := 119) B (T_CF_at 6 10 y10.2 ai_6 (by decide) q9) tw_575 tw_1171 tw_574 tw_98 hd_CF_at ⟨Nat.le_of_ble_eq_true rfl, Nat.le_of_ble_eq_true rfl⟩ rfl rfl (Nat.le_of_ble_eq_true rfl) rfl dX2_milk_119 ?_
        refine x_imul (pc := 122) B dX2_milk_122 ?_
        refine x_iadd (pc := 123) B dX2_milk_123 ?_
        refine x_istore_n (lv' := [(3, .int (y10.1 + ((atv (q9.1 35) 10 y10.2) * (atv (q9.1 6) 10 y10.2)))), (0, .ref (ad 29)), (1, .ref (ad 2)), (4, .int y10.2)]) (pc := 124) B dX2_milk_124 rfl (by decide) rfl ?_
        refine x_iinc (k := 3) (v := y10.2 + 1) (lv' := [(4, .int (y10.2 + 1)), (3, .int (y10.1 + ((atv (q9.1 35) 10 y10.2) * (atv (q9.1 6) 10 y10.2)))), (0, .ref (ad 29)), (1, .ref (ad 2))]) (pc := 125) B dX2_milk_125 rfl rfl (by decide) rfl ?_
        refine x_goto (tgt := 96) (pc := 128) B dX2_milk_128 rfl ?_
        refine x_pick (lv' := [(0, .ref (ad 29)), (1, .ref (ad 2)), (3, .int (y10.1 + ((atv (q9.1 35) 10 y10.2) * (atv (q9.1 6) 10 y10.2)))), (4, .int (y10.2 + 1))]) [2, 3, 1, 0] rfl ?_
        have z := hback (y10.1 + ((atv (q9.1 35) 10 y10.2) * (atv (q9.1 6) 10 y10.2)), y10.2 + 1) (Option.some.inj h).symm
        exact z
    · refine x_iload_n (pc := 131) B 0 dX2_milk_131 rfl rfl ?_
      obtain rfl := Option.some.inj h
      exact x_iret (pc := 132) B hQ dX2_milk_132
-- CurrentFarms$Breaks.swap(II)V [29]
abbrev y_Breaks_swap_29 : MethodName := ⟨"CurrentFarms$Breaks", "swap", "(II)V"⟩
abbrev cX2_swap : ByteArray := prog_4_method_9_code
theorem dX2_swap_0 : decode cX2_swap 0 = .ok (.aload_n 0, 1) := by decide +kernel
theorem dX2_swap_1 : decode cX2_swap 1 = .ok (.getfield 18, 3) := by decide +kernel
theorem dX2_swap_4 : decode cX2_swap 4 = .ok (.iload_n 1, 1) := by decide +kernel
theorem dX2_swap_5 : decode cX2_swap 5 = .ok (.invokestatic 42, 3) := by decide +kernel
theorem dX2_swap_8 : decode cX2_swap 8 = .ok (.istore_n 3, 1) := by decide +kernel
theorem dX2_swap_9 : decode cX2_swap 9 = .ok (.aload_n 0, 1) := by decide +kernel
theorem dX2_swap_10 : decode cX2_swap 10 = .ok (.getfield 18, 3) := by decide +kernel
theorem dX2_swap_13 : decode cX2_swap 13 = .ok (.iload_n 1, 1) := by decide +kernel
theorem dX2_swap_14 : decode cX2_swap 14 = .ok (.aload_n 0, 1) := by decide +kernel
theorem dX2_swap_15 : decode cX2_swap 15 = .ok (.getfield 18, 3) := by decide +kernel
theorem dX2_swap_18 : decode cX2_swap 18 = .ok (.iload_n 2, 1) := by decide +kernel
theorem dX2_swap_19 : decode cX2_swap 19 = .ok (.invokestatic 42, 3) := by decide +kernel
theorem dX2_swap_22 : decode cX2_swap 22 = .ok (.invokestatic 38, 3) := by decide +kernel
theorem dX2_swap_25 : decode cX2_swap 25 = .ok (.aload_n 0, 1) := by decide +kernel
theorem dX2_swap_26 : decode cX2_swap 26 = .ok (.getfield 18, 3) := by decide +kernel
theorem dX2_swap_29 : decode cX2_swap 29 = .ok (.iload_n 2, 1) := by decide +kernel
theorem dX2_swap_30 : decode cX2_swap 30 = .ok (.iload_n 3, 1) := by decide +kernel
theorem dX2_swap_31 : decode cX2_swap 31 = .ok (.invokestatic 38, 3) := by decide +kernel
theorem dX2_swap_34 : decode cX2_swap 34 = .ok (.return_, 1) := by decide +kernel
theorem hd_Breaks_swap_29 : y_Breaks_swap_29.cls ≠ "java/lang/invoke/MethodHandle" ∧ y_Breaks_swap_29.cls ≠ "java/lang/invoke/VarHandle" ∧ (parseMethodDescriptor y_Breaks_swap_29.desc).map (fun d => d.parameters.length) = some 2 := by decide +kernel
def f_Breaks_swap_29 (a1 : Int32) (a2 : Int32) (M0 : Mem) : Option (Mem) :=
  jv_ (putv M0 32 6 a1 (atv (M0.1 32) 6 a2)) fun M1 => jv_ (putv M1 32 6 a2 (atv (M0.1 32) 6 a1)) fun M2 => some M2
set_option maxHeartbeats 4000000 in
set_option maxRecDepth 20000 in
theorem C_Breaks_swap_29 {D : va_G} {ad adK adV : Nat → Nat} {cI cJ : ClassId} {l : Launch} (a1 : Int32) (a2 : Int32) (M0 : Mem) (o : Mem) (h : f_Breaks_swap_29 a1 a2 M0 = some o) : Ct D ad adK adV cI cJ l y_Breaks_swap_29 cX2_swap 4 none 1 22 [.ref (ad 29), .int a1, .int a2] M0 none o := by
  refine x_start (lv := [(0, .ref (ad 29)), (1, .int a1), (2, .int a2)]) (own := "CurrentFarms$Breaks") rfl (by decide) (Nat.le_of_ble_eq_true rfl) rfl ?_
  intro p e s m args below meth c Q hQ B
  unfold f_Breaks_swap_29 at h
  refine x_aload_n (pc := 0) B 0 dX2_swap_0 rfl rfl ?_
  refine x_get (T := TX2) (pc := 1) B 3 oi_29 rfl uw_2 (by decide) rfl tw_302 rfl dX2_swap_1 ?_
  refine x_iload_n (pc := 4) B 1 dX2_swap_4 rfl rfl ?_
  refine x_callSN (rest := []) (st' := [.int (atv (M0.1 32) 6 a1)]) (pc := 5) B (T_CF_at 32 6 a1 ai_32 (by decide) M0) tw_575 tw_1171 tw_574 tw_98 hd_CF_at ⟨Nat.le_of_ble_eq_true rfl, Nat.le_of_ble_eq_true rfl⟩ rfl rfl (Nat.le_of_ble_eq_true rfl) rfl dX2_swap_5 ?_
  refine x_istore_n (lv' := [(3, .int (atv (M0.1 32) 6 a1)), (0, .ref (ad 29)), (1, .int a1), (2, .int a2)]) (pc := 8) B dX2_swap_8 rfl (by decide) rfl ?_
  refine x_aload_n (pc := 9) B 1 dX2_swap_9 rfl rfl ?_
  refine x_get (T := TX2) (pc := 10) B 3 oi_29 rfl uw_2 (by decide) rfl tw_302 rfl dX2_swap_10 ?_
  refine x_iload_n (pc := 13) B 2 dX2_swap_13 rfl rfl ?_
  refine x_aload_n (pc := 14) B 1 dX2_swap_14 rfl rfl ?_
  refine x_get (T := TX2) (pc := 15) B 3 oi_29 rfl uw_2 (by decide) rfl tw_302 rfl dX2_swap_15 ?_
  refine x_iload_n (pc := 18) B 3 dX2_swap_18 rfl rfl ?_
  refine x_callSN (rest := [.int a1, .ref (ad 32)]) (st' := [.int (atv (M0.1 32) 6 a2), .int a1, .ref (ad 32)]) (pc := 19) B (T_CF_at 32 6 a2 ai_32 (by decide) M0) tw_575 tw_1171 tw_574 tw_98 hd_CF_at ⟨Nat.le_of_ble_eq_true rfl, Nat.le_of_ble_eq_true rfl⟩ rfl rfl (Nat.le_of_ble_eq_true rfl) rfl dX2_swap_19 ?_
  refine x_callSN (rest := []) (st' := []) (pc := 22) B (T_CF_put 32 6 a1 (atv (M0.1 32) 6 a2) ai_32 (by decide) M0) tw_588 tw_1176 tw_587 tw_98 hd_CF_put ⟨Nat.le_of_ble_eq_true rfl, Nat.le_of_ble_eq_true rfl⟩ rfl rfl (Nat.le_of_ble_eq_true rfl) rfl dX2_swap_22 ?_
  refine jv_m (P := fun M1 => XX D ad cI cJ p l e (Rm 1 22) s m args below meth c Q 4 M1 25 [(3, .int (atv (M0.1 32) 6 a1)), (0, .ref (ad 29)), (1, .int a1), (2, .int a2)] []) h (fun M1 h => ?_)
  refine x_aload_n (pc := 25) B 1 dX2_swap_25 rfl rfl ?_
  refine x_get (T := TX2) (pc := 26) B 3 oi_29 rfl uw_2 (by decide) rfl tw_302 rfl dX2_swap_26 ?_
  refine x_iload_n (pc := 29) B 3 dX2_swap_29 rfl rfl ?_
  refine x_iload_n (pc := 30) B 0 dX2_swap_30 rfl rfl ?_
  refine x_callSN (rest := []) (st' := []) (pc := 31) B (T_CF_put 32 6 a2 (atv (M0.1 32) 6 a1) ai_32 (by decide) M1) tw_588 tw_1176 tw_587 tw_98 hd_CF_put ⟨Nat.le_of_ble_eq_true rfl, Nat.le_of_ble_eq_true rfl⟩ rfl rfl (Nat.le_of_ble_eq_true rfl) rfl dX2_swap_31 ?_
  refine jv_m (P := fun M2 => XX D ad cI cJ p l e (Rm 1 22) s m args below meth c Q 4 M2 34 [(3, .int (atv (M0.1 32) 6 a1)), (0, .ref (ad 29)), (1, .int a1), (2, .int a2)] []) h (fun M2 h => ?_)
  obtain rfl := Option.some.inj h
  exact x_vret (pc := 34) B hQ dX2_swap_34
