-- CurrentFarms$Breaks.stepRow()Z [29]
abbrev y_Breaks_stepRow_29 : MethodName := ⟨"CurrentFarms$Breaks", "stepRow", "()Z"⟩
abbrev cX2_stepRow : ByteArray := prog_4_method_8_code
theorem dX2_stepRow_0 : decode cX2_stepRow 0 = .ok (.aload_n 0, 1) := by decide +kernel
theorem dX2_stepRow_1 : decode cX2_stepRow 1 = .ok (.getfield 34, 3) := by decide +kernel
theorem dX2_stepRow_4 : decode cX2_stepRow 4 = .ok (.iconst 2, 1) := by decide +kernel
theorem dX2_stepRow_5 : decode cX2_stepRow 5 = .ok (.isub, 1) := by decide +kernel
theorem dX2_stepRow_6 : decode cX2_stepRow 6 = .ok (.istore_n 1, 1) := by decide +kernel
theorem dX2_stepRow_7 : decode cX2_stepRow 7 = .ok (.iload_n 1, 1) := by decide +kernel
theorem dX2_stepRow_8 : decode cX2_stepRow 8 = .ok (.ifCond .lt 30, 3) := by decide +kernel
theorem dX2_stepRow_11 : decode cX2_stepRow 11 = .ok (.aload_n 0, 1) := by decide +kernel
theorem dX2_stepRow_12 : decode cX2_stepRow 12 = .ok (.getfield 18, 3) := by decide +kernel
theorem dX2_stepRow_15 : decode cX2_stepRow 15 = .ok (.iload_n 1, 1) := by decide +kernel
theorem dX2_stepRow_16 : decode cX2_stepRow 16 = .ok (.invokestatic 42, 3) := by decide +kernel
theorem dX2_stepRow_19 : decode cX2_stepRow 19 = .ok (.aload_n 0, 1) := by decide +kernel
theorem dX2_stepRow_20 : decode cX2_stepRow 20 = .ok (.getfield 18, 3) := by decide +kernel
theorem dX2_stepRow_23 : decode cX2_stepRow 23 = .ok (.iload_n 1, 1) := by decide +kernel
theorem dX2_stepRow_24 : decode cX2_stepRow 24 = .ok (.iconst 1, 1) := by decide +kernel
theorem dX2_stepRow_25 : decode cX2_stepRow 25 = .ok (.iadd, 1) := by decide +kernel
theorem dX2_stepRow_26 : decode cX2_stepRow 26 = .ok (.invokestatic 42, 3) := by decide +kernel
theorem dX2_stepRow_29 : decode cX2_stepRow 29 = .ok (.if_icmp .le 9, 3) := by decide +kernel
theorem dX2_stepRow_32 : decode cX2_stepRow 32 = .ok (.iinc 1 (-1), 3) := by decide +kernel
theorem dX2_stepRow_35 : decode cX2_stepRow 35 = .ok (.goto (-28), 3) := by decide +kernel
theorem dX2_stepRow_38 : decode cX2_stepRow 38 = .ok (.iload_n 1, 1) := by decide +kernel
theorem dX2_stepRow_39 : decode cX2_stepRow 39 = .ok (.ifCond .ge 5, 3) := by decide +kernel
theorem dX2_stepRow_42 : decode cX2_stepRow 42 = .ok (.iconst 0, 1) := by decide +kernel
theorem dX2_stepRow_43 : decode cX2_stepRow 43 = .ok (.ireturn, 1) := by decide +kernel
theorem dX2_stepRow_44 : decode cX2_stepRow 44 = .ok (.aload_n 0, 1) := by decide +kernel
theorem dX2_stepRow_45 : decode cX2_stepRow 45 = .ok (.getfield 34, 3) := by decide +kernel
theorem dX2_stepRow_48 : decode cX2_stepRow 48 = .ok (.iconst 1, 1) := by decide +kernel
theorem dX2_stepRow_49 : decode cX2_stepRow 49 = .ok (.isub, 1) := by decide +kernel
theorem dX2_stepRow_50 : decode cX2_stepRow 50 = .ok (.istore_n 2, 1) := by decide +kernel
theorem dX2_stepRow_51 : decode cX2_stepRow 51 = .ok (.iload_n 2, 1) := by decide +kernel
theorem dX2_stepRow_52 : decode cX2_stepRow 52 = .ok (.iload_n 1, 1) := by decide +kernel
theorem dX2_stepRow_53 : decode cX2_stepRow 53 = .ok (.if_icmp .le 28, 3) := by decide +kernel
theorem dX2_stepRow_56 : decode cX2_stepRow 56 = .ok (.aload_n 0, 1) := by decide +kernel
theorem dX2_stepRow_57 : decode cX2_stepRow 57 = .ok (.getfield 18, 3) := by decide +kernel
theorem dX2_stepRow_60 : decode cX2_stepRow 60 = .ok (.iload_n 2, 1) := by decide +kernel
theorem dX2_stepRow_61 : decode cX2_stepRow 61 = .ok (.invokestatic 42, 3) := by decide +kernel
theorem dX2_stepRow_64 : decode cX2_stepRow 64 = .ok (.aload_n 0, 1) := by decide +kernel
theorem dX2_stepRow_65 : decode cX2_stepRow 65 = .ok (.getfield 18, 3) := by decide +kernel
theorem dX2_stepRow_68 : decode cX2_stepRow 68 = .ok (.iload_n 1, 1) := by decide +kernel
theorem dX2_stepRow_69 : decode cX2_stepRow 69 = .ok (.invokestatic 42, 3) := by decide +kernel
theorem dX2_stepRow_72 : decode cX2_stepRow 72 = .ok (.if_icmp .ge 9, 3) := by decide +kernel
theorem dX2_stepRow_75 : decode cX2_stepRow 75 = .ok (.iinc 2 (-1), 3) := by decide +kernel
theorem dX2_stepRow_78 : decode cX2_stepRow 78 = .ok (.goto (-27), 3) := by decide +kernel
theorem dX2_stepRow_81 : decode cX2_stepRow 81 = .ok (.aload_n 0, 1) := by decide +kernel
theorem dX2_stepRow_82 : decode cX2_stepRow 82 = .ok (.iload_n 1, 1) := by decide +kernel
theorem dX2_stepRow_83 : decode cX2_stepRow 83 = .ok (.iload_n 2, 1) := by decide +kernel
theorem dX2_stepRow_84 : decode cX2_stepRow 84 = .ok (.invokevirtual 110, 3) := by decide +kernel
theorem dX2_stepRow_87 : decode cX2_stepRow 87 = .ok (.iload_n 1, 1) := by decide +kernel
theorem dX2_stepRow_88 : decode cX2_stepRow 88 = .ok (.iconst 1, 1) := by decide +kernel
theorem dX2_stepRow_89 : decode cX2_stepRow 89 = .ok (.iadd, 1) := by decide +kernel
theorem dX2_stepRow_90 : decode cX2_stepRow 90 = .ok (.istore_n 3, 1) := by decide +kernel
theorem dX2_stepRow_91 : decode cX2_stepRow 91 = .ok (.aload_n 0, 1) := by decide +kernel
theorem dX2_stepRow_92 : decode cX2_stepRow 92 = .ok (.getfield 34, 3) := by decide +kernel
theorem dX2_stepRow_95 : decode cX2_stepRow 95 = .ok (.iconst 1, 1) := by decide +kernel
theorem dX2_stepRow_96 : decode cX2_stepRow 96 = .ok (.isub, 1) := by decide +kernel
theorem dX2_stepRow_97 : decode cX2_stepRow 97 = .ok (.istore 4, 2) := by decide +kernel
theorem dX2_stepRow_99 : decode cX2_stepRow 99 = .ok (.iload_n 3, 1) := by decide +kernel
theorem dX2_stepRow_100 : decode cX2_stepRow 100 = .ok (.iload 4, 2) := by decide +kernel
theorem dX2_stepRow_102 : decode cX2_stepRow 102 = .ok (.if_icmp .ge 19, 3) := by decide +kernel
theorem dX2_stepRow_105 : decode cX2_stepRow 105 = .ok (.aload_n 0, 1) := by decide +kernel
theorem dX2_stepRow_106 : decode cX2_stepRow 106 = .ok (.iload_n 3, 1) := by decide +kernel
theorem dX2_stepRow_107 : decode cX2_stepRow 107 = .ok (.iload 4, 2) := by decide +kernel
theorem dX2_stepRow_109 : decode cX2_stepRow 109 = .ok (.invokevirtual 110, 3) := by decide +kernel
theorem dX2_stepRow_112 : decode cX2_stepRow 112 = .ok (.iinc 3 1, 3) := by decide +kernel
theorem dX2_stepRow_115 : decode cX2_stepRow 115 = .ok (.iinc 4 (-1), 3) := by decide +kernel
theorem dX2_stepRow_118 : decode cX2_stepRow 118 = .ok (.goto (-19), 3) := by decide +kernel
theorem dX2_stepRow_121 : decode cX2_stepRow 121 = .ok (.iconst 1, 1) := by decide +kernel
theorem dX2_stepRow_122 : decode cX2_stepRow 122 = .ok (.ireturn, 1) := by decide +kernel
theorem hd_Breaks_stepRow_29 : y_Breaks_stepRow_29.cls ≠ "java/lang/invoke/MethodHandle" ∧ y_Breaks_stepRow_29.cls ≠ "java/lang/invoke/VarHandle" ∧ (parseMethodDescriptor y_Breaks_stepRow_29.desc).map (fun d => d.parameters.length) = some 0 := by decide +kernel
def b_Breaks_stepRow_29_7 (M0 : Mem) (y1 : Int32) : Option ((Int32) ⊕ (Int32)) :=
  if decide (y1 < 0) then (some (.inr y1)) else (if decide ((atv (M0.1 32) 6 y1) ≤ (atv (M0.1 32) 6 (y1 + 1))) then (some (.inr y1)) else (some (.inl (y1 + (-1)))))
def b_Breaks_stepRow_29_51 (M0 : Mem) (q4 : Int32) (y6 : Int32) : Option ((Int32) ⊕ (Int32)) :=
  if decide (y6 ≤ q4) then (some (.inr y6)) else (if decide ((atv (M0.1 32) 6 y6) < (atv (M0.1 32) 6 q4)) then (some (.inl (y6 + (-1)))) else (some (.inr y6)))
def b_Breaks_stepRow_29_99  (y11 : Int32 × Int32 × Mem) : Option ((Int32 × Int32 × Mem) ⊕ (Mem)) :=
  if decide (y11.1 < y11.2.1) then ((f_Breaks_swap_29 y11.1 y11.2.1 y11.2.2).bind fun q13 => some (.inl (y11.1 + 1, y11.2.1 + (-1), q13))) else (some (.inr y11.2.2))
def f_Breaks_stepRow_29  (M0 : Mem) : Option (Bool × Mem) :=
  (itr (b_Breaks_stepRow_29_7 M0) FU ((M0.1 29 2) - 2)).bind fun q4 => if decide (q4 < 0) then (some (false, M0)) else ((itr (b_Breaks_stepRow_29_51 M0 q4) FU ((M0.1 29 2) - 1)).bind fun q9 => (f_Breaks_swap_29 q4 q9 M0).bind fun q10 => (itr (b_Breaks_stepRow_29_99) FU (q4 + 1, (q10.1 29 2) - 1, q10)).bind fun q14 => some (true, q14))
set_option maxHeartbeats 4000000 in
set_option maxRecDepth 20000 in
theorem C_Breaks_stepRow_29 {D : va_G} {ad adK adV : Nat → Nat} {cI cJ : ClassId} {l : Launch}  (M0 : Mem) (o : Bool × Mem) (h : f_Breaks_stepRow_29  M0 = some o) : Ct D ad adK adV cI cJ l y_Breaks_stepRow_29 cX2_stepRow 5 (some .boolean) 2 45 [.ref (ad 29)] M0 (some (.int (bI o.1))) o.2 := by
  refine x_start (lv := [(0, .ref (ad 29))]) (own := "CurrentFarms$Breaks") rfl (by decide) (Nat.le_of_ble_eq_true rfl) rfl ?_
  intro p e s m args below meth c Q hQ B
  unfold f_Breaks_stepRow_29 at h
  refine x_aload_n (pc := 0) B 0 dX2_stepRow_0 rfl rfl ?_
  refine x_get (T := TX2) (pc := 1) B 2 oi_29 rfl uw_2 (by decide) rfl tw_300 rfl dX2_stepRow_1 ?_
  refine x_iconst (v := 2) (pc := 4) B dX2_stepRow_4 rfl ?_
  refine x_isub (pc := 5) B dX2_stepRow_5 ?_
  refine x_istore_n (lv' := [(1, .int ((M0.1 29 2) - 2)), (0, .ref (ad 29))]) (pc := 6) B dX2_stepRow_6 rfl (by decide) rfl ?_
  refine x_pick (lv' := [(0, .ref (ad 29)), (1, .int ((M0.1 29 2) - 2))]) [1, 0] rfl ?_
  obtain ⟨q4, hq4, h⟩ := bnd h
  refine x_loop (Head := fun (y1 : Int32) => XX D ad cI cJ p l e (Rm 2 45) s m args below meth c Q 5 M0 7 [(0, .ref (ad 29)), (1, .int y1)] []) (Ex := fun (q4 : Int32) => XX D ad cI cJ p l e (Rm 2 45) s m args below meth c Q 5 M0 38 [(0, .ref (ad 29)), (1, .int q4)] []) (fun y1 r h hback hexit => ?_) FU _ q4 hq4 ?_
  · unfold b_Breaks_stepRow_29_7 at h
    refine x_iload_n (pc := 7) B 1 dX2_stepRow_7 rfl rfl ?_
    refine x_if_lt (tgt := 38) (pc := 8) B dX2_stepRow_8 rfl (fun hc2 => ?_) (fun hc2 => ?_)
    · have h := ift hc2 h
      have z := hexit y1 (Option.some.inj h).symm
      exact z
    · have h := iff_ hc2 h
      refine x_aload_n (pc := 11) B 0 dX2_stepRow_11 rfl rfl ?_
      refine x_get (T := TX2) (pc := 12) B 3 oi_29 rfl uw_2 (by decide) rfl tw_302 rfl dX2_stepRow_12 ?_
      refine x_iload_n (pc := 15) B 1 dX2_stepRow_15 rfl rfl ?_
      refine x_callSN (rest := []) (st' := [.int (atv (M0.1 32) 6 y1)]) (pc := 16) B (T_CF_at 32 6 y1 ai_32 (by decide) M0) tw_575 tw_1171 tw_574 tw_98 hd_CF_at ⟨Nat.le_of_ble_eq_true rfl, Nat.le_of_ble_eq_true rfl⟩ rfl rfl (Nat.le_of_ble_eq_true rfl) rfl dX2_stepRow_16 ?_
      refine x_aload_n (pc := 19) B 0 dX2_stepRow_19 rfl rfl ?_
      refine x_get (T := TX2) (pc := 20) B 3 oi_29 rfl uw_2 (by decide) rfl tw_302 rfl dX2_stepRow_20 ?_
      refine x_iload_n (pc := 23) B 1 dX2_stepRow_23 rfl rfl ?_
      refine x_iconst (v := 1) (pc := 24) B dX2_stepRow_24 rfl ?_
      refine x_iadd (pc := 25) B dX2_stepRow_25 ?_
      refine x_callSN (rest := [.int (atv (M0.1 32) 6 y1)]) (st' := [.int (atv (M0.1 32) 6 (y1 + 1)), .int (atv (M0.1 32) 6 y1)]) (pc := 26) B (T_CF_at 32 6 (y1 + 1) ai_32 (by decide) M0) tw_575 tw_1171 tw_574 tw_98 hd_CF_at ⟨Nat.le_of_ble_eq_true rfl, Nat.le_of_ble_eq_true rfl⟩ rfl rfl (Nat.le_of_ble_eq_true rfl) rfl dX2_stepRow_26 ?_
      refine x_icmp_le (tgt := 38) (pc := 29) B dX2_stepRow_29 rfl (fun hc3 => ?_) (fun hc3 => ?_)
      · have h := ift hc3 h
        have z := hexit y1 (Option.some.inj h).symm
        exact z
      · have h := iff_ hc3 h
        refine x_iinc (k := 1) (v := y1 + (-1)) (lv' := [(1, .int (y1 + (-1))), (0, .ref (ad 29))]) (pc := 32) B dX2_stepRow_32 rfl rfl (by decide) rfl ?_
        refine x_goto (tgt := 7) (pc := 35) B dX2_stepRow_35 rfl ?_
        refine x_pick (lv' := [(0, .ref (ad 29)), (1, .int (y1 + (-1)))]) [1, 0] rfl ?_
        have z := hback (y1 + (-1)) (Option.some.inj h).symm
        exact z
  · refine x_iload_n (pc := 38) B 1 dX2_stepRow_38 rfl rfl ?_
    refine x_if_ge (tgt := 44) (pc := 39) B dX2_stepRow_39 rfl (fun hc5 => ?_) (fun hc5 => ?_)
    · have h := iff_ hc5 h
      refine x_aload_n (pc := 44) B 0 dX2_stepRow_44 rfl rfl ?_
      refine x_get (T := TX2) (pc := 45) B 2 oi_29 rfl uw_2 (by decide) rfl tw_300 rfl dX2_stepRow_45 ?_
      refine x_iconst (v := 1) (pc := 48) B dX2_stepRow_48 rfl ?_
      refine x_isub (pc := 49) B dX2_stepRow_49 ?_
      refine x_istore_n (lv' := [(2, .int ((M0.1 29 2) - 1)), (0, .ref (ad 29)), (1, .int q4)]) (pc := 50) B dX2_stepRow_50 rfl (by decide) rfl ?_
      refine x_pick (lv' := [(0, .ref (ad 29)), (1, .int q4), (2, .int ((M0.1 29 2) - 1))]) [1, 2, 0] rfl ?_
      obtain ⟨q9, hq9, h⟩ := bnd h
      refine x_loop (Head := fun (y6 : Int32) => XX D ad cI cJ p l e (Rm 2 45) s m args below meth c Q 5 M0 51 [(0, .ref (ad 29)), (1, .int q4), (2, .int y6)] []) (Ex := fun (q9 : Int32) => XX D ad cI cJ p l e (Rm 2 45) s m args below meth c Q 5 M0 81 [(0, .ref (ad 29)), (1, .int q4), (2, .int q9)] []) (fun y6 r h hback hexit => ?_) FU _ q9 hq9 ?_
      · unfold b_Breaks_stepRow_29_51 at h
        refine x_iload_n (pc := 51) B 2 dX2_stepRow_51 rfl rfl ?_
        refine x_iload_n (pc := 52) B 1 dX2_stepRow_52 rfl rfl ?_
        refine x_icmp_le (tgt := 81) (pc := 53) B dX2_stepRow_53 rfl (fun hc7 => ?_) (fun hc7 => ?_)
        · have h := ift hc7 h
          have z := hexit y6 (Option.some.inj h).symm
          exact z
        · have h := iff_ hc7 h
          refine x_aload_n (pc := 56) B 0 dX2_stepRow_56 rfl rfl ?_
          refine x_get (T := TX2) (pc := 57) B 3 oi_29 rfl uw_2 (by decide) rfl tw_302 rfl dX2_stepRow_57 ?_
          refine x_iload_n (pc := 60) B 2 dX2_stepRow_60 rfl rfl ?_
          refine x_callSN (rest := []) (st' := [.int (atv (M0.1 32) 6 y6)]) (pc := 61) B (T_CF_at 32 6 y6 ai_32 (by decide) M0) tw_575 tw_1171 tw_574 tw_98 hd_CF_at ⟨Nat.le_of_ble_eq_true rfl, Nat.le_of_ble_eq_true rfl⟩ rfl rfl (Nat.le_of_ble_eq_true rfl) rfl dX2_stepRow_61 ?_
          refine x_aload_n (pc := 64) B 0 dX2_stepRow_64 rfl rfl ?_
          refine x_get (T := TX2) (pc := 65) B 3 oi_29 rfl uw_2 (by decide) rfl tw_302 rfl dX2_stepRow_65 ?_
          refine x_iload_n (pc := 68) B 1 dX2_stepRow_68 rfl rfl ?_
          refine x_callSN (rest := [.int (atv (M0.1 32) 6 y6)]) (st' := [.int (atv (M0.1 32) 6 q4), .int (atv (M0.1 32) 6 y6)]) (pc := 69) B (T_CF_at 32 6 q4 ai_32 (by decide) M0) tw_575 tw_1171 tw_574 tw_98 hd_CF_at ⟨Nat.le_of_ble_eq_true rfl, Nat.le_of_ble_eq_true rfl⟩ rfl rfl (Nat.le_of_ble_eq_true rfl) rfl dX2_stepRow_69 ?_
          refine x_icmp_ge (tgt := 81) (pc := 72) B dX2_stepRow_72 rfl (fun hc8 => ?_) (fun hc8 => ?_)
          · have h := iff_ hc8 h
            have z := hexit y6 (Option.some.inj h).symm
            exact z
          · have h := ift hc8 h
            refine x_iinc (k := 2) (v := y6 + (-1)) (lv' := [(2, .int (y6 + (-1))), (0, .ref (ad 29)), (1, .int q4)]) (pc := 75) B dX2_stepRow_75 rfl rfl (by decide) rfl ?_
            refine x_goto (tgt := 51) (pc := 78) B dX2_stepRow_78 rfl ?_
            refine x_pick (lv' := [(0, .ref (ad 29)), (1, .int q4), (2, .int (y6 + (-1)))]) [1, 2, 0] rfl ?_
            have z := hback (y6 + (-1)) (Option.some.inj h).symm
            exact z
      · refine x_aload_n (pc := 81) B 0 dX2_stepRow_81 rfl rfl ?_
        refine x_iload_n (pc := 82) B 1 dX2_stepRow_82 rfl rfl ?_
        refine x_iload_n (pc := 83) B 2 dX2_stepRow_83 rfl rfl ?_
        obtain ⟨q10, hq10, h⟩ := bnd h
        refine x_callV (rest := []) (st' := []) (pc := 84) B oi_29 rfl (C_Breaks_swap_29 q4 q9 M0 _ hq10) tw_1216 tw_1213 tw_1215 tw_40 tw_105 hd_Breaks_swap_29 ⟨Nat.le_of_ble_eq_true rfl, Nat.le_of_ble_eq_true rfl⟩ rfl rfl (Nat.le_of_ble_eq_true rfl) rfl dX2_stepRow_84 ?_
        refine x_iload_n (pc := 87) B 1 dX2_stepRow_87 rfl rfl ?_
        refine x_iconst (v := 1) (pc := 88) B dX2_stepRow_88 rfl ?_
        refine x_iadd (pc := 89) B dX2_stepRow_89 ?_
        refine x_istore_n (lv' := [(3, .int (q4 + 1)), (0, .ref (ad 29)), (1, .int q4), (2, .int q9)]) (pc := 90) B dX2_stepRow_90 rfl (by decide) rfl ?_
        refine x_aload_n (pc := 91) B 1 dX2_stepRow_91 rfl rfl ?_
        refine x_get (T := TX2) (pc := 92) B 2 oi_29 rfl uw_2 (by decide) rfl tw_300 rfl dX2_stepRow_92 ?_
        refine x_iconst (v := 1) (pc := 95) B dX2_stepRow_95 rfl ?_
        refine x_isub (pc := 96) B dX2_stepRow_96 ?_
        refine x_istore (lv' := [(4, .int ((q10.1 29 2) - 1)), (3, .int (q4 + 1)), (0, .ref (ad 29)), (1, .int q4), (2, .int q9)]) (pc := 97) B dX2_stepRow_97 (by decide) rfl ?_
        refine x_pick (lv' := [(0, .ref (ad 29)), (3, .int (q4 + 1)), (4, .int ((q10.1 29 2) - 1))]) [2, 1, 0] rfl ?_
        obtain ⟨q14, hq14, h⟩ := bnd h
        refine x_loop (Head := fun (y11 : Int32 × Int32 × Mem) => XX D ad cI cJ p l e (Rm 2 45) s m args below meth c Q 5 y11.2.2 99 [(0, .ref (ad 29)), (3, .int y11.1), (4, .int y11.2.1)] []) (Ex := fun (q14 : Mem) => XX D ad cI cJ p l e (Rm 2 45) s m args below meth c Q 5 q14 121 [] []) (fun y11 r h hback hexit => ?_) FU _ q14 hq14 ?_
        · unfold b_Breaks_stepRow_29_99 at h
          refine x_iload_n (pc := 99) B 1 dX2_stepRow_99 rfl rfl ?_
          refine x_iload (pc := 100) B 2 dX2_stepRow_100 rfl ?_
          refine x_icmp_ge (tgt := 121) (pc := 102) B dX2_stepRow_102 rfl (fun hc12 => ?_) (fun hc12 => ?_)
          · have h := iff_ hc12 h
            refine x_pick (lv' := []) [] rfl ?_
            have z := hexit y11.2.2 (Option.some.inj h).symm
            exact z
          · have h := ift hc12 h
            refine x_aload_n (pc := 105) B 0 dX2_stepRow_105 rfl rfl ?_
            refine x_iload_n (pc := 106) B 1 dX2_stepRow_106 rfl rfl ?_
            refine x_iload (pc := 107) B 2 dX2_stepRow_107 rfl ?_
            obtain ⟨q13, hq13, h⟩ := bnd h
            refine x_callV (rest := []) (st' := []) (pc := 109) B oi_29 rfl (C_Breaks_swap_29 y11.1 y11.2.1 y11.2.2 _ hq13) tw_1216 tw_1213 tw_1215 tw_40 tw_105 hd_Breaks_swap_29 ⟨Nat.le_of_ble_eq_true rfl, Nat.le_of_ble_eq_true rfl⟩ rfl rfl (Nat.le_of_ble_eq_true rfl) rfl dX2_stepRow_109 ?_
            refine x_iinc (k := 1) (v := y11.1 + 1) (lv' := [(3, .int (y11.1 + 1)), (0, .ref (ad 29)), (4, .int y11.2.1)]) (pc := 112) B dX2_stepRow_112 rfl rfl (by decide) rfl ?_
            refine x_iinc (k := 2) (v := y11.2.1 + (-1)) (lv' := [(4, .int (y11.2.1 + (-1))), (3, .int (y11.1 + 1)), (0, .ref (ad 29))]) (pc := 115) B dX2_stepRow_115 rfl rfl (by decide) rfl ?_
            refine x_goto (tgt := 99) (pc := 118) B dX2_stepRow_118 rfl ?_
            refine x_pick (lv' := [(0, .ref (ad 29)), (3, .int (y11.1 + 1)), (4, .int (y11.2.1 + (-1)))]) [2, 1, 0] rfl ?_
            have z := hback (y11.1 + 1, y11.2.1 + (-1), q13) (Option.some.inj h).symm
            exact z
        · refine x_iconst (v := 1) (pc := 121) B dX2_stepRow_121 rfl ?_
          obtain rfl := Option.some.inj h
          exact x_zret (v := true) (pc := 122) B hQ dX2_stepRow_122
    · have h := ift hc5 h
      refine x_iconst (v := 0) (pc := 42) B dX2_stepRow_42 rfl ?_
      obtain rfl := Option.some.inj h
      exact x_zret (v := false) (pc := 43) B hQ dX2_stepRow_43
-- CurrentFarms$Breaks.choose(LCurrentFarms$State;)V [29, 1]
abbrev y_Breaks_choose_29_1 : MethodName := ⟨"CurrentFarms$Breaks", "choose", "(LCurrentFarms$State;)V"⟩
abbrev cX2_choose : ByteArray := prog_4_method_5_code
theorem dX2_choose_0 : decode cX2_choose 0 = .ok (.aload_n 1, 1) := by decide +kernel
theorem dX2_choose_1 : decode cX2_choose 1 = .ok (.getfield 46, 3) := by decide +kernel
theorem dX2_choose_4 : decode cX2_choose 4 = .ok (.iconst 2, 1) := by decide +kernel
theorem dX2_choose_5 : decode cX2_choose 5 = .ok (.aload_n 1, 1) := by decide +kernel
theorem dX2_choose_6 : decode cX2_choose 6 = .ok (.getfield 52, 3) := by decide +kernel
theorem dX2_choose_9 : decode cX2_choose 9 = .ok (.invokevirtual 55, 3) := by decide +kernel
theorem dX2_choose_12 : decode cX2_choose 12 = .ok (.istore_n 2, 1) := by decide +kernel
theorem dX2_choose_13 : decode cX2_choose 13 = .ok (.iconst 0, 1) := by decide +kernel
theorem dX2_choose_14 : decode cX2_choose 14 = .ok (.istore_n 3, 1) := by decide +kernel
theorem dX2_choose_15 : decode cX2_choose 15 = .ok (.iload_n 3, 1) := by decide +kernel
theorem dX2_choose_16 : decode cX2_choose 16 = .ok (.bipush 10, 2) := by decide +kernel
theorem dX2_choose_18 : decode cX2_choose 18 = .ok (.if_icmp .ge 52, 3) := by decide +kernel
theorem dX2_choose_21 : decode cX2_choose 21 = .ok (.aload_n 1, 1) := by decide +kernel
theorem dX2_choose_22 : decode cX2_choose 22 = .ok (.getfield 61, 3) := by decide +kernel
theorem dX2_choose_25 : decode cX2_choose 25 = .ok (.aload_n 1, 1) := by decide +kernel
theorem dX2_choose_26 : decode cX2_choose 26 = .ok (.getfield 65, 3) := by decide +kernel
theorem dX2_choose_29 : decode cX2_choose 29 = .ok (.iload_n 3, 1) := by decide +kernel
theorem dX2_choose_30 : decode cX2_choose 30 = .ok (.invokevirtual 69, 3) := by decide +kernel
theorem dX2_choose_33 : decode cX2_choose 33 = .ok (.invokevirtual 75, 3) := by decide +kernel
theorem dX2_choose_36 : decode cX2_choose 36 = .ok (.lstore 4, 2) := by decide +kernel
theorem dX2_choose_38 : decode cX2_choose 38 = .ok (.aload_n 0, 1) := by decide +kernel
theorem dX2_choose_39 : decode cX2_choose 39 = .ok (.getfield 24, 3) := by decide +kernel
theorem dX2_choose_42 : decode cX2_choose 42 = .ok (.iload_n 3, 1) := by decide +kernel
theorem dX2_choose_43 : decode cX2_choose 43 = .ok (.iload_n 2, 1) := by decide +kernel
theorem dX2_choose_44 : decode cX2_choose 44 = .ok (.iload_n 3, 1) := by decide +kernel
theorem dX2_choose_45 : decode cX2_choose 45 = .ok (.invokestatic 81, 3) := by decide +kernel
theorem dX2_choose_48 : decode cX2_choose 48 = .ok (.ifCond .eq 12, 3) := by decide +kernel
theorem dX2_choose_51 : decode cX2_choose 51 = .ok (.aload_n 0, 1) := by decide +kernel
theorem dX2_choose_52 : decode cX2_choose 52 = .ok (.lload 4, 2) := by decide +kernel
theorem dX2_choose_54 : decode cX2_choose 54 = .ok (.invokevirtual 85, 3) := by decide +kernel
theorem dX2_choose_57 : decode cX2_choose 57 = .ok (.goto 4, 3) := by decide +kernel
theorem dX2_choose_60 : decode cX2_choose 60 = .ok (.iconst 0, 1) := by decide +kernel
theorem dX2_choose_61 : decode cX2_choose 61 = .ok (.invokestatic 38, 3) := by decide +kernel
theorem dX2_choose_64 : decode cX2_choose 64 = .ok (.iinc 3 1, 3) := by decide +kernel
theorem dX2_choose_67 : decode cX2_choose 67 = .ok (.goto (-52), 3) := by decide +kernel
theorem dX2_choose_70 : decode cX2_choose 70 = .ok (.iconst 0, 1) := by decide +kernel
theorem dX2_choose_71 : decode cX2_choose 71 = .ok (.istore_n 3, 1) := by decide +kernel
theorem dX2_choose_72 : decode cX2_choose 72 = .ok (.iload_n 3, 1) := by decide +kernel
theorem dX2_choose_73 : decode cX2_choose 73 = .ok (.aload_n 0, 1) := by decide +kernel
theorem dX2_choose_74 : decode cX2_choose 74 = .ok (.getfield 34, 3) := by decide +kernel
theorem dX2_choose_77 : decode cX2_choose 77 = .ok (.if_icmp .ge 18, 3) := by decide +kernel
theorem dX2_choose_80 : decode cX2_choose 80 = .ok (.aload_n 0, 1) := by decide +kernel
theorem dX2_choose_81 : decode cX2_choose 81 = .ok (.getfield 18, 3) := by decide +kernel
theorem dX2_choose_84 : decode cX2_choose 84 = .ok (.iload_n 3, 1) := by decide +kernel
theorem dX2_choose_85 : decode cX2_choose 85 = .ok (.iload_n 3, 1) := by decide +kernel
theorem dX2_choose_86 : decode cX2_choose 86 = .ok (.invokestatic 38, 3) := by decide +kernel
theorem dX2_choose_89 : decode cX2_choose 89 = .ok (.iinc 3 1, 3) := by decide +kernel
theorem dX2_choose_92 : decode cX2_choose 92 = .ok (.goto (-20), 3) := by decide +kernel
theorem dX2_choose_95 : decode cX2_choose 95 = .ok (.aload_n 0, 1) := by decide +kernel
theorem dX2_choose_96 : decode cX2_choose 96 = .ok (.ldc 89, 2) := by decide +kernel
theorem dX2_choose_98 : decode cX2_choose 98 = .ok (.putfield 90, 3) := by decide +kernel
theorem dX2_choose_101 : decode cX2_choose 101 = .ok (.iconst 1, 1) := by decide +kernel
theorem dX2_choose_102 : decode cX2_choose 102 = .ok (.istore_n 3, 1) := by decide +kernel
theorem dX2_choose_103 : decode cX2_choose 103 = .ok (.iconst 0, 1) := by decide +kernel
theorem dX2_choose_104 : decode cX2_choose 104 = .ok (.istore 4, 2) := by decide +kernel
theorem dX2_choose_106 : decode cX2_choose 106 = .ok (.iload 4, 2) := by decide +kernel
theorem dX2_choose_108 : decode cX2_choose 108 = .ok (.sipush 720, 3) := by decide +kernel
theorem dX2_choose_111 : decode cX2_choose 111 = .ok (.if_icmp .ge 54, 3) := by decide +kernel
theorem dX2_choose_114 : decode cX2_choose 114 = .ok (.iload_n 3, 1) := by decide +kernel
theorem dX2_choose_115 : decode cX2_choose 115 = .ok (.ifCond .eq 50, 3) := by decide +kernel
theorem dX2_choose_118 : decode cX2_choose 118 = .ok (.aload_n 0, 1) := by decide +kernel
theorem dX2_choose_119 : decode cX2_choose 119 = .ok (.aload_n 1, 1) := by decide +kernel
theorem dX2_choose_120 : decode cX2_choose 120 = .ok (.getfield 65, 3) := by decide +kernel
theorem dX2_choose_123 : decode cX2_choose 123 = .ok (.invokevirtual 93, 3) := by decide +kernel
theorem dX2_choose_126 : decode cX2_choose 126 = .ok (.istore 5, 2) := by decide +kernel
theorem dX2_choose_128 : decode cX2_choose 128 = .ok (.iload 5, 2) := by decide +kernel
theorem dX2_choose_130 : decode cX2_choose 130 = .ok (.aload_n 0, 1) := by decide +kernel
theorem dX2_choose_131 : decode cX2_choose 131 = .ok (.getfield 90, 3) := by decide +kernel
theorem dX2_choose_134 : decode cX2_choose 134 = .ok (.if_icmp .ge 20, 3) := by decide +kernel
theorem dX2_choose_137 : decode cX2_choose 137 = .ok (.aload_n 0, 1) := by decide +kernel
theorem dX2_choose_138 : decode cX2_choose 138 = .ok (.iload 5, 2) := by decide +kernel
theorem dX2_choose_140 : decode cX2_choose 140 = .ok (.putfield 90, 3) := by decide +kernel
theorem dX2_choose_143 : decode cX2_choose 143 = .ok (.aload_n 0, 1) := by decide +kernel
theorem dX2_choose_144 : decode cX2_choose 144 = .ok (.getfield 18, 3) := by decide +kernel
theorem dX2_choose_147 : decode cX2_choose 147 = .ok (.aload_n 0, 1) := by decide +kernel
theorem dX2_choose_148 : decode cX2_choose 148 = .ok (.getfield 21, 3) := by decide +kernel
theorem dX2_choose_151 : decode cX2_choose 151 = .ok (.invokestatic 30, 3) := by decide +kernel
theorem dX2_choose_154 : decode cX2_choose 154 = .ok (.aload_n 0, 1) := by decide +kernel
theorem dX2_choose_155 : decode cX2_choose 155 = .ok (.invokevirtual 97, 3) := by decide +kernel
theorem dX2_choose_158 : decode cX2_choose 158 = .ok (.istore_n 3, 1) := by decide +kernel
theorem dX2_choose_159 : decode cX2_choose 159 = .ok (.iinc 4 1, 3) := by decide +kernel
theorem dX2_choose_162 : decode cX2_choose 162 = .ok (.goto (-56), 3) := by decide +kernel
theorem dX2_choose_165 : decode cX2_choose 165 = .ok (.return_, 1) := by decide +kernel
theorem hd_Breaks_choose_29_1 : y_Breaks_choose_29_1.cls ≠ "java/lang/invoke/MethodHandle" ∧ y_Breaks_choose_29_1.cls ≠ "java/lang/invoke/VarHandle" ∧ (parseMethodDescriptor y_Breaks_choose_29_1.desc).map (fun d => d.parameters.length) = some 1 := by decide +kernel
def b_Breaks_choose_29_1_15 (q1 : Int32 × Mem) (y2 : Int32 × Mem) : Option ((Int32 × Mem) ⊕ (Mem)) :=
  if decide (y2.1 < 10) then ((f_Land_cellOf_2 y2.1 y2.2).bind fun q4 => (f_Line_upward_24 q4 y2.2).bind fun q5 => jn_ (fun (u8 : Int32) => jv_ (putv q5.2 34 10 y2.1 u8) fun M9 => some (.inl (y2.1 + 1, M9))) fun k10 => if hld q1.1 y2.1 then ((f_Breaks_breaksOn_29 q5.1 q5.2).bind fun q11 => k10 q11) else (k10 0)) else (some (.inr y2.2))
def b_Breaks_choose_29_1_72  (y13 : Int32 × Mem) : Option ((Int32 × Mem) ⊕ (Mem)) :=
  if decide (y13.1 < (y13.2.1 29 2)) then (jv_ (putv y13.2 32 6 y13.1 y13.1) fun M15 => some (.inl (y13.1 + 1, M15))) else (some (.inr y13.2))
def b_Breaks_choose_29_1_106  (y18 : Bool × Int32 × Mem) : Option ((Bool × Int32 × Mem) ⊕ (Mem)) :=
  if decide (y18.2.1 < 720) then (if y18.1 then ((f_Breaks_milk_29_2 y18.2.2).bind fun q21 => jn_ (fun (u24 : Mem) => (f_Breaks_stepRow_29 u24).bind fun q25 => some (.inl (q25.1, y18.2.1 + 1, q25.2))) fun k26 => if decide (q21.1 < (q21.2.1 29 5)) then (jv_ (wI q21.2 29 5 q21.1) fun M27 => jv_ (wR M27 33 (cpyv (M27.1 32) (M27.1 33) 6 6)) fun M28 => k26 M28) else (k26 q21.2)) else (some (.inr y18.2.2))) else (some (.inr y18.2.2))
def f_Breaks_choose_29_1  (M0 : Mem) : Option (Mem) :=
  (f_Book_decidedBy_7 2 (M0.1 1 6) M0).bind fun q1 => (itr (b_Breaks_choose_29_1_15 q1) FU (0, q1.2)).bind fun q12 => (itr (b_Breaks_choose_29_1_72) FU (0, q12)).bind fun q16 => jv_ (wI q16 29 5 1000000000) fun M17 => (itr (b_Breaks_choose_29_1_106) FU (true, 0, M17)).bind fun q29 => some q29
set_option maxHeartbeats 4000000 in
set_option maxRecDepth 20000 in
theorem C_Breaks_choose_29_1 {D : va_G} {ad adK adV : Nat → Nat} {cI cJ : ClassId} {l : Launch}  (M0 : Mem) (o : Mem) (h : f_Breaks_choose_29_1  M0 = some o) : Ct D ad adK adV cI cJ l y_Breaks_choose_29_1 cX2_choose 6 none 5 111 [.ref (ad 29), .ref (ad 1)] M0 none o := by
  refine x_start (lv := [(0, .ref (ad 29)), (1, .ref (ad 1))]) (own := "CurrentFarms$Breaks") rfl (by decide) (Nat.le_of_ble_eq_true rfl) rfl ?_
  intro p e s m args below meth c Q hQ B
  unfold f_Breaks_choose_29_1 at h
  refine x_aload_n (pc := 0) B 1 dX2_choose_0 rfl rfl ?_
  refine x_get (T := TX8) (pc := 1) B 1 oi_1 rfl uw_8 (by decide) rfl tw_366 rfl dX2_choose_1 ?_
  refine x_iconst (v := 2) (pc := 4) B dX2_choose_4 rfl ?_
  refine x_aload_n (pc := 5) B 1 dX2_choose_5 rfl rfl ?_
  refine x_get (T := TX8) (pc := 6) B 6 oi_1 rfl uw_8 (by decide) rfl tw_383 rfl dX2_choose_6 ?_
  obtain ⟨q1, hq1, h⟩ := bnd h
  refine x_callV (rest := []) (st' := [.int q1.1]) (pc := 9) B oi_7 rfl (C_Book_decidedBy_7 2 (M0.1 1 6) M0 _ hq1) tw_1083 tw_1185 tw_1081 tw_1082 tw_101 hd_Book_decidedBy_7 ⟨Nat.le_of_ble_eq_true rfl, Nat.le_of_ble_eq_true rfl⟩ rfl rfl (Nat.le_of_ble_eq_true rfl) rfl dX2_choose_9 ?_
  refine x_istore_n (lv' := [(2, .int q1.1), (0, .ref (ad 29)), (1, .ref (ad 1))]) (pc := 12) B dX2_choose_12 rfl (by decide) rfl ?_
  refine x_iconst (v := 0) (pc := 13) B dX2_choose_13 rfl ?_
  refine x_istore_n (lv' := [(3, .int 0), (2, .int q1.1), (0, .ref (ad 29)), (1, .ref (ad 1))]) (pc := 14) B dX2_choose_14 rfl (by decide) rfl ?_
  refine x_pick (lv' := [(0, .ref (ad 29)), (1, .ref (ad 1)), (2, .int q1.1), (3, .int 0)]) [2, 3, 1, 0] rfl ?_
  obtain ⟨q12, hq12, h⟩ := bnd h
  refine x_loop (Head := fun (y2 : Int32 × Mem) => XX D ad cI cJ p l e (Rm 5 111) s m args below meth c Q 6 y2.2 15 [(0, .ref (ad 29)), (1, .ref (ad 1)), (2, .int q1.1), (3, .int y2.1)] []) (Ex := fun (q12 : Mem) => XX D ad cI cJ p l e (Rm 5 111) s m args below meth c Q 6 q12 70 [(0, .ref (ad 29)), (1, .ref (ad 1))] []) (fun y2 r h hback hexit => ?_) FU _ q12 hq12 ?_
  · unfold b_Breaks_choose_29_1_15 at h
    refine x_iload_n (pc := 15) B 3 dX2_choose_15 rfl rfl ?_
    refine x_bipush (v := 10) (pc := 16) B dX2_choose_16 rfl ?_
    refine x_icmp_ge (tgt := 70) (pc := 18) B dX2_choose_18 rfl (fun hc3 => ?_) (fun hc3 => ?_)
    · have h := iff_ hc3 h
      refine x_pick (lv' := [(0, .ref (ad 29)), (1, .ref (ad 1))]) [0, 1] rfl ?_
      have z := hexit y2.2 (Option.some.inj h).symm
      exact z
    · have h := ift hc3 h
      refine x_aload_n (pc := 21) B 1 dX2_choose_21 rfl rfl ?_
      refine x_get (T := TX8) (pc := 22) B 3 oi_1 rfl uw_8 (by decide) rfl tw_375 rfl dX2_choose_22 ?_
      refine x_aload_n (pc := 25) B 1 dX2_choose_25 rfl rfl ?_
      refine x_get (T := TX8) (pc := 26) B 0 oi_1 rfl uw_8 (by decide) rfl tw_362 rfl dX2_choose_26 ?_
      refine x_iload_n (pc := 29) B 3 dX2_choose_29 rfl rfl ?_
      obtain ⟨q4, hq4, h⟩ := bnd h
      refine x_callV (rest := [.ref (ad 24)]) (st' := [.int q4, .ref (ad 24)]) (pc := 30) B oi_2 rfl (C_Land_cellOf_2 y2.1 y2.2 _ hq4) tw_583 tw_1186 tw_581 tw_582 tw_100 hd_Land_cellOf_2 ⟨Nat.le_of_ble_eq_true rfl, Nat.le_of_ble_eq_true rfl⟩ rfl rfl (Nat.le_of_ble_eq_true rfl) rfl dX2_choose_30 ?_
      obtain ⟨q5, hq5, h⟩ := bnd h
      refine x_callV (rest := []) (st' := [.long q5.1]) (pc := 33) B oi_24 rfl (C_Line_upward_24 q4 y2.2 _ hq5) tw_1190 tw_1187 tw_1188 tw_1189 tw_103 hd_Line_upward_24 ⟨Nat.le_of_ble_eq_true rfl, Nat.le_of_ble_eq_true rfl⟩ rfl rfl (Nat.le_of_ble_eq_true rfl) rfl dX2_choose_33 ?_
      refine x_lstore (lv' := [(4, .long q5.1), (0, .ref (ad 29)), (1, .ref (ad 1)), (2, .int q1.1), (3, .int y2.1)]) (pc := 36) B dX2_choose_36 (by decide) rfl ?_
      refine x_aload_n (pc := 38) B 1 dX2_choose_38 rfl rfl ?_
      refine x_get (T := TX2) (pc := 39) B 6 oi_29 rfl uw_2 (by decide) rfl tw_307 rfl dX2_choose_39 ?_
      refine x_iload_n (pc := 42) B 4 dX2_choose_42 rfl rfl ?_
      refine x_iload_n (pc := 43) B 3 dX2_choose_43 rfl rfl ?_
      refine x_iload_n (pc := 44) B 4 dX2_choose_44 rfl rfl ?_
      refine x_callSN (rest := [.int y2.1, .ref (ad 34)]) (st' := [.int (bI (hld q1.1 y2.1)), .int y2.1, .ref (ad 34)]) (pc := 45) B (T_CF_holds q1.1 y2.1 q5.2) tw_699 tw_1191 tw_698 tw_98 hd_CF_holds ⟨Nat.le_of_ble_eq_true rfl, Nat.le_of_ble_eq_true rfl⟩ rfl rfl (Nat.le_of_ble_eq_true rfl) rfl dX2_choose_45 ?_
      refine jn_k h (fun (u8 : Int32) => XX D ad cI cJ p l e (Rm 5 111) s m args below meth c Q 6 q5.2 61 [(0, .ref (ad 29)), (1, .ref (ad 1)), (2, .int q1.1), (3, .int y2.1)] [.int u8, .int y2.1, .ref (ad 34)]) (fun u8 h => ?_) (fun k10 h JJ => ?_)
      · refine x_callSN (rest := []) (st' := []) (pc := 61) B (T_CF_put 34 10 y2.1 u8 ai_34 (by decide) q5.2) tw_588 tw_1176 tw_587 tw_98 hd_CF_put ⟨Nat.le_of_ble_eq_true rfl, Nat.le_of_ble_eq_true rfl⟩ rfl rfl (Nat.le_of_ble_eq_true rfl) rfl dX2_choose_61 ?_
        refine jv_m (P := fun M9 => XX D ad cI cJ p l e (Rm 5 111) s m args below meth c Q 6 M9 64 [(0, .ref (ad 29)), (1, .ref (ad 1)), (2, .int q1.1), (3, .int y2.1)] []) h (fun M9 h => ?_)
        refine x_iinc (k := 3) (v := y2.1 + 1) (lv' := [(3, .int (y2.1 + 1)), (0, .ref (ad 29)), (1, .ref (ad 1)), (2, .int q1.1)]) (pc := 64) B dX2_choose_64 rfl rfl (by decide) rfl ?_
        refine x_goto (tgt := 15) (pc := 67) B dX2_choose_67 rfl ?_
        refine x_pick (lv' := [(0, .ref (ad 29)), (1, .ref (ad 1)), (2, .int q1.1), (3, .int (y2.1 + 1))]) [1, 2, 3, 0] rfl ?_
        have z := hback (y2.1 + 1, M9) (Option.some.inj h).symm
        exact z
      · refine x_if_eq_b (tgt := 60) (pc := 48) B dX2_choose_48 rfl (fun hc6 => ?_) (fun hc6 => ?_)
        · have h := iff_ hc6 h
          refine x_iconst (v := 0) (pc := 60) B dX2_choose_60 rfl ?_
          refine x_pick (lv' := [(0, .ref (ad 29)), (1, .ref (ad 1)), (2, .int q1.1), (3, .int y2.1)]) [1, 2, 3, 4] rfl ?_
          have z := JJ 0 h
          exact z
        · have h := ift hc6 h
          refine x_aload_n (pc := 51) B 1 dX2_choose_51 rfl rfl ?_
          refine x_lload (pc := 52) B 0 dX2_choose_52 rfl ?_
          obtain ⟨q11, hq11, h⟩ := bnd h
          refine x_callV (rest := [.int y2.1, .ref (ad 34)]) (st' := [.int q11, .int y2.1, .ref (ad 34)]) (pc := 54) B oi_29 rfl (C_Breaks_breaksOn_29 q5.1 q5.2 _ hq11) tw_1195 tw_1192 tw_1194 tw_37 tw_105 hd_Breaks_breaksOn_29 ⟨Nat.le_of_ble_eq_true rfl, Nat.le_of_ble_eq_true rfl⟩ rfl rfl (Nat.le_of_ble_eq_true rfl) rfl dX2_choose_54 ?_
          refine x_goto (tgt := 61) (pc := 57) B dX2_choose_57 rfl ?_
          refine x_pick (lv' := [(0, .ref (ad 29)), (1, .ref (ad 1)), (2, .int q1.1), (3, .int y2.1)]) [1, 2, 3, 4] rfl ?_
          have z := JJ q11 h
          exact z
  · refine x_iconst (v := 0) (pc := 70) B dX2_choose_70 rfl ?_
    refine x_istore_n (lv' := [(3, .int 0), (0, .ref (ad 29)), (1, .ref (ad 1))]) (pc := 71) B dX2_choose_71 rfl (by decide) rfl ?_
    refine x_pick (lv' := [(0, .ref (ad 29)), (1, .ref (ad 1)), (3, .int 0)]) [1, 2, 0] rfl ?_
    obtain ⟨q16, hq16, h⟩ := bnd h
    refine x_loop (Head := fun (y13 : Int32 × Mem) => XX D ad cI cJ p l e (Rm 5 111) s m args below meth c Q 6 y13.2 72 [(0, .ref (ad 29)), (1, .ref (ad 1)), (3, .int y13.1)] []) (Ex := fun (q16 : Mem) => XX D ad cI cJ p l e (Rm 5 111) s m args below meth c Q 6 q16 95 [(0, .ref (ad 29)), (1, .ref (ad 1))] []) (fun y13 r h hback hexit => ?_) FU _ q16 hq16 ?_
    · unfold b_Breaks_choose_29_1_72 at h
      refine x_iload_n (pc := 72) B 2 dX2_choose_72 rfl rfl ?_
      refine x_aload_n (pc := 73) B 0 dX2_choose_73 rfl rfl ?_
      refine x_get (T := TX2) (pc := 74) B 2 oi_29 rfl uw_2 (by decide) rfl tw_300 rfl dX2_choose_74 ?_
      refine x_icmp_ge (tgt := 95) (pc := 77) B dX2_choose_77 rfl (fun hc14 => ?_) (fun hc14 => ?_)
      · have h := iff_ hc14 h
        refine x_pick (lv' := [(0, .ref (ad 29)), (1, .ref (ad 1))]) [0, 1] rfl ?_
        have z := hexit y13.2 (Option.some.inj h).symm
        exact z
      · have h := ift hc14 h
        refine x_aload_n (pc := 80) B 0 dX2_choose_80 rfl rfl ?_
        refine x_get (T := TX2) (pc := 81) B 3 oi_29 rfl uw_2 (by decide) rfl tw_302 rfl dX2_choose_81 ?_
        refine x_iload_n (pc := 84) B 2 dX2_choose_84 rfl rfl ?_
        refine x_iload_n (pc := 85) B 2 dX2_choose_85 rfl rfl ?_
        refine x_callSN (rest := []) (st' := []) (pc := 86) B (T_CF_put 32 6 y13.1 y13.1 ai_32 (by decide) y13.2) tw_588 tw_1176 tw_587 tw_98 hd_CF_put ⟨Nat.le_of_ble_eq_true rfl, Nat.le_of_ble_eq_true rfl⟩ rfl rfl (Nat.le_of_ble_eq_true rfl) rfl dX2_choose_86 ?_
        refine jv_m (P := fun M15 => XX D ad cI cJ p l e (Rm 5 111) s m args below meth c Q 6 M15 89 [(0, .ref (ad 29)), (1, .ref (ad 1)), (3, .int y13.1)] []) h (fun M15 h => ?_)
        refine x_iinc (k := 2) (v := y13.1 + 1) (lv' := [(3, .int (y13.1 + 1)), (0, .ref (ad 29)), (1, .ref (ad 1))]) (pc := 89) B dX2_choose_89 rfl rfl (by decide) rfl ?_
        refine x_goto (tgt := 72) (pc := 92) B dX2_choose_92 rfl ?_
        refine x_pick (lv' := [(0, .ref (ad 29)), (1, .ref (ad 1)), (3, .int (y13.1 + 1))]) [1, 2, 0] rfl ?_
        have z := hback (y13.1 + 1, M15) (Option.some.inj h).symm
        exact z
    · refine x_aload_n (pc := 95) B 0 dX2_choose_95 rfl rfl ?_
      refine x_ldc (v := 1000000000) (pc := 96) B tw_1196 dX2_choose_96 ?_
      refine x_put (T := TX2) (pc := 98) B 5 oi_29 of_29_5 rfl uw_2 tyX2_ok nmX2 (by decide) rfl tw_305 rfl rfl rfl (Nat.le_of_ble_eq_true rfl) dX2_choose_98 ?_
      refine jv_m (P := fun M17 => XX D ad cI cJ p l e (Rm 5 111) s m args below meth c Q 6 M17 101 [(0, .ref (ad 29)), (1, .ref (ad 1))] []) h (fun M17 h => ?_)
      refine x_iconst (v := 1) (pc := 101) B dX2_choose_101 rfl ?_
      refine x_istore_n (lv' := [(3, .int 1), (0, .ref (ad 29)), (1, .ref (ad 1))]) (pc := 102) B dX2_choose_102 rfl (by decide) rfl ?_
      refine x_iconst (v := 0) (pc := 103) B dX2_choose_103 rfl ?_
      refine x_istore (lv' := [(4, .int 0), (3, .int 1), (0, .ref (ad 29)), (1, .ref (ad 1))]) (pc := 104) B dX2_choose_104 (by decide) rfl ?_
      refine x_pick (lv' := [(0, .ref (ad 29)), (1, .ref (ad 1)), (3, .int 1), (4, .int 0)]) [2, 3, 1, 0] rfl ?_
      obtain ⟨q29, hq29, h⟩ := bnd h
      refine x_loop (Head := fun (y18 : Bool × Int32 × Mem) => XX D ad cI cJ p l e (Rm 5 111) s m args below meth c Q 6 y18.2.2 106 [(0, .ref (ad 29)), (1, .ref (ad 1)), (3, .int (bI y18.1)), (4, .int y18.2.1)] []) (Ex := fun (q29 : Mem) => XX D ad cI cJ p l e (Rm 5 111) s m args below meth c Q 6 q29 165 [] []) (fun y18 r h hback hexit => ?_) FU _ q29 hq29 ?_
      · unfold b_Breaks_choose_29_1_106 at h
        refine x_iload (pc := 106) B 3 dX2_choose_106 rfl ?_
        refine x_sipush (v := 720) (pc := 108) B dX2_choose_108 rfl ?_
        refine x_icmp_ge (tgt := 165) (pc := 111) B dX2_choose_111 rfl (fun hc19 => ?_) (fun hc19 => ?_)
        · have h := iff_ hc19 h
          refine x_pick (lv' := []) [] rfl ?_
          have z := hexit y18.2.2 (Option.some.inj h).symm
          exact z
        · have h := ift hc19 h
          refine x_iload_n (pc := 114) B 2 dX2_choose_114 rfl rfl ?_
          refine x_if_eq_b (tgt := 165) (pc := 115) B dX2_choose_115 rfl (fun hc20 => ?_) (fun hc20 => ?_)
          · have h := iff_ hc20 h
            refine x_pick (lv' := []) [] rfl ?_
            have z := hexit y18.2.2 (Option.some.inj h).symm
            exact z
          · have h := ift hc20 h
            refine x_aload_n (pc := 118) B 0 dX2_choose_118 rfl rfl ?_
            refine x_aload_n (pc := 119) B 1 dX2_choose_119 rfl rfl ?_
            refine x_get (T := TX8) (pc := 120) B 0 oi_1 rfl uw_8 (by decide) rfl tw_362 rfl dX2_choose_120 ?_
            obtain ⟨q21, hq21, h⟩ := bnd h
            refine x_callV (rest := []) (st' := [.int q21.1]) (pc := 123) B oi_29 rfl (C_Breaks_milk_29_2  y18.2.2 _ hq21) tw_1200 tw_1197 tw_1199 tw_38 tw_105 hd_Breaks_milk_29_2 ⟨Nat.le_of_ble_eq_true rfl, Nat.le_of_ble_eq_true rfl⟩ rfl rfl (Nat.le_of_ble_eq_true rfl) rfl dX2_choose_123 ?_
            refine x_istore (lv' := [(5, .int q21.1), (0, .ref (ad 29)), (1, .ref (ad 1)), (3, .int (bI y18.1)), (4, .int y18.2.1)]) (pc := 126) B dX2_choose_126 (by decide) rfl ?_
            refine x_iload (pc := 128) B 0 dX2_choose_128 rfl ?_
            refine x_aload_n (pc := 130) B 1 dX2_choose_130 rfl rfl ?_
            refine x_get (T := TX2) (pc := 131) B 5 oi_29 rfl uw_2 (by decide) rfl tw_305 rfl dX2_choose_131 ?_
            refine jn_k h (fun (u24 : Mem) => XX D ad cI cJ p l e (Rm 5 111) s m args below meth c Q 6 u24 154 [(0, .ref (ad 29)), (1, .ref (ad 1)), (4, .int y18.2.1)] []) (fun u24 h => ?_) (fun k26 h JJ => ?_)
            · refine x_aload_n (pc := 154) B 0 dX2_choose_154 rfl rfl ?_
              obtain ⟨q25, hq25, h⟩ := bnd h
              refine x_callV (rest := []) (st' := [.int (bI q25.1)]) (pc := 155) B oi_29 rfl (C_Breaks_stepRow_29  u24 _ hq25) tw_1212 tw_1209 tw_1211 tw_39 tw_105 hd_Breaks_stepRow_29 ⟨Nat.le_of_ble_eq_true rfl, Nat.le_of_ble_eq_true rfl⟩ rfl rfl (Nat.le_of_ble_eq_true rfl) rfl dX2_choose_155 ?_
              refine x_istore_n (lv' := [(3, .int (bI q25.1)), (0, .ref (ad 29)), (1, .ref (ad 1)), (4, .int y18.2.1)]) (pc := 158) B dX2_choose_158 rfl (by decide) rfl ?_
              refine x_iinc (k := 3) (v := y18.2.1 + 1) (lv' := [(4, .int (y18.2.1 + 1)), (3, .int (bI q25.1)), (0, .ref (ad 29)), (1, .ref (ad 1))]) (pc := 159) B dX2_choose_159 rfl rfl (by decide) rfl ?_
              refine x_goto (tgt := 106) (pc := 162) B dX2_choose_162 rfl ?_
              refine x_pick (lv' := [(0, .ref (ad 29)), (1, .ref (ad 1)), (3, .int (bI q25.1)), (4, .int (y18.2.1 + 1))]) [2, 3, 1, 0] rfl ?_
              have z := hback (q25.1, y18.2.1 + 1, q25.2) (Option.some.inj h).symm
              exact z
            · refine x_icmp_ge (tgt := 154) (pc := 134) B dX2_choose_134 rfl (fun hc22 => ?_) (fun hc22 => ?_)
              · have h := iff_ hc22 h
                refine x_pick (lv' := [(0, .ref (ad 29)), (1, .ref (ad 1)), (4, .int y18.2.1)]) [1, 2, 4] rfl ?_
                have z := JJ q21.2 h
                exact z
              · have h := ift hc22 h
                refine x_aload_n (pc := 137) B 1 dX2_choose_137 rfl rfl ?_
                refine x_iload (pc := 138) B 0 dX2_choose_138 rfl ?_
                refine x_put (T := TX2) (pc := 140) B 5 oi_29 of_29_5 rfl uw_2 tyX2_ok nmX2 (by decide) rfl tw_305 rfl rfl rfl (Nat.le_of_ble_eq_true rfl) dX2_choose_140 ?_
                refine jv_m (P := fun M27 => XX D ad cI cJ p l e (Rm 5 111) s m args below meth c Q 6 M27 143 [(5, .int q21.1), (0, .ref (ad 29)), (1, .ref (ad 1)), (3, .int (bI y18.1)), (4, .int y18.2.1)] []) h (fun M27 h => ?_)
                refine x_aload_n (pc := 143) B 1 dX2_choose_143 rfl rfl ?_
                refine x_get (T := TX2) (pc := 144) B 3 oi_29 rfl uw_2 (by decide) rfl tw_302 rfl dX2_choose_144 ?_
                refine x_aload_n (pc := 147) B 1 dX2_choose_147 rfl rfl ?_
                refine x_get (T := TX2) (pc := 148) B 4 oi_29 rfl uw_2 (by decide) rfl tw_303 rfl dX2_choose_148 ?_
                refine x_callSN (rest := []) (st' := []) (pc := 151) B (T_CF_copy 32 6 33 6 ai_32 ai_33 (by decide) (by decide) M27) tw_1204 tw_1202 tw_1203 tw_98 hd_CF_copy ⟨Nat.le_of_ble_eq_true rfl, Nat.le_of_ble_eq_true rfl⟩ rfl rfl (Nat.le_of_ble_eq_true rfl) rfl dX2_choose_151 ?_
                refine jv_m (P := fun M28 => XX D ad cI cJ p l e (Rm 5 111) s m args below meth c Q 6 M28 154 [(5, .int q21.1), (0, .ref (ad 29)), (1, .ref (ad 1)), (3, .int (bI y18.1)), (4, .int y18.2.1)] []) h (fun M28 h => ?_)
                refine x_pick (lv' := [(0, .ref (ad 29)), (1, .ref (ad 1)), (4, .int y18.2.1)]) [1, 2, 4] rfl ?_
                have z := JJ M28 h
                exact z
      · obtain rfl := Option.some.inj h
        exact x_vret (pc := 165) B hQ dX2_choose_165
-- CurrentFarms.order(I)I [0]
abbrev y_CF_order_0 : MethodName := ⟨"CurrentFarms", "order", "(I)I"⟩
abbrev cX11_order : ByteArray := prog_1_method_36_code
theorem dX11_order_0 : decode cX11_order 0 = .ok (.iload_n 1, 1) := by decide +kernel
theorem dX11_order_1 : decode cX11_order 1 = .ok (.iconst (-1), 1) := by decide +kernel
theorem dX11_order_2 : decode cX11_order 2 = .ok (.aload_n 0, 1) := by decide +kernel
theorem dX11_order_3 : decode cX11_order 3 = .ok (.getfield 12, 3) := by decide +kernel
theorem dX11_order_6 : decode cX11_order 6 = .ok (.getfield 205, 3) := by decide +kernel
theorem dX11_order_9 : decode cX11_order 9 = .ok (.getfield 209, 3) := by decide +kernel
theorem dX11_order_12 : decode cX11_order 12 = .ok (.iconst 1, 1) := by decide +kernel
theorem dX11_order_13 : decode cX11_order 13 = .ok (.isub, 1) := by decide +kernel
theorem dX11_order_14 : decode cX11_order 14 = .ok (.invokestatic 72, 3) := by decide +kernel
theorem dX11_order_17 : decode cX11_order 17 = .ok (.ifCond .ne 5, 3) := by decide +kernel
theorem dX11_order_20 : decode cX11_order 20 = .ok (.iconst (-1), 1) := by decide +kernel
theorem dX11_order_21 : decode cX11_order 21 = .ok (.ireturn, 1) := by decide +kernel
theorem dX11_order_22 : decode cX11_order 22 = .ok (.aload_n 0, 1) := by decide +kernel
theorem dX11_order_23 : decode cX11_order 23 = .ok (.getfield 12, 3) := by decide +kernel
theorem dX11_order_26 : decode cX11_order 26 = .ok (.getfield 205, 3) := by decide +kernel
theorem dX11_order_29 : decode cX11_order 29 = .ok (.aload_n 0, 1) := by decide +kernel
theorem dX11_order_30 : decode cX11_order 30 = .ok (.getfield 12, 3) := by decide +kernel
theorem dX11_order_33 : decode cX11_order 33 = .ok (.invokevirtual 325, 3) := by decide +kernel
theorem dX11_order_36 : decode cX11_order 36 = .ok (.iload_n 1, 1) := by decide +kernel
theorem dX11_order_37 : decode cX11_order 37 = .ok (.ifCond .ge 16, 3) := by decide +kernel
theorem dX11_order_40 : decode cX11_order 40 = .ok (.aload_n 0, 1) := by decide +kernel
theorem dX11_order_41 : decode cX11_order 41 = .ok (.getfield 12, 3) := by decide +kernel
theorem dX11_order_44 : decode cX11_order 44 = .ok (.getfield 205, 3) := by decide +kernel
theorem dX11_order_47 : decode cX11_order 47 = .ok (.getfield 328, 3) := by decide +kernel
theorem dX11_order_50 : decode cX11_order 50 = .ok (.goto 30, 3) := by decide +kernel
theorem dX11_order_53 : decode cX11_order 53 = .ok (.aload_n 0, 1) := by decide +kernel
theorem dX11_order_54 : decode cX11_order 54 = .ok (.getfield 12, 3) := by decide +kernel
theorem dX11_order_57 : decode cX11_order 57 = .ok (.getfield 205, 3) := by decide +kernel
theorem dX11_order_60 : decode cX11_order 60 = .ok (.getfield 330, 3) := by decide +kernel
theorem dX11_order_63 : decode cX11_order 63 = .ok (.aload_n 0, 1) := by decide +kernel
theorem dX11_order_64 : decode cX11_order 64 = .ok (.getfield 12, 3) := by decide +kernel
theorem dX11_order_67 : decode cX11_order 67 = .ok (.getfield 205, 3) := by decide +kernel
theorem dX11_order_70 : decode cX11_order 70 = .ok (.getfield 333, 3) := by decide +kernel
theorem dX11_order_73 : decode cX11_order 73 = .ok (.iload_n 1, 1) := by decide +kernel
theorem dX11_order_74 : decode cX11_order 74 = .ok (.invokestatic 88, 3) := by decide +kernel
theorem dX11_order_77 : decode cX11_order 77 = .ok (.invokestatic 88, 3) := by decide +kernel
theorem dX11_order_80 : decode cX11_order 80 = .ok (.ireturn, 1) := by decide +kernel
theorem hd_CF_order_0 : y_CF_order_0.cls ≠ "java/lang/invoke/MethodHandle" ∧ y_CF_order_0.cls ≠ "java/lang/invoke/VarHandle" ∧ (parseMethodDescriptor y_CF_order_0.desc).map (fun d => d.parameters.length) = some 1 := by decide +kernel
def f_CF_order_0 (a1 : Int32) (M0 : Mem) : Option (Int32 × Mem) :=
  if wthn a1 (-1) ((M0.1 29 2) - 1) then ((f_Breaks_choose_29_1 M0).bind fun q2 => if decide (a1 < 0) then (some (q2.1 29 5, q2)) else (some (atv (q2.1 30) 6 (atv (q2.1 33) 6 a1), q2))) else (some ((-1), M0))
set_option maxHeartbeats 4000000 in
set_option maxRecDepth 20000 in
theorem C_CF_order_0 {D : va_G} {ad adK adV : Nat → Nat} {cI cJ : ClassId} {l : Launch} (a1 : Int32) (M0 : Mem) (o : Int32 × Mem) (h : f_CF_order_0 a1 M0 = some o) : Ct D ad adK adV cI cJ l y_CF_order_0 cX11_order 2 (some .int) 6 136 [.ref (ad 0), .int a1] M0 (some (.int o.1)) o.2 := by
  refine x_start (lv := [(0, .ref (ad 0)), (1, .int a1)]) (own := "CurrentFarms") rfl (by decide) (Nat.le_of_ble_eq_true rfl) rfl ?_
  intro p e s m args below meth c Q hQ B
  unfold f_CF_order_0 at h
  refine x_iload_n (pc := 0) B 1 dX11_order_0 rfl rfl ?_
  refine x_iconst (v := (-1)) (pc := 1) B dX11_order_1 rfl ?_
  refine x_aload_n (pc := 2) B 0 dX11_order_2 rfl rfl ?_
  refine x_get (T := TX11) (pc := 3) B 0 oi_0 rfl uw_11 (by decide) rfl tw_525 rfl dX11_order_3 ?_
  refine x_get (T := TX8) (pc := 6) B 4 oi_1 rfl uw_8 (by decide) rfl tw_377 rfl dX11_order_6 ?_
  refine x_get (T := TX2) (pc := 9) B 2 oi_29 rfl uw_2 (by decide) rfl tw_301 rfl dX11_order_9 ?_
  refine x_iconst (v := 1) (pc := 12) B dX11_order_12 rfl ?_
  refine x_isub (pc := 13) B dX11_order_13 ?_
  refine x_callS (rest := []) (st' := [.int (bI (wthn a1 (-1) ((M0.1 29 2) - 1)))]) (pc := 14) B (T_CF_within a1 (-1) ((M0.1 29 2) - 1) M0) tw_559 tw_557 tw_558 tw_98 hd_CF_within ⟨Nat.le_of_ble_eq_true rfl, Nat.le_of_ble_eq_true rfl⟩ rfl rfl (Nat.le_of_ble_eq_true rfl) rfl dX11_order_14 ?_
  refine x_if_ne_b (tgt := 22) (pc := 17) B dX11_order_17 rfl (fun hc1 => ?_) (fun hc1 => ?_)
  · have h := ift hc1 h
    refine x_aload_n (pc := 22) B 0 dX11_order_22 rfl rfl ?_
    refine x_get (T := TX11) (pc := 23) B 0 oi_0 rfl uw_11 (by decide) rfl tw_525 rfl dX11_order_23 ?_
    refine x_get (T := TX8) (pc := 26) B 4 oi_1 rfl uw_8 (by decide) rfl tw_377 rfl dX11_order_26 ?_
    refine x_aload_n (pc := 29) B 0 dX11_order_29 rfl rfl ?_
    refine x_get (T := TX11) (pc := 30) B 0 oi_0 rfl uw_11 (by decide) rfl tw_525 rfl dX11_order_30 ?_
    obtain ⟨q2, hq2, h⟩ := bnd h
    refine x_callV (rest := []) (st' := []) (pc := 33) B oi_29 rfl (C_Breaks_choose_29_1  M0 _ hq2) tw_1184 tw_1181 tw_1182 tw_1183 tw_105 hd_Breaks_choose_29_1 ⟨Nat.le_of_ble_eq_true rfl, Nat.le_of_ble_eq_true rfl⟩ rfl rfl (Nat.le_of_ble_eq_true rfl) rfl dX11_order_33 ?_
    refine x_iload_n (pc := 36) B 1 dX11_order_36 rfl rfl ?_
    refine x_if_ge (tgt := 53) (pc := 37) B dX11_order_37 rfl (fun hc3 => ?_) (fun hc3 => ?_)
    · have h := iff_ hc3 h
      refine x_aload_n (pc := 53) B 0 dX11_order_53 rfl rfl ?_
      refine x_get (T := TX11) (pc := 54) B 0 oi_0 rfl uw_11 (by decide) rfl tw_525 rfl dX11_order_54 ?_
      refine x_get (T := TX8) (pc := 57) B 4 oi_1 rfl uw_8 (by decide) rfl tw_377 rfl dX11_order_57 ?_
      refine x_get (T := TX2) (pc := 60) B 0 oi_29 rfl uw_2 (by decide) rfl tw_298 rfl dX11_order_60 ?_
      refine x_aload_n (pc := 63) B 0 dX11_order_63 rfl rfl ?_
      refine x_get (T := TX11) (pc := 64) B 0 oi_0 rfl uw_11 (by decide) rfl tw_525 rfl dX11_order_64 ?_
      refine x_get (T := TX8) (pc := 67) B 4 oi_1 rfl uw_8 (by decide) rfl tw_377 rfl dX11_order_67 ?_
      refine x_get (T := TX2) (pc := 70) B 4 oi_29 rfl uw_2 (by decide) rfl tw_304 rfl dX11_order_70 ?_
      refine x_iload_n (pc := 73) B 1 dX11_order_73 rfl rfl ?_
      refine x_callS (rest := [.ref (ad 30)]) (st' := [.int (atv (q2.1 33) 6 a1), .ref (ad 30)]) (pc := 74) B (T_CF_at 33 6 a1 ai_33 (by decide) q2) tw_575 tw_585 tw_574 tw_98 hd_CF_at ⟨Nat.le_of_ble_eq_true rfl, Nat.le_of_ble_eq_true rfl⟩ rfl rfl (Nat.le_of_ble_eq_true rfl) rfl dX11_order_74 ?_
      refine x_callS (rest := []) (st' := [.int (atv (q2.1 30) 6 (atv (q2.1 33) 6 a1))]) (pc := 77) B (T_CF_at 30 6 (atv (q2.1 33) 6 a1) ai_30 (by decide) q2) tw_575 tw_585 tw_574 tw_98 hd_CF_at ⟨Nat.le_of_ble_eq_true rfl, Nat.le_of_ble_eq_true rfl⟩ rfl rfl (Nat.le_of_ble_eq_true rfl) rfl dX11_order_77 ?_
      obtain rfl := Option.some.inj h
      exact x_iret (pc := 80) B hQ dX11_order_80
    · have h := ift hc3 h
      refine x_aload_n (pc := 40) B 0 dX11_order_40 rfl rfl ?_
      refine x_get (T := TX11) (pc := 41) B 0 oi_0 rfl uw_11 (by decide) rfl tw_525 rfl dX11_order_41 ?_
      refine x_get (T := TX8) (pc := 44) B 4 oi_1 rfl uw_8 (by decide) rfl tw_377 rfl dX11_order_44 ?_
      refine x_get (T := TX2) (pc := 47) B 5 oi_29 rfl uw_2 (by decide) rfl tw_306 rfl dX11_order_47 ?_
      refine x_goto (tgt := 80) (pc := 50) B dX11_order_50 rfl ?_
      obtain rfl := Option.some.inj h
      exact x_iret (pc := 80) B hQ dX11_order_80
  · have h := iff_ hc1 h
    refine x_iconst (v := (-1)) (pc := 20) B dX11_order_20 rfl ?_
    obtain rfl := Option.some.inj h
    exact x_iret (pc := 21) B hQ dX11_order_21
-- CurrentFarms.fix()I [0]
abbrev y_CF_fix_0 : MethodName := ⟨"CurrentFarms", "fix", "()I"⟩
abbrev cX11_fix : ByteArray := prog_1_method_37_code
theorem dX11_fix_0 : decode cX11_fix 0 = .ok (.aload_n 0, 1) := by decide +kernel
theorem dX11_fix_1 : decode cX11_fix 1 = .ok (.getfield 12, 3) := by decide +kernel
theorem dX11_fix_4 : decode cX11_fix 4 = .ok (.getfield 205, 3) := by decide +kernel
theorem dX11_fix_7 : decode cX11_fix 7 = .ok (.getfield 209, 3) := by decide +kernel
theorem dX11_fix_10 : decode cX11_fix 10 = .ok (.istore_n 1, 1) := by decide +kernel
theorem dX11_fix_11 : decode cX11_fix 11 = .ok (.aload_n 0, 1) := by decide +kernel
theorem dX11_fix_12 : decode cX11_fix 12 = .ok (.getfield 12, 3) := by decide +kernel
theorem dX11_fix_15 : decode cX11_fix 15 = .ok (.getfield 205, 3) := by decide +kernel
theorem dX11_fix_18 : decode cX11_fix 18 = .ok (.iconst 0, 1) := by decide +kernel
theorem dX11_fix_19 : decode cX11_fix 19 = .ok (.putfield 209, 3) := by decide +kernel
theorem dX11_fix_22 : decode cX11_fix 22 = .ok (.iload_n 1, 1) := by decide +kernel
theorem dX11_fix_23 : decode cX11_fix 23 = .ok (.ireturn, 1) := by decide +kernel
theorem hd_CF_fix_0 : y_CF_fix_0.cls ≠ "java/lang/invoke/MethodHandle" ∧ y_CF_fix_0.cls ≠ "java/lang/invoke/VarHandle" ∧ (parseMethodDescriptor y_CF_fix_0.desc).map (fun d => d.parameters.length) = some 0 := by decide +kernel
def f_CF_fix_0  (M0 : Mem) : Option (Int32 × Mem) :=
  jv_ (wI M0 29 2 0) fun M1 => some (M0.1 29 2, M1)
set_option maxHeartbeats 4000000 in
set_option maxRecDepth 20000 in
theorem C_CF_fix_0 {D : va_G} {ad adK adV : Nat → Nat} {cI cJ : ClassId} {l : Launch}  (M0 : Mem) (o : Int32 × Mem) (h : f_CF_fix_0  M0 = some o) : Ct D ad adK adV cI cJ l y_CF_fix_0 cX11_fix 2 (some .int) 0 0 [.ref (ad 0)] M0 (some (.int o.1)) o.2 := by
  refine x_start (lv := [(0, .ref (ad 0))]) (own := "CurrentFarms") rfl (by decide) (Nat.le_of_ble_eq_true rfl) rfl ?_
  intro p e s m args below meth c Q hQ B
  unfold f_CF_fix_0 at h
  refine x_aload_n (pc := 0) B 0 dX11_fix_0 rfl rfl ?_
  refine x_get (T := TX11) (pc := 1) B 0 oi_0 rfl uw_11 (by decide) rfl tw_525 rfl dX11_fix_1 ?_
  refine x_get (T := TX8) (pc := 4) B 4 oi_1 rfl uw_8 (by decide) rfl tw_377 rfl dX11_fix_4 ?_
  refine x_get (T := TX2) (pc := 7) B 2 oi_29 rfl uw_2 (by decide) rfl tw_301 rfl dX11_fix_7 ?_
  refine x_istore_n (lv' := [(1, .int (M0.1 29 2)), (0, .ref (ad 0))]) (pc := 10) B dX11_fix_10 rfl (by decide) rfl ?_
  refine x_aload_n (pc := 11) B 1 dX11_fix_11 rfl rfl ?_
  refine x_get (T := TX11) (pc := 12) B 0 oi_0 rfl uw_11 (by decide) rfl tw_525 rfl dX11_fix_12 ?_
  refine x_get (T := TX8) (pc := 15) B 4 oi_1 rfl uw_8 (by decide) rfl tw_377 rfl dX11_fix_15 ?_
  refine x_iconst (v := 0) (pc := 18) B dX11_fix_18 rfl ?_
  refine x_put (T := TX2) (pc := 19) B 2 oi_29 of_29_2 rfl uw_2 tyX2_ok nmX2 (by decide) rfl tw_301 rfl rfl rfl (Nat.le_of_ble_eq_true rfl) dX11_fix_19 ?_
  refine jv_m (P := fun M1 => XX D ad cI cJ p l e (Rm 0 0) s m args below meth c Q 2 M1 22 [(1, .int (M0.1 29 2)), (0, .ref (ad 0))] []) h (fun M1 h => ?_)
  refine x_iload_n (pc := 22) B 0 dX11_fix_22 rfl rfl ?_
  obtain rfl := Option.some.inj h
  exact x_iret (pc := 23) B hQ dX11_fix_23
-- CurrentFarms$Line.between(II)J [24]
abbrev y_Line_between_24 : MethodName := ⟨"CurrentFarms$Line", "between", "(II)J"⟩
abbrev cX5_between : ByteArray := prog_7_method_10_code
theorem dX5_between_0 : decode cX5_between 0 = .ok (.aload_n 0, 1) := by decide +kernel
theorem dX5_between_1 : decode cX5_between 1 = .ok (.iload_n 2, 1) := by decide +kernel
theorem dX5_between_2 : decode cX5_between 2 = .ok (.invokevirtual 69, 3) := by decide +kernel
theorem dX5_between_5 : decode cX5_between 5 = .ok (.lstore_n 3, 1) := by decide +kernel
theorem dX5_between_6 : decode cX5_between 6 = .ok (.aload_n 0, 1) := by decide +kernel
theorem dX5_between_7 : decode cX5_between 7 = .ok (.iload_n 1, 1) := by decide +kernel
theorem dX5_between_8 : decode cX5_between 8 = .ok (.invokevirtual 69, 3) := by decide +kernel
theorem dX5_between_11 : decode cX5_between 11 = .ok (.lstore 5, 2) := by decide +kernel
theorem dX5_between_13 : decode cX5_between 13 = .ok (.iload_n 1, 1) := by decide +kernel
theorem dX5_between_14 : decode cX5_between 14 = .ok (.istore 7, 2) := by decide +kernel
theorem dX5_between_16 : decode cX5_between 16 = .ok (.aload_n 0, 1) := by decide +kernel
theorem dX5_between_17 : decode cX5_between 17 = .ok (.iload_n 1, 1) := by decide +kernel
theorem dX5_between_18 : decode cX5_between 18 = .ok (.invokevirtual 66, 3) := by decide +kernel
theorem dX5_between_21 : decode cX5_between 21 = .ok (.istore 8, 2) := by decide +kernel
theorem dX5_between_23 : decode cX5_between 23 = .ok (.iload 8, 2) := by decide +kernel
theorem dX5_between_25 : decode cX5_between 25 = .ok (.ifCond .lt 38, 3) := by decide +kernel
theorem dX5_between_28 : decode cX5_between 28 = .ok (.lload_n 3, 1) := by decide +kernel
theorem dX5_between_29 : decode cX5_between 29 = .ok (.aload_n 0, 1) := by decide +kernel
theorem dX5_between_30 : decode cX5_between 30 = .ok (.getfield 25, 3) := by decide +kernel
theorem dX5_between_33 : decode cX5_between 33 = .ok (.iload 8, 2) := by decide +kernel
theorem dX5_between_35 : decode cX5_between 35 = .ok (.invokestatic 52, 3) := by decide +kernel
theorem dX5_between_38 : decode cX5_between 38 = .ok (.lshr, 1) := by decide +kernel
theorem dX5_between_39 : decode cX5_between 39 = .ok (.lconst 1, 1) := by decide +kernel
theorem dX5_between_40 : decode cX5_between 40 = .ok (.land, 1) := by decide +kernel
theorem dX5_between_41 : decode cX5_between 41 = .ok (.lconst 1, 1) := by decide +kernel
theorem dX5_between_42 : decode cX5_between 42 = .ok (.lcmp, 1) := by decide +kernel
theorem dX5_between_43 : decode cX5_between 43 = .ok (.ifCond .ne 14, 3) := by decide +kernel
theorem dX5_between_46 : decode cX5_between 46 = .ok (.aload_n 0, 1) := by decide +kernel
theorem dX5_between_47 : decode cX5_between 47 = .ok (.getfield 25, 3) := by decide +kernel
theorem dX5_between_50 : decode cX5_between 50 = .ok (.iload 8, 2) := by decide +kernel
theorem dX5_between_52 : decode cX5_between 52 = .ok (.invokestatic 52, 3) := by decide +kernel
theorem dX5_between_55 : decode cX5_between 55 = .ok (.istore 7, 2) := by decide +kernel
theorem dX5_between_57 : decode cX5_between 57 = .ok (.iinc 8 (-1), 3) := by decide +kernel
theorem dX5_between_60 : decode cX5_between 60 = .ok (.goto (-37), 3) := by decide +kernel
theorem dX5_between_63 : decode cX5_between 63 = .ok (.lload 5, 2) := by decide +kernel
theorem dX5_between_65 : decode cX5_between 65 = .ok (.lload_n 3, 1) := by decide +kernel
theorem dX5_between_66 : decode cX5_between 66 = .ok (.lxor, 1) := by decide +kernel
theorem dX5_between_67 : decode cX5_between 67 = .ok (.lconst 1, 1) := by decide +kernel
theorem dX5_between_68 : decode cX5_between 68 = .ok (.iload 7, 2) := by decide +kernel
theorem dX5_between_70 : decode cX5_between 70 = .ok (.lshl, 1) := by decide +kernel
theorem dX5_between_71 : decode cX5_between 71 = .ok (.lor, 1) := by decide +kernel
theorem dX5_between_72 : decode cX5_between 72 = .ok (.lreturn, 1) := by decide +kernel
theorem hd_Line_between_24 : y_Line_between_24.cls ≠ "java/lang/invoke/MethodHandle" ∧ y_Line_between_24.cls ≠ "java/lang/invoke/VarHandle" ∧ (parseMethodDescriptor y_Line_between_24.desc).map (fun d => d.parameters.length) = some 2 := by decide +kernel
def b_Line_between_24_23 (q1 : Int64 × Mem) (q3 : Int32 × Mem) (y4 : Int32 × Int32) : Option ((Int32 × Int32) ⊕ (Int32)) :=
  if decide (y4.2 < 0) then (some (.inr y4.1)) else (if decide ((lg_cmp ((q1.1 >>> ((atv (q3.2.1 27) 48 y4.2).toInt64 &&& 63)) &&& 1) 1) = 0) then (some (.inl (atv (q3.2.1 27) 48 y4.2, y4.2 + (-1)))) else (some (.inl (y4.1, y4.2 + (-1)))))
def f_Line_between_24 (a1 : Int32) (a2 : Int32) (M0 : Mem) : Option (Int64 × Mem) :=
  (f_Line_upward_24 a2 M0).bind fun q1 => (f_Line_upward_24 a1 q1.2).bind fun q2 => (f_Line_climb_24 a1 q2.2).bind fun q3 => (itr (b_Line_between_24_23 q1 q3) FU (a1, q3.1)).bind fun q7 => some ((q2.1 ^^^ q1.1) ||| (1 <<< (q7.toInt64 &&& 63)), q3.2)
set_option maxHeartbeats 4000000 in
set_option maxRecDepth 20000 in
theorem C_Line_between_24 {D : va_G} {ad adK adV : Nat → Nat} {cI cJ : ClassId} {l : Launch} (a1 : Int32) (a2 : Int32) (M0 : Mem) (o : Int64 × Mem) (h : f_Line_between_24 a1 a2 M0 = some o) : Ct D ad adK adV cI cJ l y_Line_between_24 cX5_between 9 (some .long) 5 111 [.ref (ad 24), .int a1, .int a2] M0 (some (.long o.1)) o.2 := by
  refine x_start (lv := [(0, .ref (ad 24)), (1, .int a1), (2, .int a2)]) (own := "CurrentFarms$Line") rfl (by decide) (Nat.le_of_ble_eq_true rfl) rfl ?_
  intro p e s m args below meth c Q hQ B
  unfold f_Line_between_24 at h
  refine x_aload_n (pc := 0) B 0 dX5_between_0 rfl rfl ?_
  refine x_iload_n (pc := 1) B 2 dX5_between_1 rfl rfl ?_
  obtain ⟨q1, hq1, h⟩ := bnd h
  refine x_callV (rest := []) (st' := [.long q1.1]) (pc := 2) B oi_24 rfl (C_Line_upward_24 a2 M0 _ hq1) tw_1190 tw_1229 tw_1188 tw_1189 tw_103 hd_Line_upward_24 ⟨Nat.le_of_ble_eq_true rfl, Nat.le_of_ble_eq_true rfl⟩ rfl rfl (Nat.le_of_ble_eq_true rfl) rfl dX5_between_2 ?_
  refine x_lstore_n (lv' := [(3, .long q1.1), (0, .ref (ad 24)), (1, .int a1), (2, .int a2)]) (pc := 5) B dX5_between_5 rfl (by decide) rfl ?_
  refine x_aload_n (pc := 6) B 1 dX5_between_6 rfl rfl ?_
  refine x_iload_n (pc := 7) B 2 dX5_between_7 rfl rfl ?_
  obtain ⟨q2, hq2, h⟩ := bnd h
  refine x_callV (rest := []) (st' := [.long q2.1]) (pc := 8) B oi_24 rfl (C_Line_upward_24 a1 q1.2 _ hq2) tw_1190 tw_1229 tw_1188 tw_1189 tw_103 hd_Line_upward_24 ⟨Nat.le_of_ble_eq_true rfl, Nat.le_of_ble_eq_true rfl⟩ rfl rfl (Nat.le_of_ble_eq_true rfl) rfl dX5_between_8 ?_
  refine x_lstore (lv' := [(5, .long q2.1), (3, .long q1.1), (0, .ref (ad 24)), (1, .int a1), (2, .int a2)]) (pc := 11) B dX5_between_11 (by decide) rfl ?_
  refine x_iload_n (pc := 13) B 3 dX5_between_13 rfl rfl ?_
  refine x_istore (lv' := [(7, .int a1), (5, .long q2.1), (3, .long q1.1), (0, .ref (ad 24)), (1, .int a1), (2, .int a2)]) (pc := 14) B dX5_between_14 (by decide) rfl ?_
  refine x_aload_n (pc := 16) B 3 dX5_between_16 rfl rfl ?_
  refine x_iload_n (pc := 17) B 4 dX5_between_17 rfl rfl ?_
  obtain ⟨q3, hq3, h⟩ := bnd h
  refine x_callV (rest := []) (st' := [.int q3.1]) (pc := 18) B oi_24 rfl (C_Line_climb_24 a1 q2.2 _ hq3) tw_718 tw_1038 tw_716 tw_717 tw_103 hd_Line_climb_24 ⟨Nat.le_of_ble_eq_true rfl, Nat.le_of_ble_eq_true rfl⟩ rfl rfl (Nat.le_of_ble_eq_true rfl) rfl dX5_between_18 ?_
  refine x_istore (lv' := [(8, .int q3.1), (7, .int a1), (5, .long q2.1), (3, .long q1.1), (0, .ref (ad 24)), (1, .int a1), (2, .int a2)]) (pc := 21) B dX5_between_21 (by decide) rfl ?_
  refine x_pick (lv' := [(0, .ref (ad 24)), (3, .long q1.1), (5, .long q2.1), (7, .int a1), (8, .int q3.1)]) [4, 3, 2, 1, 0] rfl ?_
  obtain ⟨q7, hq7, h⟩ := bnd h
  refine x_loop (Head := fun (y4 : Int32 × Int32) => XX D ad cI cJ p l e (Rm 5 111) s m args below meth c Q 9 q3.2 23 [(0, .ref (ad 24)), (3, .long q1.1), (5, .long q2.1), (7, .int y4.1), (8, .int y4.2)] []) (Ex := fun (q7 : Int32) => XX D ad cI cJ p l e (Rm 5 111) s m args below meth c Q 9 q3.2 63 [(3, .long q1.1), (5, .long q2.1), (7, .int q7)] []) (fun y4 r h hback hexit => ?_) FU _ q7 hq7 ?_
  · unfold b_Line_between_24_23 at h
    refine x_iload (pc := 23) B 4 dX5_between_23 rfl ?_
    refine x_if_lt (tgt := 63) (pc := 25) B dX5_between_25 rfl (fun hc5 => ?_) (fun hc5 => ?_)
    · have h := ift hc5 h
      refine x_pick (lv' := [(3, .long q1.1), (5, .long q2.1), (7, .int y4.1)]) [1, 2, 3] rfl ?_
      have z := hexit y4.1 (Option.some.inj h).symm
      exact z
    · have h := iff_ hc5 h
      refine x_lload_n (pc := 28) B 1 dX5_between_28 rfl rfl ?_
      refine x_aload_n (pc := 29) B 0 dX5_between_29 rfl rfl ?_
      refine x_get (T := TX5) (pc := 30) B 5 oi_24 rfl uw_5 (by decide) rfl tw_274 rfl dX5_between_30 ?_
      refine x_iload (pc := 33) B 4 dX5_between_33 rfl ?_
      refine x_callSN (rest := [.long q1.1]) (st' := [.int (atv (q3.2.1 27) 48 y4.2), .long q1.1]) (pc := 35) B (T_CF_at 27 48 y4.2 ai_27 (by decide) q3.2) tw_575 tw_573 tw_574 tw_98 hd_CF_at ⟨Nat.le_of_ble_eq_true rfl, Nat.le_of_ble_eq_true rfl⟩ rfl rfl (Nat.le_of_ble_eq_true rfl) rfl dX5_between_35 ?_
      refine x_lshr (pc := 38) B dX5_between_38 ?_
      refine x_lconst (v := 1) (pc := 39) B dX5_between_39 rfl ?_
      refine x_land (pc := 40) B dX5_between_40 ?_
      refine x_lconst (v := 1) (pc := 41) B dX5_between_41 rfl ?_
      refine x_lcmp (pc := 42) B dX5_between_42 ?_
      refine x_if_ne (tgt := 57) (pc := 43) B dX5_between_43 rfl (fun hc6 => ?_) (fun hc6 => ?_)
      · have h := iff_ hc6 h
        refine x_iinc (k := 4) (v := y4.2 + (-1)) (lv' := [(8, .int (y4.2 + (-1))), (0, .ref (ad 24)), (3, .long q1.1), (5, .long q2.1), (7, .int y4.1)]) (pc := 57) B dX5_between_57 rfl rfl (by decide) rfl ?_
        refine x_goto (tgt := 23) (pc := 60) B dX5_between_60 rfl ?_
        refine x_pick (lv' := [(0, .ref (ad 24)), (3, .long q1.1), (5, .long q2.1), (7, .int y4.1), (8, .int (y4.2 + (-1)))]) [1, 2, 3, 4, 0] rfl ?_
        have z := hback (y4.1, y4.2 + (-1)) (Option.some.inj h).symm
        exact z
      · have h := ift hc6 h
        refine x_aload_n (pc := 46) B 0 dX5_between_46 rfl rfl ?_
        refine x_get (T := TX5) (pc := 47) B 5 oi_24 rfl uw_5 (by decide) rfl tw_274 rfl dX5_between_47 ?_
        refine x_iload (pc := 50) B 4 dX5_between_50 rfl ?_
        refine x_callSN (rest := []) (st' := [.int (atv (q3.2.1 27) 48 y4.2)]) (pc := 52) B (T_CF_at 27 48 y4.2 ai_27 (by decide) q3.2) tw_575 tw_573 tw_574 tw_98 hd_CF_at ⟨Nat.le_of_ble_eq_true rfl, Nat.le_of_ble_eq_true rfl⟩ rfl rfl (Nat.le_of_ble_eq_true rfl) rfl dX5_between_52 ?_
        refine x_istore (lv' := [(7, .int (atv (q3.2.1 27) 48 y4.2)), (0, .ref (ad 24)), (3, .long q1.1), (5, .long q2.1), (8, .int y4.2)]) (pc := 55) B dX5_between_55 (by decide) rfl ?_
        refine x_iinc (k := 4) (v := y4.2 + (-1)) (lv' := [(8, .int (y4.2 + (-1))), (7, .int (atv (q3.2.1 27) 48 y4.2)), (0, .ref (ad 24)), (3, .long q1.1), (5, .long q2.1)]) (pc := 57) B dX5_between_57 rfl rfl (by decide) rfl ?_
        refine x_goto (tgt := 23) (pc := 60) B dX5_between_60 rfl ?_
        refine x_pick (lv' := [(0, .ref (ad 24)), (3, .long q1.1), (5, .long q2.1), (7, .int (atv (q3.2.1 27) 48 y4.2)), (8, .int (y4.2 + (-1)))]) [2, 3, 4, 1, 0] rfl ?_
        have z := hback (atv (q3.2.1 27) 48 y4.2, y4.2 + (-1)) (Option.some.inj h).symm
        exact z
  · refine x_lload (pc := 63) B 1 dX5_between_63 rfl ?_
    refine x_lload_n (pc := 65) B 0 dX5_between_65 rfl rfl ?_
    refine x_lxor (pc := 66) B dX5_between_66 ?_
    refine x_lconst (v := 1) (pc := 67) B dX5_between_67 rfl ?_
    refine x_iload (pc := 68) B 2 dX5_between_68 rfl ?_
    refine x_lshl (pc := 70) B dX5_between_70 ?_
    refine x_lor (pc := 71) B dX5_between_71 ?_
    obtain rfl := Option.some.inj h
    exact x_lret (pc := 72) B hQ dX5_between_72
-- CurrentFarms.spite(III)I [0]
abbrev y_CF_spite_0 : MethodName := ⟨"CurrentFarms", "spite", "(III)I"⟩
abbrev cX11_spite : ByteArray := prog_1_method_38_code
theorem dX11_spite_0 : decode cX11_spite 0 = .ok (.iload_n 1, 1) := by decide +kernel
theorem dX11_spite_1 : decode cX11_spite 1 = .ok (.invokestatic 68, 3) := by decide +kernel
theorem dX11_spite_4 : decode cX11_spite 4 = .ok (.ifCond .eq 19, 3) := by decide +kernel
theorem dX11_spite_7 : decode cX11_spite 7 = .ok (.iload_n 2, 1) := by decide +kernel
theorem dX11_spite_8 : decode cX11_spite 8 = .ok (.invokestatic 68, 3) := by decide +kernel
theorem dX11_spite_11 : decode cX11_spite 11 = .ok (.ifCond .eq 12, 3) := by decide +kernel
theorem dX11_spite_14 : decode cX11_spite 14 = .ok (.iload_n 3, 1) := by decide +kernel
theorem dX11_spite_15 : decode cX11_spite 15 = .ok (.iconst 0, 1) := by decide +kernel
theorem dX11_spite_16 : decode cX11_spite 16 = .ok (.iconst 1, 1) := by decide +kernel
theorem dX11_spite_17 : decode cX11_spite 17 = .ok (.invokestatic 72, 3) := by decide +kernel
theorem dX11_spite_20 : decode cX11_spite 20 = .ok (.ifCond .ne 5, 3) := by decide +kernel
theorem dX11_spite_23 : decode cX11_spite 23 = .ok (.iconst (-1), 1) := by decide +kernel
theorem dX11_spite_24 : decode cX11_spite 24 = .ok (.ireturn, 1) := by decide +kernel
theorem dX11_spite_25 : decode cX11_spite 25 = .ok (.aload_n 0, 1) := by decide +kernel
theorem dX11_spite_26 : decode cX11_spite 26 = .ok (.iload_n 1, 1) := by decide +kernel
theorem dX11_spite_27 : decode cX11_spite 27 = .ok (.invokevirtual 195, 3) := by decide +kernel
theorem dX11_spite_30 : decode cX11_spite 30 = .ok (.ifCond .eq 11, 3) := by decide +kernel
theorem dX11_spite_33 : decode cX11_spite 33 = .ok (.aload_n 0, 1) := by decide +kernel
theorem dX11_spite_34 : decode cX11_spite 34 = .ok (.iload_n 2, 1) := by decide +kernel
theorem dX11_spite_35 : decode cX11_spite 35 = .ok (.invokevirtual 195, 3) := by decide +kernel
theorem dX11_spite_38 : decode cX11_spite 38 = .ok (.ifCond .ne 6, 3) := by decide +kernel
theorem dX11_spite_41 : decode cX11_spite 41 = .ok (.bipush (-3), 2) := by decide +kernel
theorem dX11_spite_43 : decode cX11_spite 43 = .ok (.ireturn, 1) := by decide +kernel
theorem dX11_spite_44 : decode cX11_spite 44 = .ok (.aload_n 0, 1) := by decide +kernel
theorem dX11_spite_45 : decode cX11_spite 45 = .ok (.getfield 12, 3) := by decide +kernel
theorem dX11_spite_48 : decode cX11_spite 48 = .ok (.getfield 43, 3) := by decide +kernel
theorem dX11_spite_51 : decode cX11_spite 51 = .ok (.aload_n 0, 1) := by decide +kernel
theorem dX11_spite_52 : decode cX11_spite 52 = .ok (.getfield 12, 3) := by decide +kernel
theorem dX11_spite_55 : decode cX11_spite 55 = .ok (.getfield 107, 3) := by decide +kernel
theorem dX11_spite_58 : decode cX11_spite 58 = .ok (.iload_n 1, 1) := by decide +kernel
theorem dX11_spite_59 : decode cX11_spite 59 = .ok (.iload_n 2, 1) := by decide +kernel
theorem dX11_spite_60 : decode cX11_spite 60 = .ok (.invokevirtual 336, 3) := by decide +kernel
theorem dX11_spite_63 : decode cX11_spite 63 = .ok (.invokevirtual 340, 3) := by decide +kernel
theorem dX11_spite_66 : decode cX11_spite 66 = .ok (.istore 4, 2) := by decide +kernel
theorem dX11_spite_68 : decode cX11_spite 68 = .ok (.iload 4, 2) := by decide +kernel
theorem dX11_spite_70 : decode cX11_spite 70 = .ok (.aload_n 0, 1) := by decide +kernel
theorem dX11_spite_71 : decode cX11_spite 71 = .ok (.getfield 12, 3) := by decide +kernel
theorem dX11_spite_74 : decode cX11_spite 74 = .ok (.getfield 132, 3) := by decide +kernel
theorem dX11_spite_77 : decode cX11_spite 77 = .ok (.iconst 4, 1) := by decide +kernel
theorem dX11_spite_78 : decode cX11_spite 78 = .ok (.aload_n 0, 1) := by decide +kernel
theorem dX11_spite_79 : decode cX11_spite 79 = .ok (.getfield 12, 3) := by decide +kernel
theorem dX11_spite_82 : decode cX11_spite 82 = .ok (.getfield 123, 3) := by decide +kernel
theorem dX11_spite_85 : decode cX11_spite 85 = .ok (.invokevirtual 344, 3) := by decide +kernel
theorem dX11_spite_88 : decode cX11_spite 88 = .ok (.iconst (-1), 1) := by decide +kernel
theorem dX11_spite_89 : decode cX11_spite 89 = .ok (.ixor, 1) := by decide +kernel
theorem dX11_spite_90 : decode cX11_spite 90 = .ok (.iand, 1) := by decide +kernel
theorem dX11_spite_91 : decode cX11_spite 91 = .ok (.istore 4, 2) := by decide +kernel
theorem dX11_spite_93 : decode cX11_spite 93 = .ok (.iconst 0, 1) := by decide +kernel
theorem dX11_spite_94 : decode cX11_spite 94 = .ok (.istore 5, 2) := by decide +kernel
theorem dX11_spite_96 : decode cX11_spite 96 = .ok (.iconst 0, 1) := by decide +kernel
theorem dX11_spite_97 : decode cX11_spite 97 = .ok (.istore 6, 2) := by decide +kernel
theorem dX11_spite_99 : decode cX11_spite 99 = .ok (.iload 6, 2) := by decide +kernel
theorem dX11_spite_101 : decode cX11_spite 101 = .ok (.aload_n 0, 1) := by decide +kernel
theorem dX11_spite_102 : decode cX11_spite 102 = .ok (.getfield 12, 3) := by decide +kernel
theorem dX11_spite_105 : decode cX11_spite 105 = .ok (.getfield 43, 3) := by decide +kernel
theorem dX11_spite_108 : decode cX11_spite 108 = .ok (.getfield 117, 3) := by decide +kernel
theorem dX11_spite_111 : decode cX11_spite 111 = .ok (.if_icmp .ge 49, 3) := by decide +kernel
theorem dX11_spite_114 : decode cX11_spite 114 = .ok (.iload 4, 2) := by decide +kernel
theorem dX11_spite_116 : decode cX11_spite 116 = .ok (.iload 6, 2) := by decide +kernel
theorem dX11_spite_118 : decode cX11_spite 118 = .ok (.invokestatic 240, 3) := by decide +kernel
theorem dX11_spite_121 : decode cX11_spite 121 = .ok (.ifCond .eq 33, 3) := by decide +kernel
theorem dX11_spite_124 : decode cX11_spite 124 = .ok (.aload_n 0, 1) := by decide +kernel
theorem dX11_spite_125 : decode cX11_spite 125 = .ok (.getfield 37, 3) := by decide +kernel
theorem dX11_spite_128 : decode cX11_spite 128 = .ok (.iconst 5, 1) := by decide +kernel
theorem dX11_spite_129 : decode cX11_spite 129 = .ok (.iload 6, 2) := by decide +kernel
theorem dX11_spite_131 : decode cX11_spite 131 = .ok (.aload_n 0, 1) := by decide +kernel
theorem dX11_spite_132 : decode cX11_spite 132 = .ok (.getfield 12, 3) := by decide +kernel
theorem dX11_spite_135 : decode cX11_spite 135 = .ok (.getfield 123, 3) := by decide +kernel
theorem dX11_spite_138 : decode cX11_spite 138 = .ok (.iconst 0, 1) := by decide +kernel
theorem dX11_spite_139 : decode cX11_spite 139 = .ok (.invokevirtual 189, 3) := by decide +kernel
theorem dX11_spite_142 : decode cX11_spite 142 = .ok (.ifCond .ne 12, 3) := by decide +kernel
theorem dX11_spite_145 : decode cX11_spite 145 = .ok (.iload 5, 2) := by decide +kernel
theorem dX11_spite_147 : decode cX11_spite 147 = .ok (.iconst 1, 1) := by decide +kernel
theorem dX11_spite_148 : decode cX11_spite 148 = .ok (.iload 6, 2) := by decide +kernel
theorem dX11_spite_150 : decode cX11_spite 150 = .ok (.ishl, 1) := by decide +kernel
theorem dX11_spite_151 : decode cX11_spite 151 = .ok (.ior, 1) := by decide +kernel
theorem dX11_spite_152 : decode cX11_spite 152 = .ok (.istore 5, 2) := by decide +kernel
theorem dX11_spite_154 : decode cX11_spite 154 = .ok (.iinc 6 1, 3) := by decide +kernel
theorem dX11_spite_157 : decode cX11_spite 157 = .ok (.goto (-58), 3) := by decide +kernel
theorem dX11_spite_160 : decode cX11_spite 160 = .ok (.iload_n 3, 1) := by decide +kernel
theorem dX11_spite_161 : decode cX11_spite 161 = .ok (.ifCond .ne 9, 3) := by decide +kernel
theorem dX11_spite_164 : decode cX11_spite 164 = .ok (.iload 5, 2) := by decide +kernel
theorem dX11_spite_166 : decode cX11_spite 166 = .ok (.invokestatic 166, 3) := by decide +kernel
theorem dX11_spite_169 : decode cX11_spite 169 = .ok (.ireturn, 1) := by decide +kernel
theorem dX11_spite_170 : decode cX11_spite 170 = .ok (.aload_n 0, 1) := by decide +kernel
theorem dX11_spite_171 : decode cX11_spite 171 = .ok (.aload_n 0, 1) := by decide +kernel
theorem dX11_spite_172 : decode cX11_spite 172 = .ok (.getfield 12, 3) := by decide +kernel
theorem dX11_spite_175 : decode cX11_spite 175 = .ok (.getfield 132, 3) := by decide +kernel
theorem dX11_spite_178 : decode cX11_spite 178 = .ok (.aload_n 0, 1) := by decide +kernel
theorem dX11_spite_179 : decode cX11_spite 179 = .ok (.getfield 12, 3) := by decide +kernel
theorem dX11_spite_182 : decode cX11_spite 182 = .ok (.getfield 123, 3) := by decide +kernel
theorem dX11_spite_185 : decode cX11_spite 185 = .ok (.iconst 0, 1) := by decide +kernel
theorem dX11_spite_186 : decode cX11_spite 186 = .ok (.iload 5, 2) := by decide +kernel
theorem dX11_spite_188 : decode cX11_spite 188 = .ok (.invokevirtual 163, 3) := by decide +kernel
theorem dX11_spite_191 : decode cX11_spite 191 = .ok (.invokevirtual 223, 3) := by decide +kernel
theorem dX11_spite_194 : decode cX11_spite 194 = .ok (.ifCond .ne 7, 3) := by decide +kernel
theorem dX11_spite_197 : decode cX11_spite 197 = .ok (.iconst 1, 1) := by decide +kernel
theorem dX11_spite_198 : decode cX11_spite 198 = .ok (.goto 4, 3) := by decide +kernel
theorem dX11_spite_201 : decode cX11_spite 201 = .ok (.iconst 0, 1) := by decide +kernel
theorem dX11_spite_202 : decode cX11_spite 202 = .ok (.invokestatic 226, 3) := by decide +kernel
theorem dX11_spite_205 : decode cX11_spite 205 = .ok (.ireturn, 1) := by decide +kernel
theorem hd_CF_spite_0 : y_CF_spite_0.cls ≠ "java/lang/invoke/MethodHandle" ∧ y_CF_spite_0.cls ≠ "java/lang/invoke/VarHandle" ∧ (parseMethodDescriptor y_CF_spite_0.desc).map (fun d => d.parameters.length) = some 3 := by decide +kernel
def b_CF_spite_0_99 (q9 : Int32) (q10 : Int32 × Mem) (y11 : Int32 × Int32 × Mem) : Option ((Int32 × Int32 × Mem) ⊕ (Int32 × Mem)) :=
  if decide (y11.2.1 < (y11.2.2.1 2 4)) then (if hld (q9 &&& (q10.1 ^^^ (-1))) y11.2.1 then ((f_Account_ruled_79 5 y11.2.1 (y11.2.2.1 1 6) 0 y11.2.2).bind fun q14 => if decide (q14.1 = 0) then (some (.inl (y11.1 ||| (1 <<< (y11.2.1 &&& 31)), y11.2.1 + 1, q14.2))) else (some (.inl (y11.1, y11.2.1 + 1, q14.2)))) else (some (.inl (y11.1, y11.2.1 + 1, y11.2.2)))) else (some (.inr (y11.1, y11.2.2)))
def f_CF_spite_0 (a1 : Int32) (a2 : Int32) (a3 : Int32) (M0 : Mem) : Option (Int32 × Mem) :=
  if wthn a1 0 47 then (if wthn a2 0 47 then (if wthn a3 0 1 then ((f_CF_isOnLine_0 a1 M0).bind fun q4 => if q4 then ((f_CF_isOnLine_0 a2 M0).bind fun q6 => if q6 then ((f_Line_between_24 a1 a2 M0).bind fun q8 => (f_Land_farmsOn_2 q8.1 q8.2).bind fun q9 => (f_Book_decidedBy_7 4 (q8.2.1 1 6) q8.2).bind fun q10 => (itr (b_CF_spite_0_99 q9 q10) FU (0, 0, q10.2)).bind fun q16 => if decide (a3 = 0) then (some (bcnt q16.1, q16.2)) else ((f_Book_membersIn_7 (q16.2.1 1 6) 0 q16.1 q16.2).bind fun q18 => (f_CF_isEnough_0 q18.1 q18.2).bind fun q19 => jv_ ((!q19.1) : Bool) fun u22 => some (bI u22, q19.2))) else (some ((-3), M0))) else (some ((-3), M0))) else (some ((-1), M0))) else (some ((-1), M0))) else (some ((-1), M0))
set_option maxHeartbeats 4000000 in
set_option maxRecDepth 20000 in
theorem C_CF_spite_0 {D : va_G} {ad adK adV : Nat → Nat} {cI cJ : ClassId} {l : Launch} (a1 : Int32) (a2 : Int32) (a3 : Int32) (M0 : Mem) (o : Int32 × Mem) (h : f_CF_spite_0 a1 a2 a3 M0 = some o) : Ct D ad adK adV cI cJ l y_CF_spite_0 cX11_spite 7 (some .int) 7 175 [.ref (ad 0), .int a1, .int a2, .int a3] M0 (some (.int o.1)) o.2 := by
  refine x_start (lv := [(0, .ref (ad 0)), (1, .int a1), (2, .int a2), (3, .int a3)]) (own := "CurrentFarms") rfl (by decide) (Nat.le_of_ble_eq_true rfl) rfl ?_
  intro p e s m args below meth c Q hQ B
  unfold f_CF_spite_0 at h
  refine x_iload_n (pc := 0) B 1 dX11_spite_0 rfl rfl ?_
  refine x_callS (rest := []) (st' := [.int (bI (wthn a1 0 47))]) (pc := 1) B (T_CF_isCell a1 M0) tw_556 tw_554 tw_555 tw_98 hd_CF_isCell ⟨Nat.le_of_ble_eq_true rfl, Nat.le_of_ble_eq_true rfl⟩ rfl rfl (Nat.le_of_ble_eq_true rfl) rfl dX11_spite_1 ?_
  refine x_if_eq_b (tgt := 23) (pc := 4) B dX11_spite_4 rfl (fun hc1 => ?_) (fun hc1 => ?_)
  · have h := iff_ hc1 h
    refine x_iconst (v := (-1)) (pc := 23) B dX11_spite_23 rfl ?_
    obtain rfl := Option.some.inj h
    exact x_iret (pc := 24) B hQ dX11_spite_24
  · have h := ift hc1 h
    refine x_iload_n (pc := 7) B 2 dX11_spite_7 rfl rfl ?_
    refine x_callS (rest := []) (st' := [.int (bI (wthn a2 0 47))]) (pc := 8) B (T_CF_isCell a2 M0) tw_556 tw_554 tw_555 tw_98 hd_CF_isCell ⟨Nat.le_of_ble_eq_true rfl, Nat.le_of_ble_eq_true rfl⟩ rfl rfl (Nat.le_of_ble_eq_true rfl) rfl dX11_spite_8 ?_
    refine x_if_eq_b (tgt := 23) (pc := 11) B dX11_spite_11 rfl (fun hc2 => ?_) (fun hc2 => ?_)
    · have h := iff_ hc2 h
      refine x_iconst (v := (-1)) (pc := 23) B dX11_spite_23 rfl ?_
      obtain rfl := Option.some.inj h
      exact x_iret (pc := 24) B hQ dX11_spite_24
    · have h := ift hc2 h
      refine x_iload_n (pc := 14) B 3 dX11_spite_14 rfl rfl ?_
      refine x_iconst (v := 0) (pc := 15) B dX11_spite_15 rfl ?_
      refine x_iconst (v := 1) (pc := 16) B dX11_spite_16 rfl ?_
      refine x_callS (rest := []) (st' := [.int (bI (wthn a3 0 1))]) (pc := 17) B (T_CF_within a3 0 1 M0) tw_559 tw_557 tw_558 tw_98 hd_CF_within ⟨Nat.le_of_ble_eq_true rfl, Nat.le_of_ble_eq_true rfl⟩ rfl rfl (Nat.le_of_ble_eq_true rfl) rfl dX11_spite_17 ?_
      refine x_if_ne_b (tgt := 25) (pc := 20) B dX11_spite_20 rfl (fun hc3 => ?_) (fun hc3 => ?_)
      · have h := ift hc3 h
        refine x_aload_n (pc := 25) B 0 dX11_spite_25 rfl rfl ?_
        refine x_iload_n (pc := 26) B 1 dX11_spite_26 rfl rfl ?_
        obtain ⟨q4, hq4, h⟩ := bnd h
        refine x_callV (rest := []) (st' := [.int (bI q4)]) (pc := 27) B oi_0 rfl (C_CF_isOnLine_0 a1 M0 _ hq4) tw_567 tw_564 tw_566 tw_1 tw_98 hd_CF_isOnLine_0 ⟨Nat.le_of_ble_eq_true rfl, Nat.le_of_ble_eq_true rfl⟩ rfl rfl (Nat.le_of_ble_eq_true rfl) rfl dX11_spite_27 ?_
        refine x_if_eq_b (tgt := 41) (pc := 30) B dX11_spite_30 rfl (fun hc5 => ?_) (fun hc5 => ?_)
        · have h := iff_ hc5 h
          refine x_bipush (v := (-3)) (pc := 41) B dX11_spite_41 rfl ?_
          obtain rfl := Option.some.inj h
          exact x_iret (pc := 43) B hQ dX11_spite_43
        · have h := ift hc5 h
          refine x_aload_n (pc := 33) B 0 dX11_spite_33 rfl rfl ?_
          refine x_iload_n (pc := 34) B 2 dX11_spite_34 rfl rfl ?_
          obtain ⟨q6, hq6, h⟩ := bnd h
          refine x_callV (rest := []) (st' := [.int (bI q6)]) (pc := 35) B oi_0 rfl (C_CF_isOnLine_0 a2 M0 _ hq6) tw_567 tw_564 tw_566 tw_1 tw_98 hd_CF_isOnLine_0 ⟨Nat.le_of_ble_eq_true rfl, Nat.le_of_ble_eq_true rfl⟩ rfl rfl (Nat.le_of_ble_eq_true rfl) rfl dX11_spite_35 ?_
          refine x_if_ne_b (tgt := 44) (pc := 38) B dX11_spite_38 rfl (fun hc7 => ?_) (fun hc7 => ?_)
          · have h := ift hc7 h
            refine x_aload_n (pc := 44) B 0 dX11_spite_44 rfl rfl ?_
            refine x_get (T := TX11) (pc := 45) B 0 oi_0 rfl uw_11 (by decide) rfl tw_525 rfl dX11_spite_45 ?_
            refine x_get (T := TX8) (pc := 48) B 0 oi_1 rfl uw_8 (by decide) rfl tw_359 rfl dX11_spite_48 ?_
            refine x_aload_n (pc := 51) B 0 dX11_spite_51 rfl rfl ?_
            refine x_get (T := TX11) (pc := 52) B 0 oi_0 rfl uw_11 (by decide) rfl tw_525 rfl dX11_spite_52 ?_
            refine x_get (T := TX8) (pc := 55) B 3 oi_1 rfl uw_8 (by decide) rfl tw_374 rfl dX11_spite_55 ?_
            refine x_iload_n (pc := 58) B 1 dX11_spite_58 rfl rfl ?_
            refine x_iload_n (pc := 59) B 2 dX11_spite_59 rfl rfl ?_
            obtain ⟨q8, hq8, h⟩ := bnd h
            refine x_callV (rest := [.ref (ad 2)]) (st' := [.long q8.1, .ref (ad 2)]) (pc := 60) B oi_24 rfl (C_Line_between_24 a1 a2 M0 _ hq8) tw_1228 tw_1225 tw_1226 tw_1227 tw_103 hd_Line_between_24 ⟨Nat.le_of_ble_eq_true rfl, Nat.le_of_ble_eq_true rfl⟩ rfl rfl (Nat.le_of_ble_eq_true rfl) rfl dX11_spite_60 ?_
            obtain ⟨q9, hq9, h⟩ := bnd h
            refine x_callV (rest := []) (st' := [.int q9]) (pc := 63) B oi_2 rfl (C_Land_farmsOn_2 q8.1 q8.2 _ hq9) tw_579 tw_576 tw_577 tw_578 tw_100 hd_Land_farmsOn_2 ⟨Nat.le_of_ble_eq_true rfl, Nat.le_of_ble_eq_true rfl⟩ rfl rfl (Nat.le_of_ble_eq_true rfl) rfl dX11_spite_63 ?_
            refine x_istore (lv' := [(4, .int q9), (0, .ref (ad 0)), (1, .int a1), (2, .int a2), (3, .int a3)]) (pc := 66) B dX11_spite_66 (by decide) rfl ?_
            refine x_iload (pc := 68) B 0 dX11_spite_68 rfl ?_
            refine x_aload_n (pc := 70) B 1 dX11_spite_70 rfl rfl ?_
            refine x_get (T := TX11) (pc := 71) B 0 oi_0 rfl uw_11 (by decide) rfl tw_525 rfl dX11_spite_71 ?_
            refine x_get (T := TX8) (pc := 74) B 1 oi_1 rfl uw_8 (by decide) rfl tw_367 rfl dX11_spite_74 ?_
            refine x_iconst (v := 4) (pc := 77) B dX11_spite_77 rfl ?_
            refine x_aload_n (pc := 78) B 1 dX11_spite_78 rfl rfl ?_
            refine x_get (T := TX11) (pc := 79) B 0 oi_0 rfl uw_11 (by decide) rfl tw_525 rfl dX11_spite_79 ?_
            refine x_get (T := TX8) (pc := 82) B 6 oi_1 rfl uw_8 (by decide) rfl tw_384 rfl dX11_spite_82 ?_
            obtain ⟨q10, hq10, h⟩ := bnd h
            refine x_callV (rest := [.int q9]) (st' := [.int q10.1, .int q9]) (pc := 85) B oi_7 rfl (C_Book_decidedBy_7 4 (q8.2.1 1 6) q8.2 _ hq10) tw_1083 tw_1230 tw_1081 tw_1082 tw_101 hd_Book_decidedBy_7 ⟨Nat.le_of_ble_eq_true rfl, Nat.le_of_ble_eq_true rfl⟩ rfl rfl (Nat.le_of_ble_eq_true rfl) rfl dX11_spite_85 ?_
            refine x_iconst (v := (-1)) (pc := 88) B dX11_spite_88 rfl ?_
            refine x_ixor (pc := 89) B dX11_spite_89 ?_
            refine x_iand (pc := 90) B dX11_spite_90 ?_
            refine x_istore (lv' := [(4, .int (q9 &&& (q10.1 ^^^ (-1)))), (0, .ref (ad 0)), (1, .int a1), (2, .int a2), (3, .int a3)]) (pc := 91) B dX11_spite_91 (by decide) rfl ?_
            refine x_iconst (v := 0) (pc := 93) B dX11_spite_93 rfl ?_
            refine x_istore (lv' := [(5, .int 0), (4, .int (q9 &&& (q10.1 ^^^ (-1)))), (0, .ref (ad 0)), (1, .int a1), (2, .int a2), (3, .int a3)]) (pc := 94) B dX11_spite_94 (by decide) rfl ?_
            refine x_iconst (v := 0) (pc := 96) B dX11_spite_96 rfl ?_
            refine x_istore (lv' := [(6, .int 0), (5, .int 0), (4, .int (q9 &&& (q10.1 ^^^ (-1)))), (0, .ref (ad 0)), (1, .int a1), (2, .int a2), (3, .int a3)]) (pc := 97) B dX11_spite_97 (by decide) rfl ?_
            refine x_pick (lv' := [(0, .ref (ad 0)), (3, .int a3), (4, .int (q9 &&& (q10.1 ^^^ (-1)))), (5, .int 0), (6, .int 0)]) [3, 6, 2, 1, 0] rfl ?_
            obtain ⟨q16, hq16, h⟩ := bnd h
            refine x_loop (Head := fun (y11 : Int32 × Int32 × Mem) => XX D ad cI cJ p l e (Rm 7 175) s m args below meth c Q 7 y11.2.2 99 [(0, .ref (ad 0)), (3, .int a3), (4, .int (q9 &&& (q10.1 ^^^ (-1)))), (5, .int y11.1), (6, .int y11.2.1)] []) (Ex := fun (q16 : Int32 × Mem) => XX D ad cI cJ p l e (Rm 7 175) s m args below meth c Q 7 q16.2 160 [(0, .ref (ad 0)), (3, .int a3), (5, .int q16.1)] []) (fun y11 r h hback hexit => ?_) FU _ q16 hq16 ?_
            · unfold b_CF_spite_0_99 at h
              refine x_iload (pc := 99) B 4 dX11_spite_99 rfl ?_
              refine x_aload_n (pc := 101) B 0 dX11_spite_101 rfl rfl ?_
              refine x_get (T := TX11) (pc := 102) B 0 oi_0 rfl uw_11 (by decide) rfl tw_525 rfl dX11_spite_102 ?_
              refine x_get (T := TX8) (pc := 105) B 0 oi_1 rfl uw_8 (by decide) rfl tw_359 rfl dX11_spite_105 ?_
              refine x_get (T := TX4) (pc := 108) B 4 oi_2 rfl uw_4 (by decide) rfl tw_151 rfl dX11_spite_108 ?_
              refine x_icmp_ge (tgt := 160) (pc := 111) B dX11_spite_111 rfl (fun hc12 => ?_) (fun hc12 => ?_)
              · have h := iff_ hc12 h
                refine x_pick (lv' := [(0, .ref (ad 0)), (3, .int a3), (5, .int y11.1)]) [0, 1, 3] rfl ?_
                have z := hexit (y11.1, y11.2.2) (Option.some.inj h).symm
                exact z
              · have h := ift hc12 h
                refine x_iload (pc := 114) B 2 dX11_spite_114 rfl ?_
                refine x_iload (pc := 116) B 4 dX11_spite_116 rfl ?_
                refine x_callS (rest := []) (st' := [.int (bI (hld (q9 &&& (q10.1 ^^^ (-1))) y11.2.1))]) (pc := 118) B (T_CF_holds (q9 &&& (q10.1 ^^^ (-1))) y11.2.1 y11.2.2) tw_699 tw_1049 tw_698 tw_98 hd_CF_holds ⟨Nat.le_of_ble_eq_true rfl, Nat.le_of_ble_eq_true rfl⟩ rfl rfl (Nat.le_of_ble_eq_true rfl) rfl dX11_spite_118 ?_
                refine x_if_eq_b (tgt := 154) (pc := 121) B dX11_spite_121 rfl (fun hc13 => ?_) (fun hc13 => ?_)
                · have h := iff_ hc13 h
                  refine x_iinc (k := 4) (v := y11.2.1 + 1) (lv' := [(6, .int (y11.2.1 + 1)), (0, .ref (ad 0)), (3, .int a3), (4, .int (q9 &&& (q10.1 ^^^ (-1)))), (5, .int y11.1)]) (pc := 154) B dX11_spite_154 rfl rfl (by decide) rfl ?_
                  refine x_goto (tgt := 99) (pc := 157) B dX11_spite_157 rfl ?_
                  refine x_pick (lv' := [(0, .ref (ad 0)), (3, .int a3), (4, .int (q9 &&& (q10.1 ^^^ (-1)))), (5, .int y11.1), (6, .int (y11.2.1 + 1))]) [1, 2, 3, 4, 0] rfl ?_
                  have z := hback (y11.1, y11.2.1 + 1, y11.2.2) (Option.some.inj h).symm
                  exact z
                · have h := ift hc13 h
                  refine x_aload_n (pc := 124) B 0 dX11_spite_124 rfl rfl ?_
                  refine x_get (T := TX11) (pc := 125) B 4 oi_0 rfl uw_11 (by decide) rfl tw_529 rfl dX11_spite_125 ?_
                  refine x_iconst (v := 5) (pc := 128) B dX11_spite_128 rfl ?_
                  refine x_iload (pc := 129) B 4 dX11_spite_129 rfl ?_
                  refine x_aload_n (pc := 131) B 0 dX11_spite_131 rfl rfl ?_
                  refine x_get (T := TX11) (pc := 132) B 0 oi_0 rfl uw_11 (by decide) rfl tw_525 rfl dX11_spite_132 ?_
                  refine x_get (T := TX8) (pc := 135) B 6 oi_1 rfl uw_8 (by decide) rfl tw_384 rfl dX11_spite_135 ?_
                  refine x_iconst (v := 0) (pc := 138) B dX11_spite_138 rfl ?_
                  obtain ⟨q14, hq14, h⟩ := bnd h
                  refine x_callV (rest := []) (st' := [.int q14.1]) (pc := 139) B oi_79 rfl (C_Account_ruled_79 5 y11.2.1 (y11.2.2.1 1 6) 0 y11.2.2 _ hq14) tw_944 tw_941 tw_942 tw_943 tw_108 hd_Account_ruled_79 ⟨Nat.le_of_ble_eq_true rfl, Nat.le_of_ble_eq_true rfl⟩ rfl rfl (Nat.le_of_ble_eq_true rfl) rfl dX11_spite_139 ?_
                  refine x_if_ne (tgt := 154) (pc := 142) B dX11_spite_142 rfl (fun hc15 => ?_) (fun hc15 => ?_)
                  · have h := iff_ hc15 h
                    refine x_iinc (k := 4) (v := y11.2.1 + 1) (lv' := [(6, .int (y11.2.1 + 1)), (0, .ref (ad 0)), (3, .int a3), (4, .int (q9 &&& (q10.1 ^^^ (-1)))), (5, .int y11.1)]) (pc := 154) B dX11_spite_154 rfl rfl (by decide) rfl ?_
                    refine x_goto (tgt := 99) (pc := 157) B dX11_spite_157 rfl ?_
                    refine x_pick (lv' := [(0, .ref (ad 0)), (3, .int a3), (4, .int (q9 &&& (q10.1 ^^^ (-1)))), (5, .int y11.1), (6, .int (y11.2.1 + 1))]) [1, 2, 3, 4, 0] rfl ?_
                    have z := hback (y11.1, y11.2.1 + 1, q14.2) (Option.some.inj h).symm
                    exact z
                  · have h := ift hc15 h
                    refine x_iload (pc := 145) B 3 dX11_spite_145 rfl ?_
                    refine x_iconst (v := 1) (pc := 147) B dX11_spite_147 rfl ?_
                    refine x_iload (pc := 148) B 4 dX11_spite_148 rfl ?_
                    refine x_ishl (pc := 150) B dX11_spite_150 ?_
                    refine x_ior (pc := 151) B dX11_spite_151 ?_
                    refine x_istore (lv' := [(5, .int (y11.1 ||| (1 <<< (y11.2.1 &&& 31)))), (0, .ref (ad 0)), (3, .int a3), (4, .int (q9 &&& (q10.1 ^^^ (-1)))), (6, .int y11.2.1)]) (pc := 152) B dX11_spite_152 (by decide) rfl ?_
                    refine x_iinc (k := 4) (v := y11.2.1 + 1) (lv' := [(6, .int (y11.2.1 + 1)), (5, .int (y11.1 ||| (1 <<< (y11.2.1 &&& 31)))), (0, .ref (ad 0)), (3, .int a3), (4, .int (q9 &&& (q10.1 ^^^ (-1))))]) (pc := 154) B dX11_spite_154 rfl rfl (by decide) rfl ?_
                    refine x_goto (tgt := 99) (pc := 157) B dX11_spite_157 rfl ?_
                    refine x_pick (lv' := [(0, .ref (ad 0)), (3, .int a3), (4, .int (q9 &&& (q10.1 ^^^ (-1)))), (5, .int (y11.1 ||| (1 <<< (y11.2.1 &&& 31)))), (6, .int (y11.2.1 + 1))]) [2, 3, 4, 1, 0] rfl ?_
                    have z := hback (y11.1 ||| (1 <<< (y11.2.1 &&& 31)), y11.2.1 + 1, q14.2) (Option.some.inj h).symm
                    exact z
            · refine x_iload_n (pc := 160) B 1 dX11_spite_160 rfl rfl ?_
              refine x_if_ne (tgt := 170) (pc := 161) B dX11_spite_161 rfl (fun hc17 => ?_) (fun hc17 => ?_)
              · have h := iff_ hc17 h
                refine x_aload_n (pc := 170) B 0 dX11_spite_170 rfl rfl ?_
                refine x_aload_n (pc := 171) B 0 dX11_spite_171 rfl rfl ?_
                refine x_get (T := TX11) (pc := 172) B 0 oi_0 rfl uw_11 (by decide) rfl tw_525 rfl dX11_spite_172 ?_
                refine x_get (T := TX8) (pc := 175) B 1 oi_1 rfl uw_8 (by decide) rfl tw_367 rfl dX11_spite_175 ?_
                refine x_aload_n (pc := 178) B 0 dX11_spite_178 rfl rfl ?_
                refine x_get (T := TX11) (pc := 179) B 0 oi_0 rfl uw_11 (by decide) rfl tw_525 rfl dX11_spite_179 ?_
                refine x_get (T := TX8) (pc := 182) B 6 oi_1 rfl uw_8 (by decide) rfl tw_384 rfl dX11_spite_182 ?_
                refine x_iconst (v := 0) (pc := 185) B dX11_spite_185 rfl ?_
                refine x_iload (pc := 186) B 2 dX11_spite_186 rfl ?_
                obtain ⟨q18, hq18, h⟩ := bnd h
                refine x_callV (rest := [.ref (ad 0)]) (st' := [.int q18.1, .ref (ad 0)]) (pc := 188) B oi_7 rfl (C_Book_membersIn_7 (q16.2.1 1 6) 0 q16.1 q16.2 _ hq18) tw_791 tw_788 tw_789 tw_790 tw_101 hd_Book_membersIn_7 ⟨Nat.le_of_ble_eq_true rfl, Nat.le_of_ble_eq_true rfl⟩ rfl rfl (Nat.le_of_ble_eq_true rfl) rfl dX11_spite_188 ?_
                obtain ⟨q19, hq19, h⟩ := bnd h
                refine x_callV (rest := []) (st' := [.int (bI q19.1)]) (pc := 191) B oi_0 rfl (C_CF_isEnough_0 q18.1 q18.2 _ hq19) tw_1023 tw_1020 tw_1022 tw_31 tw_98 hd_CF_isEnough_0 ⟨Nat.le_of_ble_eq_true rfl, Nat.le_of_ble_eq_true rfl⟩ rfl rfl (Nat.le_of_ble_eq_true rfl) rfl dX11_spite_191 ?_
                refine jv_k h (fun (u22 : Bool) => XX D ad cI cJ p l e (Rm 7 175) s m args below meth c Q 7 q19.2 202 [] [.int (bI u22)]) (fun u22 h => ?_) (fun JJ => ?_)
                · refine x_callS (rest := []) (st' := [.int (bI u22)]) (pc := 202) B (T_CF_flag u22 q19.2) tw_606 tw_1024 tw_605 tw_98 hd_CF_flag ⟨Nat.le_of_ble_eq_true rfl, Nat.le_of_ble_eq_true rfl⟩ rfl rfl (Nat.le_of_ble_eq_true rfl) rfl dX11_spite_202 ?_
                  obtain rfl := Option.some.inj h
                  exact x_iret (pc := 205) B hQ dX11_spite_205
                · refine x_if_ne_b (tgt := 201) (pc := 194) B dX11_spite_194 rfl (fun hc20 => ?_) (fun hc20 => ?_)
                  · refine x_iconst (v := 0) (pc := 201) B dX11_spite_201 rfl ?_
                    refine x_pick (lv' := []) [] rfl ?_
                    have z := JJ false (znid_t hc20)
                    exact z
                  · refine x_iconst (v := 1) (pc := 197) B dX11_spite_197 rfl ?_
                    refine x_goto (tgt := 202) (pc := 198) B dX11_spite_198 rfl ?_
                    refine x_pick (lv' := []) [] rfl ?_
                    have z := JJ true (znid_f hc20)
                    exact z
              · have h := ift hc17 h
                refine x_iload (pc := 164) B 2 dX11_spite_164 rfl ?_
                refine x_callS (rest := []) (st' := [.int (bcnt q16.1)]) (pc := 166) B (T_bitCount q16.1 q16.2) tw_689 tw_792 tw_688 tw_113 hd_Integer_bitCount_0f7a4 ⟨Nat.le_of_ble_eq_true rfl, Nat.le_of_ble_eq_true rfl⟩ rfl rfl (Nat.le_of_ble_eq_true rfl) rfl dX11_spite_166 ?_
                obtain rfl := Option.some.inj h
                exact x_iret (pc := 169) B hQ dX11_spite_169
          · have h := iff_ hc7 h
            refine x_bipush (v := (-3)) (pc := 41) B dX11_spite_41 rfl ?_
            obtain rfl := Option.some.inj h
            exact x_iret (pc := 43) B hQ dX11_spite_43
      · have h := iff_ hc3 h
        refine x_iconst (v := (-1)) (pc := 23) B dX11_spite_23 rfl ?_
        obtain rfl := Option.some.inj h
        exact x_iret (pc := 24) B hQ dX11_spite_24
-- CurrentFarms$Line.take(LCurrentFarms$Line;)V [89, 24]
abbrev y_Line_take_89_24 : MethodName := ⟨"CurrentFarms$Line", "take", "(LCurrentFarms$Line;)V"⟩
abbrev cX5_take : ByteArray := prog_7_method_2_code
theorem dX5_take_0 : decode cX5_take 0 = .ok (.aload_n 1, 1) := by decide +kernel
theorem dX5_take_1 : decode cX5_take 1 = .ok (.getfield 9, 3) := by decide +kernel
theorem dX5_take_4 : decode cX5_take 4 = .ok (.aload_n 0, 1) := by decide +kernel
theorem dX5_take_5 : decode cX5_take 5 = .ok (.getfield 9, 3) := by decide +kernel
theorem dX5_take_8 : decode cX5_take 8 = .ok (.invokestatic 37, 3) := by decide +kernel
theorem dX5_take_11 : decode cX5_take 11 = .ok (.aload_n 1, 1) := by decide +kernel
theorem dX5_take_12 : decode cX5_take 12 = .ok (.getfield 15, 3) := by decide +kernel
theorem dX5_take_15 : decode cX5_take 15 = .ok (.aload_n 0, 1) := by decide +kernel
theorem dX5_take_16 : decode cX5_take 16 = .ok (.getfield 15, 3) := by decide +kernel
theorem dX5_take_19 : decode cX5_take 19 = .ok (.invokestatic 37, 3) := by decide +kernel
theorem dX5_take_22 : decode cX5_take 22 = .ok (.aload_n 0, 1) := by decide +kernel
theorem dX5_take_23 : decode cX5_take 23 = .ok (.aload_n 1, 1) := by decide +kernel
theorem dX5_take_24 : decode cX5_take 24 = .ok (.getfield 41, 3) := by decide +kernel
theorem dX5_take_27 : decode cX5_take 27 = .ok (.putfield 41, 3) := by decide +kernel
theorem dX5_take_30 : decode cX5_take 30 = .ok (.aload_n 0, 1) := by decide +kernel
theorem dX5_take_31 : decode cX5_take 31 = .ok (.aload_n 1, 1) := by decide +kernel
theorem dX5_take_32 : decode cX5_take 32 = .ok (.getfield 18, 3) := by decide +kernel
theorem dX5_take_35 : decode cX5_take 35 = .ok (.putfield 18, 3) := by decide +kernel
theorem dX5_take_38 : decode cX5_take 38 = .ok (.aload_n 0, 1) := by decide +kernel
theorem dX5_take_39 : decode cX5_take 39 = .ok (.aload_n 1, 1) := by decide +kernel
theorem dX5_take_40 : decode cX5_take 40 = .ok (.getfield 22, 3) := by decide +kernel
theorem dX5_take_43 : decode cX5_take 43 = .ok (.putfield 22, 3) := by decide +kernel
theorem dX5_take_46 : decode cX5_take 46 = .ok (.return_, 1) := by decide +kernel
theorem hd_Line_take_89_24 : y_Line_take_89_24.cls ≠ "java/lang/invoke/MethodHandle" ∧ y_Line_take_89_24.cls ≠ "java/lang/invoke/VarHandle" ∧ (parseMethodDescriptor y_Line_take_89_24.desc).map (fun d => d.parameters.length) = some 1 := by decide +kernel
def f_Line_take_89_24  (M0 : Mem) : Option (Mem) :=
  jv_ (wR M0 90 (cpyv (M0.1 25) (M0.1 90) 48 48)) fun M1 => jv_ (wR M1 91 (cpyv (M1.1 26) (M1.1 91) 48 48)) fun M2 => jv_ (wI M2 89 2 (M2.1 24 2)) fun M3 => jv_ (wI M3 89 3 (M3.1 24 3)) fun M4 => jv_ (wI M4 89 4 (M4.1 24 4)) fun M5 => some M5
set_option maxHeartbeats 4000000 in
set_option maxRecDepth 20000 in
theorem C_Line_take_89_24 {D : va_G} {ad adK adV : Nat → Nat} {cI cJ : ClassId} {l : Launch}  (M0 : Mem) (o : Mem) (h : f_Line_take_89_24  M0 = some o) : Ct D ad adK adV cI cJ l y_Line_take_89_24 cX5_take 2 none 2 51 [.ref (ad 89), .ref (ad 24)] M0 none o := by
  refine x_start (lv := [(0, .ref (ad 89)), (1, .ref (ad 24))]) (own := "CurrentFarms$Line") rfl (by decide) (Nat.le_of_ble_eq_true rfl) rfl ?_
  intro p e s m args below meth c Q hQ B
  unfold f_Line_take_89_24 at h
  refine x_aload_n (pc := 0) B 1 dX5_take_0 rfl rfl ?_
  refine x_get (T := TX5) (pc := 1) B 0 oi_24 rfl uw_5 (by decide) rfl tw_263 rfl dX5_take_1 ?_
  refine x_aload_n (pc := 4) B 0 dX5_take_4 rfl rfl ?_
  refine x_get (T := TX5) (pc := 5) B 0 oi_89 rfl uw_5 (by decide) rfl tw_263 rfl dX5_take_5 ?_
  refine x_callSN (rest := []) (st' := []) (pc := 8) B (T_CF_copy 25 48 90 48 ai_25 ai_90 (by decide) (by decide) M0) tw_1204 tw_1243 tw_1203 tw_98 hd_CF_copy ⟨Nat.le_of_ble_eq_true rfl, Nat.le_of_ble_eq_true rfl⟩ rfl rfl (Nat.le_of_ble_eq_true rfl) rfl dX5_take_8 ?_
  refine jv_m (P := fun M1 => XX D ad cI cJ p l e (Rm 2 51) s m args below meth c Q 2 M1 11 [(0, .ref (ad 89)), (1, .ref (ad 24))] []) h (fun M1 h => ?_)
  refine x_aload_n (pc := 11) B 1 dX5_take_11 rfl rfl ?_
  refine x_get (T := TX5) (pc := 12) B 1 oi_24 rfl uw_5 (by decide) rfl tw_264 rfl dX5_take_12 ?_
  refine x_aload_n (pc := 15) B 0 dX5_take_15 rfl rfl ?_
  refine x_get (T := TX5) (pc := 16) B 1 oi_89 rfl uw_5 (by decide) rfl tw_264 rfl dX5_take_16 ?_
  refine x_callSN (rest := []) (st' := []) (pc := 19) B (T_CF_copy 26 48 91 48 ai_26 ai_91 (by decide) (by decide) M1) tw_1204 tw_1243 tw_1203 tw_98 hd_CF_copy ⟨Nat.le_of_ble_eq_true rfl, Nat.le_of_ble_eq_true rfl⟩ rfl rfl (Nat.le_of_ble_eq_true rfl) rfl dX5_take_19 ?_
  refine jv_m (P := fun M2 => XX D ad cI cJ p l e (Rm 2 51) s m args below meth c Q 2 M2 22 [(0, .ref (ad 89)), (1, .ref (ad 24))] []) h (fun M2 h => ?_)
  refine x_aload_n (pc := 22) B 0 dX5_take_22 rfl rfl ?_
  refine x_aload_n (pc := 23) B 1 dX5_take_23 rfl rfl ?_
  refine x_get (T := TX5) (pc := 24) B 2 oi_24 rfl uw_5 (by decide) rfl tw_266 rfl dX5_take_24 ?_
  refine x_put (T := TX5) (pc := 27) B 2 oi_89 of_89_2 rfl uw_5 tyX5_ok nmX5 (by decide) rfl tw_266 rfl rfl rfl (Nat.le_of_ble_eq_true rfl) dX5_take_27 ?_
  refine jv_m (P := fun M3 => XX D ad cI cJ p l e (Rm 2 51) s m args below meth c Q 2 M3 30 [(0, .ref (ad 89)), (1, .ref (ad 24))] []) h (fun M3 h => ?_)
  refine x_aload_n (pc := 30) B 0 dX5_take_30 rfl rfl ?_
  refine x_aload_n (pc := 31) B 1 dX5_take_31 rfl rfl ?_
  refine x_get (T := TX5) (pc := 32) B 3 oi_24 rfl uw_5 (by decide) rfl tw_269 rfl dX5_take_32 ?_
  refine x_put (T := TX5) (pc := 35) B 3 oi_89 of_89_3 rfl uw_5 tyX5_ok nmX5 (by decide) rfl tw_269 rfl rfl rfl (Nat.le_of_ble_eq_true rfl) dX5_take_35 ?_
  refine jv_m (P := fun M4 => XX D ad cI cJ p l e (Rm 2 51) s m args below meth c Q 2 M4 38 [(0, .ref (ad 89)), (1, .ref (ad 24))] []) h (fun M4 h => ?_)
  refine x_aload_n (pc := 38) B 0 dX5_take_38 rfl rfl ?_
  refine x_aload_n (pc := 39) B 1 dX5_take_39 rfl rfl ?_
  refine x_get (T := TX5) (pc := 40) B 4 oi_24 rfl uw_5 (by decide) rfl tw_271 rfl dX5_take_40 ?_
  refine x_put (T := TX5) (pc := 43) B 4 oi_89 of_89_4 rfl uw_5 tyX5_ok nmX5 (by decide) rfl tw_271 rfl rfl rfl (Nat.le_of_ble_eq_true rfl) dX5_take_43 ?_
  refine jv_m (P := fun M5 => XX D ad cI cJ p l e (Rm 2 51) s m args below meth c Q 2 M5 46 [(0, .ref (ad 89)), (1, .ref (ad 24))] []) h (fun M5 h => ?_)
  obtain rfl := Option.some.inj h
  exact x_vret (pc := 46) B hQ dX5_take_46
-- CurrentFarms$Line.ahead(I)I [89]
abbrev y_Line_ahead_89 : MethodName := ⟨"CurrentFarms$Line", "ahead", "(I)I"⟩
theorem hd_Line_ahead_89 : y_Line_ahead_89.cls ≠ "java/lang/invoke/MethodHandle" ∧ y_Line_ahead_89.cls ≠ "java/lang/invoke/VarHandle" ∧ (parseMethodDescriptor y_Line_ahead_89.desc).map (fun d => d.parameters.length) = some 1 := by decide +kernel
def f_Line_ahead_89 (a1 : Int32) (M0 : Mem) : Option (Int32) :=
  if wthn a1 0 47 then (some (atv (M0.1 90) 48 a1)) else (some (-1))
set_option maxHeartbeats 4000000 in
set_option maxRecDepth 20000 in
theorem C_Line_ahead_89 {D : va_G} {ad adK adV : Nat → Nat} {cI cJ : ClassId} {l : Launch} (a1 : Int32) (M0 : Mem) (o : Int32) (h : f_Line_ahead_89 a1 M0 = some o) : Ct D ad adK adV cI cJ l y_Line_ahead_89 cX5_ahead 2 (some .int) 2 42 [.ref (ad 89), .int a1] M0 (some (.int o)) M0 := by
  refine x_start (lv := [(0, .ref (ad 89)), (1, .int a1)]) (own := "CurrentFarms$Line") rfl (by decide) (Nat.le_of_ble_eq_true rfl) rfl ?_
  intro p e s m args below meth c Q hQ B
  unfold f_Line_ahead_89 at h
  refine x_iload_n (pc := 0) B 1 dX5_ahead_0 rfl rfl ?_
  refine x_callSN (rest := []) (st' := [.int (bI (wthn a1 0 47))]) (pc := 1) B (T_CF_isCell a1 M0) tw_556 tw_572 tw_555 tw_98 hd_CF_isCell ⟨Nat.le_of_ble_eq_true rfl, Nat.le_of_ble_eq_true rfl⟩ rfl rfl (Nat.le_of_ble_eq_true rfl) rfl dX5_ahead_1 ?_
  refine x_if_eq_b (tgt := 18) (pc := 4) B dX5_ahead_4 rfl (fun hc1 => ?_) (fun hc1 => ?_)
  · have h := iff_ hc1 h
    refine x_iconst (v := (-1)) (pc := 18) B dX5_ahead_18 rfl ?_
    obtain rfl := Option.some.inj h
    exact x_iret (pc := 19) B hQ dX5_ahead_19
  · have h := ift hc1 h
    refine x_aload_n (pc := 7) B 0 dX5_ahead_7 rfl rfl ?_
    refine x_get (T := TX5) (pc := 8) B 0 oi_89 rfl uw_5 (by decide) rfl tw_263 rfl dX5_ahead_8 ?_
    refine x_iload_n (pc := 11) B 1 dX5_ahead_11 rfl rfl ?_
    refine x_callSN (rest := []) (st' := [.int (atv (M0.1 90) 48 a1)]) (pc := 12) B (T_CF_at 90 48 a1 ai_90 (by decide) M0) tw_575 tw_573 tw_574 tw_98 hd_CF_at ⟨Nat.le_of_ble_eq_true rfl, Nat.le_of_ble_eq_true rfl⟩ rfl rfl (Nat.le_of_ble_eq_true rfl) rfl dX5_ahead_12 ?_
    refine x_goto (tgt := 19) (pc := 15) B dX5_ahead_15 rfl ?_
    obtain rfl := Option.some.inj h
    exact x_iret (pc := 19) B hQ dX5_ahead_19
-- CurrentFarms$Line.cells(I)J [89]
abbrev y_Line_cells_89 : MethodName := ⟨"CurrentFarms$Line", "cells", "(I)J"⟩
theorem hd_Line_cells_89 : y_Line_cells_89.cls ≠ "java/lang/invoke/MethodHandle" ∧ y_Line_cells_89.cls ≠ "java/lang/invoke/VarHandle" ∧ (parseMethodDescriptor y_Line_cells_89.desc).map (fun d => d.parameters.length) = some 1 := by decide +kernel
def b_Line_cells_89_7 (M0 : Mem) (y1 : Int64 × Int32) : Option ((Int64 × Int32) ⊕ (Int64)) :=
  if decide (y1.2 < (M0.1 89 2)) then (some (.inl (y1.1 ||| (1 <<< ((atv (M0.1 91) 48 y1.2).toInt64 &&& 63)), y1.2 + 1))) else (some (.inr y1.1))
def f_Line_cells_89 (a1 : Int32) (M0 : Mem) : Option (Int64) :=
  (itr (b_Line_cells_89_7 M0) FU (1 <<< (a1.toInt64 &&& 63), 0)).bind fun q3 => some q3
set_option maxHeartbeats 4000000 in
set_option maxRecDepth 20000 in
theorem C_Line_cells_89 {D : va_G} {ad adK adV : Nat → Nat} {cI cJ : ClassId} {l : Launch} (a1 : Int32) (M0 : Mem) (o : Int64) (h : f_Line_cells_89 a1 M0 = some o) : Ct D ad adK adV cI cJ l y_Line_cells_89 cX5_cells 5 (some .long) 1 21 [.ref (ad 89), .int a1] M0 (some (.long o)) M0 := by
  refine x_start (lv := [(0, .ref (ad 89)), (1, .int a1)]) (own := "CurrentFarms$Line") rfl (by decide) (Nat.le_of_ble_eq_true rfl) rfl ?_
  intro p e s m args below meth c Q hQ B
  unfold f_Line_cells_89 at h
  refine x_lconst (v := 1) (pc := 0) B dX5_cells_0 rfl ?_
  refine x_iload_n (pc := 1) B 1 dX5_cells_1 rfl rfl ?_
  refine x_lshl (pc := 2) B dX5_cells_2 ?_
  refine x_lstore_n (lv' := [(2, .long (1 <<< (a1.toInt64 &&& 63))), (0, .ref (ad 89)), (1, .int a1)]) (pc := 3) B dX5_cells_3 rfl (by decide) rfl ?_
  refine x_iconst (v := 0) (pc := 4) B dX5_cells_4 rfl ?_
  refine x_istore (lv' := [(4, .int 0), (2, .long (1 <<< (a1.toInt64 &&& 63))), (0, .ref (ad 89)), (1, .int a1)]) (pc := 5) B dX5_cells_5 (by decide) rfl ?_
  refine x_pick (lv' := [(0, .ref (ad 89)), (2, .long (1 <<< (a1.toInt64 &&& 63))), (4, .int 0)]) [2, 1, 0] rfl ?_
  obtain ⟨q3, hq3, h⟩ := bnd h
  refine x_loop (Head := fun (y1 : Int64 × Int32) => XX D ad cI cJ p l e (Rm 1 21) s m args below meth c Q 5 M0 7 [(0, .ref (ad 89)), (2, .long y1.1), (4, .int y1.2)] []) (Ex := fun (q3 : Int64) => XX D ad cI cJ p l e (Rm 1 21) s m args below meth c Q 5 M0 36 [(2, .long q3)] []) (fun y1 r h hback hexit => ?_) FU _ q3 hq3 ?_
  · unfold b_Line_cells_89_7 at h
    refine x_iload (pc := 7) B 2 dX5_cells_7 rfl ?_
    refine x_aload_n (pc := 9) B 0 dX5_cells_9 rfl rfl ?_
    refine x_get (T := TX5) (pc := 10) B 2 oi_89 rfl uw_5 (by decide) rfl tw_266 rfl dX5_cells_10 ?_
    refine x_icmp_ge (tgt := 36) (pc := 13) B dX5_cells_13 rfl (fun hc2 => ?_) (fun hc2 => ?_)
    · have h := iff_ hc2 h
      refine x_pick (lv' := [(2, .long y1.1)]) [1] rfl ?_
      have z := hexit y1.1 (Option.some.inj h).symm
      exact z
    · have h := ift hc2 h
      refine x_lload_n (pc := 16) B 1 dX5_cells_16 rfl rfl ?_
      refine x_lconst (v := 1) (pc := 17) B dX5_cells_17 rfl ?_
      refine x_aload_n (pc := 18) B 0 dX5_cells_18 rfl rfl ?_
      refine x_get (T := TX5) (pc := 19) B 1 oi_89 rfl uw_5 (by decide) rfl tw_264 rfl dX5_cells_19 ?_
      refine x_iload (pc := 22) B 2 dX5_cells_22 rfl ?_
      refine x_callSN (rest := [.long 1, .long y1.1]) (st' := [.int (atv (M0.1 91) 48 y1.2), .long 1, .long y1.1]) (pc := 24) B (T_CF_at 91 48 y1.2 ai_91 (by decide) M0) tw_575 tw_573 tw_574 tw_98 hd_CF_at ⟨Nat.le_of_ble_eq_true rfl, Nat.le_of_ble_eq_true rfl⟩ rfl rfl (Nat.le_of_ble_eq_true rfl) rfl dX5_cells_24 ?_
      refine x_lshl (pc := 27) B dX5_cells_27 ?_
      refine x_lor (pc := 28) B dX5_cells_28 ?_
      refine x_lstore_n (lv' := [(2, .long (y1.1 ||| (1 <<< ((atv (M0.1 91) 48 y1.2).toInt64 &&& 63)))), (0, .ref (ad 89)), (4, .int y1.2)]) (pc := 29) B dX5_cells_29 rfl (by decide) rfl ?_
      refine x_iinc (k := 2) (v := y1.2 + 1) (lv' := [(4, .int (y1.2 + 1)), (2, .long (y1.1 ||| (1 <<< ((atv (M0.1 91) 48 y1.2).toInt64 &&& 63)))), (0, .ref (ad 89))]) (pc := 30) B dX5_cells_30 rfl rfl (by decide) rfl ?_
      refine x_goto (tgt := 7) (pc := 33) B dX5_cells_33 rfl ?_
      refine x_pick (lv' := [(0, .ref (ad 89)), (2, .long (y1.1 ||| (1 <<< ((atv (M0.1 91) 48 y1.2).toInt64 &&& 63)))), (4, .int (y1.2 + 1))]) [2, 1, 0] rfl ?_
      have z := hback (y1.1 ||| (1 <<< ((atv (M0.1 91) 48 y1.2).toInt64 &&& 63)), y1.2 + 1) (Option.some.inj h).symm
      exact z
  · refine x_lload_n (pc := 36) B 0 dX5_cells_36 rfl rfl ?_
    obtain rfl := Option.some.inj h
    exact x_lret (pc := 37) B hQ dX5_cells_37
-- CurrentFarms$Ways.reach(LCurrentFarms$Line;I)Z [81, 89]
abbrev y_Ways_reach_81_89 : MethodName := ⟨"CurrentFarms$Ways", "reach", "(LCurrentFarms$Line;I)Z"⟩
theorem hd_Ways_reach_81_89 : y_Ways_reach_81_89.cls ≠ "java/lang/invoke/MethodHandle" ∧ y_Ways_reach_81_89.cls ≠ "java/lang/invoke/VarHandle" ∧ (parseMethodDescriptor y_Ways_reach_81_89.desc).map (fun d => d.parameters.length) = some 2 := by decide +kernel
def b_Ways_reach_81_89_19 (q1 : Int64) (y3 : Int32 × Mem) : Option ((Int32 × Mem) ⊕ (Mem)) :=
  if decide (y3.1 < 48) then (jv_ ((if decide ((lg_cmp ((q1 >>> (y3.1.toInt64 &&& 63)) &&& 1) 1) = 0) then 0 else 1000000) : Int32) fun u7 => jv_ (putv y3.2 83 3072 y3.1 u7) fun M8 => some (.inl (y3.1 + 1, M8))) else (some (.inr y3.2))
def f_Ways_reach_81_89 (a2 : Int32) (M0 : Mem) : Option (Bool × Mem) :=
  (f_Line_cells_89 (M0.1 2 5) M0).bind fun q1 => (f_Ways_measure_81 M0).bind fun q2 => (itr (b_Ways_reach_81_89_19 q1) FU (0, q2)).bind fun q9 => (f_Ways_spread_81 0 q9).bind fun q10 => jv_ (wI q10 81 6 (atv (q10.1 83) 3072 a2)) fun M11 => if decide ((M11.1 81 6) < 1000000) then ((f_Ways_trace_81 a2 M11).bind fun q13 => some (true, q13)) else (some (false, M11))
set_option maxHeartbeats 4000000 in
set_option maxRecDepth 20000 in
theorem C_Ways_reach_81_89 {D : va_G} {ad adK adV : Nat → Nat} {cI cJ : ClassId} {l : Launch} (a2 : Int32) (M0 : Mem) (o : Bool × Mem) (h : f_Ways_reach_81_89 a2 M0 = some o) : Ct D ad adK adV cI cJ l y_Ways_reach_81_89 cX10_reach 6 (some .boolean) 5 112 [.ref (ad 81), .ref (ad 89), .int a2] M0 (some (.int (bI o.1))) o.2 := by
  refine x_start (lv := [(0, .ref (ad 81)), (1, .ref (ad 89)), (2, .int a2)]) (own := "CurrentFarms$Ways") rfl (by decide) (Nat.le_of_ble_eq_true rfl) rfl ?_
  intro p e s m args below meth c Q hQ B
  unfold f_Ways_reach_81_89 at h
  refine x_aload_n (pc := 0) B 1 dX10_reach_0 rfl rfl ?_
  refine x_aload_n (pc := 1) B 0 dX10_reach_1 rfl rfl ?_
  refine x_get (T := TX10) (pc := 2) B 0 oi_81 rfl uw_10 (by decide) rfl tw_471 rfl dX10_reach_2 ?_
  refine x_get (T := TX4) (pc := 5) B 5 oi_2 rfl uw_4 (by decide) rfl tw_153 rfl dX10_reach_5 ?_
  obtain ⟨q1, hq1, h⟩ := bnd h
  refine x_callV (rest := []) (st' := [.long q1]) (pc := 8) B oi_89 rfl (C_Line_cells_89 (M0.1 2 5) M0 _ hq1) tw_1019 tw_1054 tw_1017 tw_1018 tw_103 hd_Line_cells_89 ⟨Nat.le_of_ble_eq_true rfl, Nat.le_of_ble_eq_true rfl⟩ rfl rfl (Nat.le_of_ble_eq_true rfl) rfl dX10_reach_8 ?_
  refine x_lstore_n (lv' := [(3, .long q1), (0, .ref (ad 81)), (1, .ref (ad 89)), (2, .int a2)]) (pc := 11) B dX10_reach_11 rfl (by decide) rfl ?_
  refine x_aload_n (pc := 12) B 1 dX10_reach_12 rfl rfl ?_
  obtain ⟨q2, hq2, h⟩ := bnd h
  refine x_callV (rest := []) (st' := []) (pc := 13) B oi_81 rfl (C_Ways_measure_81  M0 _ hq2) tw_981 tw_978 tw_980 tw_26 tw_109 hd_Ways_measure_81 ⟨Nat.le_of_ble_eq_true rfl, Nat.le_of_ble_eq_true rfl⟩ rfl rfl (Nat.le_of_ble_eq_true rfl) rfl dX10_reach_13 ?_
  refine x_iconst (v := 0) (pc := 16) B dX10_reach_16 rfl ?_
  refine x_istore (lv' := [(5, .int 0), (3, .long q1), (0, .ref (ad 81)), (1, .ref (ad 89)), (2, .int a2)]) (pc := 17) B dX10_reach_17 (by decide) rfl ?_
  refine x_pick (lv' := [(0, .ref (ad 81)), (2, .int a2), (3, .long q1), (5, .int 0)]) [2, 4, 1, 0] rfl ?_
  obtain ⟨q9, hq9, h⟩ := bnd h
  refine x_loop (Head := fun (y3 : Int32 × Mem) => XX D ad cI cJ p l e (Rm 5 112) s m args below meth c Q 6 y3.2 19 [(0, .ref (ad 81)), (2, .int a2), (3, .long q1), (5, .int y3.1)] []) (Ex := fun (q9 : Mem) => XX D ad cI cJ p l e (Rm 5 112) s m args below meth c Q 6 q9 58 [(0, .ref (ad 81)), (2, .int a2)] []) (fun y3 r h hback hexit => ?_) FU _ q9 hq9 ?_
  · unfold b_Ways_reach_81_89_19 at h
    refine x_iload (pc := 19) B 3 dX10_reach_19 rfl ?_
    refine x_bipush (v := 48) (pc := 21) B dX10_reach_21 rfl ?_
    refine x_icmp_ge (tgt := 58) (pc := 23) B dX10_reach_23 rfl (fun hc4 => ?_) (fun hc4 => ?_)
    · have h := iff_ hc4 h
      refine x_pick (lv' := [(0, .ref (ad 81)), (2, .int a2)]) [0, 1] rfl ?_
      have z := hexit y3.2 (Option.some.inj h).symm
      exact z
    · have h := ift hc4 h
      refine x_aload_n (pc := 26) B 0 dX10_reach_26 rfl rfl ?_
      refine x_get (T := TX10) (pc := 27) B 2 oi_81 rfl uw_10 (by decide) rfl tw_473 rfl dX10_reach_27 ?_
      refine x_iload (pc := 30) B 3 dX10_reach_30 rfl ?_
      refine x_lload_n (pc := 32) B 2 dX10_reach_32 rfl rfl ?_
      refine x_iload (pc := 33) B 3 dX10_reach_33 rfl ?_
      refine x_lshr (pc := 35) B dX10_reach_35 ?_
      refine x_lconst (v := 1) (pc := 36) B dX10_reach_36 rfl ?_
      refine x_land (pc := 37) B dX10_reach_37 ?_
      refine x_lconst (v := 1) (pc := 38) B dX10_reach_38 rfl ?_
      refine x_lcmp (pc := 39) B dX10_reach_39 ?_
      refine jv_k h (fun (u7 : Int32) => XX D ad cI cJ p l e (Rm 5 112) s m args below meth c Q 6 y3.2 49 [(0, .ref (ad 81)), (2, .int a2), (3, .long q1), (5, .int y3.1)] [.int u7, .int y3.1, .ref (ad 83)]) (fun u7 h => ?_) (fun JJ => ?_)
      · refine x_callSN (rest := []) (st' := []) (pc := 49) B (T_CF_put 83 3072 y3.1 u7 ai_83 (by decide) y3.2) tw_588 tw_977 tw_587 tw_98 hd_CF_put ⟨Nat.le_of_ble_eq_true rfl, Nat.le_of_ble_eq_true rfl⟩ rfl rfl (Nat.le_of_ble_eq_true rfl) rfl dX10_reach_49 ?_
        refine jv_m (P := fun M8 => XX D ad cI cJ p l e (Rm 5 112) s m args below meth c Q 6 M8 52 [(0, .ref (ad 81)), (2, .int a2), (3, .long q1), (5, .int y3.1)] []) h (fun M8 h => ?_)
        refine x_iinc (k := 3) (v := y3.1 + 1) (lv' := [(5, .int (y3.1 + 1)), (0, .ref (ad 81)), (2, .int a2), (3, .long q1)]) (pc := 52) B dX10_reach_52 rfl rfl (by decide) rfl ?_
        refine x_goto (tgt := 19) (pc := 55) B dX10_reach_55 rfl ?_
        refine x_pick (lv' := [(0, .ref (ad 81)), (2, .int a2), (3, .long q1), (5, .int (y3.1 + 1))]) [1, 2, 3, 0] rfl ?_
        have z := hback (y3.1 + 1, M8) (Option.some.inj h).symm
        exact z
      · refine x_if_ne (tgt := 47) (pc := 40) B dX10_reach_40 rfl (fun hc5 => ?_) (fun hc5 => ?_)
        · refine x_ldc (v := 1000000) (pc := 47) B tw_988 dX10_reach_47 ?_
          have z := JJ 1000000 ((zif_f hc5).trans rfl)
          exact z
        · refine x_iconst (v := 0) (pc := 43) B dX10_reach_43 rfl ?_
          refine x_goto (tgt := 49) (pc := 44) B dX10_reach_44 rfl ?_
          have z := JJ 0 ((zif_t hc5).trans rfl)
          exact z
  · refine x_aload_n (pc := 58) B 0 dX10_reach_58 rfl rfl ?_
    refine x_iconst (v := 0) (pc := 59) B dX10_reach_59 rfl ?_
    obtain ⟨q10, hq10, h⟩ := bnd h
    refine x_callV (rest := []) (st' := []) (pc := 60) B oi_81 rfl (C_Ways_spread_81 0 q9 _ hq10) tw_1002 tw_999 tw_1001 tw_29 tw_109 hd_Ways_spread_81 ⟨Nat.le_of_ble_eq_true rfl, Nat.le_of_ble_eq_true rfl⟩ rfl rfl (Nat.le_of_ble_eq_true rfl) rfl dX10_reach_60 ?_
    refine x_aload_n (pc := 63) B 0 dX10_reach_63 rfl rfl ?_
    refine x_aload_n (pc := 64) B 0 dX10_reach_64 rfl rfl ?_
    refine x_get (T := TX10) (pc := 65) B 2 oi_81 rfl uw_10 (by decide) rfl tw_473 rfl dX10_reach_65 ?_
    refine x_iload_n (pc := 68) B 1 dX10_reach_68 rfl rfl ?_
    refine x_callSN (rest := [.ref (ad 81)]) (st' := [.int (atv (q10.1 83) 3072 a2), .ref (ad 81)]) (pc := 69) B (T_CF_at 83 3072 a2 ai_83 (by decide) q10) tw_575 tw_998 tw_574 tw_98 hd_CF_at ⟨Nat.le_of_ble_eq_true rfl, Nat.le_of_ble_eq_true rfl⟩ rfl rfl (Nat.le_of_ble_eq_true rfl) rfl dX10_reach_69 ?_
    refine x_put (T := TX10) (pc := 72) B 6 oi_81 of_81_6 rfl uw_10 tyX10_ok nmX10 (by decide) rfl tw_477 rfl rfl rfl (Nat.le_of_ble_eq_true rfl) dX10_reach_72 ?_
    refine jv_m (P := fun M11 => XX D ad cI cJ p l e (Rm 5 112) s m args below meth c Q 6 M11 75 [(0, .ref (ad 81)), (2, .int a2)] []) h (fun M11 h => ?_)
    refine x_aload_n (pc := 75) B 0 dX10_reach_75 rfl rfl ?_
    refine x_get (T := TX10) (pc := 76) B 6 oi_81 rfl uw_10 (by decide) rfl tw_477 rfl dX10_reach_76 ?_
    refine x_ldc (v := 1000000) (pc := 79) B tw_988 dX10_reach_79 ?_
    refine x_icmp_lt (tgt := 86) (pc := 81) B dX10_reach_81 rfl (fun hc12 => ?_) (fun hc12 => ?_)
    · have h := ift hc12 h
      refine x_aload_n (pc := 86) B 0 dX10_reach_86 rfl rfl ?_
      refine x_iload_n (pc := 87) B 1 dX10_reach_87 rfl rfl ?_
      obtain ⟨q13, hq13, h⟩ := bnd h
      refine x_callV (rest := []) (st' := []) (pc := 88) B oi_81 rfl (C_Ways_trace_81 a2 M11 _ hq13) tw_1058 tw_1055 tw_1057 tw_32 tw_109 hd_Ways_trace_81 ⟨Nat.le_of_ble_eq_true rfl, Nat.le_of_ble_eq_true rfl⟩ rfl rfl (Nat.le_of_ble_eq_true rfl) rfl dX10_reach_88 ?_
      refine x_iconst (v := 1) (pc := 91) B dX10_reach_91 rfl ?_
      obtain rfl := Option.some.inj h
      exact x_zret (v := true) (pc := 92) B hQ dX10_reach_92
    · have h := iff_ hc12 h
      refine x_iconst (v := 0) (pc := 84) B dX10_reach_84 rfl ?_
      obtain rfl := Option.some.inj h
      exact x_zret (v := false) (pc := 85) B hQ dX10_reach_85
-- CurrentFarms$Line.add(II)V [89]
abbrev y_Line_add_89 : MethodName := ⟨"CurrentFarms$Line", "add", "(II)V"⟩
theorem hd_Line_add_89 : y_Line_add_89.cls ≠ "java/lang/invoke/MethodHandle" ∧ y_Line_add_89.cls ≠ "java/lang/invoke/VarHandle" ∧ (parseMethodDescriptor y_Line_add_89.desc).map (fun d => d.parameters.length) = some 2 := by decide +kernel
def f_Line_add_89 (a1 : Int32) (a2 : Int32) (M0 : Mem) : Option (Mem) :=
  jv_ (putv M0 90 48 a2 a1) fun M1 => jv_ (putv M1 91 48 (M1.1 89 2) a2) fun M2 => jv_ (wI M2 89 2 ((M2.1 89 2) + 1)) fun M3 => some M3
set_option maxHeartbeats 4000000 in
set_option maxRecDepth 20000 in
theorem C_Line_add_89 {D : va_G} {ad adK adV : Nat → Nat} {cI cJ : ClassId} {l : Launch} (a1 : Int32) (a2 : Int32) (M0 : Mem) (o : Mem) (h : f_Line_add_89 a1 a2 M0 = some o) : Ct D ad adK adV cI cJ l y_Line_add_89 cX5_add 3 none 1 22 [.ref (ad 89), .int a1, .int a2] M0 none o := by
  refine x_start (lv := [(0, .ref (ad 89)), (1, .int a1), (2, .int a2)]) (own := "CurrentFarms$Line") rfl (by decide) (Nat.le_of_ble_eq_true rfl) rfl ?_
  intro p e s m args below meth c Q hQ B
  unfold f_Line_add_89 at h
  refine x_aload_n (pc := 0) B 0 dX5_add_0 rfl rfl ?_
  refine x_get (T := TX5) (pc := 1) B 0 oi_89 rfl uw_5 (by decide) rfl tw_263 rfl dX5_add_1 ?_
  refine x_iload_n (pc := 4) B 2 dX5_add_4 rfl rfl ?_
  refine x_iload_n (pc := 5) B 1 dX5_add_5 rfl rfl ?_
  refine x_callSN (rest := []) (st' := []) (pc := 6) B (T_CF_put 90 48 a2 a1 ai_90 (by decide) M0) tw_588 tw_719 tw_587 tw_98 hd_CF_put ⟨Nat.le_of_ble_eq_true rfl, Nat.le_of_ble_eq_true rfl⟩ rfl rfl (Nat.le_of_ble_eq_true rfl) rfl dX5_add_6 ?_
  refine jv_m (P := fun M1 => XX D ad cI cJ p l e (Rm 1 22) s m args below meth c Q 3 M1 9 [(0, .ref (ad 89)), (1, .int a1), (2, .int a2)] []) h (fun M1 h => ?_)
  refine x_aload_n (pc := 9) B 0 dX5_add_9 rfl rfl ?_
  refine x_get (T := TX5) (pc := 10) B 1 oi_89 rfl uw_5 (by decide) rfl tw_264 rfl dX5_add_10 ?_
  refine x_aload_n (pc := 13) B 0 dX5_add_13 rfl rfl ?_
  refine x_get (T := TX5) (pc := 14) B 2 oi_89 rfl uw_5 (by decide) rfl tw_266 rfl dX5_add_14 ?_
  refine x_iload_n (pc := 17) B 2 dX5_add_17 rfl rfl ?_
  refine x_callSN (rest := []) (st' := []) (pc := 18) B (T_CF_put 91 48 (M1.1 89 2) a2 ai_91 (by decide) M1) tw_588 tw_719 tw_587 tw_98 hd_CF_put ⟨Nat.le_of_ble_eq_true rfl, Nat.le_of_ble_eq_true rfl⟩ rfl rfl (Nat.le_of_ble_eq_true rfl) rfl dX5_add_18 ?_
  refine jv_m (P := fun M2 => XX D ad cI cJ p l e (Rm 1 22) s m args below meth c Q 3 M2 21 [(0, .ref (ad 89)), (1, .int a1), (2, .int a2)] []) h (fun M2 h => ?_)
  refine x_aload_n (pc := 21) B 0 dX5_add_21 rfl rfl ?_
  refine x_dup (pc := 22) B dX5_add_22 rfl ?_
  refine x_get (T := TX5) (pc := 23) B 2 oi_89 rfl uw_5 (by decide) rfl tw_266 rfl dX5_add_23 ?_
  refine x_iconst (v := 1) (pc := 26) B dX5_add_26 rfl ?_
  refine x_iadd (pc := 27) B dX5_add_27 ?_
  refine x_put (T := TX5) (pc := 28) B 2 oi_89 of_89_2 rfl uw_5 tyX5_ok nmX5 (by decide) rfl tw_266 rfl rfl rfl (Nat.le_of_ble_eq_true rfl) dX5_add_28 ?_
  refine jv_m (P := fun M3 => XX D ad cI cJ p l e (Rm 1 22) s m args below meth c Q 3 M3 31 [(0, .ref (ad 89)), (1, .int a1), (2, .int a2)] []) h (fun M3 h => ?_)
  obtain rfl := Option.some.inj h
  exact x_vret (pc := 31) B hQ dX5_add_31
-- CurrentFarms$Ways.layOn(LCurrentFarms$Line;)V [81, 89]
abbrev y_Ways_layOn_81_89 : MethodName := ⟨"CurrentFarms$Ways", "layOn", "(LCurrentFarms$Line;)V"⟩
abbrev cX10_layOn : ByteArray := prog_12_method_11_code
theorem dX10_layOn_0 : decode cX10_layOn 0 = .ok (.aload_n 0, 1) := by decide +kernel
theorem dX10_layOn_1 : decode cX10_layOn 1 = .ok (.getfield 99, 3) := by decide +kernel
theorem dX10_layOn_4 : decode cX10_layOn 4 = .ok (.istore_n 2, 1) := by decide +kernel
theorem dX10_layOn_5 : decode cX10_layOn 5 = .ok (.iload_n 2, 1) := by decide +kernel
theorem dX10_layOn_6 : decode cX10_layOn 6 = .ok (.ifCond .le 31, 3) := by decide +kernel
theorem dX10_layOn_9 : decode cX10_layOn 9 = .ok (.aload_n 1, 1) := by decide +kernel
theorem dX10_layOn_10 : decode cX10_layOn 10 = .ok (.aload_n 0, 1) := by decide +kernel
theorem dX10_layOn_11 : decode cX10_layOn 11 = .ok (.getfield 21, 3) := by decide +kernel
theorem dX10_layOn_14 : decode cX10_layOn 14 = .ok (.iload_n 2, 1) := by decide +kernel
theorem dX10_layOn_15 : decode cX10_layOn 15 = .ok (.invokestatic 62, 3) := by decide +kernel
theorem dX10_layOn_18 : decode cX10_layOn 18 = .ok (.aload_n 0, 1) := by decide +kernel
theorem dX10_layOn_19 : decode cX10_layOn 19 = .ok (.getfield 21, 3) := by decide +kernel
theorem dX10_layOn_22 : decode cX10_layOn 22 = .ok (.iload_n 2, 1) := by decide +kernel
theorem dX10_layOn_23 : decode cX10_layOn 23 = .ok (.iconst 1, 1) := by decide +kernel
theorem dX10_layOn_24 : decode cX10_layOn 24 = .ok (.isub, 1) := by decide +kernel
theorem dX10_layOn_25 : decode cX10_layOn 25 = .ok (.invokestatic 62, 3) := by decide +kernel
theorem dX10_layOn_28 : decode cX10_layOn 28 = .ok (.invokevirtual 105, 3) := by decide +kernel
theorem dX10_layOn_31 : decode cX10_layOn 31 = .ok (.iinc 2 (-1), 3) := by decide +kernel
theorem dX10_layOn_34 : decode cX10_layOn 34 = .ok (.goto (-29), 3) := by decide +kernel
theorem dX10_layOn_37 : decode cX10_layOn 37 = .ok (.return_, 1) := by decide +kernel
theorem hd_Ways_layOn_81_89 : y_Ways_layOn_81_89.cls ≠ "java/lang/invoke/MethodHandle" ∧ y_Ways_layOn_81_89.cls ≠ "java/lang/invoke/VarHandle" ∧ (parseMethodDescriptor y_Ways_layOn_81_89.desc).map (fun d => d.parameters.length) = some 1 := by decide +kernel
def b_Ways_layOn_81_89_5  (y1 : Int32 × Mem) : Option ((Int32 × Mem) ⊕ (Mem)) :=
  if decide (y1.1 ≤ 0) then (some (.inr y1.2)) else ((f_Line_add_89 (atv (y1.2.1 85) 48 y1.1) (atv (y1.2.1 85) 48 (y1.1 - 1)) y1.2).bind fun q3 => some (.inl (y1.1 + (-1), q3)))
def f_Ways_layOn_81_89  (M0 : Mem) : Option (Mem) :=
  (itr (b_Ways_layOn_81_89_5) FU (M0.1 81 5, M0)).bind fun q4 => some q4
set_option maxHeartbeats 4000000 in
set_option maxRecDepth 20000 in
theorem C_Ways_layOn_81_89 {D : va_G} {ad adK adV : Nat → Nat} {cI cJ : ClassId} {l : Launch}  (M0 : Mem) (o : Mem) (h : f_Ways_layOn_81_89  M0 = some o) : Ct D ad adK adV cI cJ l y_Ways_layOn_81_89 cX10_layOn 3 none 2 44 [.ref (ad 81), .ref (ad 89)] M0 none o := by
  refine x_start (lv := [(0, .ref (ad 81)), (1, .ref (ad 89))]) (own := "CurrentFarms$Ways") rfl (by decide) (Nat.le_of_ble_eq_true rfl) rfl ?_
  intro p e s m args below meth c Q hQ B
  unfold f_Ways_layOn_81_89 at h
  refine x_aload_n (pc := 0) B 0 dX10_layOn_0 rfl rfl ?_
  refine x_get (T := TX10) (pc := 1) B 5 oi_81 rfl uw_10 (by decide) rfl tw_476 rfl dX10_layOn_1 ?_
  refine x_istore_n (lv' := [(2, .int (M0.1 81 5)), (0, .ref (ad 81)), (1, .ref (ad 89))]) (pc := 4) B dX10_layOn_4 rfl (by decide) rfl ?_
  refine x_pick (lv' := [(0, .ref (ad 81)), (1, .ref (ad 89)), (2, .int (M0.1 81 5))]) [1, 2, 0] rfl ?_
  obtain ⟨q4, hq4, h⟩ := bnd h
  refine x_loop (Head := fun (y1 : Int32 × Mem) => XX D ad cI cJ p l e (Rm 2 44) s m args below meth c Q 3 y1.2 5 [(0, .ref (ad 81)), (1, .ref (ad 89)), (2, .int y1.1)] []) (Ex := fun (q4 : Mem) => XX D ad cI cJ p l e (Rm 2 44) s m args below meth c Q 3 q4 37 [] []) (fun y1 r h hback hexit => ?_) FU _ q4 hq4 ?_
  · unfold b_Ways_layOn_81_89_5 at h
    refine x_iload_n (pc := 5) B 2 dX10_layOn_5 rfl rfl ?_
    refine x_if_le (tgt := 37) (pc := 6) B dX10_layOn_6 rfl (fun hc2 => ?_) (fun hc2 => ?_)
    · have h := ift hc2 h
      refine x_pick (lv' := []) [] rfl ?_
      have z := hexit y1.2 (Option.some.inj h).symm
      exact z
    · have h := iff_ hc2 h
      refine x_aload_n (pc := 9) B 1 dX10_layOn_9 rfl rfl ?_
      refine x_aload_n (pc := 10) B 0 dX10_layOn_10 rfl rfl ?_
      refine x_get (T := TX10) (pc := 11) B 4 oi_81 rfl uw_10 (by decide) rfl tw_475 rfl dX10_layOn_11 ?_
      refine x_iload_n (pc := 14) B 2 dX10_layOn_14 rfl rfl ?_
      refine x_callSN (rest := [.ref (ad 89)]) (st' := [.int (atv (y1.2.1 85) 48 y1.1), .ref (ad 89)]) (pc := 15) B (T_CF_at 85 48 y1.1 ai_85 (by decide) y1.2) tw_575 tw_998 tw_574 tw_98 hd_CF_at ⟨Nat.le_of_ble_eq_true rfl, Nat.le_of_ble_eq_true rfl⟩ rfl rfl (Nat.le_of_ble_eq_true rfl) rfl dX10_layOn_15 ?_
      refine x_aload_n (pc := 18) B 0 dX10_layOn_18 rfl rfl ?_
      refine x_get (T := TX10) (pc := 19) B 4 oi_81 rfl uw_10 (by decide) rfl tw_475 rfl dX10_layOn_19 ?_
      refine x_iload_n (pc := 22) B 2 dX10_layOn_22 rfl rfl ?_
      refine x_iconst (v := 1) (pc := 23) B dX10_layOn_23 rfl ?_
      refine x_isub (pc := 24) B dX10_layOn_24 ?_
      refine x_callSN (rest := [.int (atv (y1.2.1 85) 48 y1.1), .ref (ad 89)]) (st' := [.int (atv (y1.2.1 85) 48 (y1.1 - 1)), .int (atv (y1.2.1 85) 48 y1.1), .ref (ad 89)]) (pc := 25) B (T_CF_at 85 48 (y1.1 - 1) ai_85 (by decide) y1.2) tw_575 tw_998 tw_574 tw_98 hd_CF_at ⟨Nat.le_of_ble_eq_true rfl, Nat.le_of_ble_eq_true rfl⟩ rfl rfl (Nat.le_of_ble_eq_true rfl) rfl dX10_layOn_25 ?_
      obtain ⟨q3, hq3, h⟩ := bnd h
      refine x_callV (rest := []) (st' := []) (pc := 28) B oi_89 rfl (C_Line_add_89 (atv (y1.2.1 85) 48 y1.1) (atv (y1.2.1 85) 48 (y1.1 - 1)) y1.2 _ hq3) tw_958 tw_1248 tw_956 tw_957 tw_103 hd_Line_add_89 ⟨Nat.le_of_ble_eq_true rfl, Nat.le_of_ble_eq_true rfl⟩ rfl rfl (Nat.le_of_ble_eq_true rfl) rfl dX10_layOn_28 ?_
      refine x_iinc (k := 2) (v := y1.1 + (-1)) (lv' := [(2, .int (y1.1 + (-1))), (0, .ref (ad 81)), (1, .ref (ad 89))]) (pc := 31) B dX10_layOn_31 rfl rfl (by decide) rfl ?_
      refine x_goto (tgt := 5) (pc := 34) B dX10_layOn_34 rfl ?_
      refine x_pick (lv' := [(0, .ref (ad 81)), (1, .ref (ad 89)), (2, .int (y1.1 + (-1)))]) [1, 2, 0] rfl ?_
      have z := hback (y1.1 + (-1), q3) (Option.some.inj h).symm
      exact z
  · obtain rfl := Option.some.inj h
    exact x_vret (pc := 37) B hQ dX10_layOn_37
-- CurrentFarms.costToBringIn(I)I [0]
abbrev y_CF_costToBringIn_0 : MethodName := ⟨"CurrentFarms", "costToBringIn", "(I)I"⟩
abbrev cX11_costToBringIn : ByteArray := prog_1_method_53_code
theorem dX11_costToBringIn_0 : decode cX11_costToBringIn 0 = .ok (.iconst 0, 1) := by decide +kernel
theorem dX11_costToBringIn_1 : decode cX11_costToBringIn 1 = .ok (.istore_n 2, 1) := by decide +kernel
theorem dX11_costToBringIn_2 : decode cX11_costToBringIn 2 = .ok (.aload_n 0, 1) := by decide +kernel
theorem dX11_costToBringIn_3 : decode cX11_costToBringIn 3 = .ok (.getfield 64, 3) := by decide +kernel
theorem dX11_costToBringIn_6 : decode cX11_costToBringIn 6 = .ok (.aload_n 0, 1) := by decide +kernel
theorem dX11_costToBringIn_7 : decode cX11_costToBringIn 7 = .ok (.getfield 12, 3) := by decide +kernel
theorem dX11_costToBringIn_10 : decode cX11_costToBringIn 10 = .ok (.getfield 107, 3) := by decide +kernel
theorem dX11_costToBringIn_13 : decode cX11_costToBringIn 13 = .ok (.invokevirtual 366, 3) := by decide +kernel
theorem dX11_costToBringIn_16 : decode cX11_costToBringIn 16 = .ok (.iconst 0, 1) := by decide +kernel
theorem dX11_costToBringIn_17 : decode cX11_costToBringIn 17 = .ok (.istore_n 3, 1) := by decide +kernel
theorem dX11_costToBringIn_18 : decode cX11_costToBringIn 18 = .ok (.iload_n 3, 1) := by decide +kernel
theorem dX11_costToBringIn_19 : decode cX11_costToBringIn 19 = .ok (.aload_n 0, 1) := by decide +kernel
theorem dX11_costToBringIn_20 : decode cX11_costToBringIn 20 = .ok (.getfield 12, 3) := by decide +kernel
theorem dX11_costToBringIn_23 : decode cX11_costToBringIn 23 = .ok (.getfield 43, 3) := by decide +kernel
theorem dX11_costToBringIn_26 : decode cX11_costToBringIn 26 = .ok (.getfield 117, 3) := by decide +kernel
theorem dX11_costToBringIn_29 : decode cX11_costToBringIn 29 = .ok (.if_icmp .ge 139, 3) := by decide +kernel
theorem dX11_costToBringIn_32 : decode cX11_costToBringIn 32 = .ok (.aload_n 0, 1) := by decide +kernel
theorem dX11_costToBringIn_33 : decode cX11_costToBringIn 33 = .ok (.getfield 12, 3) := by decide +kernel
theorem dX11_costToBringIn_36 : decode cX11_costToBringIn 36 = .ok (.getfield 43, 3) := by decide +kernel
theorem dX11_costToBringIn_39 : decode cX11_costToBringIn 39 = .ok (.iload_n 3, 1) := by decide +kernel
theorem dX11_costToBringIn_40 : decode cX11_costToBringIn 40 = .ok (.invokevirtual 233, 3) := by decide +kernel
theorem dX11_costToBringIn_43 : decode cX11_costToBringIn 43 = .ok (.istore 4, 2) := by decide +kernel
theorem dX11_costToBringIn_45 : decode cX11_costToBringIn 45 = .ok (.iload 4, 2) := by decide +kernel
theorem dX11_costToBringIn_47 : decode cX11_costToBringIn 47 = .ok (.aload_n 0, 1) := by decide +kernel
theorem dX11_costToBringIn_48 : decode cX11_costToBringIn 48 = .ok (.getfield 12, 3) := by decide +kernel
theorem dX11_costToBringIn_51 : decode cX11_costToBringIn 51 = .ok (.getfield 43, 3) := by decide +kernel
theorem dX11_costToBringIn_54 : decode cX11_costToBringIn 54 = .ok (.getfield 114, 3) := by decide +kernel
theorem dX11_costToBringIn_57 : decode cX11_costToBringIn 57 = .ok (.if_icmp .eq 16, 3) := by decide +kernel
theorem dX11_costToBringIn_60 : decode cX11_costToBringIn 60 = .ok (.aload_n 0, 1) := by decide +kernel
theorem dX11_costToBringIn_61 : decode cX11_costToBringIn 61 = .ok (.getfield 64, 3) := by decide +kernel
theorem dX11_costToBringIn_64 : decode cX11_costToBringIn 64 = .ok (.iload 4, 2) := by decide +kernel
theorem dX11_costToBringIn_66 : decode cX11_costToBringIn 66 = .ok (.invokevirtual 318, 3) := by decide +kernel
theorem dX11_costToBringIn_69 : decode cX11_costToBringIn 69 = .ok (.iconst (-1), 1) := by decide +kernel
theorem dX11_costToBringIn_70 : decode cX11_costToBringIn 70 = .ok (.if_icmp .eq 7, 3) := by decide +kernel
theorem dX11_costToBringIn_73 : decode cX11_costToBringIn 73 = .ok (.iconst 1, 1) := by decide +kernel
theorem dX11_costToBringIn_74 : decode cX11_costToBringIn 74 = .ok (.goto 4, 3) := by decide +kernel
theorem dX11_costToBringIn_77 : decode cX11_costToBringIn 77 = .ok (.iconst 0, 1) := by decide +kernel
theorem dX11_costToBringIn_78 : decode cX11_costToBringIn 78 = .ok (.istore 5, 2) := by decide +kernel
theorem dX11_costToBringIn_80 : decode cX11_costToBringIn 80 = .ok (.iload_n 1, 1) := by decide +kernel
theorem dX11_costToBringIn_81 : decode cX11_costToBringIn 81 = .ok (.iload_n 3, 1) := by decide +kernel
theorem dX11_costToBringIn_82 : decode cX11_costToBringIn 82 = .ok (.invokestatic 240, 3) := by decide +kernel
theorem dX11_costToBringIn_85 : decode cX11_costToBringIn 85 = .ok (.ifCond .eq 77, 3) := by decide +kernel
theorem dX11_costToBringIn_88 : decode cX11_costToBringIn 88 = .ok (.iload 5, 2) := by decide +kernel
theorem dX11_costToBringIn_90 : decode cX11_costToBringIn 90 = .ok (.ifCond .eq 6, 3) := by decide +kernel
theorem dX11_costToBringIn_93 : decode cX11_costToBringIn 93 = .ok (.goto 69, 3) := by decide +kernel
theorem dX11_costToBringIn_96 : decode cX11_costToBringIn 96 = .ok (.aload_n 0, 1) := by decide +kernel
theorem dX11_costToBringIn_97 : decode cX11_costToBringIn 97 = .ok (.getfield 37, 3) := by decide +kernel
theorem dX11_costToBringIn_100 : decode cX11_costToBringIn 100 = .ok (.iconst 4, 1) := by decide +kernel
theorem dX11_costToBringIn_101 : decode cX11_costToBringIn 101 = .ok (.iload_n 3, 1) := by decide +kernel
theorem dX11_costToBringIn_102 : decode cX11_costToBringIn 102 = .ok (.aload_n 0, 1) := by decide +kernel
theorem dX11_costToBringIn_103 : decode cX11_costToBringIn 103 = .ok (.getfield 12, 3) := by decide +kernel
theorem dX11_costToBringIn_106 : decode cX11_costToBringIn 106 = .ok (.getfield 123, 3) := by decide +kernel
theorem dX11_costToBringIn_109 : decode cX11_costToBringIn 109 = .ok (.iconst 0, 1) := by decide +kernel
theorem dX11_costToBringIn_110 : decode cX11_costToBringIn 110 = .ok (.invokevirtual 189, 3) := by decide +kernel
theorem dX11_costToBringIn_113 : decode cX11_costToBringIn 113 = .ok (.istore 6, 2) := by decide +kernel
theorem dX11_costToBringIn_115 : decode cX11_costToBringIn 115 = .ok (.aload_n 0, 1) := by decide +kernel
theorem dX11_costToBringIn_116 : decode cX11_costToBringIn 116 = .ok (.getfield 50, 3) := by decide +kernel
theorem dX11_costToBringIn_119 : decode cX11_costToBringIn 119 = .ok (.aload_n 0, 1) := by decide +kernel
theorem dX11_costToBringIn_120 : decode cX11_costToBringIn 120 = .ok (.getfield 64, 3) := by decide +kernel
theorem dX11_costToBringIn_123 : decode cX11_costToBringIn 123 = .ok (.iload 4, 2) := by decide +kernel
theorem dX11_costToBringIn_125 : decode cX11_costToBringIn 125 = .ok (.invokevirtual 243, 3) := by decide +kernel
theorem dX11_costToBringIn_128 : decode cX11_costToBringIn 128 = .ok (.ifCond .eq 34, 3) := by decide +kernel
theorem dX11_costToBringIn_131 : decode cX11_costToBringIn 131 = .ok (.aload_n 0, 1) := by decide +kernel
theorem dX11_costToBringIn_132 : decode cX11_costToBringIn 132 = .ok (.iload_n 1, 1) := by decide +kernel
theorem dX11_costToBringIn_133 : decode cX11_costToBringIn 133 = .ok (.iload 6, 2) := by decide +kernel
theorem dX11_costToBringIn_135 : decode cX11_costToBringIn 135 = .ok (.invokevirtual 250, 3) := by decide +kernel
theorem dX11_costToBringIn_138 : decode cX11_costToBringIn 138 = .ok (.ifCond .ne 24, 3) := by decide +kernel
theorem dX11_costToBringIn_141 : decode cX11_costToBringIn 141 = .ok (.iload_n 2, 1) := by decide +kernel
theorem dX11_costToBringIn_142 : decode cX11_costToBringIn 142 = .ok (.aload_n 0, 1) := by decide +kernel
theorem dX11_costToBringIn_143 : decode cX11_costToBringIn 143 = .ok (.getfield 50, 3) := by decide +kernel
theorem dX11_costToBringIn_146 : decode cX11_costToBringIn 146 = .ok (.getfield 247, 3) := by decide +kernel
theorem dX11_costToBringIn_149 : decode cX11_costToBringIn 149 = .ok (.iadd, 1) := by decide +kernel
theorem dX11_costToBringIn_150 : decode cX11_costToBringIn 150 = .ok (.istore_n 2, 1) := by decide +kernel
theorem dX11_costToBringIn_151 : decode cX11_costToBringIn 151 = .ok (.aload_n 0, 1) := by decide +kernel
theorem dX11_costToBringIn_152 : decode cX11_costToBringIn 152 = .ok (.getfield 50, 3) := by decide +kernel
theorem dX11_costToBringIn_155 : decode cX11_costToBringIn 155 = .ok (.aload_n 0, 1) := by decide +kernel
theorem dX11_costToBringIn_156 : decode cX11_costToBringIn 156 = .ok (.getfield 64, 3) := by decide +kernel
theorem dX11_costToBringIn_159 : decode cX11_costToBringIn 159 = .ok (.invokevirtual 369, 3) := by decide +kernel
theorem dX11_costToBringIn_162 : decode cX11_costToBringIn 162 = .ok (.iinc 3 1, 3) := by decide +kernel
theorem dX11_costToBringIn_165 : decode cX11_costToBringIn 165 = .ok (.goto (-147), 3) := by decide +kernel
theorem dX11_costToBringIn_168 : decode cX11_costToBringIn 168 = .ok (.iload_n 2, 1) := by decide +kernel
theorem dX11_costToBringIn_169 : decode cX11_costToBringIn 169 = .ok (.ireturn, 1) := by decide +kernel
theorem hd_CF_costToBringIn_0 : y_CF_costToBringIn_0.cls ≠ "java/lang/invoke/MethodHandle" ∧ y_CF_costToBringIn_0.cls ≠ "java/lang/invoke/VarHandle" ∧ (parseMethodDescriptor y_CF_costToBringIn_0.desc).map (fun d => d.parameters.length) = some 1 := by decide +kernel
def b_CF_costToBringIn_0_18 (a1 : Int32) (y2 : Int32 × Int32 × Mem) : Option ((Int32 × Int32 × Mem) ⊕ (Int32 × Mem)) :=
  if decide (y2.2.1 < (y2.2.2.1 2 4)) then ((f_Land_cellOf_2 y2.2.1 y2.2.2).bind fun q4 => jn_ (fun (u7 : Bool) => if hld a1 y2.2.1 then (if u7 then (some (.inl (y2.1, y2.2.1 + 1, y2.2.2))) else ((f_Account_ruled_79 4 y2.2.1 (y2.2.2.1 1 6) 0 y2.2.2).bind fun q10 => (f_Ways_reach_81_89 q4 q10.2).bind fun q11 => if q11.1 then ((f_CF_signsFor_0 a1 q10.1 q11.2).bind fun q13 => if decide (q13 = 0) then ((f_Ways_layOn_81_89 q11.2).bind fun q15 => some (.inl (y2.1 + (q11.2.1 81 6), y2.2.1 + 1, q15))) else (some (.inl (y2.1, y2.2.1 + 1, q11.2)))) else (some (.inl (y2.1, y2.2.1 + 1, q11.2))))) else (some (.inl (y2.1, y2.2.1 + 1, y2.2.2)))) fun k16 => if decide (q4 = (y2.2.2.1 2 5)) then (k16 true) else ((f_Line_ahead_89 q4 y2.2.2).bind fun q17 => if decide (q17 = (-1)) then (k16 false) else (k16 true))) else (some (.inr (y2.1, y2.2.2)))
def f_CF_costToBringIn_0 (a1 : Int32) (M0 : Mem) : Option (Int32 × Mem) :=
  (f_Line_take_89_24 M0).bind fun q1 => (itr (b_CF_costToBringIn_0_18 a1) FU (0, 0, q1)).bind fun q19 => some (q19.1, q19.2)
set_option maxHeartbeats 4000000 in
set_option maxRecDepth 20000 in
theorem C_CF_costToBringIn_0 {D : va_G} {ad adK adV : Nat → Nat} {cI cJ : ClassId} {l : Launch} (a1 : Int32) (M0 : Mem) (o : Int32 × Mem) (h : f_CF_costToBringIn_0 a1 M0 = some o) : Ct D ad adK adV cI cJ l y_CF_costToBringIn_0 cX11_costToBringIn 7 (some .int) 6 153 [.ref (ad 0), .int a1] M0 (some (.int o.1)) o.2 := by
  refine x_start (lv := [(0, .ref (ad 0)), (1, .int a1)]) (own := "CurrentFarms") rfl (by decide) (Nat.le_of_ble_eq_true rfl) rfl ?_
  intro p e s m args below meth c Q hQ B
  unfold f_CF_costToBringIn_0 at h
  refine x_iconst (v := 0) (pc := 0) B dX11_costToBringIn_0 rfl ?_
  refine x_istore_n (lv' := [(2, .int 0), (0, .ref (ad 0)), (1, .int a1)]) (pc := 1) B dX11_costToBringIn_1 rfl (by decide) rfl ?_
  refine x_aload_n (pc := 2) B 1 dX11_costToBringIn_2 rfl rfl ?_
  refine x_get (T := TX11) (pc := 3) B 7 oi_0 rfl uw_11 (by decide) rfl tw_532 rfl dX11_costToBringIn_3 ?_
  refine x_aload_n (pc := 6) B 1 dX11_costToBringIn_6 rfl rfl ?_
  refine x_get (T := TX11) (pc := 7) B 0 oi_0 rfl uw_11 (by decide) rfl tw_525 rfl dX11_costToBringIn_7 ?_
  refine x_get (T := TX8) (pc := 10) B 3 oi_1 rfl uw_8 (by decide) rfl tw_374 rfl dX11_costToBringIn_10 ?_
  obtain ⟨q1, hq1, h⟩ := bnd h
  refine x_callV (rest := []) (st' := []) (pc := 13) B oi_89 rfl (C_Line_take_89_24  M0 _ hq1) tw_1242 tw_1239 tw_1240 tw_1241 tw_103 hd_Line_take_89_24 ⟨Nat.le_of_ble_eq_true rfl, Nat.le_of_ble_eq_true rfl⟩ rfl rfl (Nat.le_of_ble_eq_true rfl) rfl dX11_costToBringIn_13 ?_
  refine x_iconst (v := 0) (pc := 16) B dX11_costToBringIn_16 rfl ?_
  refine x_istore_n (lv' := [(3, .int 0), (2, .int 0), (0, .ref (ad 0)), (1, .int a1)]) (pc := 17) B dX11_costToBringIn_17 rfl (by decide) rfl ?_
  refine x_pick (lv' := [(0, .ref (ad 0)), (1, .int a1), (2, .int 0), (3, .int 0)]) [2, 3, 1, 0] rfl ?_
  obtain ⟨q19, hq19, h⟩ := bnd h
  refine x_loop (Head := fun (y2 : Int32 × Int32 × Mem) => XX D ad cI cJ p l e (Rm 6 153) s m args below meth c Q 7 y2.2.2 18 [(0, .ref (ad 0)), (1, .int a1), (2, .int y2.1), (3, .int y2.2.1)] []) (Ex := fun (q19 : Int32 × Mem) => XX D ad cI cJ p l e (Rm 6 153) s m args below meth c Q 7 q19.2 168 [(2, .int q19.1)] []) (fun y2 r h hback hexit => ?_) FU _ q19 hq19 ?_
  · unfold b_CF_costToBringIn_0_18 at h
    refine x_iload_n (pc := 18) B 3 dX11_costToBringIn_18 rfl rfl ?_
    refine x_aload_n (pc := 19) B 0 dX11_costToBringIn_19 rfl rfl ?_
    refine x_get (T := TX11) (pc := 20) B 0 oi_0 rfl uw_11 (by decide) rfl tw_525 rfl dX11_costToBringIn_20 ?_
    refine x_get (T := TX8) (pc := 23) B 0 oi_1 rfl uw_8 (by decide) rfl tw_359 rfl dX11_costToBringIn_23 ?_
    refine x_get (T := TX4) (pc := 26) B 4 oi_2 rfl uw_4 (by decide) rfl tw_151 rfl dX11_costToBringIn_26 ?_
    refine x_icmp_ge (tgt := 168) (pc := 29) B dX11_costToBringIn_29 rfl (fun hc3 => ?_) (fun hc3 => ?_)
    · have h := iff_ hc3 h
      refine x_pick (lv' := [(2, .int y2.1)]) [2] rfl ?_
      have z := hexit (y2.1, y2.2.2) (Option.some.inj h).symm
      exact z
    · have h := ift hc3 h
      refine x_aload_n (pc := 32) B 0 dX11_costToBringIn_32 rfl rfl ?_
      refine x_get (T := TX11) (pc := 33) B 0 oi_0 rfl uw_11 (by decide) rfl tw_525 rfl dX11_costToBringIn_33 ?_
      refine x_get (T := TX8) (pc := 36) B 0 oi_1 rfl uw_8 (by decide) rfl tw_359 rfl dX11_costToBringIn_36 ?_
      refine x_iload_n (pc := 39) B 3 dX11_costToBringIn_39 rfl rfl ?_
      obtain ⟨q4, hq4, h⟩ := bnd h
      refine x_callV (rest := []) (st' := [.int q4]) (pc := 40) B oi_2 rfl (C_Land_cellOf_2 y2.2.1 y2.2.2 _ hq4) tw_583 tw_1033 tw_581 tw_582 tw_100 hd_Land_cellOf_2 ⟨Nat.le_of_ble_eq_true rfl, Nat.le_of_ble_eq_true rfl⟩ rfl rfl (Nat.le_of_ble_eq_true rfl) rfl dX11_costToBringIn_40 ?_
      refine x_istore (lv' := [(4, .int q4), (0, .ref (ad 0)), (1, .int a1), (2, .int y2.1), (3, .int y2.2.1)]) (pc := 43) B dX11_costToBringIn_43 (by decide) rfl ?_
      refine x_iload (pc := 45) B 0 dX11_costToBringIn_45 rfl ?_
      refine x_aload_n (pc := 47) B 1 dX11_costToBringIn_47 rfl rfl ?_
      refine x_get (T := TX11) (pc := 48) B 0 oi_0 rfl uw_11 (by decide) rfl tw_525 rfl dX11_costToBringIn_48 ?_
      refine x_get (T := TX8) (pc := 51) B 0 oi_1 rfl uw_8 (by decide) rfl tw_359 rfl dX11_costToBringIn_51 ?_
      refine x_get (T := TX4) (pc := 54) B 5 oi_2 rfl uw_4 (by decide) rfl tw_154 rfl dX11_costToBringIn_54 ?_
      refine jn_k h (fun (u7 : Bool) => XX D ad cI cJ p l e (Rm 6 153) s m args below meth c Q 7 y2.2.2 78 [(0, .ref (ad 0)), (1, .int a1), (2, .int y2.1), (3, .int y2.2.1), (4, .int q4)] [.int (bI u7)]) (fun u7 h => ?_) (fun k16 h JJ => ?_)
      · refine x_istore (lv' := [(5, .int (bI u7)), (0, .ref (ad 0)), (1, .int a1), (2, .int y2.1), (3, .int y2.2.1), (4, .int q4)]) (pc := 78) B dX11_costToBringIn_78 (by decide) rfl ?_
        refine x_iload_n (pc := 80) B 2 dX11_costToBringIn_80 rfl rfl ?_
        refine x_iload_n (pc := 81) B 4 dX11_costToBringIn_81 rfl rfl ?_
        refine x_callS (rest := []) (st' := [.int (bI (hld a1 y2.2.1))]) (pc := 82) B (T_CF_holds a1 y2.2.1 y2.2.2) tw_699 tw_1049 tw_698 tw_98 hd_CF_holds ⟨Nat.le_of_ble_eq_true rfl, Nat.le_of_ble_eq_true rfl⟩ rfl rfl (Nat.le_of_ble_eq_true rfl) rfl dX11_costToBringIn_82 ?_
        refine x_if_eq_b (tgt := 162) (pc := 85) B dX11_costToBringIn_85 rfl (fun hc8 => ?_) (fun hc8 => ?_)
        · have h := iff_ hc8 h
          refine x_iinc (k := 4) (v := y2.2.1 + 1) (lv' := [(3, .int (y2.2.1 + 1)), (5, .int (bI u7)), (0, .ref (ad 0)), (1, .int a1), (2, .int y2.1), (4, .int q4)]) (pc := 162) B dX11_costToBringIn_162 rfl rfl (by decide) rfl ?_
          refine x_goto (tgt := 18) (pc := 165) B dX11_costToBringIn_165 rfl ?_
          refine x_pick (lv' := [(0, .ref (ad 0)), (1, .int a1), (2, .int y2.1), (3, .int (y2.2.1 + 1))]) [2, 3, 4, 0] rfl ?_
          have z := hback (y2.1, y2.2.1 + 1, y2.2.2) (Option.some.inj h).symm
          exact z
        · have h := ift hc8 h
          refine x_iload (pc := 88) B 0 dX11_costToBringIn_88 rfl ?_
          refine x_if_eq_b (tgt := 96) (pc := 90) B dX11_costToBringIn_90 rfl (fun hc9 => ?_) (fun hc9 => ?_)
          · have h := iff_ hc9 h
            refine x_aload_n (pc := 96) B 1 dX11_costToBringIn_96 rfl rfl ?_
            refine x_get (T := TX11) (pc := 97) B 4 oi_0 rfl uw_11 (by decide) rfl tw_529 rfl dX11_costToBringIn_97 ?_
            refine x_iconst (v := 4) (pc := 100) B dX11_costToBringIn_100 rfl ?_
            refine x_iload_n (pc := 101) B 4 dX11_costToBringIn_101 rfl rfl ?_
            refine x_aload_n (pc := 102) B 1 dX11_costToBringIn_102 rfl rfl ?_
            refine x_get (T := TX11) (pc := 103) B 0 oi_0 rfl uw_11 (by decide) rfl tw_525 rfl dX11_costToBringIn_103 ?_
            refine x_get (T := TX8) (pc := 106) B 6 oi_1 rfl uw_8 (by decide) rfl tw_384 rfl dX11_costToBringIn_106 ?_
            refine x_iconst (v := 0) (pc := 109) B dX11_costToBringIn_109 rfl ?_
            obtain ⟨q10, hq10, h⟩ := bnd h
            refine x_callV (rest := []) (st' := [.int q10.1]) (pc := 110) B oi_79 rfl (C_Account_ruled_79 4 y2.2.1 (y2.2.2.1 1 6) 0 y2.2.2 _ hq10) tw_944 tw_941 tw_942 tw_943 tw_108 hd_Account_ruled_79 ⟨Nat.le_of_ble_eq_true rfl, Nat.le_of_ble_eq_true rfl⟩ rfl rfl (Nat.le_of_ble_eq_true rfl) rfl dX11_costToBringIn_110 ?_
            refine x_istore (lv' := [(6, .int q10.1), (5, .int (bI u7)), (0, .ref (ad 0)), (1, .int a1), (2, .int y2.1), (3, .int y2.2.1), (4, .int q4)]) (pc := 113) B dX11_costToBringIn_113 (by decide) rfl ?_
            refine x_aload_n (pc := 115) B 2 dX11_costToBringIn_115 rfl rfl ?_
            refine x_get (T := TX11) (pc := 116) B 5 oi_0 rfl uw_11 (by decide) rfl tw_530 rfl dX11_costToBringIn_116 ?_
            refine x_aload_n (pc := 119) B 2 dX11_costToBringIn_119 rfl rfl ?_
            refine x_get (T := TX11) (pc := 120) B 7 oi_0 rfl uw_11 (by decide) rfl tw_532 rfl dX11_costToBringIn_120 ?_
            refine x_iload (pc := 123) B 6 dX11_costToBringIn_123 rfl ?_
            obtain ⟨q11, hq11, h⟩ := bnd h
            refine x_callV (rest := []) (st' := [.int (bI q11.1)]) (pc := 125) B oi_81 rfl (C_Ways_reach_81_89 q4 q10.2 _ hq11) tw_1053 tw_1050 tw_1051 tw_1052 tw_109 hd_Ways_reach_81_89 ⟨Nat.le_of_ble_eq_true rfl, Nat.le_of_ble_eq_true rfl⟩ rfl rfl (Nat.le_of_ble_eq_true rfl) rfl dX11_costToBringIn_125 ?_
            refine x_if_eq_b (tgt := 162) (pc := 128) B dX11_costToBringIn_128 rfl (fun hc12 => ?_) (fun hc12 => ?_)
            · have h := iff_ hc12 h
              refine x_iinc (k := 5) (v := y2.2.1 + 1) (lv' := [(3, .int (y2.2.1 + 1)), (6, .int q10.1), (5, .int (bI u7)), (0, .ref (ad 0)), (1, .int a1), (2, .int y2.1), (4, .int q4)]) (pc := 162) B dX11_costToBringIn_162 rfl rfl (by decide) rfl ?_
              refine x_goto (tgt := 18) (pc := 165) B dX11_costToBringIn_165 rfl ?_
              refine x_pick (lv' := [(0, .ref (ad 0)), (1, .int a1), (2, .int y2.1), (3, .int (y2.2.1 + 1))]) [3, 4, 5, 0] rfl ?_
              have z := hback (y2.1, y2.2.1 + 1, q11.2) (Option.some.inj h).symm
              exact z
            · have h := ift hc12 h
              refine x_aload_n (pc := 131) B 2 dX11_costToBringIn_131 rfl rfl ?_
              refine x_iload_n (pc := 132) B 3 dX11_costToBringIn_132 rfl rfl ?_
              refine x_iload (pc := 133) B 0 dX11_costToBringIn_133 rfl ?_
              obtain ⟨q13, hq13, h⟩ := bnd h
              refine x_callV (rest := []) (st' := [.int q13]) (pc := 135) B oi_0 rfl (C_CF_signsFor_0 a1 q10.1 q11.2 _ hq13) tw_1066 tw_1063 tw_1065 tw_34 tw_98 hd_CF_signsFor_0 ⟨Nat.le_of_ble_eq_true rfl, Nat.le_of_ble_eq_true rfl⟩ rfl rfl (Nat.le_of_ble_eq_true rfl) rfl dX11_costToBringIn_135 ?_
              refine x_if_ne (tgt := 162) (pc := 138) B dX11_costToBringIn_138 rfl (fun hc14 => ?_) (fun hc14 => ?_)
              · have h := iff_ hc14 h
                refine x_iinc (k := 5) (v := y2.2.1 + 1) (lv' := [(3, .int (y2.2.1 + 1)), (6, .int q10.1), (5, .int (bI u7)), (0, .ref (ad 0)), (1, .int a1), (2, .int y2.1), (4, .int q4)]) (pc := 162) B dX11_costToBringIn_162 rfl rfl (by decide) rfl ?_
                refine x_goto (tgt := 18) (pc := 165) B dX11_costToBringIn_165 rfl ?_
                refine x_pick (lv' := [(0, .ref (ad 0)), (1, .int a1), (2, .int y2.1), (3, .int (y2.2.1 + 1))]) [3, 4, 5, 0] rfl ?_
                have z := hback (y2.1, y2.2.1 + 1, q11.2) (Option.some.inj h).symm
                exact z
              · have h := ift hc14 h
                refine x_iload_n (pc := 141) B 4 dX11_costToBringIn_141 rfl rfl ?_
                refine x_aload_n (pc := 142) B 2 dX11_costToBringIn_142 rfl rfl ?_
                refine x_get (T := TX11) (pc := 143) B 5 oi_0 rfl uw_11 (by decide) rfl tw_530 rfl dX11_costToBringIn_143 ?_
                refine x_get (T := TX10) (pc := 146) B 6 oi_81 rfl uw_10 (by decide) rfl tw_478 rfl dX11_costToBringIn_146 ?_
                refine x_iadd (pc := 149) B dX11_costToBringIn_149 ?_
                refine x_istore_n (lv' := [(2, .int (y2.1 + (q11.2.1 81 6))), (6, .int q10.1), (5, .int (bI u7)), (0, .ref (ad 0)), (1, .int a1), (3, .int y2.2.1), (4, .int q4)]) (pc := 150) B dX11_costToBringIn_150 rfl (by decide) rfl ?_
                refine x_aload_n (pc := 151) B 3 dX11_costToBringIn_151 rfl rfl ?_
                refine x_get (T := TX11) (pc := 152) B 5 oi_0 rfl uw_11 (by decide) rfl tw_530 rfl dX11_costToBringIn_152 ?_
                refine x_aload_n (pc := 155) B 3 dX11_costToBringIn_155 rfl rfl ?_
                refine x_get (T := TX11) (pc := 156) B 7 oi_0 rfl uw_11 (by decide) rfl tw_532 rfl dX11_costToBringIn_156 ?_
                obtain ⟨q15, hq15, h⟩ := bnd h
                refine x_callV (rest := []) (st' := []) (pc := 159) B oi_81 rfl (C_Ways_layOn_81_89  q11.2 _ hq15) tw_1247 tw_1244 tw_1245 tw_1246 tw_109 hd_Ways_layOn_81_89 ⟨Nat.le_of_ble_eq_true rfl, Nat.le_of_ble_eq_true rfl⟩ rfl rfl (Nat.le_of_ble_eq_true rfl) rfl dX11_costToBringIn_159 ?_
                refine x_iinc (k := 5) (v := y2.2.1 + 1) (lv' := [(3, .int (y2.2.1 + 1)), (2, .int (y2.1 + (q11.2.1 81 6))), (6, .int q10.1), (5, .int (bI u7)), (0, .ref (ad 0)), (1, .int a1), (4, .int q4)]) (pc := 162) B dX11_costToBringIn_162 rfl rfl (by decide) rfl ?_
                refine x_goto (tgt := 18) (pc := 165) B dX11_costToBringIn_165 rfl ?_
                refine x_pick (lv' := [(0, .ref (ad 0)), (1, .int a1), (2, .int (y2.1 + (q11.2.1 81 6))), (3, .int (y2.2.1 + 1))]) [4, 5, 1, 0] rfl ?_
                have z := hback (y2.1 + (q11.2.1 81 6), y2.2.1 + 1, q15) (Option.some.inj h).symm
                exact z
          · have h := ift hc9 h
            refine x_goto (tgt := 162) (pc := 93) B dX11_costToBringIn_93 rfl ?_
            refine x_iinc (k := 4) (v := y2.2.1 + 1) (lv' := [(3, .int (y2.2.1 + 1)), (5, .int (bI u7)), (0, .ref (ad 0)), (1, .int a1), (2, .int y2.1), (4, .int q4)]) (pc := 162) B dX11_costToBringIn_162 rfl rfl (by decide) rfl ?_
            refine x_goto (tgt := 18) (pc := 165) B dX11_costToBringIn_165 rfl ?_
            refine x_pick (lv' := [(0, .ref (ad 0)), (1, .int a1), (2, .int y2.1), (3, .int (y2.2.1 + 1))]) [2, 3, 4, 0] rfl ?_
            have z := hback (y2.1, y2.2.1 + 1, y2.2.2) (Option.some.inj h).symm
            exact z
      · refine x_icmp_eq (tgt := 73) (pc := 57) B dX11_costToBringIn_57 rfl (fun hc5 => ?_) (fun hc5 => ?_)
        · have h := ift hc5 h
          refine x_iconst (v := 1) (pc := 73) B dX11_costToBringIn_73 rfl ?_
          refine x_goto (tgt := 78) (pc := 74) B dX11_costToBringIn_74 rfl ?_
          refine x_pick (lv' := [(0, .ref (ad 0)), (1, .int a1), (2, .int y2.1), (3, .int y2.2.1), (4, .int q4)]) [1, 2, 3, 4, 0] rfl ?_
          have z := JJ true h
          exact z
        · have h := iff_ hc5 h
          refine x_aload_n (pc := 60) B 1 dX11_costToBringIn_60 rfl rfl ?_
          refine x_get (T := TX11) (pc := 61) B 7 oi_0 rfl uw_11 (by decide) rfl tw_532 rfl dX11_costToBringIn_61 ?_
          refine x_iload (pc := 64) B 0 dX11_costToBringIn_64 rfl ?_
          obtain ⟨q17, hq17, h⟩ := bnd h
          refine x_callV (rest := []) (st' := [.int q17]) (pc := 66) B oi_89 rfl (C_Line_ahead_89 q4 y2.2.2 _ hq17) tw_571 tw_568 tw_569 tw_570 tw_103 hd_Line_ahead_89 ⟨Nat.le_of_ble_eq_true rfl, Nat.le_of_ble_eq_true rfl⟩ rfl rfl (Nat.le_of_ble_eq_true rfl) rfl dX11_costToBringIn_66 ?_
          refine x_iconst (v := (-1)) (pc := 69) B dX11_costToBringIn_69 rfl ?_
          refine x_icmp_eq (tgt := 77) (pc := 70) B dX11_costToBringIn_70 rfl (fun hc18 => ?_) (fun hc18 => ?_)
          · have h := ift hc18 h
            refine x_iconst (v := 0) (pc := 77) B dX11_costToBringIn_77 rfl ?_
            refine x_pick (lv' := [(0, .ref (ad 0)), (1, .int a1), (2, .int y2.1), (3, .int y2.2.1), (4, .int q4)]) [1, 2, 3, 4, 0] rfl ?_
            have z := JJ false h
            exact z
          · have h := iff_ hc18 h
            refine x_iconst (v := 1) (pc := 73) B dX11_costToBringIn_73 rfl ?_
            refine x_goto (tgt := 78) (pc := 74) B dX11_costToBringIn_74 rfl ?_
            refine x_pick (lv' := [(0, .ref (ad 0)), (1, .int a1), (2, .int y2.1), (3, .int y2.2.1), (4, .int q4)]) [1, 2, 3, 4, 0] rfl ?_
            have z := JJ true h
            exact z
  · refine x_iload_n (pc := 168) B 0 dX11_costToBringIn_168 rfl rfl ?_
    obtain rfl := Option.some.inj h
    exact x_iret (pc := 169) B hQ dX11_costToBringIn_169
-- CurrentFarms.billsOfNow()I [0]
abbrev y_CF_billsOfNow_0 : MethodName := ⟨"CurrentFarms", "billsOfNow", "()I"⟩
abbrev cX11_billsOfNow : ByteArray := prog_1_method_54_code
theorem dX11_billsOfNow_0 : decode cX11_billsOfNow 0 = .ok (.iconst 0, 1) := by decide +kernel
theorem dX11_billsOfNow_1 : decode cX11_billsOfNow 1 = .ok (.istore_n 1, 1) := by decide +kernel
theorem dX11_billsOfNow_2 : decode cX11_billsOfNow 2 = .ok (.iconst 0, 1) := by decide +kernel
theorem dX11_billsOfNow_3 : decode cX11_billsOfNow 3 = .ok (.istore_n 2, 1) := by decide +kernel
theorem dX11_billsOfNow_4 : decode cX11_billsOfNow 4 = .ok (.iload_n 2, 1) := by decide +kernel
theorem dX11_billsOfNow_5 : decode cX11_billsOfNow 5 = .ok (.aload_n 0, 1) := by decide +kernel
theorem dX11_billsOfNow_6 : decode cX11_billsOfNow 6 = .ok (.getfield 12, 3) := by decide +kernel
theorem dX11_billsOfNow_9 : decode cX11_billsOfNow 9 = .ok (.getfield 43, 3) := by decide +kernel
theorem dX11_billsOfNow_12 : decode cX11_billsOfNow 12 = .ok (.getfield 117, 3) := by decide +kernel
theorem dX11_billsOfNow_15 : decode cX11_billsOfNow 15 = .ok (.if_icmp .ge 34, 3) := by decide +kernel
theorem dX11_billsOfNow_18 : decode cX11_billsOfNow 18 = .ok (.aload_n 0, 1) := by decide +kernel
theorem dX11_billsOfNow_19 : decode cX11_billsOfNow 19 = .ok (.getfield 37, 3) := by decide +kernel
theorem dX11_billsOfNow_22 : decode cX11_billsOfNow 22 = .ok (.iload_n 2, 1) := by decide +kernel
theorem dX11_billsOfNow_23 : decode cX11_billsOfNow 23 = .ok (.aload_n 0, 1) := by decide +kernel
theorem dX11_billsOfNow_24 : decode cX11_billsOfNow 24 = .ok (.getfield 12, 3) := by decide +kernel
theorem dX11_billsOfNow_27 : decode cX11_billsOfNow 27 = .ok (.getfield 123, 3) := by decide +kernel
theorem dX11_billsOfNow_30 : decode cX11_billsOfNow 30 = .ok (.invokevirtual 286, 3) := by decide +kernel
theorem dX11_billsOfNow_33 : decode cX11_billsOfNow 33 = .ok (.iload_n 1, 1) := by decide +kernel
theorem dX11_billsOfNow_34 : decode cX11_billsOfNow 34 = .ok (.aload_n 0, 1) := by decide +kernel
theorem dX11_billsOfNow_35 : decode cX11_billsOfNow 35 = .ok (.getfield 37, 3) := by decide +kernel
theorem dX11_billsOfNow_38 : decode cX11_billsOfNow 38 = .ok (.getfield 292, 3) := by decide +kernel
theorem dX11_billsOfNow_41 : decode cX11_billsOfNow 41 = .ok (.iadd, 1) := by decide +kernel
theorem dX11_billsOfNow_42 : decode cX11_billsOfNow 42 = .ok (.istore_n 1, 1) := by decide +kernel
theorem dX11_billsOfNow_43 : decode cX11_billsOfNow 43 = .ok (.iinc 2 1, 3) := by decide +kernel
theorem dX11_billsOfNow_46 : decode cX11_billsOfNow 46 = .ok (.goto (-42), 3) := by decide +kernel
theorem dX11_billsOfNow_49 : decode cX11_billsOfNow 49 = .ok (.iload_n 1, 1) := by decide +kernel
theorem dX11_billsOfNow_50 : decode cX11_billsOfNow 50 = .ok (.ireturn, 1) := by decide +kernel
theorem hd_CF_billsOfNow_0 : y_CF_billsOfNow_0.cls ≠ "java/lang/invoke/MethodHandle" ∧ y_CF_billsOfNow_0.cls ≠ "java/lang/invoke/VarHandle" ∧ (parseMethodDescriptor y_CF_billsOfNow_0.desc).map (fun d => d.parameters.length) = some 0 := by decide +kernel
def b_CF_billsOfNow_0_4  (y1 : Int32 × Int32 × Mem) : Option ((Int32 × Int32 × Mem) ⊕ (Int32 × Mem)) :=
  if decide (y1.2.1 < (y1.2.2.1 2 4)) then ((f_Account_walk_79 y1.2.1 (y1.2.2.1 1 6) y1.2.2).bind fun q3 => some (.inl (y1.1 + (q3.1 79 3), y1.2.1 + 1, q3))) else (some (.inr (y1.1, y1.2.2)))
def f_CF_billsOfNow_0  (M0 : Mem) : Option (Int32 × Mem) :=
  (itr (b_CF_billsOfNow_0_4) FU (0, 0, M0)).bind fun q4 => some (q4.1, q4.2)
set_option maxHeartbeats 4000000 in
set_option maxRecDepth 20000 in
theorem C_CF_billsOfNow_0 {D : va_G} {ad adK adV : Nat → Nat} {cI cJ : ClassId} {l : Launch}  (M0 : Mem) (o : Int32 × Mem) (h : f_CF_billsOfNow_0  M0 = some o) : Ct D ad adK adV cI cJ l y_CF_billsOfNow_0 cX11_billsOfNow 3 (some .int) 5 129 [.ref (ad 0)] M0 (some (.int o.1)) o.2 := by
  refine x_start (lv := [(0, .ref (ad 0))]) (own := "CurrentFarms") rfl (by decide) (Nat.le_of_ble_eq_true rfl) rfl ?_
  intro p e s m args below meth c Q hQ B
  unfold f_CF_billsOfNow_0 at h
  refine x_iconst (v := 0) (pc := 0) B dX11_billsOfNow_0 rfl ?_
  refine x_istore_n (lv' := [(1, .int 0), (0, .ref (ad 0))]) (pc := 1) B dX11_billsOfNow_1 rfl (by decide) rfl ?_
  refine x_iconst (v := 0) (pc := 2) B dX11_billsOfNow_2 rfl ?_
  refine x_istore_n (lv' := [(2, .int 0), (1, .int 0), (0, .ref (ad 0))]) (pc := 3) B dX11_billsOfNow_3 rfl (by decide) rfl ?_
  refine x_pick (lv' := [(0, .ref (ad 0)), (1, .int 0), (2, .int 0)]) [2, 1, 0] rfl ?_
  obtain ⟨q4, hq4, h⟩ := bnd h
  refine x_loop (Head := fun (y1 : Int32 × Int32 × Mem) => XX D ad cI cJ p l e (Rm 5 129) s m args below meth c Q 3 y1.2.2 4 [(0, .ref (ad 0)), (1, .int y1.1), (2, .int y1.2.1)] []) (Ex := fun (q4 : Int32 × Mem) => XX D ad cI cJ p l e (Rm 5 129) s m args below meth c Q 3 q4.2 49 [(1, .int q4.1)] []) (fun y1 r h hback hexit => ?_) FU _ q4 hq4 ?_
  · unfold b_CF_billsOfNow_0_4 at h
    refine x_iload_n (pc := 4) B 2 dX11_billsOfNow_4 rfl rfl ?_
    refine x_aload_n (pc := 5) B 0 dX11_billsOfNow_5 rfl rfl ?_
    refine x_get (T := TX11) (pc := 6) B 0 oi_0 rfl uw_11 (by decide) rfl tw_525 rfl dX11_billsOfNow_6 ?_
    refine x_get (T := TX8) (pc := 9) B 0 oi_1 rfl uw_8 (by decide) rfl tw_359 rfl dX11_billsOfNow_9 ?_
    refine x_get (T := TX4) (pc := 12) B 4 oi_2 rfl uw_4 (by decide) rfl tw_151 rfl dX11_billsOfNow_12 ?_
    refine x_icmp_ge (tgt := 49) (pc := 15) B dX11_billsOfNow_15 rfl (fun hc2 => ?_) (fun hc2 => ?_)
    · have h := iff_ hc2 h
      refine x_pick (lv' := [(1, .int y1.1)]) [1] rfl ?_
      have z := hexit (y1.1, y1.2.2) (Option.some.inj h).symm
      exact z
    · have h := ift hc2 h
      refine x_aload_n (pc := 18) B 0 dX11_billsOfNow_18 rfl rfl ?_
      refine x_get (T := TX11) (pc := 19) B 4 oi_0 rfl uw_11 (by decide) rfl tw_529 rfl dX11_billsOfNow_19 ?_
      refine x_iload_n (pc := 22) B 2 dX11_billsOfNow_22 rfl rfl ?_
      refine x_aload_n (pc := 23) B 0 dX11_billsOfNow_23 rfl rfl ?_
      refine x_get (T := TX11) (pc := 24) B 0 oi_0 rfl uw_11 (by decide) rfl tw_525 rfl dX11_billsOfNow_24 ?_
      refine x_get (T := TX8) (pc := 27) B 6 oi_1 rfl uw_8 (by decide) rfl tw_384 rfl dX11_billsOfNow_27 ?_
      obtain ⟨q3, hq3, h⟩ := bnd h
      refine x_callV (rest := []) (st' := []) (pc := 30) B oi_79 rfl (C_Account_walk_79 y1.2.1 (y1.2.2.1 1 6) y1.2.2 _ hq3) tw_707 tw_704 tw_705 tw_706 tw_108 hd_Account_walk_79 ⟨Nat.le_of_ble_eq_true rfl, Nat.le_of_ble_eq_true rfl⟩ rfl rfl (Nat.le_of_ble_eq_true rfl) rfl dX11_billsOfNow_30 ?_
      refine x_iload_n (pc := 33) B 1 dX11_billsOfNow_33 rfl rfl ?_
      refine x_aload_n (pc := 34) B 0 dX11_billsOfNow_34 rfl rfl ?_
      refine x_get (T := TX11) (pc := 35) B 4 oi_0 rfl uw_11 (by decide) rfl tw_529 rfl dX11_billsOfNow_35 ?_
      refine x_get (T := TX0) (pc := 38) B 3 oi_79 rfl uw_0 (by decide) rfl tw_433 rfl dX11_billsOfNow_38 ?_
      refine x_iadd (pc := 41) B dX11_billsOfNow_41 ?_
      refine x_istore_n (lv' := [(1, .int (y1.1 + (q3.1 79 3))), (0, .ref (ad 0)), (2, .int y1.2.1)]) (pc := 42) B dX11_billsOfNow_42 rfl (by decide) rfl ?_
      refine x_iinc (k := 2) (v := y1.2.1 + 1) (lv' := [(2, .int (y1.2.1 + 1)), (1, .int (y1.1 + (q3.1 79 3))), (0, .ref (ad 0))]) (pc := 43) B dX11_billsOfNow_43 rfl rfl (by decide) rfl ?_
      refine x_goto (tgt := 4) (pc := 46) B dX11_billsOfNow_46 rfl ?_
      refine x_pick (lv' := [(0, .ref (ad 0)), (1, .int (y1.1 + (q3.1 79 3))), (2, .int (y1.2.1 + 1))]) [2, 1, 0] rfl ?_
      have z := hback (y1.1 + (q3.1 79 3), y1.2.1 + 1, q3) (Option.some.inj h).symm
      exact z
  · refine x_iload_n (pc := 49) B 0 dX11_billsOfNow_49 rfl rfl ?_
    obtain rfl := Option.some.inj h
    exact x_iret (pc := 50) B hQ dX11_billsOfNow_50
-- CurrentFarms.tried(I)I [0]
abbrev y_CF_tried_0 : MethodName := ⟨"CurrentFarms", "tried", "(I)I"⟩
abbrev cX11_tried : ByteArray := prog_1_method_39_code
theorem dX11_tried_0 : decode cX11_tried 0 = .ok (.iload_n 1, 1) := by decide +kernel
theorem dX11_tried_1 : decode cX11_tried 1 = .ok (.iconst 0, 1) := by decide +kernel
theorem dX11_tried_2 : decode cX11_tried 2 = .ok (.iconst 2, 1) := by decide +kernel
theorem dX11_tried_3 : decode cX11_tried 3 = .ok (.invokestatic 72, 3) := by decide +kernel
theorem dX11_tried_6 : decode cX11_tried 6 = .ok (.ifCond .ne 5, 3) := by decide +kernel
theorem dX11_tried_9 : decode cX11_tried 9 = .ok (.iconst (-1), 1) := by decide +kernel
theorem dX11_tried_10 : decode cX11_tried 10 = .ok (.ireturn, 1) := by decide +kernel
theorem dX11_tried_11 : decode cX11_tried 11 = .ok (.aload_n 0, 1) := by decide +kernel
theorem dX11_tried_12 : decode cX11_tried 12 = .ok (.getfield 28, 3) := by decide +kernel
theorem dX11_tried_15 : decode cX11_tried 15 = .ok (.aload_n 0, 1) := by decide +kernel
theorem dX11_tried_16 : decode cX11_tried 16 = .ok (.getfield 12, 3) := by decide +kernel
theorem dX11_tried_19 : decode cX11_tried 19 = .ok (.getfield 123, 3) := by decide +kernel
theorem dX11_tried_22 : decode cX11_tried 22 = .ok (.invokevirtual 183, 3) := by decide +kernel
theorem dX11_tried_25 : decode cX11_tried 25 = .ok (.istore_n 2, 1) := by decide +kernel
theorem dX11_tried_26 : decode cX11_tried 26 = .ok (.iload_n 2, 1) := by decide +kernel
theorem dX11_tried_27 : decode cX11_tried 27 = .ok (.ifCond .lt 8, 3) := by decide +kernel
theorem dX11_tried_30 : decode cX11_tried 30 = .ok (.bipush (-10), 2) := by decide +kernel
theorem dX11_tried_32 : decode cX11_tried 32 = .ok (.iload_n 2, 1) := by decide +kernel
theorem dX11_tried_33 : decode cX11_tried 33 = .ok (.isub, 1) := by decide +kernel
theorem dX11_tried_34 : decode cX11_tried 34 = .ok (.ireturn, 1) := by decide +kernel
theorem dX11_tried_35 : decode cX11_tried 35 = .ok (.aload_n 0, 1) := by decide +kernel
theorem dX11_tried_36 : decode cX11_tried 36 = .ok (.getfield 12, 3) := by decide +kernel
theorem dX11_tried_39 : decode cX11_tried 39 = .ok (.getfield 21, 3) := by decide +kernel
theorem dX11_tried_42 : decode cX11_tried 42 = .ok (.dup, 1) := by decide +kernel
theorem dX11_tried_43 : decode cX11_tried 43 = .ok (.getfield 182, 3) := by decide +kernel
theorem dX11_tried_46 : decode cX11_tried 46 = .ok (.iconst 1, 1) := by decide +kernel
theorem dX11_tried_47 : decode cX11_tried 47 = .ok (.iadd, 1) := by decide +kernel
theorem dX11_tried_48 : decode cX11_tried 48 = .ok (.putfield 182, 3) := by decide +kernel
theorem dX11_tried_51 : decode cX11_tried 51 = .ok (.aload_n 0, 1) := by decide +kernel
theorem dX11_tried_52 : decode cX11_tried 52 = .ok (.getfield 12, 3) := by decide +kernel
theorem dX11_tried_55 : decode cX11_tried 55 = .ok (.getfield 132, 3) := by decide +kernel
theorem dX11_tried_58 : decode cX11_tried 58 = .ok (.aload_n 0, 1) := by decide +kernel
theorem dX11_tried_59 : decode cX11_tried 59 = .ok (.getfield 12, 3) := by decide +kernel
theorem dX11_tried_62 : decode cX11_tried 62 = .ok (.getfield 123, 3) := by decide +kernel
theorem dX11_tried_65 : decode cX11_tried 65 = .ok (.iconst 0, 1) := by decide +kernel
theorem dX11_tried_66 : decode cX11_tried 66 = .ok (.iconst 0, 1) := by decide +kernel
theorem dX11_tried_67 : decode cX11_tried 67 = .ok (.invokevirtual 163, 3) := by decide +kernel
theorem dX11_tried_70 : decode cX11_tried 70 = .ok (.istore_n 3, 1) := by decide +kernel
theorem dX11_tried_71 : decode cX11_tried 71 = .ok (.iload_n 1, 1) := by decide +kernel
theorem dX11_tried_72 : decode cX11_tried 72 = .ok (.ifCond .ne 14, 3) := by decide +kernel
theorem dX11_tried_75 : decode cX11_tried 75 = .ok (.aload_n 0, 1) := by decide +kernel
theorem dX11_tried_76 : decode cX11_tried 76 = .ok (.iload_n 3, 1) := by decide +kernel
theorem dX11_tried_77 : decode cX11_tried 77 = .ok (.invokevirtual 223, 3) := by decide +kernel
theorem dX11_tried_80 : decode cX11_tried 80 = .ok (.invokestatic 226, 3) := by decide +kernel
theorem dX11_tried_83 : decode cX11_tried 83 = .ok (.goto 20, 3) := by decide +kernel
theorem dX11_tried_86 : decode cX11_tried 86 = .ok (.iload_n 1, 1) := by decide +kernel
theorem dX11_tried_87 : decode cX11_tried 87 = .ok (.iconst 1, 1) := by decide +kernel
theorem dX11_tried_88 : decode cX11_tried 88 = .ok (.if_icmp .ne 11, 3) := by decide +kernel
theorem dX11_tried_91 : decode cX11_tried 91 = .ok (.aload_n 0, 1) := by decide +kernel
theorem dX11_tried_92 : decode cX11_tried 92 = .ok (.iload_n 3, 1) := by decide +kernel
theorem dX11_tried_93 : decode cX11_tried 93 = .ok (.invokevirtual 347, 3) := by decide +kernel
theorem dX11_tried_96 : decode cX11_tried 96 = .ok (.goto 7, 3) := by decide +kernel
theorem dX11_tried_99 : decode cX11_tried 99 = .ok (.aload_n 0, 1) := by decide +kernel
theorem dX11_tried_100 : decode cX11_tried 100 = .ok (.invokevirtual 350, 3) := by decide +kernel
theorem dX11_tried_103 : decode cX11_tried 103 = .ok (.istore 4, 2) := by decide +kernel
theorem dX11_tried_105 : decode cX11_tried 105 = .ok (.aload_n 0, 1) := by decide +kernel
theorem dX11_tried_106 : decode cX11_tried 106 = .ok (.getfield 12, 3) := by decide +kernel
theorem dX11_tried_109 : decode cX11_tried 109 = .ok (.getfield 21, 3) := by decide +kernel
theorem dX11_tried_112 : decode cX11_tried 112 = .ok (.dup, 1) := by decide +kernel
theorem dX11_tried_113 : decode cX11_tried 113 = .ok (.getfield 182, 3) := by decide +kernel
theorem dX11_tried_116 : decode cX11_tried 116 = .ok (.iconst 1, 1) := by decide +kernel
theorem dX11_tried_117 : decode cX11_tried 117 = .ok (.isub, 1) := by decide +kernel
theorem dX11_tried_118 : decode cX11_tried 118 = .ok (.putfield 182, 3) := by decide +kernel
theorem dX11_tried_121 : decode cX11_tried 121 = .ok (.iload 4, 2) := by decide +kernel
theorem dX11_tried_123 : decode cX11_tried 123 = .ok (.ireturn, 1) := by decide +kernel
theorem hd_CF_tried_0 : y_CF_tried_0.cls ≠ "java/lang/invoke/MethodHandle" ∧ y_CF_tried_0.cls ≠ "java/lang/invoke/VarHandle" ∧ (parseMethodDescriptor y_CF_tried_0.desc).map (fun d => d.parameters.length) = some 1 := by decide +kernel
def f_CF_tried_0 (a1 : Int32) (M0 : Mem) : Option (Int32 × Mem) :=
  if wthn a1 0 2 then ((f_Reader_makeRule_77 (M0.1 1 6) M0).bind fun q2 => if decide (q2.1 < 0) then (jv_ (wI q2.2 14 9 ((q2.2.1 14 9) + 1)) fun M4 => (f_Book_membersIn_7 (M4.1 1 6) 0 0 M4).bind fun q5 => jn_ (fun (u9 : Int32 × Mem) => jv_ (wI u9.2 14 9 ((u9.2.1 14 9) - 1)) fun M10 => some (u9.1, M10)) fun k11 => if decide (a1 = 0) then ((f_CF_isEnough_0 q5.1 q5.2).bind fun q12 => k11 (bI q12.1, q12.2)) else (if decide (a1 = 1) then ((f_CF_costToBringIn_0 q5.1 q5.2).bind fun q14 => k11 (q14.1, q14.2)) else ((f_CF_billsOfNow_0 q5.2).bind fun q15 => k11 (q15.1, q15.2)))) else (some ((-10) - q2.1, q2.2))) else (some ((-1), M0))
set_option maxHeartbeats 4000000 in
set_option maxRecDepth 20000 in
theorem C_CF_tried_0 {D : va_G} {ad adK adV : Nat → Nat} {cI cJ : ClassId} {l : Launch} (a1 : Int32) (M0 : Mem) (o : Int32 × Mem) (h : f_CF_tried_0 a1 M0 = some o) : Ct D ad adK adV cI cJ l y_CF_tried_0 cX11_tried 5 (some .int) 9 201 [.ref (ad 0), .int a1] M0 (some (.int o.1)) o.2 := by
  refine x_start (lv := [(0, .ref (ad 0)), (1, .int a1)]) (own := "CurrentFarms") rfl (by decide) (Nat.le_of_ble_eq_true rfl) rfl ?_
  intro p e s m args below meth c Q hQ B
  unfold f_CF_tried_0 at h
  refine x_iload_n (pc := 0) B 1 dX11_tried_0 rfl rfl ?_
  refine x_iconst (v := 0) (pc := 1) B dX11_tried_1 rfl ?_
  refine x_iconst (v := 2) (pc := 2) B dX11_tried_2 rfl ?_
  refine x_callS (rest := []) (st' := [.int (bI (wthn a1 0 2))]) (pc := 3) B (T_CF_within a1 0 2 M0) tw_559 tw_557 tw_558 tw_98 hd_CF_within ⟨Nat.le_of_ble_eq_true rfl, Nat.le_of_ble_eq_true rfl⟩ rfl rfl (Nat.le_of_ble_eq_true rfl) rfl dX11_tried_3 ?_
  refine x_if_ne_b (tgt := 11) (pc := 6) B dX11_tried_6 rfl (fun hc1 => ?_) (fun hc1 => ?_)
  · have h := ift hc1 h
    refine x_aload_n (pc := 11) B 0 dX11_tried_11 rfl rfl ?_
    refine x_get (T := TX11) (pc := 12) B 3 oi_0 rfl uw_11 (by decide) rfl tw_528 rfl dX11_tried_12 ?_
    refine x_aload_n (pc := 15) B 0 dX11_tried_15 rfl rfl ?_
    refine x_get (T := TX11) (pc := 16) B 0 oi_0 rfl uw_11 (by decide) rfl tw_525 rfl dX11_tried_16 ?_
    refine x_get (T := TX8) (pc := 19) B 6 oi_1 rfl uw_8 (by decide) rfl tw_384 rfl dX11_tried_19 ?_
    obtain ⟨q2, hq2, h⟩ := bnd h
    refine x_callV (rest := []) (st' := [.int q2.1]) (pc := 22) B oi_77 rfl (C_Reader_makeRule_77 (M0.1 1 6) M0 _ hq2) tw_809 tw_806 tw_807 tw_808 tw_107 hd_Reader_makeRule_77 ⟨Nat.le_of_ble_eq_true rfl, Nat.le_of_ble_eq_true rfl⟩ rfl rfl (Nat.le_of_ble_eq_true rfl) rfl dX11_tried_22 ?_
    refine x_istore_n (lv' := [(2, .int q2.1), (0, .ref (ad 0)), (1, .int a1)]) (pc := 25) B dX11_tried_25 rfl (by decide) rfl ?_
    refine x_iload_n (pc := 26) B 0 dX11_tried_26 rfl rfl ?_
    refine x_if_lt (tgt := 35) (pc := 27) B dX11_tried_27 rfl (fun hc3 => ?_) (fun hc3 => ?_)
    · have h := ift hc3 h
      refine x_aload_n (pc := 35) B 1 dX11_tried_35 rfl rfl ?_
      refine x_get (T := TX11) (pc := 36) B 0 oi_0 rfl uw_11 (by decide) rfl tw_525 rfl dX11_tried_36 ?_
      refine x_get (T := TX8) (pc := 39) B 2 oi_1 rfl uw_8 (by decide) rfl tw_369 rfl dX11_tried_39 ?_
      refine x_dup (pc := 42) B dX11_tried_42 rfl ?_
      refine x_get (T := TX7) (pc := 43) B 9 oi_14 rfl uw_7 (by decide) rfl tw_225 rfl dX11_tried_43 ?_
      refine x_iconst (v := 1) (pc := 46) B dX11_tried_46 rfl ?_
      refine x_iadd (pc := 47) B dX11_tried_47 ?_
      refine x_put (T := TX7) (pc := 48) B 9 oi_14 of_14_9 rfl uw_7 tyX7_ok nmX7 (by decide) rfl tw_225 rfl rfl rfl (Nat.le_of_ble_eq_true rfl) dX11_tried_48 ?_
      refine jv_m (P := fun M4 => XX D ad cI cJ p l e (Rm 9 201) s m args below meth c Q 5 M4 51 [(2, .int q2.1), (0, .ref (ad 0)), (1, .int a1)] []) h (fun M4 h => ?_)
      refine x_aload_n (pc := 51) B 1 dX11_tried_51 rfl rfl ?_
      refine x_get (T := TX11) (pc := 52) B 0 oi_0 rfl uw_11 (by decide) rfl tw_525 rfl dX11_tried_52 ?_
      refine x_get (T := TX8) (pc := 55) B 1 oi_1 rfl uw_8 (by decide) rfl tw_367 rfl dX11_tried_55 ?_
      refine x_aload_n (pc := 58) B 1 dX11_tried_58 rfl rfl ?_
      refine x_get (T := TX11) (pc := 59) B 0 oi_0 rfl uw_11 (by decide) rfl tw_525 rfl dX11_tried_59 ?_
      refine x_get (T := TX8) (pc := 62) B 6 oi_1 rfl uw_8 (by decide) rfl tw_384 rfl dX11_tried_62 ?_
      refine x_iconst (v := 0) (pc := 65) B dX11_tried_65 rfl ?_
      refine x_iconst (v := 0) (pc := 66) B dX11_tried_66 rfl ?_
      obtain ⟨q5, hq5, h⟩ := bnd h
      refine x_callV (rest := []) (st' := [.int q5.1]) (pc := 67) B oi_7 rfl (C_Book_membersIn_7 (M4.1 1 6) 0 0 M4 _ hq5) tw_791 tw_788 tw_789 tw_790 tw_101 hd_Book_membersIn_7 ⟨Nat.le_of_ble_eq_true rfl, Nat.le_of_ble_eq_true rfl⟩ rfl rfl (Nat.le_of_ble_eq_true rfl) rfl dX11_tried_67 ?_
      refine x_istore_n (lv' := [(3, .int q5.1), (2, .int q2.1), (0, .ref (ad 0)), (1, .int a1)]) (pc := 70) B dX11_tried_70 rfl (by decide) rfl ?_
      refine x_iload_n (pc := 71) B 3 dX11_tried_71 rfl rfl ?_
      refine jn_k h (fun (u9 : Int32 × Mem) => XX D ad cI cJ p l e (Rm 9 201) s m args below meth c Q 5 u9.2 103 [(0, .ref (ad 0))] [.int u9.1]) (fun u9 h => ?_) (fun k11 h JJ => ?_)
      · refine x_istore (lv' := [(4, .int u9.1), (0, .ref (ad 0))]) (pc := 103) B dX11_tried_103 (by decide) rfl ?_
        refine x_aload_n (pc := 105) B 1 dX11_tried_105 rfl rfl ?_
        refine x_get (T := TX11) (pc := 106) B 0 oi_0 rfl uw_11 (by decide) rfl tw_525 rfl dX11_tried_106 ?_
        refine x_get (T := TX8) (pc := 109) B 2 oi_1 rfl uw_8 (by decide) rfl tw_369 rfl dX11_tried_109 ?_
        refine x_dup (pc := 112) B dX11_tried_112 rfl ?_
        refine x_get (T := TX7) (pc := 113) B 9 oi_14 rfl uw_7 (by decide) rfl tw_225 rfl dX11_tried_113 ?_
        refine x_iconst (v := 1) (pc := 116) B dX11_tried_116 rfl ?_
        refine x_isub (pc := 117) B dX11_tried_117 ?_
        refine x_put (T := TX7) (pc := 118) B 9 oi_14 of_14_9 rfl uw_7 tyX7_ok nmX7 (by decide) rfl tw_225 rfl rfl rfl (Nat.le_of_ble_eq_true rfl) dX11_tried_118 ?_
        refine jv_m (P := fun M10 => XX D ad cI cJ p l e (Rm 9 201) s m args below meth c Q 5 M10 121 [(4, .int u9.1), (0, .ref (ad 0))] []) h (fun M10 h => ?_)
        refine x_iload (pc := 121) B 0 dX11_tried_121 rfl ?_
        obtain rfl := Option.some.inj h
        exact x_iret (pc := 123) B hQ dX11_tried_123
      · refine x_if_ne (tgt := 86) (pc := 72) B dX11_tried_72 rfl (fun hc6 => ?_) (fun hc6 => ?_)
        · have h := iff_ hc6 h
          refine x_iload_n (pc := 86) B 3 dX11_tried_86 rfl rfl ?_
          refine x_iconst (v := 1) (pc := 87) B dX11_tried_87 rfl ?_
          refine x_icmp_ne (tgt := 99) (pc := 88) B dX11_tried_88 rfl (fun hc13 => ?_) (fun hc13 => ?_)
          · have h := iff_ hc13 h
            refine x_aload_n (pc := 99) B 2 dX11_tried_99 rfl rfl ?_
            obtain ⟨q15, hq15, h⟩ := bnd h
            refine x_callV (rest := []) (st' := [.int q15.1]) (pc := 100) B oi_0 rfl (C_CF_billsOfNow_0  q5.2 _ hq15) tw_1252 tw_1249 tw_1251 tw_42 tw_98 hd_CF_billsOfNow_0 ⟨Nat.le_of_ble_eq_true rfl, Nat.le_of_ble_eq_true rfl⟩ rfl rfl (Nat.le_of_ble_eq_true rfl) rfl dX11_tried_100 ?_
            refine x_pick (lv' := [(0, .ref (ad 0))]) [2] rfl ?_
            have z := JJ (q15.1, q15.2) h
            exact z
          · have h := ift hc13 h
            refine x_aload_n (pc := 91) B 2 dX11_tried_91 rfl rfl ?_
            refine x_iload_n (pc := 92) B 0 dX11_tried_92 rfl rfl ?_
            obtain ⟨q14, hq14, h⟩ := bnd h
            refine x_callV (rest := []) (st' := [.int q14.1]) (pc := 93) B oi_0 rfl (C_CF_costToBringIn_0 q5.1 q5.2 _ hq14) tw_1238 tw_1235 tw_1237 tw_41 tw_98 hd_CF_costToBringIn_0 ⟨Nat.le_of_ble_eq_true rfl, Nat.le_of_ble_eq_true rfl⟩ rfl rfl (Nat.le_of_ble_eq_true rfl) rfl dX11_tried_93 ?_
            refine x_goto (tgt := 103) (pc := 96) B dX11_tried_96 rfl ?_
            refine x_pick (lv' := [(0, .ref (ad 0))]) [2] rfl ?_
            have z := JJ (q14.1, q14.2) h
            exact z
        · have h := ift hc6 h
          refine x_aload_n (pc := 75) B 2 dX11_tried_75 rfl rfl ?_
          refine x_iload_n (pc := 76) B 0 dX11_tried_76 rfl rfl ?_
          obtain ⟨q12, hq12, h⟩ := bnd h
          refine x_callV (rest := []) (st' := [.int (bI q12.1)]) (pc := 77) B oi_0 rfl (C_CF_isEnough_0 q5.1 q5.2 _ hq12) tw_1023 tw_1020 tw_1022 tw_31 tw_98 hd_CF_isEnough_0 ⟨Nat.le_of_ble_eq_true rfl, Nat.le_of_ble_eq_true rfl⟩ rfl rfl (Nat.le_of_ble_eq_true rfl) rfl dX11_tried_77 ?_
          refine x_callS (rest := []) (st' := [.int (bI q12.1)]) (pc := 80) B (T_CF_flag q12.1 q12.2) tw_606 tw_1024 tw_605 tw_98 hd_CF_flag ⟨Nat.le_of_ble_eq_true rfl, Nat.le_of_ble_eq_true rfl⟩ rfl rfl (Nat.le_of_ble_eq_true rfl) rfl dX11_tried_80 ?_
          refine x_goto (tgt := 103) (pc := 83) B dX11_tried_83 rfl ?_
          refine x_pick (lv' := [(0, .ref (ad 0))]) [2] rfl ?_
          have z := JJ (bI q12.1, q12.2) h
          exact z
    · have h := iff_ hc3 h
      refine x_bipush (v := (-10)) (pc := 30) B dX11_tried_30 rfl ?_
      refine x_iload_n (pc := 32) B 0 dX11_tried_32 rfl rfl ?_
      refine x_isub (pc := 33) B dX11_tried_33 ?_
      obtain rfl := Option.some.inj h
      exact x_iret (pc := 34) B hQ dX11_tried_34
  · have h := iff_ hc1 h
    refine x_iconst (v := (-1)) (pc := 9) B dX11_tried_9 rfl ?_
    obtain rfl := Option.some.inj h
    exact x_iret (pc := 10) B hQ dX11_tried_10
-- CurrentFarms$Land.take(LCurrentFarms$Land;)V [40, 2]
abbrev y_Land_take_40_2 : MethodName := ⟨"CurrentFarms$Land", "take", "(LCurrentFarms$Land;)V"⟩
abbrev cX4_take : ByteArray := prog_6_method_2_code
theorem dX4_take_0 : decode cX4_take 0 = .ok (.aload_n 1, 1) := by decide +kernel
theorem dX4_take_1 : decode cX4_take 1 = .ok (.getfield 9, 3) := by decide +kernel
theorem dX4_take_4 : decode cX4_take 4 = .ok (.aload_n 0, 1) := by decide +kernel
theorem dX4_take_5 : decode cX4_take 5 = .ok (.getfield 9, 3) := by decide +kernel
theorem dX4_take_8 : decode cX4_take 8 = .ok (.invokestatic 24, 3) := by decide +kernel
theorem dX4_take_11 : decode cX4_take 11 = .ok (.aload_n 1, 1) := by decide +kernel
theorem dX4_take_12 : decode cX4_take 12 = .ok (.getfield 15, 3) := by decide +kernel
theorem dX4_take_15 : decode cX4_take 15 = .ok (.aload_n 0, 1) := by decide +kernel
theorem dX4_take_16 : decode cX4_take 16 = .ok (.getfield 15, 3) := by decide +kernel
theorem dX4_take_19 : decode cX4_take 19 = .ok (.invokestatic 24, 3) := by decide +kernel
theorem dX4_take_22 : decode cX4_take 22 = .ok (.aload_n 1, 1) := by decide +kernel
theorem dX4_take_23 : decode cX4_take 23 = .ok (.getfield 18, 3) := by decide +kernel
theorem dX4_take_26 : decode cX4_take 26 = .ok (.aload_n 0, 1) := by decide +kernel
theorem dX4_take_27 : decode cX4_take 27 = .ok (.getfield 18, 3) := by decide +kernel
theorem dX4_take_30 : decode cX4_take 30 = .ok (.invokestatic 24, 3) := by decide +kernel
theorem dX4_take_33 : decode cX4_take 33 = .ok (.aload_n 1, 1) := by decide +kernel
theorem dX4_take_34 : decode cX4_take 34 = .ok (.getfield 21, 3) := by decide +kernel
theorem dX4_take_37 : decode cX4_take 37 = .ok (.aload_n 0, 1) := by decide +kernel
theorem dX4_take_38 : decode cX4_take 38 = .ok (.getfield 21, 3) := by decide +kernel
theorem dX4_take_41 : decode cX4_take 41 = .ok (.invokestatic 24, 3) := by decide +kernel
theorem dX4_take_44 : decode cX4_take 44 = .ok (.aload_n 0, 1) := by decide +kernel
theorem dX4_take_45 : decode cX4_take 45 = .ok (.aload_n 1, 1) := by decide +kernel
theorem dX4_take_46 : decode cX4_take 46 = .ok (.getfield 28, 3) := by decide +kernel
theorem dX4_take_49 : decode cX4_take 49 = .ok (.putfield 28, 3) := by decide +kernel
theorem dX4_take_52 : decode cX4_take 52 = .ok (.aload_n 0, 1) := by decide +kernel
theorem dX4_take_53 : decode cX4_take 53 = .ok (.aload_n 1, 1) := by decide +kernel
theorem dX4_take_54 : decode cX4_take 54 = .ok (.getfield 32, 3) := by decide +kernel
theorem dX4_take_57 : decode cX4_take 57 = .ok (.putfield 32, 3) := by decide +kernel
theorem dX4_take_60 : decode cX4_take 60 = .ok (.return_, 1) := by decide +kernel
theorem hd_Land_take_40_2 : y_Land_take_40_2.cls ≠ "java/lang/invoke/MethodHandle" ∧ y_Land_take_40_2.cls ≠ "java/lang/invoke/VarHandle" ∧ (parseMethodDescriptor y_Land_take_40_2.desc).map (fun d => d.parameters.length) = some 1 := by decide +kernel
def f_Land_take_40_2  (M0 : Mem) : Option (Mem) :=
  jv_ (wR M0 41 (cpyv (M0.1 3) (M0.1 41) 48 48)) fun M1 => jv_ (wR M1 42 (cpyv (M1.1 4) (M1.1 42) 48 48)) fun M2 => jv_ (wR M2 43 (cpyv (M2.1 5) (M2.1 43) 10 10)) fun M3 => jv_ (wR M3 44 (cpyv (M3.1 6) (M3.1 44) 10 10)) fun M4 => jv_ (wI M4 40 4 (M4.1 2 4)) fun M5 => jv_ (wI M5 40 5 (M5.1 2 5)) fun M6 => some M6
set_option maxHeartbeats 4000000 in
set_option maxRecDepth 20000 in
theorem C_Land_take_40_2 {D : va_G} {ad adK adV : Nat → Nat} {cI cJ : ClassId} {l : Launch}  (M0 : Mem) (o : Mem) (h : f_Land_take_40_2  M0 = some o) : Ct D ad adK adV cI cJ l y_Land_take_40_2 cX4_take 2 none 2 51 [.ref (ad 40), .ref (ad 2)] M0 none o := by
  refine x_start (lv := [(0, .ref (ad 40)), (1, .ref (ad 2))]) (own := "CurrentFarms$Land") rfl (by decide) (Nat.le_of_ble_eq_true rfl) rfl ?_
  intro p e s m args below meth c Q hQ B
  unfold f_Land_take_40_2 at h
  refine x_aload_n (pc := 0) B 1 dX4_take_0 rfl rfl ?_
  refine x_get (T := TX4) (pc := 1) B 0 oi_2 rfl uw_4 (by decide) rfl tw_139 rfl dX4_take_1 ?_
  refine x_aload_n (pc := 4) B 0 dX4_take_4 rfl rfl ?_
  refine x_get (T := TX4) (pc := 5) B 0 oi_40 rfl uw_4 (by decide) rfl tw_139 rfl dX4_take_5 ?_
  refine x_callSN (rest := []) (st' := []) (pc := 8) B (T_CF_copy 3 48 41 48 ai_3 ai_41 (by decide) (by decide) M0) tw_1204 tw_1265 tw_1203 tw_98 hd_CF_copy ⟨Nat.le_of_ble_eq_true rfl, Nat.le_of_ble_eq_true rfl⟩ rfl rfl (Nat.le_of_ble_eq_true rfl) rfl dX4_take_8 ?_
  refine jv_m (P := fun M1 => XX D ad cI cJ p l e (Rm 2 51) s m args below meth c Q 2 M1 11 [(0, .ref (ad 40)), (1, .ref (ad 2))] []) h (fun M1 h => ?_)
  refine x_aload_n (pc := 11) B 1 dX4_take_11 rfl rfl ?_
  refine x_get (T := TX4) (pc := 12) B 1 oi_2 rfl uw_4 (by decide) rfl tw_142 rfl dX4_take_12 ?_
  refine x_aload_n (pc := 15) B 0 dX4_take_15 rfl rfl ?_
  refine x_get (T := TX4) (pc := 16) B 1 oi_40 rfl uw_4 (by decide) rfl tw_142 rfl dX4_take_16 ?_
  refine x_callSN (rest := []) (st' := []) (pc := 19) B (T_CF_copy 4 48 42 48 ai_4 ai_42 (by decide) (by decide) M1) tw_1204 tw_1265 tw_1203 tw_98 hd_CF_copy ⟨Nat.le_of_ble_eq_true rfl, Nat.le_of_ble_eq_true rfl⟩ rfl rfl (Nat.le_of_ble_eq_true rfl) rfl dX4_take_19 ?_
  refine jv_m (P := fun M2 => XX D ad cI cJ p l e (Rm 2 51) s m args below meth c Q 2 M2 22 [(0, .ref (ad 40)), (1, .ref (ad 2))] []) h (fun M2 h => ?_)
  refine x_aload_n (pc := 22) B 1 dX4_take_22 rfl rfl ?_
  refine x_get (T := TX4) (pc := 23) B 2 oi_2 rfl uw_4 (by decide) rfl tw_144 rfl dX4_take_23 ?_
  refine x_aload_n (pc := 26) B 0 dX4_take_26 rfl rfl ?_
  refine x_get (T := TX4) (pc := 27) B 2 oi_40 rfl uw_4 (by decide) rfl tw_144 rfl dX4_take_27 ?_
  refine x_callSN (rest := []) (st' := []) (pc := 30) B (T_CF_copy 5 10 43 10 ai_5 ai_43 (by decide) (by decide) M2) tw_1204 tw_1265 tw_1203 tw_98 hd_CF_copy ⟨Nat.le_of_ble_eq_true rfl, Nat.le_of_ble_eq_true rfl⟩ rfl rfl (Nat.le_of_ble_eq_true rfl) rfl dX4_take_30 ?_
  refine jv_m (P := fun M3 => XX D ad cI cJ p l e (Rm 2 51) s m args below meth c Q 2 M3 33 [(0, .ref (ad 40)), (1, .ref (ad 2))] []) h (fun M3 h => ?_)
  refine x_aload_n (pc := 33) B 1 dX4_take_33 rfl rfl ?_
  refine x_get (T := TX4) (pc := 34) B 3 oi_2 rfl uw_4 (by decide) rfl tw_145 rfl dX4_take_34 ?_
  refine x_aload_n (pc := 37) B 0 dX4_take_37 rfl rfl ?_
  refine x_get (T := TX4) (pc := 38) B 3 oi_40 rfl uw_4 (by decide) rfl tw_145 rfl dX4_take_38 ?_
  refine x_callSN (rest := []) (st' := []) (pc := 41) B (T_CF_copy 6 10 44 10 ai_6 ai_44 (by decide) (by decide) M3) tw_1204 tw_1265 tw_1203 tw_98 hd_CF_copy ⟨Nat.le_of_ble_eq_true rfl, Nat.le_of_ble_eq_true rfl⟩ rfl rfl (Nat.le_of_ble_eq_true rfl) rfl dX4_take_41 ?_
  refine jv_m (P := fun M4 => XX D ad cI cJ p l e (Rm 2 51) s m args below meth c Q 2 M4 44 [(0, .ref (ad 40)), (1, .ref (ad 2))] []) h (fun M4 h => ?_)
  refine x_aload_n (pc := 44) B 0 dX4_take_44 rfl rfl ?_
  refine x_aload_n (pc := 45) B 1 dX4_take_45 rfl rfl ?_
  refine x_get (T := TX4) (pc := 46) B 4 oi_2 rfl uw_4 (by decide) rfl tw_149 rfl dX4_take_46 ?_
  refine x_put (T := TX4) (pc := 49) B 4 oi_40 of_40_4 rfl uw_4 tyX4_ok nmX4 (by decide) rfl tw_149 rfl rfl rfl (Nat.le_of_ble_eq_true rfl) dX4_take_49 ?_
  refine jv_m (P := fun M5 => XX D ad cI cJ p l e (Rm 2 51) s m args below meth c Q 2 M5 52 [(0, .ref (ad 40)), (1, .ref (ad 2))] []) h (fun M5 h => ?_)
  refine x_aload_n (pc := 52) B 0 dX4_take_52 rfl rfl ?_
  refine x_aload_n (pc := 53) B 1 dX4_take_53 rfl rfl ?_
  refine x_get (T := TX4) (pc := 54) B 5 oi_2 rfl uw_4 (by decide) rfl tw_152 rfl dX4_take_54 ?_
  refine x_put (T := TX4) (pc := 57) B 5 oi_40 of_40_5 rfl uw_4 tyX4_ok nmX4 (by decide) rfl tw_152 rfl rfl rfl (Nat.le_of_ble_eq_true rfl) dX4_take_57 ?_
  refine jv_m (P := fun M6 => XX D ad cI cJ p l e (Rm 2 51) s m args below meth c Q 2 M6 60 [(0, .ref (ad 40)), (1, .ref (ad 2))] []) h (fun M6 h => ?_)
  obtain rfl := Option.some.inj h
  exact x_vret (pc := 60) B hQ dX4_take_60
-- CurrentFarms$Book.take(LCurrentFarms$Book;)V [45, 7]
abbrev y_Book_take_45_7 : MethodName := ⟨"CurrentFarms$Book", "take", "(LCurrentFarms$Book;)V"⟩
abbrev cX1_take : ByteArray := prog_3_method_2_code
theorem dX1_take_0 : decode cX1_take 0 = .ok (.aload_n 1, 1) := by decide +kernel
theorem dX1_take_1 : decode cX1_take 1 = .ok (.getfield 9, 3) := by decide +kernel
theorem dX1_take_4 : decode cX1_take 4 = .ok (.aload_n 0, 1) := by decide +kernel
theorem dX1_take_5 : decode cX1_take 5 = .ok (.getfield 9, 3) := by decide +kernel
theorem dX1_take_8 : decode cX1_take 8 = .ok (.invokestatic 30, 3) := by decide +kernel
theorem dX1_take_11 : decode cX1_take 11 = .ok (.aload_n 1, 1) := by decide +kernel
theorem dX1_take_12 : decode cX1_take 12 = .ok (.getfield 15, 3) := by decide +kernel
theorem dX1_take_15 : decode cX1_take 15 = .ok (.aload_n 0, 1) := by decide +kernel
theorem dX1_take_16 : decode cX1_take 16 = .ok (.getfield 15, 3) := by decide +kernel
theorem dX1_take_19 : decode cX1_take 19 = .ok (.invokestatic 30, 3) := by decide +kernel
theorem dX1_take_22 : decode cX1_take 22 = .ok (.aload_n 1, 1) := by decide +kernel
theorem dX1_take_23 : decode cX1_take 23 = .ok (.getfield 18, 3) := by decide +kernel
theorem dX1_take_26 : decode cX1_take 26 = .ok (.aload_n 0, 1) := by decide +kernel
theorem dX1_take_27 : decode cX1_take 27 = .ok (.getfield 18, 3) := by decide +kernel
theorem dX1_take_30 : decode cX1_take 30 = .ok (.invokestatic 30, 3) := by decide +kernel
theorem dX1_take_33 : decode cX1_take 33 = .ok (.aload_n 1, 1) := by decide +kernel
theorem dX1_take_34 : decode cX1_take 34 = .ok (.getfield 21, 3) := by decide +kernel
theorem dX1_take_37 : decode cX1_take 37 = .ok (.aload_n 0, 1) := by decide +kernel
theorem dX1_take_38 : decode cX1_take 38 = .ok (.getfield 21, 3) := by decide +kernel
theorem dX1_take_41 : decode cX1_take 41 = .ok (.invokestatic 30, 3) := by decide +kernel
theorem dX1_take_44 : decode cX1_take 44 = .ok (.aload_n 1, 1) := by decide +kernel
theorem dX1_take_45 : decode cX1_take 45 = .ok (.getfield 24, 3) := by decide +kernel
theorem dX1_take_48 : decode cX1_take 48 = .ok (.aload_n 0, 1) := by decide +kernel
theorem dX1_take_49 : decode cX1_take 49 = .ok (.getfield 24, 3) := by decide +kernel
theorem dX1_take_52 : decode cX1_take 52 = .ok (.invokestatic 30, 3) := by decide +kernel
theorem dX1_take_55 : decode cX1_take 55 = .ok (.aload_n 0, 1) := by decide +kernel
theorem dX1_take_56 : decode cX1_take 56 = .ok (.aload_n 1, 1) := by decide +kernel
theorem dX1_take_57 : decode cX1_take 57 = .ok (.getfield 34, 3) := by decide +kernel
theorem dX1_take_60 : decode cX1_take 60 = .ok (.putfield 34, 3) := by decide +kernel
theorem dX1_take_63 : decode cX1_take 63 = .ok (.return_, 1) := by decide +kernel
theorem hd_Book_take_45_7 : y_Book_take_45_7.cls ≠ "java/lang/invoke/MethodHandle" ∧ y_Book_take_45_7.cls ≠ "java/lang/invoke/VarHandle" ∧ (parseMethodDescriptor y_Book_take_45_7.desc).map (fun d => d.parameters.length) = some 1 := by decide +kernel
def f_Book_take_45_7  (M0 : Mem) : Option (Mem) :=
  jv_ (wR M0 46 (cpyv (M0.1 8) (M0.1 46) 120 120)) fun M1 => jv_ (wR M1 47 (cpyv (M1.1 9) (M1.1 47) 120 120)) fun M2 => jv_ (wR M2 48 (cpyv (M2.1 10) (M2.1 48) 120 120)) fun M3 => jv_ (wR M3 49 (cpyv (M3.1 11) (M3.1 49) 120 120)) fun M4 => jv_ (wR M4 50 (cpyv (M4.1 12) (M4.1 50) 120 120)) fun M5 => jv_ (wI M5 45 5 (M5.1 7 5)) fun M6 => some M6
set_option maxHeartbeats 4000000 in
set_option maxRecDepth 20000 in
theorem C_Book_take_45_7 {D : va_G} {ad adK adV : Nat → Nat} {cI cJ : ClassId} {l : Launch}  (M0 : Mem) (o : Mem) (h : f_Book_take_45_7  M0 = some o) : Ct D ad adK adV cI cJ l y_Book_take_45_7 cX1_take 2 none 2 51 [.ref (ad 45), .ref (ad 7)] M0 none o := by
  refine x_start (lv := [(0, .ref (ad 45)), (1, .ref (ad 7))]) (own := "CurrentFarms$Book") rfl (by decide) (Nat.le_of_ble_eq_true rfl) rfl ?_
  intro p e s m args below meth c Q hQ B
  unfold f_Book_take_45_7 at h
  refine x_aload_n (pc := 0) B 1 dX1_take_0 rfl rfl ?_
  refine x_get (T := TX1) (pc := 1) B 0 oi_7 rfl uw_1 (by decide) rfl tw_175 rfl dX1_take_1 ?_
  refine x_aload_n (pc := 4) B 0 dX1_take_4 rfl rfl ?_
  refine x_get (T := TX1) (pc := 5) B 0 oi_45 rfl uw_1 (by decide) rfl tw_175 rfl dX1_take_5 ?_
  refine x_callSN (rest := []) (st' := []) (pc := 8) B (T_CF_copy 8 120 46 120 ai_8 ai_46 (by decide) (by decide) M0) tw_1204 tw_1270 tw_1203 tw_98 hd_CF_copy ⟨Nat.le_of_ble_eq_true rfl, Nat.le_of_ble_eq_true rfl⟩ rfl rfl (Nat.le_of_ble_eq_true rfl) rfl dX1_take_8 ?_
  refine jv_m (P := fun M1 => XX D ad cI cJ p l e (Rm 2 51) s m args below meth c Q 2 M1 11 [(0, .ref (ad 45)), (1, .ref (ad 7))] []) h (fun M1 h => ?_)
  refine x_aload_n (pc := 11) B 1 dX1_take_11 rfl rfl ?_
  refine x_get (T := TX1) (pc := 12) B 1 oi_7 rfl uw_1 (by decide) rfl tw_176 rfl dX1_take_12 ?_
  refine x_aload_n (pc := 15) B 0 dX1_take_15 rfl rfl ?_
  refine x_get (T := TX1) (pc := 16) B 1 oi_45 rfl uw_1 (by decide) rfl tw_176 rfl dX1_take_16 ?_
  refine x_callSN (rest := []) (st' := []) (pc := 19) B (T_CF_copy 9 120 47 120 ai_9 ai_47 (by decide) (by decide) M1) tw_1204 tw_1270 tw_1203 tw_98 hd_CF_copy ⟨Nat.le_of_ble_eq_true rfl, Nat.le_of_ble_eq_true rfl⟩ rfl rfl (Nat.le_of_ble_eq_true rfl) rfl dX1_take_19 ?_
  refine jv_m (P := fun M2 => XX D ad cI cJ p l e (Rm 2 51) s m args below meth c Q 2 M2 22 [(0, .ref (ad 45)), (1, .ref (ad 7))] []) h (fun M2 h => ?_)
  refine x_aload_n (pc := 22) B 1 dX1_take_22 rfl rfl ?_
  refine x_get (T := TX1) (pc := 23) B 2 oi_7 rfl uw_1 (by decide) rfl tw_177 rfl dX1_take_23 ?_
  refine x_aload_n (pc := 26) B 0 dX1_take_26 rfl rfl ?_
  refine x_get (T := TX1) (pc := 27) B 2 oi_45 rfl uw_1 (by decide) rfl tw_177 rfl dX1_take_27 ?_
  refine x_callSN (rest := []) (st' := []) (pc := 30) B (T_CF_copy 10 120 48 120 ai_10 ai_48 (by decide) (by decide) M2) tw_1204 tw_1270 tw_1203 tw_98 hd_CF_copy ⟨Nat.le_of_ble_eq_true rfl, Nat.le_of_ble_eq_true rfl⟩ rfl rfl (Nat.le_of_ble_eq_true rfl) rfl dX1_take_30 ?_
  refine jv_m (P := fun M3 => XX D ad cI cJ p l e (Rm 2 51) s m args below meth c Q 2 M3 33 [(0, .ref (ad 45)), (1, .ref (ad 7))] []) h (fun M3 h => ?_)
  refine x_aload_n (pc := 33) B 1 dX1_take_33 rfl rfl ?_
  refine x_get (T := TX1) (pc := 34) B 3 oi_7 rfl uw_1 (by decide) rfl tw_178 rfl dX1_take_34 ?_
  refine x_aload_n (pc := 37) B 0 dX1_take_37 rfl rfl ?_
  refine x_get (T := TX1) (pc := 38) B 3 oi_45 rfl uw_1 (by decide) rfl tw_178 rfl dX1_take_38 ?_
  refine x_callSN (rest := []) (st' := []) (pc := 41) B (T_CF_copy 11 120 49 120 ai_11 ai_49 (by decide) (by decide) M3) tw_1204 tw_1270 tw_1203 tw_98 hd_CF_copy ⟨Nat.le_of_ble_eq_true rfl, Nat.le_of_ble_eq_true rfl⟩ rfl rfl (Nat.le_of_ble_eq_true rfl) rfl dX1_take_41 ?_
  refine jv_m (P := fun M4 => XX D ad cI cJ p l e (Rm 2 51) s m args below meth c Q 2 M4 44 [(0, .ref (ad 45)), (1, .ref (ad 7))] []) h (fun M4 h => ?_)
  refine x_aload_n (pc := 44) B 1 dX1_take_44 rfl rfl ?_
  refine x_get (T := TX1) (pc := 45) B 4 oi_7 rfl uw_1 (by decide) rfl tw_179 rfl dX1_take_45 ?_
  refine x_aload_n (pc := 48) B 0 dX1_take_48 rfl rfl ?_
  refine x_get (T := TX1) (pc := 49) B 4 oi_45 rfl uw_1 (by decide) rfl tw_179 rfl dX1_take_49 ?_
  refine x_callSN (rest := []) (st' := []) (pc := 52) B (T_CF_copy 12 120 50 120 ai_12 ai_50 (by decide) (by decide) M4) tw_1204 tw_1270 tw_1203 tw_98 hd_CF_copy ⟨Nat.le_of_ble_eq_true rfl, Nat.le_of_ble_eq_true rfl⟩ rfl rfl (Nat.le_of_ble_eq_true rfl) rfl dX1_take_52 ?_
  refine jv_m (P := fun M5 => XX D ad cI cJ p l e (Rm 2 51) s m args below meth c Q 2 M5 55 [(0, .ref (ad 45)), (1, .ref (ad 7))] []) h (fun M5 h => ?_)
  refine x_aload_n (pc := 55) B 0 dX1_take_55 rfl rfl ?_
  refine x_aload_n (pc := 56) B 1 dX1_take_56 rfl rfl ?_
  refine x_get (T := TX1) (pc := 57) B 5 oi_7 rfl uw_1 (by decide) rfl tw_180 rfl dX1_take_57 ?_
  refine x_put (T := TX1) (pc := 60) B 5 oi_45 of_45_5 rfl uw_1 tyX1_ok nmX1 (by decide) rfl tw_180 rfl rfl rfl (Nat.le_of_ble_eq_true rfl) dX1_take_60 ?_
  refine jv_m (P := fun M6 => XX D ad cI cJ p l e (Rm 2 51) s m args below meth c Q 2 M6 63 [(0, .ref (ad 45)), (1, .ref (ad 7))] []) h (fun M6 h => ?_)
  obtain rfl := Option.some.inj h
  exact x_vret (pc := 63) B hQ dX1_take_63
-- CurrentFarms$Rules.take(LCurrentFarms$Rules;)V [52, 14]
abbrev y_Rules_take_52_14 : MethodName := ⟨"CurrentFarms$Rules", "take", "(LCurrentFarms$Rules;)V"⟩
abbrev cX7_take : ByteArray := prog_9_method_2_code
theorem dX7_take_0 : decode cX7_take 0 = .ok (.aload_n 1, 1) := by decide +kernel
theorem dX7_take_1 : decode cX7_take 1 = .ok (.getfield 9, 3) := by decide +kernel
theorem dX7_take_4 : decode cX7_take 4 = .ok (.aload_n 0, 1) := by decide +kernel
theorem dX7_take_5 : decode cX7_take 5 = .ok (.getfield 9, 3) := by decide +kernel
theorem dX7_take_8 : decode cX7_take 8 = .ok (.invokestatic 39, 3) := by decide +kernel
theorem dX7_take_11 : decode cX7_take 11 = .ok (.aload_n 1, 1) := by decide +kernel
theorem dX7_take_12 : decode cX7_take 12 = .ok (.getfield 15, 3) := by decide +kernel
theorem dX7_take_15 : decode cX7_take 15 = .ok (.aload_n 0, 1) := by decide +kernel
theorem dX7_take_16 : decode cX7_take 16 = .ok (.getfield 15, 3) := by decide +kernel
theorem dX7_take_19 : decode cX7_take 19 = .ok (.invokestatic 39, 3) := by decide +kernel
theorem dX7_take_22 : decode cX7_take 22 = .ok (.aload_n 1, 1) := by decide +kernel
theorem dX7_take_23 : decode cX7_take 23 = .ok (.getfield 18, 3) := by decide +kernel
theorem dX7_take_26 : decode cX7_take 26 = .ok (.aload_n 0, 1) := by decide +kernel
theorem dX7_take_27 : decode cX7_take 27 = .ok (.getfield 18, 3) := by decide +kernel
theorem dX7_take_30 : decode cX7_take 30 = .ok (.invokestatic 39, 3) := by decide +kernel
theorem dX7_take_33 : decode cX7_take 33 = .ok (.aload_n 1, 1) := by decide +kernel
theorem dX7_take_34 : decode cX7_take 34 = .ok (.getfield 21, 3) := by decide +kernel
theorem dX7_take_37 : decode cX7_take 37 = .ok (.aload_n 0, 1) := by decide +kernel
theorem dX7_take_38 : decode cX7_take 38 = .ok (.getfield 21, 3) := by decide +kernel
theorem dX7_take_41 : decode cX7_take 41 = .ok (.invokestatic 39, 3) := by decide +kernel
theorem dX7_take_44 : decode cX7_take 44 = .ok (.aload_n 1, 1) := by decide +kernel
theorem dX7_take_45 : decode cX7_take 45 = .ok (.getfield 24, 3) := by decide +kernel
theorem dX7_take_48 : decode cX7_take 48 = .ok (.aload_n 0, 1) := by decide +kernel
theorem dX7_take_49 : decode cX7_take 49 = .ok (.getfield 24, 3) := by decide +kernel
theorem dX7_take_52 : decode cX7_take 52 = .ok (.invokestatic 39, 3) := by decide +kernel
theorem dX7_take_55 : decode cX7_take 55 = .ok (.aload_n 1, 1) := by decide +kernel
theorem dX7_take_56 : decode cX7_take 56 = .ok (.getfield 27, 3) := by decide +kernel
theorem dX7_take_59 : decode cX7_take 59 = .ok (.aload_n 0, 1) := by decide +kernel
theorem dX7_take_60 : decode cX7_take 60 = .ok (.getfield 27, 3) := by decide +kernel
theorem dX7_take_63 : decode cX7_take 63 = .ok (.invokestatic 39, 3) := by decide +kernel
theorem dX7_take_66 : decode cX7_take 66 = .ok (.aload_n 1, 1) := by decide +kernel
theorem dX7_take_67 : decode cX7_take 67 = .ok (.getfield 30, 3) := by decide +kernel
theorem dX7_take_70 : decode cX7_take 70 = .ok (.aload_n 0, 1) := by decide +kernel
theorem dX7_take_71 : decode cX7_take 71 = .ok (.getfield 30, 3) := by decide +kernel
theorem dX7_take_74 : decode cX7_take 74 = .ok (.invokestatic 39, 3) := by decide +kernel
theorem dX7_take_77 : decode cX7_take 77 = .ok (.aload_n 1, 1) := by decide +kernel
theorem dX7_take_78 : decode cX7_take 78 = .ok (.getfield 33, 3) := by decide +kernel
theorem dX7_take_81 : decode cX7_take 81 = .ok (.aload_n 0, 1) := by decide +kernel
theorem dX7_take_82 : decode cX7_take 82 = .ok (.getfield 33, 3) := by decide +kernel
theorem dX7_take_85 : decode cX7_take 85 = .ok (.invokestatic 39, 3) := by decide +kernel
theorem dX7_take_88 : decode cX7_take 88 = .ok (.aload_n 0, 1) := by decide +kernel
theorem dX7_take_89 : decode cX7_take 89 = .ok (.aload_n 1, 1) := by decide +kernel
theorem dX7_take_90 : decode cX7_take 90 = .ok (.getfield 43, 3) := by decide +kernel
theorem dX7_take_93 : decode cX7_take 93 = .ok (.putfield 43, 3) := by decide +kernel
theorem dX7_take_96 : decode cX7_take 96 = .ok (.aload_n 0, 1) := by decide +kernel
theorem dX7_take_97 : decode cX7_take 97 = .ok (.aload_n 1, 1) := by decide +kernel
theorem dX7_take_98 : decode cX7_take 98 = .ok (.getfield 47, 3) := by decide +kernel
theorem dX7_take_101 : decode cX7_take 101 = .ok (.putfield 47, 3) := by decide +kernel
theorem dX7_take_104 : decode cX7_take 104 = .ok (.return_, 1) := by decide +kernel
theorem hd_Rules_take_52_14 : y_Rules_take_52_14.cls ≠ "java/lang/invoke/MethodHandle" ∧ y_Rules_take_52_14.cls ≠ "java/lang/invoke/VarHandle" ∧ (parseMethodDescriptor y_Rules_take_52_14.desc).map (fun d => d.parameters.length) = some 1 := by decide +kernel
def f_Rules_take_52_14  (M0 : Mem) : Option (Mem) :=
  jv_ (wR M0 53 (cpyv (M0.1 15) (M0.1 53) 120 120)) fun M1 => jv_ (wR M1 54 (cpyv (M1.1 16) (M1.1 54) 1080 1080)) fun M2 => jv_ (wR M2 55 (cpyv (M2.1 17) (M2.1 55) 9 9)) fun M3 => jv_ (wR M3 56 (cpyv (M3.1 18) (M3.1 56) 9 9)) fun M4 => jv_ (wR M4 57 (cpyv (M4.1 19) (M4.1 57) 72 72)) fun M5 => jv_ (wR M5 58 (cpyv (M5.1 20) (M5.1 58) 72 72)) fun M6 => jv_ (wR M6 59 (cpyv (M6.1 21) (M6.1 59) 72 72)) fun M7 => jv_ (wR M7 60 (cpyv (M7.1 22) (M7.1 60) 72 72)) fun M8 => jv_ (wI M8 52 1 (M8.1 14 1)) fun M9 => jv_ (wI M9 52 9 (M9.1 14 9)) fun M10 => some M10
set_option maxHeartbeats 4000000 in
set_option maxRecDepth 20000 in
theorem C_Rules_take_52_14 {D : va_G} {ad adK adV : Nat → Nat} {cI cJ : ClassId} {l : Launch}  (M0 : Mem) (o : Mem) (h : f_Rules_take_52_14  M0 = some o) : Ct D ad adK adV cI cJ l y_Rules_take_52_14 cX7_take 2 none 2 51 [.ref (ad 52), .ref (ad 14)] M0 none o := by
  refine x_start (lv := [(0, .ref (ad 52)), (1, .ref (ad 14))]) (own := "CurrentFarms$Rules") rfl (by decide) (Nat.le_of_ble_eq_true rfl) rfl ?_
  intro p e s m args below meth c Q hQ B
  unfold f_Rules_take_52_14 at h
  refine x_aload_n (pc := 0) B 1 dX7_take_0 rfl rfl ?_
  refine x_get (T := TX7) (pc := 1) B 0 oi_14 rfl uw_7 (by decide) rfl tw_204 rfl dX7_take_1 ?_
  refine x_aload_n (pc := 4) B 0 dX7_take_4 rfl rfl ?_
  refine x_get (T := TX7) (pc := 5) B 0 oi_52 rfl uw_7 (by decide) rfl tw_204 rfl dX7_take_5 ?_
  refine x_callSN (rest := []) (st' := []) (pc := 8) B (T_CF_copy 15 120 53 120 ai_15 ai_53 (by decide) (by decide) M0) tw_1204 tw_1275 tw_1203 tw_98 hd_CF_copy ⟨Nat.le_of_ble_eq_true rfl, Nat.le_of_ble_eq_true rfl⟩ rfl rfl (Nat.le_of_ble_eq_true rfl) rfl dX7_take_8 ?_
  refine jv_m (P := fun M1 => XX D ad cI cJ p l e (Rm 2 51) s m args below meth c Q 2 M1 11 [(0, .ref (ad 52)), (1, .ref (ad 14))] []) h (fun M1 h => ?_)
  refine x_aload_n (pc := 11) B 1 dX7_take_11 rfl rfl ?_
  refine x_get (T := TX7) (pc := 12) B 2 oi_14 rfl uw_7 (by decide) rfl tw_209 rfl dX7_take_12 ?_
  refine x_aload_n (pc := 15) B 0 dX7_take_15 rfl rfl ?_
  refine x_get (T := TX7) (pc := 16) B 2 oi_52 rfl uw_7 (by decide) rfl tw_209 rfl dX7_take_16 ?_
  refine x_callSN (rest := []) (st' := []) (pc := 19) B (T_CF_copy 16 1080 54 1080 ai_16 ai_54 (by decide) (by decide) M1) tw_1204 tw_1275 tw_1203 tw_98 hd_CF_copy ⟨Nat.le_of_ble_eq_true rfl, Nat.le_of_ble_eq_true rfl⟩ rfl rfl (Nat.le_of_ble_eq_true rfl) rfl dX7_take_19 ?_
  refine jv_m (P := fun M2 => XX D ad cI cJ p l e (Rm 2 51) s m args below meth c Q 2 M2 22 [(0, .ref (ad 52)), (1, .ref (ad 14))] []) h (fun M2 h => ?_)
  refine x_aload_n (pc := 22) B 1 dX7_take_22 rfl rfl ?_
  refine x_get (T := TX7) (pc := 23) B 3 oi_14 rfl uw_7 (by decide) rfl tw_211 rfl dX7_take_23 ?_
  refine x_aload_n (pc := 26) B 0 dX7_take_26 rfl rfl ?_
  refine x_get (T := TX7) (pc := 27) B 3 oi_52 rfl uw_7 (by decide) rfl tw_211 rfl dX7_take_27 ?_
  refine x_callSN (rest := []) (st' := []) (pc := 30) B (T_CF_copy 17 9 55 9 ai_17 ai_55 (by decide) (by decide) M2) tw_1204 tw_1275 tw_1203 tw_98 hd_CF_copy ⟨Nat.le_of_ble_eq_true rfl, Nat.le_of_ble_eq_true rfl⟩ rfl rfl (Nat.le_of_ble_eq_true rfl) rfl dX7_take_30 ?_
  refine jv_m (P := fun M3 => XX D ad cI cJ p l e (Rm 2 51) s m args below meth c Q 2 M3 33 [(0, .ref (ad 52)), (1, .ref (ad 14))] []) h (fun M3 h => ?_)
  refine x_aload_n (pc := 33) B 1 dX7_take_33 rfl rfl ?_
  refine x_get (T := TX7) (pc := 34) B 4 oi_14 rfl uw_7 (by decide) rfl tw_213 rfl dX7_take_34 ?_
  refine x_aload_n (pc := 37) B 0 dX7_take_37 rfl rfl ?_
  refine x_get (T := TX7) (pc := 38) B 4 oi_52 rfl uw_7 (by decide) rfl tw_213 rfl dX7_take_38 ?_
  refine x_callSN (rest := []) (st' := []) (pc := 41) B (T_CF_copy 18 9 56 9 ai_18 ai_56 (by decide) (by decide) M3) tw_1204 tw_1275 tw_1203 tw_98 hd_CF_copy ⟨Nat.le_of_ble_eq_true rfl, Nat.le_of_ble_eq_true rfl⟩ rfl rfl (Nat.le_of_ble_eq_true rfl) rfl dX7_take_41 ?_
  refine jv_m (P := fun M4 => XX D ad cI cJ p l e (Rm 2 51) s m args below meth c Q 2 M4 44 [(0, .ref (ad 52)), (1, .ref (ad 14))] []) h (fun M4 h => ?_)
  refine x_aload_n (pc := 44) B 1 dX7_take_44 rfl rfl ?_
  refine x_get (T := TX7) (pc := 45) B 5 oi_14 rfl uw_7 (by decide) rfl tw_215 rfl dX7_take_45 ?_
  refine x_aload_n (pc := 48) B 0 dX7_take_48 rfl rfl ?_
  refine x_get (T := TX7) (pc := 49) B 5 oi_52 rfl uw_7 (by decide) rfl tw_215 rfl dX7_take_49 ?_
  refine x_callSN (rest := []) (st' := []) (pc := 52) B (T_CF_copy 19 72 57 72 ai_19 ai_57 (by decide) (by decide) M4) tw_1204 tw_1275 tw_1203 tw_98 hd_CF_copy ⟨Nat.le_of_ble_eq_true rfl, Nat.le_of_ble_eq_true rfl⟩ rfl rfl (Nat.le_of_ble_eq_true rfl) rfl dX7_take_52 ?_
  refine jv_m (P := fun M5 => XX D ad cI cJ p l e (Rm 2 51) s m args below meth c Q 2 M5 55 [(0, .ref (ad 52)), (1, .ref (ad 14))] []) h (fun M5 h => ?_)
  refine x_aload_n (pc := 55) B 1 dX7_take_55 rfl rfl ?_
  refine x_get (T := TX7) (pc := 56) B 6 oi_14 rfl uw_7 (by decide) rfl tw_217 rfl dX7_take_56 ?_
  refine x_aload_n (pc := 59) B 0 dX7_take_59 rfl rfl ?_
  refine x_get (T := TX7) (pc := 60) B 6 oi_52 rfl uw_7 (by decide) rfl tw_217 rfl dX7_take_60 ?_
  refine x_callSN (rest := []) (st' := []) (pc := 63) B (T_CF_copy 20 72 58 72 ai_20 ai_58 (by decide) (by decide) M5) tw_1204 tw_1275 tw_1203 tw_98 hd_CF_copy ⟨Nat.le_of_ble_eq_true rfl, Nat.le_of_ble_eq_true rfl⟩ rfl rfl (Nat.le_of_ble_eq_true rfl) rfl dX7_take_63 ?_
  refine jv_m (P := fun M6 => XX D ad cI cJ p l e (Rm 2 51) s m args below meth c Q 2 M6 66 [(0, .ref (ad 52)), (1, .ref (ad 14))] []) h (fun M6 h => ?_)
  refine x_aload_n (pc := 66) B 1 dX7_take_66 rfl rfl ?_
  refine x_get (T := TX7) (pc := 67) B 7 oi_14 rfl uw_7 (by decide) rfl tw_219 rfl dX7_take_67 ?_
  refine x_aload_n (pc := 70) B 0 dX7_take_70 rfl rfl ?_
  refine x_get (T := TX7) (pc := 71) B 7 oi_52 rfl uw_7 (by decide) rfl tw_219 rfl dX7_take_71 ?_
  refine x_callSN (rest := []) (st' := []) (pc := 74) B (T_CF_copy 21 72 59 72 ai_21 ai_59 (by decide) (by decide) M6) tw_1204 tw_1275 tw_1203 tw_98 hd_CF_copy ⟨Nat.le_of_ble_eq_true rfl, Nat.le_of_ble_eq_true rfl⟩ rfl rfl (Nat.le_of_ble_eq_true rfl) rfl dX7_take_74 ?_
  refine jv_m (P := fun M7 => XX D ad cI cJ p l e (Rm 2 51) s m args below meth c Q 2 M7 77 [(0, .ref (ad 52)), (1, .ref (ad 14))] []) h (fun M7 h => ?_)
  refine x_aload_n (pc := 77) B 1 dX7_take_77 rfl rfl ?_
  refine x_get (T := TX7) (pc := 78) B 8 oi_14 rfl uw_7 (by decide) rfl tw_221 rfl dX7_take_78 ?_
  refine x_aload_n (pc := 81) B 0 dX7_take_81 rfl rfl ?_
  refine x_get (T := TX7) (pc := 82) B 8 oi_52 rfl uw_7 (by decide) rfl tw_221 rfl dX7_take_82 ?_
  refine x_callSN (rest := []) (st' := []) (pc := 85) B (T_CF_copy 22 72 60 72 ai_22 ai_60 (by decide) (by decide) M7) tw_1204 tw_1275 tw_1203 tw_98 hd_CF_copy ⟨Nat.le_of_ble_eq_true rfl, Nat.le_of_ble_eq_true rfl⟩ rfl rfl (Nat.le_of_ble_eq_true rfl) rfl dX7_take_85 ?_
  refine jv_m (P := fun M8 => XX D ad cI cJ p l e (Rm 2 51) s m args below meth c Q 2 M8 88 [(0, .ref (ad 52)), (1, .ref (ad 14))] []) h (fun M8 h => ?_)
  refine x_aload_n (pc := 88) B 0 dX7_take_88 rfl rfl ?_
  refine x_aload_n (pc := 89) B 1 dX7_take_89 rfl rfl ?_
  refine x_get (T := TX7) (pc := 90) B 1 oi_14 rfl uw_7 (by decide) rfl tw_206 rfl dX7_take_90 ?_
  refine x_put (T := TX7) (pc := 93) B 1 oi_52 of_52_1 rfl uw_7 tyX7_ok nmX7 (by decide) rfl tw_206 rfl rfl rfl (Nat.le_of_ble_eq_true rfl) dX7_take_93 ?_
  refine jv_m (P := fun M9 => XX D ad cI cJ p l e (Rm 2 51) s m args below meth c Q 2 M9 96 [(0, .ref (ad 52)), (1, .ref (ad 14))] []) h (fun M9 h => ?_)
  refine x_aload_n (pc := 96) B 0 dX7_take_96 rfl rfl ?_
  refine x_aload_n (pc := 97) B 1 dX7_take_97 rfl rfl ?_
  refine x_get (T := TX7) (pc := 98) B 9 oi_14 rfl uw_7 (by decide) rfl tw_224 rfl dX7_take_98 ?_
  refine x_put (T := TX7) (pc := 101) B 9 oi_52 of_52_9 rfl uw_7 tyX7_ok nmX7 (by decide) rfl tw_224 rfl rfl rfl (Nat.le_of_ble_eq_true rfl) dX7_take_101 ?_
  refine jv_m (P := fun M10 => XX D ad cI cJ p l e (Rm 2 51) s m args below meth c Q 2 M10 104 [(0, .ref (ad 52)), (1, .ref (ad 14))] []) h (fun M10 h => ?_)
  obtain rfl := Option.some.inj h
  exact x_vret (pc := 104) B hQ dX7_take_104
-- CurrentFarms$Line.take(LCurrentFarms$Line;)V [62, 24]
abbrev y_Line_take_62_24 : MethodName := ⟨"CurrentFarms$Line", "take", "(LCurrentFarms$Line;)V"⟩
theorem hd_Line_take_62_24 : y_Line_take_62_24.cls ≠ "java/lang/invoke/MethodHandle" ∧ y_Line_take_62_24.cls ≠ "java/lang/invoke/VarHandle" ∧ (parseMethodDescriptor y_Line_take_62_24.desc).map (fun d => d.parameters.length) = some 1 := by decide +kernel
def f_Line_take_62_24  (M0 : Mem) : Option (Mem) :=
  jv_ (wR M0 63 (cpyv (M0.1 25) (M0.1 63) 48 48)) fun M1 => jv_ (wR M1 64 (cpyv (M1.1 26) (M1.1 64) 48 48)) fun M2 => jv_ (wI M2 62 2 (M2.1 24 2)) fun M3 => jv_ (wI M3 62 3 (M3.1 24 3)) fun M4 => jv_ (wI M4 62 4 (M4.1 24 4)) fun M5 => some M5
set_option maxHeartbeats 4000000 in
set_option maxRecDepth 20000 in
theorem C_Line_take_62_24 {D : va_G} {ad adK adV : Nat → Nat} {cI cJ : ClassId} {l : Launch}  (M0 : Mem) (o : Mem) (h : f_Line_take_62_24  M0 = some o) : Ct D ad adK adV cI cJ l y_Line_take_62_24 cX5_take 2 none 2 51 [.ref (ad 62), .ref (ad 24)] M0 none o := by
  refine x_start (lv := [(0, .ref (ad 62)), (1, .ref (ad 24))]) (own := "CurrentFarms$Line") rfl (by decide) (Nat.le_of_ble_eq_true rfl) rfl ?_
  intro p e s m args below meth c Q hQ B
  unfold f_Line_take_62_24 at h
  refine x_aload_n (pc := 0) B 1 dX5_take_0 rfl rfl ?_
  refine x_get (T := TX5) (pc := 1) B 0 oi_24 rfl uw_5 (by decide) rfl tw_263 rfl dX5_take_1 ?_
  refine x_aload_n (pc := 4) B 0 dX5_take_4 rfl rfl ?_
  refine x_get (T := TX5) (pc := 5) B 0 oi_62 rfl uw_5 (by decide) rfl tw_263 rfl dX5_take_5 ?_
  refine x_callSN (rest := []) (st' := []) (pc := 8) B (T_CF_copy 25 48 63 48 ai_25 ai_63 (by decide) (by decide) M0) tw_1204 tw_1243 tw_1203 tw_98 hd_CF_copy ⟨Nat.le_of_ble_eq_true rfl, Nat.le_of_ble_eq_true rfl⟩ rfl rfl (Nat.le_of_ble_eq_true rfl) rfl dX5_take_8 ?_
  refine jv_m (P := fun M1 => XX D ad cI cJ p l e (Rm 2 51) s m args below meth c Q 2 M1 11 [(0, .ref (ad 62)), (1, .ref (ad 24))] []) h (fun M1 h => ?_)
  refine x_aload_n (pc := 11) B 1 dX5_take_11 rfl rfl ?_
  refine x_get (T := TX5) (pc := 12) B 1 oi_24 rfl uw_5 (by decide) rfl tw_264 rfl dX5_take_12 ?_
  refine x_aload_n (pc := 15) B 0 dX5_take_15 rfl rfl ?_
  refine x_get (T := TX5) (pc := 16) B 1 oi_62 rfl uw_5 (by decide) rfl tw_264 rfl dX5_take_16 ?_
  refine x_callSN (rest := []) (st' := []) (pc := 19) B (T_CF_copy 26 48 64 48 ai_26 ai_64 (by decide) (by decide) M1) tw_1204 tw_1243 tw_1203 tw_98 hd_CF_copy ⟨Nat.le_of_ble_eq_true rfl, Nat.le_of_ble_eq_true rfl⟩ rfl rfl (Nat.le_of_ble_eq_true rfl) rfl dX5_take_19 ?_
  refine jv_m (P := fun M2 => XX D ad cI cJ p l e (Rm 2 51) s m args below meth c Q 2 M2 22 [(0, .ref (ad 62)), (1, .ref (ad 24))] []) h (fun M2 h => ?_)
  refine x_aload_n (pc := 22) B 0 dX5_take_22 rfl rfl ?_
  refine x_aload_n (pc := 23) B 1 dX5_take_23 rfl rfl ?_
  refine x_get (T := TX5) (pc := 24) B 2 oi_24 rfl uw_5 (by decide) rfl tw_266 rfl dX5_take_24 ?_
  refine x_put (T := TX5) (pc := 27) B 2 oi_62 of_62_2 rfl uw_5 tyX5_ok nmX5 (by decide) rfl tw_266 rfl rfl rfl (Nat.le_of_ble_eq_true rfl) dX5_take_27 ?_
  refine jv_m (P := fun M3 => XX D ad cI cJ p l e (Rm 2 51) s m args below meth c Q 2 M3 30 [(0, .ref (ad 62)), (1, .ref (ad 24))] []) h (fun M3 h => ?_)
  refine x_aload_n (pc := 30) B 0 dX5_take_30 rfl rfl ?_
  refine x_aload_n (pc := 31) B 1 dX5_take_31 rfl rfl ?_
  refine x_get (T := TX5) (pc := 32) B 3 oi_24 rfl uw_5 (by decide) rfl tw_269 rfl dX5_take_32 ?_
  refine x_put (T := TX5) (pc := 35) B 3 oi_62 of_62_3 rfl uw_5 tyX5_ok nmX5 (by decide) rfl tw_269 rfl rfl rfl (Nat.le_of_ble_eq_true rfl) dX5_take_35 ?_
  refine jv_m (P := fun M4 => XX D ad cI cJ p l e (Rm 2 51) s m args below meth c Q 2 M4 38 [(0, .ref (ad 62)), (1, .ref (ad 24))] []) h (fun M4 h => ?_)
  refine x_aload_n (pc := 38) B 0 dX5_take_38 rfl rfl ?_
  refine x_aload_n (pc := 39) B 1 dX5_take_39 rfl rfl ?_
  refine x_get (T := TX5) (pc := 40) B 4 oi_24 rfl uw_5 (by decide) rfl tw_271 rfl dX5_take_40 ?_
  refine x_put (T := TX5) (pc := 43) B 4 oi_62 of_62_4 rfl uw_5 tyX5_ok nmX5 (by decide) rfl tw_271 rfl rfl rfl (Nat.le_of_ble_eq_true rfl) dX5_take_43 ?_
  refine jv_m (P := fun M5 => XX D ad cI cJ p l e (Rm 2 51) s m args below meth c Q 2 M5 46 [(0, .ref (ad 62)), (1, .ref (ad 24))] []) h (fun M5 h => ?_)
  obtain rfl := Option.some.inj h
  exact x_vret (pc := 46) B hQ dX5_take_46
-- CurrentFarms$Breaks.take(LCurrentFarms$Breaks;)V [67, 29]
abbrev y_Breaks_take_67_29 : MethodName := ⟨"CurrentFarms$Breaks", "take", "(LCurrentFarms$Breaks;)V"⟩
abbrev cX2_take : ByteArray := prog_4_method_2_code
theorem dX2_take_0 : decode cX2_take 0 = .ok (.aload_n 1, 1) := by decide +kernel
theorem dX2_take_1 : decode cX2_take 1 = .ok (.getfield 9, 3) := by decide +kernel
theorem dX2_take_4 : decode cX2_take 4 = .ok (.aload_n 0, 1) := by decide +kernel
theorem dX2_take_5 : decode cX2_take 5 = .ok (.getfield 9, 3) := by decide +kernel
theorem dX2_take_8 : decode cX2_take 8 = .ok (.invokestatic 30, 3) := by decide +kernel
theorem dX2_take_11 : decode cX2_take 11 = .ok (.aload_n 1, 1) := by decide +kernel
theorem dX2_take_12 : decode cX2_take 12 = .ok (.getfield 15, 3) := by decide +kernel
theorem dX2_take_15 : decode cX2_take 15 = .ok (.aload_n 0, 1) := by decide +kernel
theorem dX2_take_16 : decode cX2_take 16 = .ok (.getfield 15, 3) := by decide +kernel
theorem dX2_take_19 : decode cX2_take 19 = .ok (.invokestatic 30, 3) := by decide +kernel
theorem dX2_take_22 : decode cX2_take 22 = .ok (.aload_n 0, 1) := by decide +kernel
theorem dX2_take_23 : decode cX2_take 23 = .ok (.aload_n 1, 1) := by decide +kernel
theorem dX2_take_24 : decode cX2_take 24 = .ok (.getfield 34, 3) := by decide +kernel
theorem dX2_take_27 : decode cX2_take 27 = .ok (.putfield 34, 3) := by decide +kernel
theorem dX2_take_30 : decode cX2_take 30 = .ok (.return_, 1) := by decide +kernel
theorem hd_Breaks_take_67_29 : y_Breaks_take_67_29.cls ≠ "java/lang/invoke/MethodHandle" ∧ y_Breaks_take_67_29.cls ≠ "java/lang/invoke/VarHandle" ∧ (parseMethodDescriptor y_Breaks_take_67_29.desc).map (fun d => d.parameters.length) = some 1 := by decide +kernel
def f_Breaks_take_67_29  (M0 : Mem) : Option (Mem) :=
  jv_ (wR M0 68 (cpyv (M0.1 30) (M0.1 68) 6 6)) fun M1 => jv_ (wR M1 69 (cpyv (M1.1 31) (M1.1 69) 6 6)) fun M2 => jv_ (wI M2 67 2 (M2.1 29 2)) fun M3 => some M3
set_option maxHeartbeats 4000000 in
set_option maxRecDepth 20000 in
theorem C_Breaks_take_67_29 {D : va_G} {ad adK adV : Nat → Nat} {cI cJ : ClassId} {l : Launch}  (M0 : Mem) (o : Mem) (h : f_Breaks_take_67_29  M0 = some o) : Ct D ad adK adV cI cJ l y_Breaks_take_67_29 cX2_take 2 none 2 51 [.ref (ad 67), .ref (ad 29)] M0 none o := by
  refine x_start (lv := [(0, .ref (ad 67)), (1, .ref (ad 29))]) (own := "CurrentFarms$Breaks") rfl (by decide) (Nat.le_of_ble_eq_true rfl) rfl ?_
  intro p e s m args below meth c Q hQ B
  unfold f_Breaks_take_67_29 at h
  refine x_aload_n (pc := 0) B 1 dX2_take_0 rfl rfl ?_
  refine x_get (T := TX2) (pc := 1) B 0 oi_29 rfl uw_2 (by decide) rfl tw_297 rfl dX2_take_1 ?_
  refine x_aload_n (pc := 4) B 0 dX2_take_4 rfl rfl ?_
  refine x_get (T := TX2) (pc := 5) B 0 oi_67 rfl uw_2 (by decide) rfl tw_297 rfl dX2_take_5 ?_
  refine x_callSN (rest := []) (st' := []) (pc := 8) B (T_CF_copy 30 6 68 6 ai_30 ai_68 (by decide) (by decide) M0) tw_1204 tw_1202 tw_1203 tw_98 hd_CF_copy ⟨Nat.le_of_ble_eq_true rfl, Nat.le_of_ble_eq_true rfl⟩ rfl rfl (Nat.le_of_ble_eq_true rfl) rfl dX2_take_8 ?_
  refine jv_m (P := fun M1 => XX D ad cI cJ p l e (Rm 2 51) s m args below meth c Q 2 M1 11 [(0, .ref (ad 67)), (1, .ref (ad 29))] []) h (fun M1 h => ?_)
  refine x_aload_n (pc := 11) B 1 dX2_take_11 rfl rfl ?_
  refine x_get (T := TX2) (pc := 12) B 1 oi_29 rfl uw_2 (by decide) rfl tw_299 rfl dX2_take_12 ?_
  refine x_aload_n (pc := 15) B 0 dX2_take_15 rfl rfl ?_
  refine x_get (T := TX2) (pc := 16) B 1 oi_67 rfl uw_2 (by decide) rfl tw_299 rfl dX2_take_16 ?_
  refine x_callSN (rest := []) (st' := []) (pc := 19) B (T_CF_copy 31 6 69 6 ai_31 ai_69 (by decide) (by decide) M1) tw_1204 tw_1202 tw_1203 tw_98 hd_CF_copy ⟨Nat.le_of_ble_eq_true rfl, Nat.le_of_ble_eq_true rfl⟩ rfl rfl (Nat.le_of_ble_eq_true rfl) rfl dX2_take_19 ?_
  refine jv_m (P := fun M2 => XX D ad cI cJ p l e (Rm 2 51) s m args below meth c Q 2 M2 22 [(0, .ref (ad 67)), (1, .ref (ad 29))] []) h (fun M2 h => ?_)
  refine x_aload_n (pc := 22) B 0 dX2_take_22 rfl rfl ?_
  refine x_aload_n (pc := 23) B 1 dX2_take_23 rfl rfl ?_
  refine x_get (T := TX2) (pc := 24) B 2 oi_29 rfl uw_2 (by decide) rfl tw_300 rfl dX2_take_24 ?_
  refine x_put (T := TX2) (pc := 27) B 2 oi_67 of_67_2 rfl uw_2 tyX2_ok nmX2 (by decide) rfl tw_300 rfl rfl rfl (Nat.le_of_ble_eq_true rfl) dX2_take_27 ?_
  refine jv_m (P := fun M3 => XX D ad cI cJ p l e (Rm 2 51) s m args below meth c Q 2 M3 30 [(0, .ref (ad 67)), (1, .ref (ad 29))] []) h (fun M3 h => ?_)
  obtain rfl := Option.some.inj h
  exact x_vret (pc := 30) B hQ dX2_take_30
-- CurrentFarms$Coins.take(LCurrentFarms$Coins;)V [74, 36]
abbrev y_Coins_take_74_36 : MethodName := ⟨"CurrentFarms$Coins", "take", "(LCurrentFarms$Coins;)V"⟩
abbrev cX3_take : ByteArray := prog_5_method_2_code
theorem dX3_take_0 : decode cX3_take 0 = .ok (.aload_n 1, 1) := by decide +kernel
theorem dX3_take_1 : decode cX3_take 1 = .ok (.getfield 9, 3) := by decide +kernel
theorem dX3_take_4 : decode cX3_take 4 = .ok (.aload_n 0, 1) := by decide +kernel
theorem dX3_take_5 : decode cX3_take 5 = .ok (.getfield 9, 3) := by decide +kernel
theorem dX3_take_8 : decode cX3_take 8 = .ok (.invokestatic 24, 3) := by decide +kernel
theorem dX3_take_11 : decode cX3_take 11 = .ok (.aload_n 1, 1) := by decide +kernel
theorem dX3_take_12 : decode cX3_take 12 = .ok (.getfield 15, 3) := by decide +kernel
theorem dX3_take_15 : decode cX3_take 15 = .ok (.aload_n 0, 1) := by decide +kernel
theorem dX3_take_16 : decode cX3_take 16 = .ok (.getfield 15, 3) := by decide +kernel
theorem dX3_take_19 : decode cX3_take 19 = .ok (.invokestatic 24, 3) := by decide +kernel
theorem dX3_take_22 : decode cX3_take 22 = .ok (.aload_n 0, 1) := by decide +kernel
theorem dX3_take_23 : decode cX3_take 23 = .ok (.aload_n 1, 1) := by decide +kernel
theorem dX3_take_24 : decode cX3_take 24 = .ok (.getfield 28, 3) := by decide +kernel
theorem dX3_take_27 : decode cX3_take 27 = .ok (.putfield 28, 3) := by decide +kernel
theorem dX3_take_30 : decode cX3_take 30 = .ok (.aload_n 0, 1) := by decide +kernel
theorem dX3_take_31 : decode cX3_take 31 = .ok (.aload_n 1, 1) := by decide +kernel
theorem dX3_take_32 : decode cX3_take 32 = .ok (.getfield 32, 3) := by decide +kernel
theorem dX3_take_35 : decode cX3_take 35 = .ok (.putfield 32, 3) := by decide +kernel
theorem dX3_take_38 : decode cX3_take 38 = .ok (.aload_n 0, 1) := by decide +kernel
theorem dX3_take_39 : decode cX3_take 39 = .ok (.aload_n 1, 1) := by decide +kernel
theorem dX3_take_40 : decode cX3_take 40 = .ok (.getfield 35, 3) := by decide +kernel
theorem dX3_take_43 : decode cX3_take 43 = .ok (.putfield 35, 3) := by decide +kernel
theorem dX3_take_46 : decode cX3_take 46 = .ok (.aload_n 0, 1) := by decide +kernel
theorem dX3_take_47 : decode cX3_take 47 = .ok (.aload_n 1, 1) := by decide +kernel
theorem dX3_take_48 : decode cX3_take 48 = .ok (.getfield 38, 3) := by decide +kernel
theorem dX3_take_51 : decode cX3_take 51 = .ok (.putfield 38, 3) := by decide +kernel
theorem dX3_take_54 : decode cX3_take 54 = .ok (.aload_n 0, 1) := by decide +kernel
theorem dX3_take_55 : decode cX3_take 55 = .ok (.aload_n 1, 1) := by decide +kernel
theorem dX3_take_56 : decode cX3_take 56 = .ok (.getfield 41, 3) := by decide +kernel
theorem dX3_take_59 : decode cX3_take 59 = .ok (.putfield 41, 3) := by decide +kernel
theorem dX3_take_62 : decode cX3_take 62 = .ok (.return_, 1) := by decide +kernel
theorem hd_Coins_take_74_36 : y_Coins_take_74_36.cls ≠ "java/lang/invoke/MethodHandle" ∧ y_Coins_take_74_36.cls ≠ "java/lang/invoke/VarHandle" ∧ (parseMethodDescriptor y_Coins_take_74_36.desc).map (fun d => d.parameters.length) = some 1 := by decide +kernel
def f_Coins_take_74_36  (M0 : Mem) : Option (Mem) :=
  jv_ (wR M0 75 (cpyv (M0.1 37) (M0.1 75) 1210 1210)) fun M1 => jv_ (wR M1 76 (cpyv (M1.1 38) (M1.1 76) 1210 1210)) fun M2 => jv_ (wI M2 74 2 (M2.1 36 2)) fun M3 => jv_ (wI M3 74 3 (M3.1 36 3)) fun M4 => jv_ (wI M4 74 4 (M4.1 36 4)) fun M5 => jv_ (wI M5 74 5 (M5.1 36 5)) fun M6 => jv_ (wI M6 74 6 (M6.1 36 6)) fun M7 => some M7
set_option maxHeartbeats 4000000 in
set_option maxRecDepth 20000 in
theorem C_Coins_take_74_36 {D : va_G} {ad adK adV : Nat → Nat} {cI cJ : ClassId} {l : Launch}  (M0 : Mem) (o : Mem) (h : f_Coins_take_74_36  M0 = some o) : Ct D ad adK adV cI cJ l y_Coins_take_74_36 cX3_take 2 none 2 51 [.ref (ad 74), .ref (ad 36)] M0 none o := by
  refine x_start (lv := [(0, .ref (ad 74)), (1, .ref (ad 36))]) (own := "CurrentFarms$Coins") rfl (by decide) (Nat.le_of_ble_eq_true rfl) rfl ?_
  intro p e s m args below meth c Q hQ B
  unfold f_Coins_take_74_36 at h
  refine x_aload_n (pc := 0) B 1 dX3_take_0 rfl rfl ?_
  refine x_get (T := TX3) (pc := 1) B 0 oi_36 rfl uw_3 (by decide) rfl tw_333 rfl dX3_take_1 ?_
  refine x_aload_n (pc := 4) B 0 dX3_take_4 rfl rfl ?_
  refine x_get (T := TX3) (pc := 5) B 0 oi_74 rfl uw_3 (by decide) rfl tw_333 rfl dX3_take_5 ?_
  refine x_callSN (rest := []) (st' := []) (pc := 8) B (T_CF_copy 37 1210 75 1210 ai_37 ai_75 (by decide) (by decide) M0) tw_1204 tw_1285 tw_1203 tw_98 hd_CF_copy ⟨Nat.le_of_ble_eq_true rfl, Nat.le_of_ble_eq_true rfl⟩ rfl rfl (Nat.le_of_ble_eq_true rfl) rfl dX3_take_8 ?_
  refine jv_m (P := fun M1 => XX D ad cI cJ p l e (Rm 2 51) s m args below meth c Q 2 M1 11 [(0, .ref (ad 74)), (1, .ref (ad 36))] []) h (fun M1 h => ?_)
  refine x_aload_n (pc := 11) B 1 dX3_take_11 rfl rfl ?_
  refine x_get (T := TX3) (pc := 12) B 1 oi_36 rfl uw_3 (by decide) rfl tw_335 rfl dX3_take_12 ?_
  refine x_aload_n (pc := 15) B 0 dX3_take_15 rfl rfl ?_
  refine x_get (T := TX3) (pc := 16) B 1 oi_74 rfl uw_3 (by decide) rfl tw_335 rfl dX3_take_16 ?_
  refine x_callSN (rest := []) (st' := []) (pc := 19) B (T_CF_copy 38 1210 76 1210 ai_38 ai_76 (by decide) (by decide) M1) tw_1204 tw_1285 tw_1203 tw_98 hd_CF_copy ⟨Nat.le_of_ble_eq_true rfl, Nat.le_of_ble_eq_true rfl⟩ rfl rfl (Nat.le_of_ble_eq_true rfl) rfl dX3_take_19 ?_
  refine jv_m (P := fun M2 => XX D ad cI cJ p l e (Rm 2 51) s m args below meth c Q 2 M2 22 [(0, .ref (ad 74)), (1, .ref (ad 36))] []) h (fun M2 h => ?_)
  refine x_aload_n (pc := 22) B 0 dX3_take_22 rfl rfl ?_
  refine x_aload_n (pc := 23) B 1 dX3_take_23 rfl rfl ?_
  refine x_get (T := TX3) (pc := 24) B 2 oi_36 rfl uw_3 (by decide) rfl tw_337 rfl dX3_take_24 ?_
  refine x_put (T := TX3) (pc := 27) B 2 oi_74 of_74_2 rfl uw_3 tyX3_ok nmX3 (by decide) rfl tw_337 rfl rfl rfl (Nat.le_of_ble_eq_true rfl) dX3_take_27 ?_
  refine jv_m (P := fun M3 => XX D ad cI cJ p l e (Rm 2 51) s m args below meth c Q 2 M3 30 [(0, .ref (ad 74)), (1, .ref (ad 36))] []) h (fun M3 h => ?_)
  refine x_aload_n (pc := 30) B 0 dX3_take_30 rfl rfl ?_
  refine x_aload_n (pc := 31) B 1 dX3_take_31 rfl rfl ?_
  refine x_get (T := TX3) (pc := 32) B 3 oi_36 rfl uw_3 (by decide) rfl tw_338 rfl dX3_take_32 ?_
  refine x_put (T := TX3) (pc := 35) B 3 oi_74 of_74_3 rfl uw_3 tyX3_ok nmX3 (by decide) rfl tw_338 rfl rfl rfl (Nat.le_of_ble_eq_true rfl) dX3_take_35 ?_
  refine jv_m (P := fun M4 => XX D ad cI cJ p l e (Rm 2 51) s m args below meth c Q 2 M4 38 [(0, .ref (ad 74)), (1, .ref (ad 36))] []) h (fun M4 h => ?_)
  refine x_aload_n (pc := 38) B 0 dX3_take_38 rfl rfl ?_
  refine x_aload_n (pc := 39) B 1 dX3_take_39 rfl rfl ?_
  refine x_get (T := TX3) (pc := 40) B 4 oi_36 rfl uw_3 (by decide) rfl tw_339 rfl dX3_take_40 ?_
  refine x_put (T := TX3) (pc := 43) B 4 oi_74 of_74_4 rfl uw_3 tyX3_ok nmX3 (by decide) rfl tw_339 rfl rfl rfl (Nat.le_of_ble_eq_true rfl) dX3_take_43 ?_
  refine jv_m (P := fun M5 => XX D ad cI cJ p l e (Rm 2 51) s m args below meth c Q 2 M5 46 [(0, .ref (ad 74)), (1, .ref (ad 36))] []) h (fun M5 h => ?_)
  refine x_aload_n (pc := 46) B 0 dX3_take_46 rfl rfl ?_
  refine x_aload_n (pc := 47) B 1 dX3_take_47 rfl rfl ?_
  refine x_get (T := TX3) (pc := 48) B 5 oi_36 rfl uw_3 (by decide) rfl tw_340 rfl dX3_take_48 ?_
  refine x_put (T := TX3) (pc := 51) B 5 oi_74 of_74_5 rfl uw_3 tyX3_ok nmX3 (by decide) rfl tw_340 rfl rfl rfl (Nat.le_of_ble_eq_true rfl) dX3_take_51 ?_
  refine jv_m (P := fun M6 => XX D ad cI cJ p l e (Rm 2 51) s m args below meth c Q 2 M6 54 [(0, .ref (ad 74)), (1, .ref (ad 36))] []) h (fun M6 h => ?_)
  refine x_aload_n (pc := 54) B 0 dX3_take_54 rfl rfl ?_
  refine x_aload_n (pc := 55) B 1 dX3_take_55 rfl rfl ?_
  refine x_get (T := TX3) (pc := 56) B 6 oi_36 rfl uw_3 (by decide) rfl tw_342 rfl dX3_take_56 ?_
  refine x_put (T := TX3) (pc := 59) B 6 oi_74 of_74_6 rfl uw_3 tyX3_ok nmX3 (by decide) rfl tw_342 rfl rfl rfl (Nat.le_of_ble_eq_true rfl) dX3_take_59 ?_
  refine jv_m (P := fun M7 => XX D ad cI cJ p l e (Rm 2 51) s m args below meth c Q 2 M7 62 [(0, .ref (ad 74)), (1, .ref (ad 36))] []) h (fun M7 h => ?_)
  obtain rfl := Option.some.inj h
  exact x_vret (pc := 62) B hQ dX3_take_62
-- CurrentFarms$State.take(LCurrentFarms$State;)V [39, 1]
abbrev y_State_take_39_1 : MethodName := ⟨"CurrentFarms$State", "take", "(LCurrentFarms$State;)V"⟩
abbrev cX8_take : ByteArray := prog_10_method_2_code
theorem dX8_take_0 : decode cX8_take 0 = .ok (.aload_n 0, 1) := by decide +kernel
theorem dX8_take_1 : decode cX8_take 1 = .ok (.getfield 10, 3) := by decide +kernel
theorem dX8_take_4 : decode cX8_take 4 = .ok (.aload_n 1, 1) := by decide +kernel
theorem dX8_take_5 : decode cX8_take 5 = .ok (.getfield 10, 3) := by decide +kernel
theorem dX8_take_8 : decode cX8_take 8 = .ok (.invokevirtual 51, 3) := by decide +kernel
theorem dX8_take_11 : decode cX8_take 11 = .ok (.aload_n 0, 1) := by decide +kernel
theorem dX8_take_12 : decode cX8_take 12 = .ok (.getfield 19, 3) := by decide +kernel
theorem dX8_take_15 : decode cX8_take 15 = .ok (.aload_n 1, 1) := by decide +kernel
theorem dX8_take_16 : decode cX8_take 16 = .ok (.getfield 19, 3) := by decide +kernel
theorem dX8_take_19 : decode cX8_take 19 = .ok (.invokevirtual 55, 3) := by decide +kernel
theorem dX8_take_22 : decode cX8_take 22 = .ok (.aload_n 0, 1) := by decide +kernel
theorem dX8_take_23 : decode cX8_take 23 = .ok (.getfield 26, 3) := by decide +kernel
theorem dX8_take_26 : decode cX8_take 26 = .ok (.aload_n 1, 1) := by decide +kernel
theorem dX8_take_27 : decode cX8_take 27 = .ok (.getfield 26, 3) := by decide +kernel
theorem dX8_take_30 : decode cX8_take 30 = .ok (.invokevirtual 58, 3) := by decide +kernel
theorem dX8_take_33 : decode cX8_take 33 = .ok (.aload_n 0, 1) := by decide +kernel
theorem dX8_take_34 : decode cX8_take 34 = .ok (.getfield 33, 3) := by decide +kernel
theorem dX8_take_37 : decode cX8_take 37 = .ok (.aload_n 1, 1) := by decide +kernel
theorem dX8_take_38 : decode cX8_take 38 = .ok (.getfield 33, 3) := by decide +kernel
theorem dX8_take_41 : decode cX8_take 41 = .ok (.invokevirtual 61, 3) := by decide +kernel
theorem dX8_take_44 : decode cX8_take 44 = .ok (.aload_n 0, 1) := by decide +kernel
theorem dX8_take_45 : decode cX8_take 45 = .ok (.getfield 40, 3) := by decide +kernel
theorem dX8_take_48 : decode cX8_take 48 = .ok (.aload_n 1, 1) := by decide +kernel
theorem dX8_take_49 : decode cX8_take 49 = .ok (.getfield 40, 3) := by decide +kernel
theorem dX8_take_52 : decode cX8_take 52 = .ok (.invokevirtual 64, 3) := by decide +kernel
theorem dX8_take_55 : decode cX8_take 55 = .ok (.aload_n 0, 1) := by decide +kernel
theorem dX8_take_56 : decode cX8_take 56 = .ok (.getfield 47, 3) := by decide +kernel
theorem dX8_take_59 : decode cX8_take 59 = .ok (.aload_n 1, 1) := by decide +kernel
theorem dX8_take_60 : decode cX8_take 60 = .ok (.getfield 47, 3) := by decide +kernel
theorem dX8_take_63 : decode cX8_take 63 = .ok (.invokevirtual 67, 3) := by decide +kernel
theorem dX8_take_66 : decode cX8_take 66 = .ok (.aload_n 0, 1) := by decide +kernel
theorem dX8_take_67 : decode cX8_take 67 = .ok (.aload_n 1, 1) := by decide +kernel
theorem dX8_take_68 : decode cX8_take 68 = .ok (.getfield 70, 3) := by decide +kernel
theorem dX8_take_71 : decode cX8_take 71 = .ok (.putfield 70, 3) := by decide +kernel
theorem dX8_take_74 : decode cX8_take 74 = .ok (.return_, 1) := by decide +kernel
theorem hd_State_take_39_1 : y_State_take_39_1.cls ≠ "java/lang/invoke/MethodHandle" ∧ y_State_take_39_1.cls ≠ "java/lang/invoke/VarHandle" ∧ (parseMethodDescriptor y_State_take_39_1.desc).map (fun d => d.parameters.length) = some 1 := by decide +kernel
def f_State_take_39_1  (M0 : Mem) : Option (Mem) :=
  (f_Land_take_40_2 M0).bind fun q1 => (f_Book_take_45_7 q1).bind fun q2 => (f_Rules_take_52_14 q2).bind fun q3 => (f_Line_take_62_24 q3).bind fun q4 => (f_Breaks_take_67_29 q4).bind fun q5 => (f_Coins_take_74_36 q5).bind fun q6 => jv_ (wI q6 39 6 (q6.1 1 6)) fun M7 => some M7
set_option maxHeartbeats 4000000 in
set_option maxRecDepth 20000 in
theorem C_State_take_39_1 {D : va_G} {ad adK adV : Nat → Nat} {cI cJ : ClassId} {l : Launch}  (M0 : Mem) (o : Mem) (h : f_State_take_39_1  M0 = some o) : Ct D ad adK adV cI cJ l y_State_take_39_1 cX8_take 2 none 3 72 [.ref (ad 39), .ref (ad 1)] M0 none o := by
  refine x_start (lv := [(0, .ref (ad 39)), (1, .ref (ad 1))]) (own := "CurrentFarms$State") rfl (by decide) (Nat.le_of_ble_eq_true rfl) rfl ?_
  intro p e s m args below meth c Q hQ B
  unfold f_State_take_39_1 at h
  refine x_aload_n (pc := 0) B 0 dX8_take_0 rfl rfl ?_
  refine x_get (T := TX8) (pc := 1) B 0 oi_39 rfl uw_8 (by decide) rfl tw_358 rfl dX8_take_1 ?_
  refine x_aload_n (pc := 4) B 1 dX8_take_4 rfl rfl ?_
  refine x_get (T := TX8) (pc := 5) B 0 oi_1 rfl uw_8 (by decide) rfl tw_358 rfl dX8_take_5 ?_
  obtain ⟨q1, hq1, h⟩ := bnd h
  refine x_callV (rest := []) (st' := []) (pc := 8) B oi_40 rfl (C_Land_take_40_2  M0 _ hq1) tw_1264 tw_1261 tw_1262 tw_1263 tw_100 hd_Land_take_40_2 ⟨Nat.le_of_ble_eq_true rfl, Nat.le_of_ble_eq_true rfl⟩ rfl rfl (Nat.le_of_ble_eq_true rfl) rfl dX8_take_8 ?_
  refine x_aload_n (pc := 11) B 0 dX8_take_11 rfl rfl ?_
  refine x_get (T := TX8) (pc := 12) B 1 oi_39 rfl uw_8 (by decide) rfl tw_363 rfl dX8_take_12 ?_
  refine x_aload_n (pc := 15) B 1 dX8_take_15 rfl rfl ?_
  refine x_get (T := TX8) (pc := 16) B 1 oi_1 rfl uw_8 (by decide) rfl tw_363 rfl dX8_take_16 ?_
  obtain ⟨q2, hq2, h⟩ := bnd h
  refine x_callV (rest := []) (st' := []) (pc := 19) B oi_45 rfl (C_Book_take_45_7  q1 _ hq2) tw_1269 tw_1266 tw_1267 tw_1268 tw_101 hd_Book_take_45_7 ⟨Nat.le_of_ble_eq_true rfl, Nat.le_of_ble_eq_true rfl⟩ rfl rfl (Nat.le_of_ble_eq_true rfl) rfl dX8_take_19 ?_
  refine x_aload_n (pc := 22) B 0 dX8_take_22 rfl rfl ?_
  refine x_get (T := TX8) (pc := 23) B 2 oi_39 rfl uw_8 (by decide) rfl tw_368 rfl dX8_take_23 ?_
  refine x_aload_n (pc := 26) B 1 dX8_take_26 rfl rfl ?_
  refine x_get (T := TX8) (pc := 27) B 2 oi_1 rfl uw_8 (by decide) rfl tw_368 rfl dX8_take_27 ?_
  obtain ⟨q3, hq3, h⟩ := bnd h
  refine x_callV (rest := []) (st' := []) (pc := 30) B oi_52 rfl (C_Rules_take_52_14  q2 _ hq3) tw_1274 tw_1271 tw_1272 tw_1273 tw_102 hd_Rules_take_52_14 ⟨Nat.le_of_ble_eq_true rfl, Nat.le_of_ble_eq_true rfl⟩ rfl rfl (Nat.le_of_ble_eq_true rfl) rfl dX8_take_30 ?_
  refine x_aload_n (pc := 33) B 0 dX8_take_33 rfl rfl ?_
  refine x_get (T := TX8) (pc := 34) B 3 oi_39 rfl uw_8 (by decide) rfl tw_371 rfl dX8_take_34 ?_
  refine x_aload_n (pc := 37) B 1 dX8_take_37 rfl rfl ?_
  refine x_get (T := TX8) (pc := 38) B 3 oi_1 rfl uw_8 (by decide) rfl tw_371 rfl dX8_take_38 ?_
  obtain ⟨q4, hq4, h⟩ := bnd h
  refine x_callV (rest := []) (st' := []) (pc := 41) B oi_62 rfl (C_Line_take_62_24  q3 _ hq4) tw_1242 tw_1276 tw_1240 tw_1241 tw_103 hd_Line_take_62_24 ⟨Nat.le_of_ble_eq_true rfl, Nat.le_of_ble_eq_true rfl⟩ rfl rfl (Nat.le_of_ble_eq_true rfl) rfl dX8_take_41 ?_
  refine x_aload_n (pc := 44) B 0 dX8_take_44 rfl rfl ?_
  refine x_get (T := TX8) (pc := 45) B 4 oi_39 rfl uw_8 (by decide) rfl tw_376 rfl dX8_take_45 ?_
  refine x_aload_n (pc := 48) B 1 dX8_take_48 rfl rfl ?_
  refine x_get (T := TX8) (pc := 49) B 4 oi_1 rfl uw_8 (by decide) rfl tw_376 rfl dX8_take_49 ?_
  obtain ⟨q5, hq5, h⟩ := bnd h
  refine x_callV (rest := []) (st' := []) (pc := 52) B oi_67 rfl (C_Breaks_take_67_29  q4 _ hq5) tw_1280 tw_1277 tw_1278 tw_1279 tw_105 hd_Breaks_take_67_29 ⟨Nat.le_of_ble_eq_true rfl, Nat.le_of_ble_eq_true rfl⟩ rfl rfl (Nat.le_of_ble_eq_true rfl) rfl dX8_take_52 ?_
  refine x_aload_n (pc := 55) B 0 dX8_take_55 rfl rfl ?_
  refine x_get (T := TX8) (pc := 56) B 5 oi_39 rfl uw_8 (by decide) rfl tw_378 rfl dX8_take_56 ?_
  refine x_aload_n (pc := 59) B 1 dX8_take_59 rfl rfl ?_
  refine x_get (T := TX8) (pc := 60) B 5 oi_1 rfl uw_8 (by decide) rfl tw_378 rfl dX8_take_60 ?_
  obtain ⟨q6, hq6, h⟩ := bnd h
  refine x_callV (rest := []) (st' := []) (pc := 63) B oi_74 rfl (C_Coins_take_74_36  q5 _ hq6) tw_1284 tw_1281 tw_1282 tw_1283 tw_106 hd_Coins_take_74_36 ⟨Nat.le_of_ble_eq_true rfl, Nat.le_of_ble_eq_true rfl⟩ rfl rfl (Nat.le_of_ble_eq_true rfl) rfl dX8_take_63 ?_
  refine x_aload_n (pc := 66) B 0 dX8_take_66 rfl rfl ?_
  refine x_aload_n (pc := 67) B 1 dX8_take_67 rfl rfl ?_
  refine x_get (T := TX8) (pc := 68) B 6 oi_1 rfl uw_8 (by decide) rfl tw_382 rfl dX8_take_68 ?_
  refine x_put (T := TX8) (pc := 71) B 6 oi_39 of_39_6 rfl uw_8 tyX8_ok nmX8 (by decide) rfl tw_382 rfl rfl rfl (Nat.le_of_ble_eq_true rfl) dX8_take_71 ?_
  refine jv_m (P := fun M7 => XX D ad cI cJ p l e (Rm 3 72) s m args below meth c Q 2 M7 74 [(0, .ref (ad 39)), (1, .ref (ad 1))] []) h (fun M7 h => ?_)
  obtain rfl := Option.some.inj h
  exact x_vret (pc := 74) B hQ dX8_take_74
-- CurrentFarms.image()I [0]
abbrev y_CF_image_0 : MethodName := ⟨"CurrentFarms", "image", "()I"⟩
abbrev cX11_image : ByteArray := prog_1_method_40_code
theorem dX11_image_0 : decode cX11_image 0 = .ok (.aload_n 0, 1) := by decide +kernel
theorem dX11_image_1 : decode cX11_image 1 = .ok (.getfield 16, 3) := by decide +kernel
theorem dX11_image_4 : decode cX11_image 4 = .ok (.aload_n 0, 1) := by decide +kernel
theorem dX11_image_5 : decode cX11_image 5 = .ok (.getfield 12, 3) := by decide +kernel
theorem dX11_image_8 : decode cX11_image 8 = .ok (.invokevirtual 353, 3) := by decide +kernel
theorem dX11_image_11 : decode cX11_image 11 = .ok (.aload_n 0, 1) := by decide +kernel
theorem dX11_image_12 : decode cX11_image 12 = .ok (.iconst 1, 1) := by decide +kernel
theorem dX11_image_13 : decode cX11_image 13 = .ok (.putfield 356, 3) := by decide +kernel
theorem dX11_image_16 : decode cX11_image 16 = .ok (.aload_n 0, 1) := by decide +kernel
theorem dX11_image_17 : decode cX11_image 17 = .ok (.getfield 12, 3) := by decide +kernel
theorem dX11_image_20 : decode cX11_image 20 = .ok (.getfield 123, 3) := by decide +kernel
theorem dX11_image_23 : decode cX11_image 23 = .ok (.ireturn, 1) := by decide +kernel
theorem hd_CF_image_0 : y_CF_image_0.cls ≠ "java/lang/invoke/MethodHandle" ∧ y_CF_image_0.cls ≠ "java/lang/invoke/VarHandle" ∧ (parseMethodDescriptor y_CF_image_0.desc).map (fun d => d.parameters.length) = some 0 := by decide +kernel
def f_CF_image_0  (M0 : Mem) : Option (Int32 × Mem) :=
  (f_State_take_39_1 M0).bind fun q1 => jv_ (wI q1 0 2 1) fun M2 => some (M2.1 1 6, M2)
set_option maxHeartbeats 4000000 in
set_option maxRecDepth 20000 in
theorem C_CF_image_0 {D : va_G} {ad adK adV : Nat → Nat} {cI cJ : ClassId} {l : Launch}  (M0 : Mem) (o : Int32 × Mem) (h : f_CF_image_0  M0 = some o) : Ct D ad adK adV cI cJ l y_CF_image_0 cX11_image 1 (some .int) 4 93 [.ref (ad 0)] M0 (some (.int o.1)) o.2 := by
  refine x_start (lv := [(0, .ref (ad 0))]) (own := "CurrentFarms") rfl (by decide) (Nat.le_of_ble_eq_true rfl) rfl ?_
  intro p e s m args below meth c Q hQ B
  unfold f_CF_image_0 at h
  refine x_aload_n (pc := 0) B 0 dX11_image_0 rfl rfl ?_
  refine x_get (T := TX11) (pc := 1) B 1 oi_0 rfl uw_11 (by decide) rfl tw_526 rfl dX11_image_1 ?_
  refine x_aload_n (pc := 4) B 0 dX11_image_4 rfl rfl ?_
  refine x_get (T := TX11) (pc := 5) B 0 oi_0 rfl uw_11 (by decide) rfl tw_525 rfl dX11_image_5 ?_
  obtain ⟨q1, hq1, h⟩ := bnd h
  refine x_callV (rest := []) (st' := []) (pc := 8) B oi_39 rfl (C_State_take_39_1  M0 _ hq1) tw_1260 tw_1257 tw_1258 tw_1259 tw_99 hd_State_take_39_1 ⟨Nat.le_of_ble_eq_true rfl, Nat.le_of_ble_eq_true rfl⟩ rfl rfl (Nat.le_of_ble_eq_true rfl) rfl dX11_image_8 ?_
  refine x_aload_n (pc := 11) B 0 dX11_image_11 rfl rfl ?_
  refine x_iconst (v := 1) (pc := 12) B dX11_image_12 rfl ?_
  refine x_put (T := TX11) (pc := 13) B 2 oi_0 of_0_2 rfl uw_11 tyX11_ok nmX11 (by decide) rfl tw_527 rfl rfl rfl (Nat.le_of_ble_eq_true rfl) dX11_image_13 ?_
  refine jv_m (P := fun M2 => XX D ad cI cJ p l e (Rm 4 93) s m args below meth c Q 1 M2 16 [(0, .ref (ad 0))] []) h (fun M2 h => ?_)
  refine x_aload_n (pc := 16) B 0 dX11_image_16 rfl rfl ?_
  refine x_get (T := TX11) (pc := 17) B 0 oi_0 rfl uw_11 (by decide) rfl tw_525 rfl dX11_image_17 ?_
  refine x_get (T := TX8) (pc := 20) B 6 oi_1 rfl uw_8 (by decide) rfl tw_384 rfl dX11_image_20 ?_
  obtain rfl := Option.some.inj h
  exact x_iret (pc := 23) B hQ dX11_image_23
-- CurrentFarms$Land.take(LCurrentFarms$Land;)V [2, 40]
abbrev y_Land_take_2_40 : MethodName := ⟨"CurrentFarms$Land", "take", "(LCurrentFarms$Land;)V"⟩
theorem hd_Land_take_2_40 : y_Land_take_2_40.cls ≠ "java/lang/invoke/MethodHandle" ∧ y_Land_take_2_40.cls ≠ "java/lang/invoke/VarHandle" ∧ (parseMethodDescriptor y_Land_take_2_40.desc).map (fun d => d.parameters.length) = some 1 := by decide +kernel
def f_Land_take_2_40  (M0 : Mem) : Option (Mem) :=
  jv_ (wR M0 3 (cpyv (M0.1 41) (M0.1 3) 48 48)) fun M1 => jv_ (wR M1 4 (cpyv (M1.1 42) (M1.1 4) 48 48)) fun M2 => jv_ (wR M2 5 (cpyv (M2.1 43) (M2.1 5) 10 10)) fun M3 => jv_ (wR M3 6 (cpyv (M3.1 44) (M3.1 6) 10 10)) fun M4 => jv_ (wI M4 2 4 (M4.1 40 4)) fun M5 => jv_ (wI M5 2 5 (M5.1 40 5)) fun M6 => some M6
set_option maxHeartbeats 4000000 in
set_option maxRecDepth 20000 in
theorem C_Land_take_2_40 {D : va_G} {ad adK adV : Nat → Nat} {cI cJ : ClassId} {l : Launch}  (M0 : Mem) (o : Mem) (h : f_Land_take_2_40  M0 = some o) : Ct D ad adK adV cI cJ l y_Land_take_2_40 cX4_take 2 none 2 51 [.ref (ad 2), .ref (ad 40)] M0 none o := by
  refine x_start (lv := [(0, .ref (ad 2)), (1, .ref (ad 40))]) (own := "CurrentFarms$Land") rfl (by decide) (Nat.le_of_ble_eq_true rfl) rfl ?_
  intro p e s m args below meth c Q hQ B
  unfold f_Land_take_2_40 at h
  refine x_aload_n (pc := 0) B 1 dX4_take_0 rfl rfl ?_
  refine x_get (T := TX4) (pc := 1) B 0 oi_40 rfl uw_4 (by decide) rfl tw_139 rfl dX4_take_1 ?_
  refine x_aload_n (pc := 4) B 0 dX4_take_4 rfl rfl ?_
  refine x_get (T := TX4) (pc := 5) B 0 oi_2 rfl uw_4 (by decide) rfl tw_139 rfl dX4_take_5 ?_
  refine x_callSN (rest := []) (st' := []) (pc := 8) B (T_CF_copy 41 48 3 48 ai_41 ai_3 (by decide) (by decide) M0) tw_1204 tw_1265 tw_1203 tw_98 hd_CF_copy ⟨Nat.le_of_ble_eq_true rfl, Nat.le_of_ble_eq_true rfl⟩ rfl rfl (Nat.le_of_ble_eq_true rfl) rfl dX4_take_8 ?_
  refine jv_m (P := fun M1 => XX D ad cI cJ p l e (Rm 2 51) s m args below meth c Q 2 M1 11 [(0, .ref (ad 2)), (1, .ref (ad 40))] []) h (fun M1 h => ?_)
  refine x_aload_n (pc := 11) B 1 dX4_take_11 rfl rfl ?_
  refine x_get (T := TX4) (pc := 12) B 1 oi_40 rfl uw_4 (by decide) rfl tw_142 rfl dX4_take_12 ?_
  refine x_aload_n (pc := 15) B 0 dX4_take_15 rfl rfl ?_
  refine x_get (T := TX4) (pc := 16) B 1 oi_2 rfl uw_4 (by decide) rfl tw_142 rfl dX4_take_16 ?_
  refine x_callSN (rest := []) (st' := []) (pc := 19) B (T_CF_copy 42 48 4 48 ai_42 ai_4 (by decide) (by decide) M1) tw_1204 tw_1265 tw_1203 tw_98 hd_CF_copy ⟨Nat.le_of_ble_eq_true rfl, Nat.le_of_ble_eq_true rfl⟩ rfl rfl (Nat.le_of_ble_eq_true rfl) rfl dX4_take_19 ?_
  refine jv_m (P := fun M2 => XX D ad cI cJ p l e (Rm 2 51) s m args below meth c Q 2 M2 22 [(0, .ref (ad 2)), (1, .ref (ad 40))] []) h (fun M2 h => ?_)
  refine x_aload_n (pc := 22) B 1 dX4_take_22 rfl rfl ?_
  refine x_get (T := TX4) (pc := 23) B 2 oi_40 rfl uw_4 (by decide) rfl tw_144 rfl dX4_take_23 ?_
  refine x_aload_n (pc := 26) B 0 dX4_take_26 rfl rfl ?_
  refine x_get (T := TX4) (pc := 27) B 2 oi_2 rfl uw_4 (by decide) rfl tw_144 rfl dX4_take_27 ?_
  refine x_callSN (rest := []) (st' := []) (pc := 30) B (T_CF_copy 43 10 5 10 ai_43 ai_5 (by decide) (by decide) M2) tw_1204 tw_1265 tw_1203 tw_98 hd_CF_copy ⟨Nat.le_of_ble_eq_true rfl, Nat.le_of_ble_eq_true rfl⟩ rfl rfl (Nat.le_of_ble_eq_true rfl) rfl dX4_take_30 ?_
  refine jv_m (P := fun M3 => XX D ad cI cJ p l e (Rm 2 51) s m args below meth c Q 2 M3 33 [(0, .ref (ad 2)), (1, .ref (ad 40))] []) h (fun M3 h => ?_)
  refine x_aload_n (pc := 33) B 1 dX4_take_33 rfl rfl ?_
  refine x_get (T := TX4) (pc := 34) B 3 oi_40 rfl uw_4 (by decide) rfl tw_145 rfl dX4_take_34 ?_
  refine x_aload_n (pc := 37) B 0 dX4_take_37 rfl rfl ?_
  refine x_get (T := TX4) (pc := 38) B 3 oi_2 rfl uw_4 (by decide) rfl tw_145 rfl dX4_take_38 ?_
  refine x_callSN (rest := []) (st' := []) (pc := 41) B (T_CF_copy 44 10 6 10 ai_44 ai_6 (by decide) (by decide) M3) tw_1204 tw_1265 tw_1203 tw_98 hd_CF_copy ⟨Nat.le_of_ble_eq_true rfl, Nat.le_of_ble_eq_true rfl⟩ rfl rfl (Nat.le_of_ble_eq_true rfl) rfl dX4_take_41 ?_
  refine jv_m (P := fun M4 => XX D ad cI cJ p l e (Rm 2 51) s m args below meth c Q 2 M4 44 [(0, .ref (ad 2)), (1, .ref (ad 40))] []) h (fun M4 h => ?_)
  refine x_aload_n (pc := 44) B 0 dX4_take_44 rfl rfl ?_
  refine x_aload_n (pc := 45) B 1 dX4_take_45 rfl rfl ?_
  refine x_get (T := TX4) (pc := 46) B 4 oi_40 rfl uw_4 (by decide) rfl tw_149 rfl dX4_take_46 ?_
  refine x_put (T := TX4) (pc := 49) B 4 oi_2 of_2_4 rfl uw_4 tyX4_ok nmX4 (by decide) rfl tw_149 rfl rfl rfl (Nat.le_of_ble_eq_true rfl) dX4_take_49 ?_
  refine jv_m (P := fun M5 => XX D ad cI cJ p l e (Rm 2 51) s m args below meth c Q 2 M5 52 [(0, .ref (ad 2)), (1, .ref (ad 40))] []) h (fun M5 h => ?_)
  refine x_aload_n (pc := 52) B 0 dX4_take_52 rfl rfl ?_
  refine x_aload_n (pc := 53) B 1 dX4_take_53 rfl rfl ?_
  refine x_get (T := TX4) (pc := 54) B 5 oi_40 rfl uw_4 (by decide) rfl tw_152 rfl dX4_take_54 ?_
  refine x_put (T := TX4) (pc := 57) B 5 oi_2 of_2_5 rfl uw_4 tyX4_ok nmX4 (by decide) rfl tw_152 rfl rfl rfl (Nat.le_of_ble_eq_true rfl) dX4_take_57 ?_
  refine jv_m (P := fun M6 => XX D ad cI cJ p l e (Rm 2 51) s m args below meth c Q 2 M6 60 [(0, .ref (ad 2)), (1, .ref (ad 40))] []) h (fun M6 h => ?_)
  obtain rfl := Option.some.inj h
  exact x_vret (pc := 60) B hQ dX4_take_60
-- CurrentFarms$Book.take(LCurrentFarms$Book;)V [7, 45]
abbrev y_Book_take_7_45 : MethodName := ⟨"CurrentFarms$Book", "take", "(LCurrentFarms$Book;)V"⟩
theorem hd_Book_take_7_45 : y_Book_take_7_45.cls ≠ "java/lang/invoke/MethodHandle" ∧ y_Book_take_7_45.cls ≠ "java/lang/invoke/VarHandle" ∧ (parseMethodDescriptor y_Book_take_7_45.desc).map (fun d => d.parameters.length) = some 1 := by decide +kernel
def f_Book_take_7_45  (M0 : Mem) : Option (Mem) :=
  jv_ (wR M0 8 (cpyv (M0.1 46) (M0.1 8) 120 120)) fun M1 => jv_ (wR M1 9 (cpyv (M1.1 47) (M1.1 9) 120 120)) fun M2 => jv_ (wR M2 10 (cpyv (M2.1 48) (M2.1 10) 120 120)) fun M3 => jv_ (wR M3 11 (cpyv (M3.1 49) (M3.1 11) 120 120)) fun M4 => jv_ (wR M4 12 (cpyv (M4.1 50) (M4.1 12) 120 120)) fun M5 => jv_ (wI M5 7 5 (M5.1 45 5)) fun M6 => some M6
set_option maxHeartbeats 4000000 in
set_option maxRecDepth 20000 in
theorem C_Book_take_7_45 {D : va_G} {ad adK adV : Nat → Nat} {cI cJ : ClassId} {l : Launch}  (M0 : Mem) (o : Mem) (h : f_Book_take_7_45  M0 = some o) : Ct D ad adK adV cI cJ l y_Book_take_7_45 cX1_take 2 none 2 51 [.ref (ad 7), .ref (ad 45)] M0 none o := by
  refine x_start (lv := [(0, .ref (ad 7)), (1, .ref (ad 45))]) (own := "CurrentFarms$Book") rfl (by decide) (Nat.le_of_ble_eq_true rfl) rfl ?_
  intro p e s m args below meth c Q hQ B
  unfold f_Book_take_7_45 at h
  refine x_aload_n (pc := 0) B 1 dX1_take_0 rfl rfl ?_
  refine x_get (T := TX1) (pc := 1) B 0 oi_45 rfl uw_1 (by decide) rfl tw_175 rfl dX1_take_1 ?_
  refine x_aload_n (pc := 4) B 0 dX1_take_4 rfl rfl ?_
  refine x_get (T := TX1) (pc := 5) B 0 oi_7 rfl uw_1 (by decide) rfl tw_175 rfl dX1_take_5 ?_
  refine x_callSN (rest := []) (st' := []) (pc := 8) B (T_CF_copy 46 120 8 120 ai_46 ai_8 (by decide) (by decide) M0) tw_1204 tw_1270 tw_1203 tw_98 hd_CF_copy ⟨Nat.le_of_ble_eq_true rfl, Nat.le_of_ble_eq_true rfl⟩ rfl rfl (Nat.le_of_ble_eq_true rfl) rfl dX1_take_8 ?_
  refine jv_m (P := fun M1 => XX D ad cI cJ p l e (Rm 2 51) s m args below meth c Q 2 M1 11 [(0, .ref (ad 7)), (1, .ref (ad 45))] []) h (fun M1 h => ?_)
  refine x_aload_n (pc := 11) B 1 dX1_take_11 rfl rfl ?_
  refine x_get (T := TX1) (pc := 12) B 1 oi_45 rfl uw_1 (by decide) rfl tw_176 rfl dX1_take_12 ?_
  refine x_aload_n (pc := 15) B 0 dX1_take_15 rfl rfl ?_
  refine x_get (T := TX1) (pc := 16) B 1 oi_7 rfl uw_1 (by decide) rfl tw_176 rfl dX1_take_16 ?_
  refine x_callSN (rest := []) (st' := []) (pc := 19) B (T_CF_copy 47 120 9 120 ai_47 ai_9 (by decide) (by decide) M1) tw_1204 tw_1270 tw_1203 tw_98 hd_CF_copy ⟨Nat.le_of_ble_eq_true rfl, Nat.le_of_ble_eq_true rfl⟩ rfl rfl (Nat.le_of_ble_eq_true rfl) rfl dX1_take_19 ?_
  refine jv_m (P := fun M2 => XX D ad cI cJ p l e (Rm 2 51) s m args below meth c Q 2 M2 22 [(0, .ref (ad 7)), (1, .ref (ad 45))] []) h (fun M2 h => ?_)
  refine x_aload_n (pc := 22) B 1 dX1_take_22 rfl rfl ?_
  refine x_get (T := TX1) (pc := 23) B 2 oi_45 rfl uw_1 (by decide) rfl tw_177 rfl dX1_take_23 ?_
  refine x_aload_n (pc := 26) B 0 dX1_take_26 rfl rfl ?_
  refine x_get (T := TX1) (pc := 27) B 2 oi_7 rfl uw_1 (by decide) rfl tw_177 rfl dX1_take_27 ?_
  refine x_callSN (rest := []) (st' := []) (pc := 30) B (T_CF_copy 48 120 10 120 ai_48 ai_10 (by decide) (by decide) M2) tw_1204 tw_1270 tw_1203 tw_98 hd_CF_copy ⟨Nat.le_of_ble_eq_true rfl, Nat.le_of_ble_eq_true rfl⟩ rfl rfl (Nat.le_of_ble_eq_true rfl) rfl dX1_take_30 ?_
  refine jv_m (P := fun M3 => XX D ad cI cJ p l e (Rm 2 51) s m args below meth c Q 2 M3 33 [(0, .ref (ad 7)), (1, .ref (ad 45))] []) h (fun M3 h => ?_)
  refine x_aload_n (pc := 33) B 1 dX1_take_33 rfl rfl ?_
  refine x_get (T := TX1) (pc := 34) B 3 oi_45 rfl uw_1 (by decide) rfl tw_178 rfl dX1_take_34 ?_
  refine x_aload_n (pc := 37) B 0 dX1_take_37 rfl rfl ?_
  refine x_get (T := TX1) (pc := 38) B 3 oi_7 rfl uw_1 (by decide) rfl tw_178 rfl dX1_take_38 ?_
  refine x_callSN (rest := []) (st' := []) (pc := 41) B (T_CF_copy 49 120 11 120 ai_49 ai_11 (by decide) (by decide) M3) tw_1204 tw_1270 tw_1203 tw_98 hd_CF_copy ⟨Nat.le_of_ble_eq_true rfl, Nat.le_of_ble_eq_true rfl⟩ rfl rfl (Nat.le_of_ble_eq_true rfl) rfl dX1_take_41 ?_
  refine jv_m (P := fun M4 => XX D ad cI cJ p l e (Rm 2 51) s m args below meth c Q 2 M4 44 [(0, .ref (ad 7)), (1, .ref (ad 45))] []) h (fun M4 h => ?_)
  refine x_aload_n (pc := 44) B 1 dX1_take_44 rfl rfl ?_
  refine x_get (T := TX1) (pc := 45) B 4 oi_45 rfl uw_1 (by decide) rfl tw_179 rfl dX1_take_45 ?_
  refine x_aload_n (pc := 48) B 0 dX1_take_48 rfl rfl ?_
  refine x_get (T := TX1) (pc := 49) B 4 oi_7 rfl uw_1 (by decide) rfl tw_179 rfl dX1_take_49 ?_
  refine x_callSN (rest := []) (st' := []) (pc := 52) B (T_CF_copy 50 120 12 120 ai_50 ai_12 (by decide) (by decide) M4) tw_1204 tw_1270 tw_1203 tw_98 hd_CF_copy ⟨Nat.le_of_ble_eq_true rfl, Nat.le_of_ble_eq_true rfl⟩ rfl rfl (Nat.le_of_ble_eq_true rfl) rfl dX1_take_52 ?_
  refine jv_m (P := fun M5 => XX D ad cI cJ p l e (Rm 2 51) s m args below meth c Q 2 M5 55 [(0, .ref (ad 7)), (1, .ref (ad 45))] []) h (fun M5 h => ?_)
  refine x_aload_n (pc := 55) B 0 dX1_take_55 rfl rfl ?_
  refine x_aload_n (pc := 56) B 1 dX1_take_56 rfl rfl ?_
  refine x_get (T := TX1) (pc := 57) B 5 oi_45 rfl uw_1 (by decide) rfl tw_180 rfl dX1_take_57 ?_
  refine x_put (T := TX1) (pc := 60) B 5 oi_7 of_7_5 rfl uw_1 tyX1_ok nmX1 (by decide) rfl tw_180 rfl rfl rfl (Nat.le_of_ble_eq_true rfl) dX1_take_60 ?_
  refine jv_m (P := fun M6 => XX D ad cI cJ p l e (Rm 2 51) s m args below meth c Q 2 M6 63 [(0, .ref (ad 7)), (1, .ref (ad 45))] []) h (fun M6 h => ?_)
  obtain rfl := Option.some.inj h
  exact x_vret (pc := 63) B hQ dX1_take_63
-- CurrentFarms$Rules.take(LCurrentFarms$Rules;)V [14, 52]
abbrev y_Rules_take_14_52 : MethodName := ⟨"CurrentFarms$Rules", "take", "(LCurrentFarms$Rules;)V"⟩
theorem hd_Rules_take_14_52 : y_Rules_take_14_52.cls ≠ "java/lang/invoke/MethodHandle" ∧ y_Rules_take_14_52.cls ≠ "java/lang/invoke/VarHandle" ∧ (parseMethodDescriptor y_Rules_take_14_52.desc).map (fun d => d.parameters.length) = some 1 := by decide +kernel
def f_Rules_take_14_52  (M0 : Mem) : Option (Mem) :=
  jv_ (wR M0 15 (cpyv (M0.1 53) (M0.1 15) 120 120)) fun M1 => jv_ (wR M1 16 (cpyv (M1.1 54) (M1.1 16) 1080 1080)) fun M2 => jv_ (wR M2 17 (cpyv (M2.1 55) (M2.1 17) 9 9)) fun M3 => jv_ (wR M3 18 (cpyv (M3.1 56) (M3.1 18) 9 9)) fun M4 => jv_ (wR M4 19 (cpyv (M4.1 57) (M4.1 19) 72 72)) fun M5 => jv_ (wR M5 20 (cpyv (M5.1 58) (M5.1 20) 72 72)) fun M6 => jv_ (wR M6 21 (cpyv (M6.1 59) (M6.1 21) 72 72)) fun M7 => jv_ (wR M7 22 (cpyv (M7.1 60) (M7.1 22) 72 72)) fun M8 => jv_ (wI M8 14 1 (M8.1 52 1)) fun M9 => jv_ (wI M9 14 9 (M9.1 52 9)) fun M10 => some M10
set_option maxHeartbeats 4000000 in
set_option maxRecDepth 20000 in
theorem C_Rules_take_14_52 {D : va_G} {ad adK adV : Nat → Nat} {cI cJ : ClassId} {l : Launch}  (M0 : Mem) (o : Mem) (h : f_Rules_take_14_52  M0 = some o) : Ct D ad adK adV cI cJ l y_Rules_take_14_52 cX7_take 2 none 2 51 [.ref (ad 14), .ref (ad 52)] M0 none o := by
  refine x_start (lv := [(0, .ref (ad 14)), (1, .ref (ad 52))]) (own := "CurrentFarms$Rules") rfl (by decide) (Nat.le_of_ble_eq_true rfl) rfl ?_
  intro p e s m args below meth c Q hQ B
  unfold f_Rules_take_14_52 at h
  refine x_aload_n (pc := 0) B 1 dX7_take_0 rfl rfl ?_
  refine x_get (T := TX7) (pc := 1) B 0 oi_52 rfl uw_7 (by decide) rfl tw_204 rfl dX7_take_1 ?_
  refine x_aload_n (pc := 4) B 0 dX7_take_4 rfl rfl ?_
  refine x_get (T := TX7) (pc := 5) B 0 oi_14 rfl uw_7 (by decide) rfl tw_204 rfl dX7_take_5 ?_
  refine x_callSN (rest := []) (st' := []) (pc := 8) B (T_CF_copy 53 120 15 120 ai_53 ai_15 (by decide) (by decide) M0) tw_1204 tw_1275 tw_1203 tw_98 hd_CF_copy ⟨Nat.le_of_ble_eq_true rfl, Nat.le_of_ble_eq_true rfl⟩ rfl rfl (Nat.le_of_ble_eq_true rfl) rfl dX7_take_8 ?_
  refine jv_m (P := fun M1 => XX D ad cI cJ p l e (Rm 2 51) s m args below meth c Q 2 M1 11 [(0, .ref (ad 14)), (1, .ref (ad 52))] []) h (fun M1 h => ?_)
  refine x_aload_n (pc := 11) B 1 dX7_take_11 rfl rfl ?_
  refine x_get (T := TX7) (pc := 12) B 2 oi_52 rfl uw_7 (by decide) rfl tw_209 rfl dX7_take_12 ?_
  refine x_aload_n (pc := 15) B 0 dX7_take_15 rfl rfl ?_
  refine x_get (T := TX7) (pc := 16) B 2 oi_14 rfl uw_7 (by decide) rfl tw_209 rfl dX7_take_16 ?_
  refine x_callSN (rest := []) (st' := []) (pc := 19) B (T_CF_copy 54 1080 16 1080 ai_54 ai_16 (by decide) (by decide) M1) tw_1204 tw_1275 tw_1203 tw_98 hd_CF_copy ⟨Nat.le_of_ble_eq_true rfl, Nat.le_of_ble_eq_true rfl⟩ rfl rfl (Nat.le_of_ble_eq_true rfl) rfl dX7_take_19 ?_
  refine jv_m (P := fun M2 => XX D ad cI cJ p l e (Rm 2 51) s m args below meth c Q 2 M2 22 [(0, .ref (ad 14)), (1, .ref (ad 52))] []) h (fun M2 h => ?_)
  refine x_aload_n (pc := 22) B 1 dX7_take_22 rfl rfl ?_
  refine x_get (T := TX7) (pc := 23) B 3 oi_52 rfl uw_7 (by decide) rfl tw_211 rfl dX7_take_23 ?_
  refine x_aload_n (pc := 26) B 0 dX7_take_26 rfl rfl ?_
  refine x_get (T := TX7) (pc := 27) B 3 oi_14 rfl uw_7 (by decide) rfl tw_211 rfl dX7_take_27 ?_
  refine x_callSN (rest := []) (st' := []) (pc := 30) B (T_CF_copy 55 9 17 9 ai_55 ai_17 (by decide) (by decide) M2) tw_1204 tw_1275 tw_1203 tw_98 hd_CF_copy ⟨Nat.le_of_ble_eq_true rfl, Nat.le_of_ble_eq_true rfl⟩ rfl rfl (Nat.le_of_ble_eq_true rfl) rfl dX7_take_30 ?_
  refine jv_m (P := fun M3 => XX D ad cI cJ p l e (Rm 2 51) s m args below meth c Q 2 M3 33 [(0, .ref (ad 14)), (1, .ref (ad 52))] []) h (fun M3 h => ?_)
  refine x_aload_n (pc := 33) B 1 dX7_take_33 rfl rfl ?_
  refine x_get (T := TX7) (pc := 34) B 4 oi_52 rfl uw_7 (by decide) rfl tw_213 rfl dX7_take_34 ?_
  refine x_aload_n (pc := 37) B 0 dX7_take_37 rfl rfl ?_
  refine x_get (T := TX7) (pc := 38) B 4 oi_14 rfl uw_7 (by decide) rfl tw_213 rfl dX7_take_38 ?_
  refine x_callSN (rest := []) (st' := []) (pc := 41) B (T_CF_copy 56 9 18 9 ai_56 ai_18 (by decide) (by decide) M3) tw_1204 tw_1275 tw_1203 tw_98 hd_CF_copy ⟨Nat.le_of_ble_eq_true rfl, Nat.le_of_ble_eq_true rfl⟩ rfl rfl (Nat.le_of_ble_eq_true rfl) rfl dX7_take_41 ?_
  refine jv_m (P := fun M4 => XX D ad cI cJ p l e (Rm 2 51) s m args below meth c Q 2 M4 44 [(0, .ref (ad 14)), (1, .ref (ad 52))] []) h (fun M4 h => ?_)
  refine x_aload_n (pc := 44) B 1 dX7_take_44 rfl rfl ?_
  refine x_get (T := TX7) (pc := 45) B 5 oi_52 rfl uw_7 (by decide) rfl tw_215 rfl dX7_take_45 ?_
  refine x_aload_n (pc := 48) B 0 dX7_take_48 rfl rfl ?_
  refine x_get (T := TX7) (pc := 49) B 5 oi_14 rfl uw_7 (by decide) rfl tw_215 rfl dX7_take_49 ?_
  refine x_callSN (rest := []) (st' := []) (pc := 52) B (T_CF_copy 57 72 19 72 ai_57 ai_19 (by decide) (by decide) M4) tw_1204 tw_1275 tw_1203 tw_98 hd_CF_copy ⟨Nat.le_of_ble_eq_true rfl, Nat.le_of_ble_eq_true rfl⟩ rfl rfl (Nat.le_of_ble_eq_true rfl) rfl dX7_take_52 ?_
  refine jv_m (P := fun M5 => XX D ad cI cJ p l e (Rm 2 51) s m args below meth c Q 2 M5 55 [(0, .ref (ad 14)), (1, .ref (ad 52))] []) h (fun M5 h => ?_)
  refine x_aload_n (pc := 55) B 1 dX7_take_55 rfl rfl ?_
  refine x_get (T := TX7) (pc := 56) B 6 oi_52 rfl uw_7 (by decide) rfl tw_217 rfl dX7_take_56 ?_
  refine x_aload_n (pc := 59) B 0 dX7_take_59 rfl rfl ?_
  refine x_get (T := TX7) (pc := 60) B 6 oi_14 rfl uw_7 (by decide) rfl tw_217 rfl dX7_take_60 ?_
  refine x_callSN (rest := []) (st' := []) (pc := 63) B (T_CF_copy 58 72 20 72 ai_58 ai_20 (by decide) (by decide) M5) tw_1204 tw_1275 tw_1203 tw_98 hd_CF_copy ⟨Nat.le_of_ble_eq_true rfl, Nat.le_of_ble_eq_true rfl⟩ rfl rfl (Nat.le_of_ble_eq_true rfl) rfl dX7_take_63 ?_
  refine jv_m (P := fun M6 => XX D ad cI cJ p l e (Rm 2 51) s m args below meth c Q 2 M6 66 [(0, .ref (ad 14)), (1, .ref (ad 52))] []) h (fun M6 h => ?_)
  refine x_aload_n (pc := 66) B 1 dX7_take_66 rfl rfl ?_
  refine x_get (T := TX7) (pc := 67) B 7 oi_52 rfl uw_7 (by decide) rfl tw_219 rfl dX7_take_67 ?_
  refine x_aload_n (pc := 70) B 0 dX7_take_70 rfl rfl ?_
  refine x_get (T := TX7) (pc := 71) B 7 oi_14 rfl uw_7 (by decide) rfl tw_219 rfl dX7_take_71 ?_
  refine x_callSN (rest := []) (st' := []) (pc := 74) B (T_CF_copy 59 72 21 72 ai_59 ai_21 (by decide) (by decide) M6) tw_1204 tw_1275 tw_1203 tw_98 hd_CF_copy ⟨Nat.le_of_ble_eq_true rfl, Nat.le_of_ble_eq_true rfl⟩ rfl rfl (Nat.le_of_ble_eq_true rfl) rfl dX7_take_74 ?_
  refine jv_m (P := fun M7 => XX D ad cI cJ p l e (Rm 2 51) s m args below meth c Q 2 M7 77 [(0, .ref (ad 14)), (1, .ref (ad 52))] []) h (fun M7 h => ?_)
  refine x_aload_n (pc := 77) B 1 dX7_take_77 rfl rfl ?_
  refine x_get (T := TX7) (pc := 78) B 8 oi_52 rfl uw_7 (by decide) rfl tw_221 rfl dX7_take_78 ?_
  refine x_aload_n (pc := 81) B 0 dX7_take_81 rfl rfl ?_
  refine x_get (T := TX7) (pc := 82) B 8 oi_14 rfl uw_7 (by decide) rfl tw_221 rfl dX7_take_82 ?_
  refine x_callSN (rest := []) (st' := []) (pc := 85) B (T_CF_copy 60 72 22 72 ai_60 ai_22 (by decide) (by decide) M7) tw_1204 tw_1275 tw_1203 tw_98 hd_CF_copy ⟨Nat.le_of_ble_eq_true rfl, Nat.le_of_ble_eq_true rfl⟩ rfl rfl (Nat.le_of_ble_eq_true rfl) rfl dX7_take_85 ?_
  refine jv_m (P := fun M8 => XX D ad cI cJ p l e (Rm 2 51) s m args below meth c Q 2 M8 88 [(0, .ref (ad 14)), (1, .ref (ad 52))] []) h (fun M8 h => ?_)
  refine x_aload_n (pc := 88) B 0 dX7_take_88 rfl rfl ?_
  refine x_aload_n (pc := 89) B 1 dX7_take_89 rfl rfl ?_
  refine x_get (T := TX7) (pc := 90) B 1 oi_52 rfl uw_7 (by decide) rfl tw_206 rfl dX7_take_90 ?_
  refine x_put (T := TX7) (pc := 93) B 1 oi_14 of_14_1 rfl uw_7 tyX7_ok nmX7 (by decide) rfl tw_206 rfl rfl rfl (Nat.le_of_ble_eq_true rfl) dX7_take_93 ?_
  refine jv_m (P := fun M9 => XX D ad cI cJ p l e (Rm 2 51) s m args below meth c Q 2 M9 96 [(0, .ref (ad 14)), (1, .ref (ad 52))] []) h (fun M9 h => ?_)
  refine x_aload_n (pc := 96) B 0 dX7_take_96 rfl rfl ?_
  refine x_aload_n (pc := 97) B 1 dX7_take_97 rfl rfl ?_
  refine x_get (T := TX7) (pc := 98) B 9 oi_52 rfl uw_7 (by decide) rfl tw_224 rfl dX7_take_98 ?_
  refine x_put (T := TX7) (pc := 101) B 9 oi_14 of_14_9 rfl uw_7 tyX7_ok nmX7 (by decide) rfl tw_224 rfl rfl rfl (Nat.le_of_ble_eq_true rfl) dX7_take_101 ?_
  refine jv_m (P := fun M10 => XX D ad cI cJ p l e (Rm 2 51) s m args below meth c Q 2 M10 104 [(0, .ref (ad 14)), (1, .ref (ad 52))] []) h (fun M10 h => ?_)
  obtain rfl := Option.some.inj h
  exact x_vret (pc := 104) B hQ dX7_take_104
-- CurrentFarms$Line.take(LCurrentFarms$Line;)V [24, 62]
abbrev y_Line_take_24_62 : MethodName := ⟨"CurrentFarms$Line", "take", "(LCurrentFarms$Line;)V"⟩
theorem hd_Line_take_24_62 : y_Line_take_24_62.cls ≠ "java/lang/invoke/MethodHandle" ∧ y_Line_take_24_62.cls ≠ "java/lang/invoke/VarHandle" ∧ (parseMethodDescriptor y_Line_take_24_62.desc).map (fun d => d.parameters.length) = some 1 := by decide +kernel
def f_Line_take_24_62  (M0 : Mem) : Option (Mem) :=
  jv_ (wR M0 25 (cpyv (M0.1 63) (M0.1 25) 48 48)) fun M1 => jv_ (wR M1 26 (cpyv (M1.1 64) (M1.1 26) 48 48)) fun M2 => jv_ (wI M2 24 2 (M2.1 62 2)) fun M3 => jv_ (wI M3 24 3 (M3.1 62 3)) fun M4 => jv_ (wI M4 24 4 (M4.1 62 4)) fun M5 => some M5
set_option maxHeartbeats 4000000 in
set_option maxRecDepth 20000 in
theorem C_Line_take_24_62 {D : va_G} {ad adK adV : Nat → Nat} {cI cJ : ClassId} {l : Launch}  (M0 : Mem) (o : Mem) (h : f_Line_take_24_62  M0 = some o) : Ct D ad adK adV cI cJ l y_Line_take_24_62 cX5_take 2 none 2 51 [.ref (ad 24), .ref (ad 62)] M0 none o := by
  refine x_start (lv := [(0, .ref (ad 24)), (1, .ref (ad 62))]) (own := "CurrentFarms$Line") rfl (by decide) (Nat.le_of_ble_eq_true rfl) rfl ?_
  intro p e s m args below meth c Q hQ B
  unfold f_Line_take_24_62 at h
  refine x_aload_n (pc := 0) B 1 dX5_take_0 rfl rfl ?_
  refine x_get (T := TX5) (pc := 1) B 0 oi_62 rfl uw_5 (by decide) rfl tw_263 rfl dX5_take_1 ?_
  refine x_aload_n (pc := 4) B 0 dX5_take_4 rfl rfl ?_
  refine x_get (T := TX5) (pc := 5) B 0 oi_24 rfl uw_5 (by decide) rfl tw_263 rfl dX5_take_5 ?_
  refine x_callSN (rest := []) (st' := []) (pc := 8) B (T_CF_copy 63 48 25 48 ai_63 ai_25 (by decide) (by decide) M0) tw_1204 tw_1243 tw_1203 tw_98 hd_CF_copy ⟨Nat.le_of_ble_eq_true rfl, Nat.le_of_ble_eq_true rfl⟩ rfl rfl (Nat.le_of_ble_eq_true rfl) rfl dX5_take_8 ?_
  refine jv_m (P := fun M1 => XX D ad cI cJ p l e (Rm 2 51) s m args below meth c Q 2 M1 11 [(0, .ref (ad 24)), (1, .ref (ad 62))] []) h (fun M1 h => ?_)
  refine x_aload_n (pc := 11) B 1 dX5_take_11 rfl rfl ?_
  refine x_get (T := TX5) (pc := 12) B 1 oi_62 rfl uw_5 (by decide) rfl tw_264 rfl dX5_take_12 ?_
  refine x_aload_n (pc := 15) B 0 dX5_take_15 rfl rfl ?_
  refine x_get (T := TX5) (pc := 16) B 1 oi_24 rfl uw_5 (by decide) rfl tw_264 rfl dX5_take_16 ?_
  refine x_callSN (rest := []) (st' := []) (pc := 19) B (T_CF_copy 64 48 26 48 ai_64 ai_26 (by decide) (by decide) M1) tw_1204 tw_1243 tw_1203 tw_98 hd_CF_copy ⟨Nat.le_of_ble_eq_true rfl, Nat.le_of_ble_eq_true rfl⟩ rfl rfl (Nat.le_of_ble_eq_true rfl) rfl dX5_take_19 ?_
  refine jv_m (P := fun M2 => XX D ad cI cJ p l e (Rm 2 51) s m args below meth c Q 2 M2 22 [(0, .ref (ad 24)), (1, .ref (ad 62))] []) h (fun M2 h => ?_)
  refine x_aload_n (pc := 22) B 0 dX5_take_22 rfl rfl ?_
  refine x_aload_n (pc := 23) B 1 dX5_take_23 rfl rfl ?_
  refine x_get (T := TX5) (pc := 24) B 2 oi_62 rfl uw_5 (by decide) rfl tw_266 rfl dX5_take_24 ?_
  refine x_put (T := TX5) (pc := 27) B 2 oi_24 of_24_2 rfl uw_5 tyX5_ok nmX5 (by decide) rfl tw_266 rfl rfl rfl (Nat.le_of_ble_eq_true rfl) dX5_take_27 ?_
  refine jv_m (P := fun M3 => XX D ad cI cJ p l e (Rm 2 51) s m args below meth c Q 2 M3 30 [(0, .ref (ad 24)), (1, .ref (ad 62))] []) h (fun M3 h => ?_)
  refine x_aload_n (pc := 30) B 0 dX5_take_30 rfl rfl ?_
  refine x_aload_n (pc := 31) B 1 dX5_take_31 rfl rfl ?_
  refine x_get (T := TX5) (pc := 32) B 3 oi_62 rfl uw_5 (by decide) rfl tw_269 rfl dX5_take_32 ?_
  refine x_put (T := TX5) (pc := 35) B 3 oi_24 of_24_3 rfl uw_5 tyX5_ok nmX5 (by decide) rfl tw_269 rfl rfl rfl (Nat.le_of_ble_eq_true rfl) dX5_take_35 ?_
  refine jv_m (P := fun M4 => XX D ad cI cJ p l e (Rm 2 51) s m args below meth c Q 2 M4 38 [(0, .ref (ad 24)), (1, .ref (ad 62))] []) h (fun M4 h => ?_)
  refine x_aload_n (pc := 38) B 0 dX5_take_38 rfl rfl ?_
  refine x_aload_n (pc := 39) B 1 dX5_take_39 rfl rfl ?_
  refine x_get (T := TX5) (pc := 40) B 4 oi_62 rfl uw_5 (by decide) rfl tw_271 rfl dX5_take_40 ?_
  refine x_put (T := TX5) (pc := 43) B 4 oi_24 of_24_4 rfl uw_5 tyX5_ok nmX5 (by decide) rfl tw_271 rfl rfl rfl (Nat.le_of_ble_eq_true rfl) dX5_take_43 ?_
  refine jv_m (P := fun M5 => XX D ad cI cJ p l e (Rm 2 51) s m args below meth c Q 2 M5 46 [(0, .ref (ad 24)), (1, .ref (ad 62))] []) h (fun M5 h => ?_)
  obtain rfl := Option.some.inj h
  exact x_vret (pc := 46) B hQ dX5_take_46
-- CurrentFarms$Breaks.take(LCurrentFarms$Breaks;)V [29, 67]
abbrev y_Breaks_take_29_67 : MethodName := ⟨"CurrentFarms$Breaks", "take", "(LCurrentFarms$Breaks;)V"⟩
theorem hd_Breaks_take_29_67 : y_Breaks_take_29_67.cls ≠ "java/lang/invoke/MethodHandle" ∧ y_Breaks_take_29_67.cls ≠ "java/lang/invoke/VarHandle" ∧ (parseMethodDescriptor y_Breaks_take_29_67.desc).map (fun d => d.parameters.length) = some 1 := by decide +kernel
def f_Breaks_take_29_67  (M0 : Mem) : Option (Mem) :=
  jv_ (wR M0 30 (cpyv (M0.1 68) (M0.1 30) 6 6)) fun M1 => jv_ (wR M1 31 (cpyv (M1.1 69) (M1.1 31) 6 6)) fun M2 => jv_ (wI M2 29 2 (M2.1 67 2)) fun M3 => some M3
set_option maxHeartbeats 4000000 in
set_option maxRecDepth 20000 in
theorem C_Breaks_take_29_67 {D : va_G} {ad adK adV : Nat → Nat} {cI cJ : ClassId} {l : Launch}  (M0 : Mem) (o : Mem) (h : f_Breaks_take_29_67  M0 = some o) : Ct D ad adK adV cI cJ l y_Breaks_take_29_67 cX2_take 2 none 2 51 [.ref (ad 29), .ref (ad 67)] M0 none o := by
  refine x_start (lv := [(0, .ref (ad 29)), (1, .ref (ad 67))]) (own := "CurrentFarms$Breaks") rfl (by decide) (Nat.le_of_ble_eq_true rfl) rfl ?_
  intro p e s m args below meth c Q hQ B
  unfold f_Breaks_take_29_67 at h
  refine x_aload_n (pc := 0) B 1 dX2_take_0 rfl rfl ?_
  refine x_get (T := TX2) (pc := 1) B 0 oi_67 rfl uw_2 (by decide) rfl tw_297 rfl dX2_take_1 ?_
  refine x_aload_n (pc := 4) B 0 dX2_take_4 rfl rfl ?_
  refine x_get (T := TX2) (pc := 5) B 0 oi_29 rfl uw_2 (by decide) rfl tw_297 rfl dX2_take_5 ?_
  refine x_callSN (rest := []) (st' := []) (pc := 8) B (T_CF_copy 68 6 30 6 ai_68 ai_30 (by decide) (by decide) M0) tw_1204 tw_1202 tw_1203 tw_98 hd_CF_copy ⟨Nat.le_of_ble_eq_true rfl, Nat.le_of_ble_eq_true rfl⟩ rfl rfl (Nat.le_of_ble_eq_true rfl) rfl dX2_take_8 ?_
  refine jv_m (P := fun M1 => XX D ad cI cJ p l e (Rm 2 51) s m args below meth c Q 2 M1 11 [(0, .ref (ad 29)), (1, .ref (ad 67))] []) h (fun M1 h => ?_)
  refine x_aload_n (pc := 11) B 1 dX2_take_11 rfl rfl ?_
  refine x_get (T := TX2) (pc := 12) B 1 oi_67 rfl uw_2 (by decide) rfl tw_299 rfl dX2_take_12 ?_
  refine x_aload_n (pc := 15) B 0 dX2_take_15 rfl rfl ?_
  refine x_get (T := TX2) (pc := 16) B 1 oi_29 rfl uw_2 (by decide) rfl tw_299 rfl dX2_take_16 ?_
  refine x_callSN (rest := []) (st' := []) (pc := 19) B (T_CF_copy 69 6 31 6 ai_69 ai_31 (by decide) (by decide) M1) tw_1204 tw_1202 tw_1203 tw_98 hd_CF_copy ⟨Nat.le_of_ble_eq_true rfl, Nat.le_of_ble_eq_true rfl⟩ rfl rfl (Nat.le_of_ble_eq_true rfl) rfl dX2_take_19 ?_
  refine jv_m (P := fun M2 => XX D ad cI cJ p l e (Rm 2 51) s m args below meth c Q 2 M2 22 [(0, .ref (ad 29)), (1, .ref (ad 67))] []) h (fun M2 h => ?_)
  refine x_aload_n (pc := 22) B 0 dX2_take_22 rfl rfl ?_
  refine x_aload_n (pc := 23) B 1 dX2_take_23 rfl rfl ?_
  refine x_get (T := TX2) (pc := 24) B 2 oi_67 rfl uw_2 (by decide) rfl tw_300 rfl dX2_take_24 ?_
  refine x_put (T := TX2) (pc := 27) B 2 oi_29 of_29_2 rfl uw_2 tyX2_ok nmX2 (by decide) rfl tw_300 rfl rfl rfl (Nat.le_of_ble_eq_true rfl) dX2_take_27 ?_
  refine jv_m (P := fun M3 => XX D ad cI cJ p l e (Rm 2 51) s m args below meth c Q 2 M3 30 [(0, .ref (ad 29)), (1, .ref (ad 67))] []) h (fun M3 h => ?_)
  obtain rfl := Option.some.inj h
  exact x_vret (pc := 30) B hQ dX2_take_30
-- CurrentFarms$Coins.take(LCurrentFarms$Coins;)V [36, 74]
abbrev y_Coins_take_36_74 : MethodName := ⟨"CurrentFarms$Coins", "take", "(LCurrentFarms$Coins;)V"⟩
theorem hd_Coins_take_36_74 : y_Coins_take_36_74.cls ≠ "java/lang/invoke/MethodHandle" ∧ y_Coins_take_36_74.cls ≠ "java/lang/invoke/VarHandle" ∧ (parseMethodDescriptor y_Coins_take_36_74.desc).map (fun d => d.parameters.length) = some 1 := by decide +kernel
def f_Coins_take_36_74  (M0 : Mem) : Option (Mem) :=
  jv_ (wR M0 37 (cpyv (M0.1 75) (M0.1 37) 1210 1210)) fun M1 => jv_ (wR M1 38 (cpyv (M1.1 76) (M1.1 38) 1210 1210)) fun M2 => jv_ (wI M2 36 2 (M2.1 74 2)) fun M3 => jv_ (wI M3 36 3 (M3.1 74 3)) fun M4 => jv_ (wI M4 36 4 (M4.1 74 4)) fun M5 => jv_ (wI M5 36 5 (M5.1 74 5)) fun M6 => jv_ (wI M6 36 6 (M6.1 74 6)) fun M7 => some M7
set_option maxHeartbeats 4000000 in
set_option maxRecDepth 20000 in
theorem C_Coins_take_36_74 {D : va_G} {ad adK adV : Nat → Nat} {cI cJ : ClassId} {l : Launch}  (M0 : Mem) (o : Mem) (h : f_Coins_take_36_74  M0 = some o) : Ct D ad adK adV cI cJ l y_Coins_take_36_74 cX3_take 2 none 2 51 [.ref (ad 36), .ref (ad 74)] M0 none o := by
  refine x_start (lv := [(0, .ref (ad 36)), (1, .ref (ad 74))]) (own := "CurrentFarms$Coins") rfl (by decide) (Nat.le_of_ble_eq_true rfl) rfl ?_
  intro p e s m args below meth c Q hQ B
  unfold f_Coins_take_36_74 at h
  refine x_aload_n (pc := 0) B 1 dX3_take_0 rfl rfl ?_
  refine x_get (T := TX3) (pc := 1) B 0 oi_74 rfl uw_3 (by decide) rfl tw_333 rfl dX3_take_1 ?_
  refine x_aload_n (pc := 4) B 0 dX3_take_4 rfl rfl ?_
  refine x_get (T := TX3) (pc := 5) B 0 oi_36 rfl uw_3 (by decide) rfl tw_333 rfl dX3_take_5 ?_
  refine x_callSN (rest := []) (st' := []) (pc := 8) B (T_CF_copy 75 1210 37 1210 ai_75 ai_37 (by decide) (by decide) M0) tw_1204 tw_1285 tw_1203 tw_98 hd_CF_copy ⟨Nat.le_of_ble_eq_true rfl, Nat.le_of_ble_eq_true rfl⟩ rfl rfl (Nat.le_of_ble_eq_true rfl) rfl dX3_take_8 ?_
  refine jv_m (P := fun M1 => XX D ad cI cJ p l e (Rm 2 51) s m args below meth c Q 2 M1 11 [(0, .ref (ad 36)), (1, .ref (ad 74))] []) h (fun M1 h => ?_)
  refine x_aload_n (pc := 11) B 1 dX3_take_11 rfl rfl ?_
  refine x_get (T := TX3) (pc := 12) B 1 oi_74 rfl uw_3 (by decide) rfl tw_335 rfl dX3_take_12 ?_
  refine x_aload_n (pc := 15) B 0 dX3_take_15 rfl rfl ?_
  refine x_get (T := TX3) (pc := 16) B 1 oi_36 rfl uw_3 (by decide) rfl tw_335 rfl dX3_take_16 ?_
  refine x_callSN (rest := []) (st' := []) (pc := 19) B (T_CF_copy 76 1210 38 1210 ai_76 ai_38 (by decide) (by decide) M1) tw_1204 tw_1285 tw_1203 tw_98 hd_CF_copy ⟨Nat.le_of_ble_eq_true rfl, Nat.le_of_ble_eq_true rfl⟩ rfl rfl (Nat.le_of_ble_eq_true rfl) rfl dX3_take_19 ?_
  refine jv_m (P := fun M2 => XX D ad cI cJ p l e (Rm 2 51) s m args below meth c Q 2 M2 22 [(0, .ref (ad 36)), (1, .ref (ad 74))] []) h (fun M2 h => ?_)
  refine x_aload_n (pc := 22) B 0 dX3_take_22 rfl rfl ?_
  refine x_aload_n (pc := 23) B 1 dX3_take_23 rfl rfl ?_
  refine x_get (T := TX3) (pc := 24) B 2 oi_74 rfl uw_3 (by decide) rfl tw_337 rfl dX3_take_24 ?_
  refine x_put (T := TX3) (pc := 27) B 2 oi_36 of_36_2 rfl uw_3 tyX3_ok nmX3 (by decide) rfl tw_337 rfl rfl rfl (Nat.le_of_ble_eq_true rfl) dX3_take_27 ?_
  refine jv_m (P := fun M3 => XX D ad cI cJ p l e (Rm 2 51) s m args below meth c Q 2 M3 30 [(0, .ref (ad 36)), (1, .ref (ad 74))] []) h (fun M3 h => ?_)
  refine x_aload_n (pc := 30) B 0 dX3_take_30 rfl rfl ?_
  refine x_aload_n (pc := 31) B 1 dX3_take_31 rfl rfl ?_
  refine x_get (T := TX3) (pc := 32) B 3 oi_74 rfl uw_3 (by decide) rfl tw_338 rfl dX3_take_32 ?_
  refine x_put (T := TX3) (pc := 35) B 3 oi_36 of_36_3 rfl uw_3 tyX3_ok nmX3 (by decide) rfl tw_338 rfl rfl rfl (Nat.le_of_ble_eq_true rfl) dX3_take_35 ?_
  refine jv_m (P := fun M4 => XX D ad cI cJ p l e (Rm 2 51) s m args below meth c Q 2 M4 38 [(0, .ref (ad 36)), (1, .ref (ad 74))] []) h (fun M4 h => ?_)
  refine x_aload_n (pc := 38) B 0 dX3_take_38 rfl rfl ?_
  refine x_aload_n (pc := 39) B 1 dX3_take_39 rfl rfl ?_
  refine x_get (T := TX3) (pc := 40) B 4 oi_74 rfl uw_3 (by decide) rfl tw_339 rfl dX3_take_40 ?_
  refine x_put (T := TX3) (pc := 43) B 4 oi_36 of_36_4 rfl uw_3 tyX3_ok nmX3 (by decide) rfl tw_339 rfl rfl rfl (Nat.le_of_ble_eq_true rfl) dX3_take_43 ?_
  refine jv_m (P := fun M5 => XX D ad cI cJ p l e (Rm 2 51) s m args below meth c Q 2 M5 46 [(0, .ref (ad 36)), (1, .ref (ad 74))] []) h (fun M5 h => ?_)
  refine x_aload_n (pc := 46) B 0 dX3_take_46 rfl rfl ?_
  refine x_aload_n (pc := 47) B 1 dX3_take_47 rfl rfl ?_
  refine x_get (T := TX3) (pc := 48) B 5 oi_74 rfl uw_3 (by decide) rfl tw_340 rfl dX3_take_48 ?_
  refine x_put (T := TX3) (pc := 51) B 5 oi_36 of_36_5 rfl uw_3 tyX3_ok nmX3 (by decide) rfl tw_340 rfl rfl rfl (Nat.le_of_ble_eq_true rfl) dX3_take_51 ?_
  refine jv_m (P := fun M6 => XX D ad cI cJ p l e (Rm 2 51) s m args below meth c Q 2 M6 54 [(0, .ref (ad 36)), (1, .ref (ad 74))] []) h (fun M6 h => ?_)
  refine x_aload_n (pc := 54) B 0 dX3_take_54 rfl rfl ?_
  refine x_aload_n (pc := 55) B 1 dX3_take_55 rfl rfl ?_
  refine x_get (T := TX3) (pc := 56) B 6 oi_74 rfl uw_3 (by decide) rfl tw_342 rfl dX3_take_56 ?_
  refine x_put (T := TX3) (pc := 59) B 6 oi_36 of_36_6 rfl uw_3 tyX3_ok nmX3 (by decide) rfl tw_342 rfl rfl rfl (Nat.le_of_ble_eq_true rfl) dX3_take_59 ?_
  refine jv_m (P := fun M7 => XX D ad cI cJ p l e (Rm 2 51) s m args below meth c Q 2 M7 62 [(0, .ref (ad 36)), (1, .ref (ad 74))] []) h (fun M7 h => ?_)
  obtain rfl := Option.some.inj h
  exact x_vret (pc := 62) B hQ dX3_take_62
-- CurrentFarms$State.take(LCurrentFarms$State;)V [1, 39]
abbrev y_State_take_1_39 : MethodName := ⟨"CurrentFarms$State", "take", "(LCurrentFarms$State;)V"⟩
theorem hd_State_take_1_39 : y_State_take_1_39.cls ≠ "java/lang/invoke/MethodHandle" ∧ y_State_take_1_39.cls ≠ "java/lang/invoke/VarHandle" ∧ (parseMethodDescriptor y_State_take_1_39.desc).map (fun d => d.parameters.length) = some 1 := by decide +kernel
def f_State_take_1_39  (M0 : Mem) : Option (Mem) :=
  (f_Land_take_2_40 M0).bind fun q1 => (f_Book_take_7_45 q1).bind fun q2 => (f_Rules_take_14_52 q2).bind fun q3 => (f_Line_take_24_62 q3).bind fun q4 => (f_Breaks_take_29_67 q4).bind fun q5 => (f_Coins_take_36_74 q5).bind fun q6 => jv_ (wI q6 1 6 (q6.1 39 6)) fun M7 => some M7
set_option maxHeartbeats 4000000 in
set_option maxRecDepth 20000 in
theorem C_State_take_1_39 {D : va_G} {ad adK adV : Nat → Nat} {cI cJ : ClassId} {l : Launch}  (M0 : Mem) (o : Mem) (h : f_State_take_1_39  M0 = some o) : Ct D ad adK adV cI cJ l y_State_take_1_39 cX8_take 2 none 3 72 [.ref (ad 1), .ref (ad 39)] M0 none o := by
  refine x_start (lv := [(0, .ref (ad 1)), (1, .ref (ad 39))]) (own := "CurrentFarms$State") rfl (by decide) (Nat.le_of_ble_eq_true rfl) rfl ?_
  intro p e s m args below meth c Q hQ B
  unfold f_State_take_1_39 at h
  refine x_aload_n (pc := 0) B 0 dX8_take_0 rfl rfl ?_
  refine x_get (T := TX8) (pc := 1) B 0 oi_1 rfl uw_8 (by decide) rfl tw_358 rfl dX8_take_1 ?_
  refine x_aload_n (pc := 4) B 1 dX8_take_4 rfl rfl ?_
  refine x_get (T := TX8) (pc := 5) B 0 oi_39 rfl uw_8 (by decide) rfl tw_358 rfl dX8_take_5 ?_
  obtain ⟨q1, hq1, h⟩ := bnd h
  refine x_callV (rest := []) (st' := []) (pc := 8) B oi_2 rfl (C_Land_take_2_40  M0 _ hq1) tw_1264 tw_1261 tw_1262 tw_1263 tw_100 hd_Land_take_2_40 ⟨Nat.le_of_ble_eq_true rfl, Nat.le_of_ble_eq_true rfl⟩ rfl rfl (Nat.le_of_ble_eq_true rfl) rfl dX8_take_8 ?_
  refine x_aload_n (pc := 11) B 0 dX8_take_11 rfl rfl ?_
  refine x_get (T := TX8) (pc := 12) B 1 oi_1 rfl uw_8 (by decide) rfl tw_363 rfl dX8_take_12 ?_
  refine x_aload_n (pc := 15) B 1 dX8_take_15 rfl rfl ?_
  refine x_get (T := TX8) (pc := 16) B 1 oi_39 rfl uw_8 (by decide) rfl tw_363 rfl dX8_take_16 ?_
  obtain ⟨q2, hq2, h⟩ := bnd h
  refine x_callV (rest := []) (st' := []) (pc := 19) B oi_7 rfl (C_Book_take_7_45  q1 _ hq2) tw_1269 tw_1266 tw_1267 tw_1268 tw_101 hd_Book_take_7_45 ⟨Nat.le_of_ble_eq_true rfl, Nat.le_of_ble_eq_true rfl⟩ rfl rfl (Nat.le_of_ble_eq_true rfl) rfl dX8_take_19 ?_
  refine x_aload_n (pc := 22) B 0 dX8_take_22 rfl rfl ?_
  refine x_get (T := TX8) (pc := 23) B 2 oi_1 rfl uw_8 (by decide) rfl tw_368 rfl dX8_take_23 ?_
  refine x_aload_n (pc := 26) B 1 dX8_take_26 rfl rfl ?_
  refine x_get (T := TX8) (pc := 27) B 2 oi_39 rfl uw_8 (by decide) rfl tw_368 rfl dX8_take_27 ?_
  obtain ⟨q3, hq3, h⟩ := bnd h
  refine x_callV (rest := []) (st' := []) (pc := 30) B oi_14 rfl (C_Rules_take_14_52  q2 _ hq3) tw_1274 tw_1271 tw_1272 tw_1273 tw_102 hd_Rules_take_14_52 ⟨Nat.le_of_ble_eq_true rfl, Nat.le_of_ble_eq_true rfl⟩ rfl rfl (Nat.le_of_ble_eq_true rfl) rfl dX8_take_30 ?_
  refine x_aload_n (pc := 33) B 0 dX8_take_33 rfl rfl ?_
  refine x_get (T := TX8) (pc := 34) B 3 oi_1 rfl uw_8 (by decide) rfl tw_371 rfl dX8_take_34 ?_
  refine x_aload_n (pc := 37) B 1 dX8_take_37 rfl rfl ?_
  refine x_get (T := TX8) (pc := 38) B 3 oi_39 rfl uw_8 (by decide) rfl tw_371 rfl dX8_take_38 ?_
  obtain ⟨q4, hq4, h⟩ := bnd h
  refine x_callV (rest := []) (st' := []) (pc := 41) B oi_24 rfl (C_Line_take_24_62  q3 _ hq4) tw_1242 tw_1276 tw_1240 tw_1241 tw_103 hd_Line_take_24_62 ⟨Nat.le_of_ble_eq_true rfl, Nat.le_of_ble_eq_true rfl⟩ rfl rfl (Nat.le_of_ble_eq_true rfl) rfl dX8_take_41 ?_
  refine x_aload_n (pc := 44) B 0 dX8_take_44 rfl rfl ?_
  refine x_get (T := TX8) (pc := 45) B 4 oi_1 rfl uw_8 (by decide) rfl tw_376 rfl dX8_take_45 ?_
  refine x_aload_n (pc := 48) B 1 dX8_take_48 rfl rfl ?_
  refine x_get (T := TX8) (pc := 49) B 4 oi_39 rfl uw_8 (by decide) rfl tw_376 rfl dX8_take_49 ?_
  obtain ⟨q5, hq5, h⟩ := bnd h
  refine x_callV (rest := []) (st' := []) (pc := 52) B oi_29 rfl (C_Breaks_take_29_67  q4 _ hq5) tw_1280 tw_1277 tw_1278 tw_1279 tw_105 hd_Breaks_take_29_67 ⟨Nat.le_of_ble_eq_true rfl, Nat.le_of_ble_eq_true rfl⟩ rfl rfl (Nat.le_of_ble_eq_true rfl) rfl dX8_take_52 ?_
  refine x_aload_n (pc := 55) B 0 dX8_take_55 rfl rfl ?_
  refine x_get (T := TX8) (pc := 56) B 5 oi_1 rfl uw_8 (by decide) rfl tw_378 rfl dX8_take_56 ?_
  refine x_aload_n (pc := 59) B 1 dX8_take_59 rfl rfl ?_
  refine x_get (T := TX8) (pc := 60) B 5 oi_39 rfl uw_8 (by decide) rfl tw_378 rfl dX8_take_60 ?_
  obtain ⟨q6, hq6, h⟩ := bnd h
  refine x_callV (rest := []) (st' := []) (pc := 63) B oi_36 rfl (C_Coins_take_36_74  q5 _ hq6) tw_1284 tw_1281 tw_1282 tw_1283 tw_106 hd_Coins_take_36_74 ⟨Nat.le_of_ble_eq_true rfl, Nat.le_of_ble_eq_true rfl⟩ rfl rfl (Nat.le_of_ble_eq_true rfl) rfl dX8_take_63 ?_
  refine x_aload_n (pc := 66) B 0 dX8_take_66 rfl rfl ?_
  refine x_aload_n (pc := 67) B 1 dX8_take_67 rfl rfl ?_
  refine x_get (T := TX8) (pc := 68) B 6 oi_39 rfl uw_8 (by decide) rfl tw_382 rfl dX8_take_68 ?_
  refine x_put (T := TX8) (pc := 71) B 6 oi_1 of_1_6 rfl uw_8 tyX8_ok nmX8 (by decide) rfl tw_382 rfl rfl rfl (Nat.le_of_ble_eq_true rfl) dX8_take_71 ?_
  refine jv_m (P := fun M7 => XX D ad cI cJ p l e (Rm 3 72) s m args below meth c Q 2 M7 74 [(0, .ref (ad 1)), (1, .ref (ad 39))] []) h (fun M7 h => ?_)
  obtain rfl := Option.some.inj h
  exact x_vret (pc := 74) B hQ dX8_take_74
-- CurrentFarms.undo()I [0]
abbrev y_CF_undo_0 : MethodName := ⟨"CurrentFarms", "undo", "()I"⟩
abbrev cX11_undo : ByteArray := prog_1_method_41_code
theorem dX11_undo_0 : decode cX11_undo 0 = .ok (.aload_n 0, 1) := by decide +kernel
theorem dX11_undo_1 : decode cX11_undo 1 = .ok (.getfield 356, 3) := by decide +kernel
theorem dX11_undo_4 : decode cX11_undo 4 = .ok (.ifCond .ne 6, 3) := by decide +kernel
theorem dX11_undo_7 : decode cX11_undo 7 = .ok (.bipush (-3), 2) := by decide +kernel
theorem dX11_undo_9 : decode cX11_undo 9 = .ok (.ireturn, 1) := by decide +kernel
theorem dX11_undo_10 : decode cX11_undo 10 = .ok (.aload_n 0, 1) := by decide +kernel
theorem dX11_undo_11 : decode cX11_undo 11 = .ok (.getfield 12, 3) := by decide +kernel
theorem dX11_undo_14 : decode cX11_undo 14 = .ok (.aload_n 0, 1) := by decide +kernel
theorem dX11_undo_15 : decode cX11_undo 15 = .ok (.getfield 16, 3) := by decide +kernel
theorem dX11_undo_18 : decode cX11_undo 18 = .ok (.invokevirtual 353, 3) := by decide +kernel
theorem dX11_undo_21 : decode cX11_undo 21 = .ok (.aload_n 0, 1) := by decide +kernel
theorem dX11_undo_22 : decode cX11_undo 22 = .ok (.getfield 12, 3) := by decide +kernel
theorem dX11_undo_25 : decode cX11_undo 25 = .ok (.getfield 123, 3) := by decide +kernel
theorem dX11_undo_28 : decode cX11_undo 28 = .ok (.ireturn, 1) := by decide +kernel
theorem hd_CF_undo_0 : y_CF_undo_0.cls ≠ "java/lang/invoke/MethodHandle" ∧ y_CF_undo_0.cls ≠ "java/lang/invoke/VarHandle" ∧ (parseMethodDescriptor y_CF_undo_0.desc).map (fun d => d.parameters.length) = some 0 := by decide +kernel
def f_CF_undo_0  (M0 : Mem) : Option (Int32 × Mem) :=
  if isb (M0.1 0 2) then if decide (M0.1 0 2 = 1) then ((f_State_take_1_39 M0).bind fun q3 => some (q3.1 1 6, q3)) else (some ((-3), M0)) else none
set_option maxHeartbeats 4000000 in
set_option maxRecDepth 20000 in
theorem C_CF_undo_0 {D : va_G} {ad adK adV : Nat → Nat} {cI cJ : ClassId} {l : Launch}  (M0 : Mem) (o : Int32 × Mem) (h : f_CF_undo_0  M0 = some o) : Ct D ad adK adV cI cJ l y_CF_undo_0 cX11_undo 1 (some .int) 4 93 [.ref (ad 0)] M0 (some (.int o.1)) o.2 := by
  refine x_start (lv := [(0, .ref (ad 0))]) (own := "CurrentFarms") rfl (by decide) (Nat.le_of_ble_eq_true rfl) rfl ?_
  intro p e s m args below meth c Q hQ B
  unfold f_CF_undo_0 at h
  refine x_aload_n (pc := 0) B 0 dX11_undo_0 rfl rfl ?_
  obtain ⟨hk1, h⟩ := ifn h
  refine x_getZ (T := TX11) (pc := 1) B 2 oi_0 rfl uw_11 (by decide) rfl tw_527 rfl hk1 dX11_undo_1 ?_
  refine x_if_ne_b (tgt := 10) (pc := 4) B dX11_undo_4 rfl (fun hc2 => ?_) (fun hc2 => ?_)
  · have h := ift hc2 h
    refine x_aload_n (pc := 10) B 0 dX11_undo_10 rfl rfl ?_
    refine x_get (T := TX11) (pc := 11) B 0 oi_0 rfl uw_11 (by decide) rfl tw_525 rfl dX11_undo_11 ?_
    refine x_aload_n (pc := 14) B 0 dX11_undo_14 rfl rfl ?_
    refine x_get (T := TX11) (pc := 15) B 1 oi_0 rfl uw_11 (by decide) rfl tw_526 rfl dX11_undo_15 ?_
    obtain ⟨q3, hq3, h⟩ := bnd h
    refine x_callV (rest := []) (st' := []) (pc := 18) B oi_1 rfl (C_State_take_1_39  M0 _ hq3) tw_1260 tw_1257 tw_1258 tw_1259 tw_99 hd_State_take_1_39 ⟨Nat.le_of_ble_eq_true rfl, Nat.le_of_ble_eq_true rfl⟩ rfl rfl (Nat.le_of_ble_eq_true rfl) rfl dX11_undo_18 ?_
    refine x_aload_n (pc := 21) B 0 dX11_undo_21 rfl rfl ?_
    refine x_get (T := TX11) (pc := 22) B 0 oi_0 rfl uw_11 (by decide) rfl tw_525 rfl dX11_undo_22 ?_
    refine x_get (T := TX8) (pc := 25) B 6 oi_1 rfl uw_8 (by decide) rfl tw_384 rfl dX11_undo_25 ?_
    obtain rfl := Option.some.inj h
    exact x_iret (pc := 28) B hQ dX11_undo_28
  · have h := iff_ hc2 h
    refine x_bipush (v := (-3)) (pc := 7) B dX11_undo_7 rfl ?_
    obtain rfl := Option.some.inj h
    exact x_iret (pc := 9) B hQ dX11_undo_9
-- CurrentFarms.count(I)I [0]
abbrev y_CF_count_0 : MethodName := ⟨"CurrentFarms", "count", "(I)I"⟩
abbrev cX11_count : ByteArray := prog_1_method_42_code
theorem dX11_count_0 : decode cX11_count 0 = .ok (.iload_n 1, 1) := by decide +kernel
theorem dX11_count_1 : decode cX11_count 1 = .ok (.tableswitch 162 0 9 #[55, 66, 77, 88, 96, 107, 118, 129, 140, 151], 55) := by decide +kernel
theorem dX11_count_56 : decode cX11_count 56 = .ok (.aload_n 0, 1) := by decide +kernel
theorem dX11_count_57 : decode cX11_count 57 = .ok (.getfield 12, 3) := by decide +kernel
theorem dX11_count_60 : decode cX11_count 60 = .ok (.getfield 43, 3) := by decide +kernel
theorem dX11_count_63 : decode cX11_count 63 = .ok (.getfield 117, 3) := by decide +kernel
theorem dX11_count_66 : decode cX11_count 66 = .ok (.ireturn, 1) := by decide +kernel
theorem dX11_count_67 : decode cX11_count 67 = .ok (.aload_n 0, 1) := by decide +kernel
theorem dX11_count_68 : decode cX11_count 68 = .ok (.getfield 12, 3) := by decide +kernel
theorem dX11_count_71 : decode cX11_count 71 = .ok (.getfield 132, 3) := by decide +kernel
theorem dX11_count_74 : decode cX11_count 74 = .ok (.getfield 136, 3) := by decide +kernel
theorem dX11_count_77 : decode cX11_count 77 = .ok (.ireturn, 1) := by decide +kernel
theorem dX11_count_78 : decode cX11_count 78 = .ok (.aload_n 0, 1) := by decide +kernel
theorem dX11_count_79 : decode cX11_count 79 = .ok (.getfield 12, 3) := by decide +kernel
theorem dX11_count_82 : decode cX11_count 82 = .ok (.getfield 21, 3) := by decide +kernel
theorem dX11_count_85 : decode cX11_count 85 = .ok (.getfield 182, 3) := by decide +kernel
theorem dX11_count_88 : decode cX11_count 88 = .ok (.ireturn, 1) := by decide +kernel
theorem dX11_count_89 : decode cX11_count 89 = .ok (.aload_n 0, 1) := by decide +kernel
theorem dX11_count_90 : decode cX11_count 90 = .ok (.getfield 12, 3) := by decide +kernel
theorem dX11_count_93 : decode cX11_count 93 = .ok (.getfield 123, 3) := by decide +kernel
theorem dX11_count_96 : decode cX11_count 96 = .ok (.ireturn, 1) := by decide +kernel
theorem dX11_count_97 : decode cX11_count 97 = .ok (.aload_n 0, 1) := by decide +kernel
theorem dX11_count_98 : decode cX11_count 98 = .ok (.getfield 12, 3) := by decide +kernel
theorem dX11_count_101 : decode cX11_count 101 = .ok (.getfield 21, 3) := by decide +kernel
theorem dX11_count_104 : decode cX11_count 104 = .ok (.getfield 171, 3) := by decide +kernel
theorem dX11_count_107 : decode cX11_count 107 = .ok (.ireturn, 1) := by decide +kernel
theorem dX11_count_108 : decode cX11_count 108 = .ok (.aload_n 0, 1) := by decide +kernel
theorem dX11_count_109 : decode cX11_count 109 = .ok (.getfield 12, 3) := by decide +kernel
theorem dX11_count_112 : decode cX11_count 112 = .ok (.getfield 107, 3) := by decide +kernel
theorem dX11_count_115 : decode cX11_count 115 = .ok (.getfield 110, 3) := by decide +kernel
theorem dX11_count_118 : decode cX11_count 118 = .ok (.ireturn, 1) := by decide +kernel
theorem dX11_count_119 : decode cX11_count 119 = .ok (.aload_n 0, 1) := by decide +kernel
theorem dX11_count_120 : decode cX11_count 120 = .ok (.getfield 12, 3) := by decide +kernel
theorem dX11_count_123 : decode cX11_count 123 = .ok (.getfield 205, 3) := by decide +kernel
theorem dX11_count_126 : decode cX11_count 126 = .ok (.getfield 209, 3) := by decide +kernel
theorem dX11_count_129 : decode cX11_count 129 = .ok (.ireturn, 1) := by decide +kernel
theorem dX11_count_130 : decode cX11_count 130 = .ok (.aload_n 0, 1) := by decide +kernel
theorem dX11_count_131 : decode cX11_count 131 = .ok (.getfield 12, 3) := by decide +kernel
theorem dX11_count_134 : decode cX11_count 134 = .ok (.getfield 107, 3) := by decide +kernel
theorem dX11_count_137 : decode cX11_count 137 = .ok (.getfield 230, 3) := by decide +kernel
theorem dX11_count_140 : decode cX11_count 140 = .ok (.ireturn, 1) := by decide +kernel
theorem dX11_count_141 : decode cX11_count 141 = .ok (.aload_n 0, 1) := by decide +kernel
theorem dX11_count_142 : decode cX11_count 142 = .ok (.getfield 12, 3) := by decide +kernel
theorem dX11_count_145 : decode cX11_count 145 = .ok (.getfield 107, 3) := by decide +kernel
theorem dX11_count_148 : decode cX11_count 148 = .ok (.getfield 253, 3) := by decide +kernel
theorem dX11_count_151 : decode cX11_count 151 = .ok (.ireturn, 1) := by decide +kernel
theorem dX11_count_152 : decode cX11_count 152 = .ok (.aload_n 0, 1) := by decide +kernel
theorem dX11_count_153 : decode cX11_count 153 = .ok (.getfield 12, 3) := by decide +kernel
theorem dX11_count_156 : decode cX11_count 156 = .ok (.getfield 43, 3) := by decide +kernel
theorem dX11_count_159 : decode cX11_count 159 = .ok (.getfield 114, 3) := by decide +kernel
theorem dX11_count_162 : decode cX11_count 162 = .ok (.ireturn, 1) := by decide +kernel
theorem dX11_count_163 : decode cX11_count 163 = .ok (.iconst (-1), 1) := by decide +kernel
theorem dX11_count_164 : decode cX11_count 164 = .ok (.ireturn, 1) := by decide +kernel
theorem hd_CF_count_0 : y_CF_count_0.cls ≠ "java/lang/invoke/MethodHandle" ∧ y_CF_count_0.cls ≠ "java/lang/invoke/VarHandle" ∧ (parseMethodDescriptor y_CF_count_0.desc).map (fun d => d.parameters.length) = some 1 := by decide +kernel
def f_CF_count_0 (a1 : Int32) (M0 : Mem) : Option (Int32) :=
  if decide (a1 = 0) then (some (M0.1 2 4)) else (if decide (a1 = 1) then (some (M0.1 7 5)) else (if decide (a1 = 2) then (some (M0.1 14 9)) else (if decide (a1 = 3) then (some (M0.1 1 6)) else (if decide (a1 = 4) then (some (M0.1 14 1)) else (if decide (a1 = 5) then (some (M0.1 24 2)) else (if decide (a1 = 6) then (some (M0.1 29 2)) else (if decide (a1 = 7) then (some (M0.1 24 3)) else (if decide (a1 = 8) then (some (M0.1 24 4)) else (if decide (a1 = 9) then (some (M0.1 2 5)) else (some (-1)))))))))))
set_option maxHeartbeats 4000000 in
set_option maxRecDepth 20000 in
theorem C_CF_count_0 {D : va_G} {ad adK adV : Nat → Nat} {cI cJ : ClassId} {l : Launch} (a1 : Int32) (M0 : Mem) (o : Int32) (h : f_CF_count_0 a1 M0 = some o) : Ct D ad adK adV cI cJ l y_CF_count_0 cX11_count 2 (some .int) 0 0 [.ref (ad 0), .int a1] M0 (some (.int o)) M0 := by
  refine x_start (lv := [(0, .ref (ad 0)), (1, .int a1)]) (own := "CurrentFarms") rfl (by decide) (Nat.le_of_ble_eq_true rfl) rfl ?_
  intro p e s m args below meth c Q hQ B
  unfold f_CF_count_0 at h
  refine x_iload_n (pc := 0) B 1 dX11_count_0 rfl rfl ?_
  rcases bcase (decide (a1 = 0)) with hc1 | hc1
  · have h := ift hc1 h
    refine x_tableIn (cv := 0) (tgt := 56) (pc := 1) B dX11_count_1 (of_decide_eq_true hc1) (by decide) (by decide) rfl rfl ?_
    refine x_aload_n (pc := 56) B 0 dX11_count_56 rfl rfl ?_
    refine x_get (T := TX11) (pc := 57) B 0 oi_0 rfl uw_11 (by decide) rfl tw_525 rfl dX11_count_57 ?_
    refine x_get (T := TX8) (pc := 60) B 0 oi_1 rfl uw_8 (by decide) rfl tw_359 rfl dX11_count_60 ?_
    refine x_get (T := TX4) (pc := 63) B 4 oi_2 rfl uw_4 (by decide) rfl tw_151 rfl dX11_count_63 ?_
    obtain rfl := Option.some.inj h
    exact x_iret (pc := 66) B hQ dX11_count_66
  · have h := iff_ hc1 h
    rcases bcase (decide (a1 = 1)) with hc2 | hc2
    · have h := ift hc2 h
      refine x_tableIn (cv := 1) (tgt := 67) (pc := 1) B dX11_count_1 (of_decide_eq_true hc2) (by decide) (by decide) rfl rfl ?_
      refine x_aload_n (pc := 67) B 0 dX11_count_67 rfl rfl ?_
      refine x_get (T := TX11) (pc := 68) B 0 oi_0 rfl uw_11 (by decide) rfl tw_525 rfl dX11_count_68 ?_
      refine x_get (T := TX8) (pc := 71) B 1 oi_1 rfl uw_8 (by decide) rfl tw_367 rfl dX11_count_71 ?_
      refine x_get (T := TX1) (pc := 74) B 5 oi_7 rfl uw_1 (by decide) rfl tw_181 rfl dX11_count_74 ?_
      obtain rfl := Option.some.inj h
      exact x_iret (pc := 77) B hQ dX11_count_77
    · have h := iff_ hc2 h
      rcases bcase (decide (a1 = 2)) with hc3 | hc3
      · have h := ift hc3 h
        refine x_tableIn (cv := 2) (tgt := 78) (pc := 1) B dX11_count_1 (of_decide_eq_true hc3) (by decide) (by decide) rfl rfl ?_
        refine x_aload_n (pc := 78) B 0 dX11_count_78 rfl rfl ?_
        refine x_get (T := TX11) (pc := 79) B 0 oi_0 rfl uw_11 (by decide) rfl tw_525 rfl dX11_count_79 ?_
        refine x_get (T := TX8) (pc := 82) B 2 oi_1 rfl uw_8 (by decide) rfl tw_369 rfl dX11_count_82 ?_
        refine x_get (T := TX7) (pc := 85) B 9 oi_14 rfl uw_7 (by decide) rfl tw_225 rfl dX11_count_85 ?_
        obtain rfl := Option.some.inj h
        exact x_iret (pc := 88) B hQ dX11_count_88
      · have h := iff_ hc3 h
        rcases bcase (decide (a1 = 3)) with hc4 | hc4
        · have h := ift hc4 h
          refine x_tableIn (cv := 3) (tgt := 89) (pc := 1) B dX11_count_1 (of_decide_eq_true hc4) (by decide) (by decide) rfl rfl ?_
          refine x_aload_n (pc := 89) B 0 dX11_count_89 rfl rfl ?_
          refine x_get (T := TX11) (pc := 90) B 0 oi_0 rfl uw_11 (by decide) rfl tw_525 rfl dX11_count_90 ?_
          refine x_get (T := TX8) (pc := 93) B 6 oi_1 rfl uw_8 (by decide) rfl tw_384 rfl dX11_count_93 ?_
          obtain rfl := Option.some.inj h
          exact x_iret (pc := 96) B hQ dX11_count_96
        · have h := iff_ hc4 h
          rcases bcase (decide (a1 = 4)) with hc5 | hc5
          · have h := ift hc5 h
            refine x_tableIn (cv := 4) (tgt := 97) (pc := 1) B dX11_count_1 (of_decide_eq_true hc5) (by decide) (by decide) rfl rfl ?_
            refine x_aload_n (pc := 97) B 0 dX11_count_97 rfl rfl ?_
            refine x_get (T := TX11) (pc := 98) B 0 oi_0 rfl uw_11 (by decide) rfl tw_525 rfl dX11_count_98 ?_
            refine x_get (T := TX8) (pc := 101) B 2 oi_1 rfl uw_8 (by decide) rfl tw_369 rfl dX11_count_101 ?_
            refine x_get (T := TX7) (pc := 104) B 1 oi_14 rfl uw_7 (by decide) rfl tw_208 rfl dX11_count_104 ?_
            obtain rfl := Option.some.inj h
            exact x_iret (pc := 107) B hQ dX11_count_107
          · have h := iff_ hc5 h
            rcases bcase (decide (a1 = 5)) with hc6 | hc6
            · have h := ift hc6 h
              refine x_tableIn (cv := 5) (tgt := 108) (pc := 1) B dX11_count_1 (of_decide_eq_true hc6) (by decide) (by decide) rfl rfl ?_
              refine x_aload_n (pc := 108) B 0 dX11_count_108 rfl rfl ?_
              refine x_get (T := TX11) (pc := 109) B 0 oi_0 rfl uw_11 (by decide) rfl tw_525 rfl dX11_count_109 ?_
              refine x_get (T := TX8) (pc := 112) B 3 oi_1 rfl uw_8 (by decide) rfl tw_374 rfl dX11_count_112 ?_
              refine x_get (T := TX5) (pc := 115) B 2 oi_24 rfl uw_5 (by decide) rfl tw_268 rfl dX11_count_115 ?_
              obtain rfl := Option.some.inj h
              exact x_iret (pc := 118) B hQ dX11_count_118
            · have h := iff_ hc6 h
              rcases bcase (decide (a1 = 6)) with hc7 | hc7
              · have h := ift hc7 h
                refine x_tableIn (cv := 6) (tgt := 119) (pc := 1) B dX11_count_1 (of_decide_eq_true hc7) (by decide) (by decide) rfl rfl ?_
                refine x_aload_n (pc := 119) B 0 dX11_count_119 rfl rfl ?_
                refine x_get (T := TX11) (pc := 120) B 0 oi_0 rfl uw_11 (by decide) rfl tw_525 rfl dX11_count_120 ?_
                refine x_get (T := TX8) (pc := 123) B 4 oi_1 rfl uw_8 (by decide) rfl tw_377 rfl dX11_count_123 ?_
                refine x_get (T := TX2) (pc := 126) B 2 oi_29 rfl uw_2 (by decide) rfl tw_301 rfl dX11_count_126 ?_
                obtain rfl := Option.some.inj h
                exact x_iret (pc := 129) B hQ dX11_count_129
              · have h := iff_ hc7 h
                rcases bcase (decide (a1 = 7)) with hc8 | hc8
                · have h := ift hc8 h
                  refine x_tableIn (cv := 7) (tgt := 130) (pc := 1) B dX11_count_1 (of_decide_eq_true hc8) (by decide) (by decide) rfl rfl ?_
                  refine x_aload_n (pc := 130) B 0 dX11_count_130 rfl rfl ?_
                  refine x_get (T := TX11) (pc := 131) B 0 oi_0 rfl uw_11 (by decide) rfl tw_525 rfl dX11_count_131 ?_
                  refine x_get (T := TX8) (pc := 134) B 3 oi_1 rfl uw_8 (by decide) rfl tw_374 rfl dX11_count_134 ?_
                  refine x_get (T := TX5) (pc := 137) B 3 oi_24 rfl uw_5 (by decide) rfl tw_270 rfl dX11_count_137 ?_
                  obtain rfl := Option.some.inj h
                  exact x_iret (pc := 140) B hQ dX11_count_140
                · have h := iff_ hc8 h
                  rcases bcase (decide (a1 = 8)) with hc9 | hc9
                  · have h := ift hc9 h
                    refine x_tableIn (cv := 8) (tgt := 141) (pc := 1) B dX11_count_1 (of_decide_eq_true hc9) (by decide) (by decide) rfl rfl ?_
                    refine x_aload_n (pc := 141) B 0 dX11_count_141 rfl rfl ?_
                    refine x_get (T := TX11) (pc := 142) B 0 oi_0 rfl uw_11 (by decide) rfl tw_525 rfl dX11_count_142 ?_
                    refine x_get (T := TX8) (pc := 145) B 3 oi_1 rfl uw_8 (by decide) rfl tw_374 rfl dX11_count_145 ?_
                    refine x_get (T := TX5) (pc := 148) B 4 oi_24 rfl uw_5 (by decide) rfl tw_273 rfl dX11_count_148 ?_
                    obtain rfl := Option.some.inj h
                    exact x_iret (pc := 151) B hQ dX11_count_151
                  · have h := iff_ hc9 h
                    rcases bcase (decide (a1 = 9)) with hc10 | hc10
                    · have h := ift hc10 h
                      refine x_tableIn (cv := 9) (tgt := 152) (pc := 1) B dX11_count_1 (of_decide_eq_true hc10) (by decide) (by decide) rfl rfl ?_
                      refine x_aload_n (pc := 152) B 0 dX11_count_152 rfl rfl ?_
                      refine x_get (T := TX11) (pc := 153) B 0 oi_0 rfl uw_11 (by decide) rfl tw_525 rfl dX11_count_153 ?_
                      refine x_get (T := TX8) (pc := 156) B 0 oi_1 rfl uw_8 (by decide) rfl tw_359 rfl dX11_count_156 ?_
                      refine x_get (T := TX4) (pc := 159) B 5 oi_2 rfl uw_4 (by decide) rfl tw_154 rfl dX11_count_159 ?_
                      obtain rfl := Option.some.inj h
                      exact x_iret (pc := 162) B hQ dX11_count_162
                    · have h := iff_ hc10 h
                      have e0 : ¬ a1.toInt = 0 := fun q => (of_decide_eq_false hc1) (Int32.toInt_inj.mp (q.trans (by decide : (0 : Int) = (0 : Int32).toInt)))
                      have e1 : ¬ a1.toInt = 1 := fun q => (of_decide_eq_false hc2) (Int32.toInt_inj.mp (q.trans (by decide : (1 : Int) = (1 : Int32).toInt)))
                      have e2 : ¬ a1.toInt = 2 := fun q => (of_decide_eq_false hc3) (Int32.toInt_inj.mp (q.trans (by decide : (2 : Int) = (2 : Int32).toInt)))
                      have e3 : ¬ a1.toInt = 3 := fun q => (of_decide_eq_false hc4) (Int32.toInt_inj.mp (q.trans (by decide : (3 : Int) = (3 : Int32).toInt)))
                      have e4 : ¬ a1.toInt = 4 := fun q => (of_decide_eq_false hc5) (Int32.toInt_inj.mp (q.trans (by decide : (4 : Int) = (4 : Int32).toInt)))
                      have e5 : ¬ a1.toInt = 5 := fun q => (of_decide_eq_false hc6) (Int32.toInt_inj.mp (q.trans (by decide : (5 : Int) = (5 : Int32).toInt)))
                      have e6 : ¬ a1.toInt = 6 := fun q => (of_decide_eq_false hc7) (Int32.toInt_inj.mp (q.trans (by decide : (6 : Int) = (6 : Int32).toInt)))
                      have e7 : ¬ a1.toInt = 7 := fun q => (of_decide_eq_false hc8) (Int32.toInt_inj.mp (q.trans (by decide : (7 : Int) = (7 : Int32).toInt)))
                      have e8 : ¬ a1.toInt = 8 := fun q => (of_decide_eq_false hc9) (Int32.toInt_inj.mp (q.trans (by decide : (8 : Int) = (8 : Int32).toInt)))
                      have e9 : ¬ a1.toInt = 9 := fun q => (of_decide_eq_false hc10) (Int32.toInt_inj.mp (q.trans (by decide : (9 : Int) = (9 : Int32).toInt)))
                      refine x_tableOut (tgt := 163) (pc := 1) B dX11_count_1 (by omega) rfl ?_
                      refine x_iconst (v := (-1)) (pc := 163) B dX11_count_163 rfl ?_
                      obtain rfl := Option.some.inj h
                      exact x_iret (pc := 164) B hQ dX11_count_164
