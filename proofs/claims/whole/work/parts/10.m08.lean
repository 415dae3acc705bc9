-- CurrentFarmsModel.readsRule(II)Z [94]
abbrev y_Mo_readsRule_94 : MethodName := ⟨"CurrentFarmsModel", "readsRule", "(II)Z"⟩
abbrev cX12_readsRule : ByteArray := prog_14_method_43_code
theorem dX12_readsRule_0 : decode cX12_readsRule 0 = .ok (.aload_n 0, 1) := by decide +kernel
theorem dX12_readsRule_1 : decode cX12_readsRule 1 = .ok (.getfield 7, 3) := by decide +kernel
theorem dX12_readsRule_4 : decode cX12_readsRule 4 = .ok (.sipush 790, 3) := by decide +kernel
theorem dX12_readsRule_7 : decode cX12_readsRule 7 = .ok (.iload_n 1, 1) := by decide +kernel
theorem dX12_readsRule_8 : decode cX12_readsRule 8 = .ok (.iadd, 1) := by decide +kernel
theorem dX12_readsRule_9 : decode cX12_readsRule 9 = .ok (.iload_n 2, 1) := by decide +kernel
theorem dX12_readsRule_10 : decode cX12_readsRule 10 = .ok (.iastore, 1) := by decide +kernel
theorem dX12_readsRule_11 : decode cX12_readsRule 11 = .ok (.aload_n 0, 1) := by decide +kernel
theorem dX12_readsRule_12 : decode cX12_readsRule 12 = .ok (.getfield 7, 3) := by decide +kernel
theorem dX12_readsRule_15 : decode cX12_readsRule 15 = .ok (.sipush 800, 3) := by decide +kernel
theorem dX12_readsRule_18 : decode cX12_readsRule 18 = .ok (.iload_n 1, 1) := by decide +kernel
theorem dX12_readsRule_19 : decode cX12_readsRule 19 = .ok (.iadd, 1) := by decide +kernel
theorem dX12_readsRule_20 : decode cX12_readsRule 20 = .ok (.aload_n 0, 1) := by decide +kernel
theorem dX12_readsRule_21 : decode cX12_readsRule 21 = .ok (.getfield 7, 3) := by decide +kernel
theorem dX12_readsRule_24 : decode cX12_readsRule 24 = .ok (.iconst 4, 1) := by decide +kernel
theorem dX12_readsRule_25 : decode cX12_readsRule 25 = .ok (.iaload, 1) := by decide +kernel
theorem dX12_readsRule_26 : decode cX12_readsRule 26 = .ok (.iastore, 1) := by decide +kernel
theorem dX12_readsRule_27 : decode cX12_readsRule 27 = .ok (.iconst 0, 1) := by decide +kernel
theorem dX12_readsRule_28 : decode cX12_readsRule 28 = .ok (.istore_n 3, 1) := by decide +kernel
theorem dX12_readsRule_29 : decode cX12_readsRule 29 = .ok (.iload_n 3, 1) := by decide +kernel
theorem dX12_readsRule_30 : decode cX12_readsRule 30 = .ok (.aload_n 0, 1) := by decide +kernel
theorem dX12_readsRule_31 : decode cX12_readsRule 31 = .ok (.getfield 7, 3) := by decide +kernel
theorem dX12_readsRule_34 : decode cX12_readsRule 34 = .ok (.iconst 4, 1) := by decide +kernel
theorem dX12_readsRule_35 : decode cX12_readsRule 35 = .ok (.iaload, 1) := by decide +kernel
theorem dX12_readsRule_36 : decode cX12_readsRule 36 = .ok (.if_icmp .ge 34, 3) := by decide +kernel
theorem dX12_readsRule_39 : decode cX12_readsRule 39 = .ok (.aload_n 0, 1) := by decide +kernel
theorem dX12_readsRule_40 : decode cX12_readsRule 40 = .ok (.getfield 7, 3) := by decide +kernel
theorem dX12_readsRule_43 : decode cX12_readsRule 43 = .ok (.sipush 810, 3) := by decide +kernel
theorem dX12_readsRule_46 : decode cX12_readsRule 46 = .ok (.bipush 120, 2) := by decide +kernel
theorem dX12_readsRule_48 : decode cX12_readsRule 48 = .ok (.iload_n 1, 1) := by decide +kernel
theorem dX12_readsRule_49 : decode cX12_readsRule 49 = .ok (.imul, 1) := by decide +kernel
theorem dX12_readsRule_50 : decode cX12_readsRule 50 = .ok (.iadd, 1) := by decide +kernel
theorem dX12_readsRule_51 : decode cX12_readsRule 51 = .ok (.iload_n 3, 1) := by decide +kernel
theorem dX12_readsRule_52 : decode cX12_readsRule 52 = .ok (.iadd, 1) := by decide +kernel
theorem dX12_readsRule_53 : decode cX12_readsRule 53 = .ok (.aload_n 0, 1) := by decide +kernel
theorem dX12_readsRule_54 : decode cX12_readsRule 54 = .ok (.getfield 7, 3) := by decide +kernel
theorem dX12_readsRule_57 : decode cX12_readsRule 57 = .ok (.sipush 2140, 3) := by decide +kernel
theorem dX12_readsRule_60 : decode cX12_readsRule 60 = .ok (.iload_n 3, 1) := by decide +kernel
theorem dX12_readsRule_61 : decode cX12_readsRule 61 = .ok (.iadd, 1) := by decide +kernel
theorem dX12_readsRule_62 : decode cX12_readsRule 62 = .ok (.iaload, 1) := by decide +kernel
theorem dX12_readsRule_63 : decode cX12_readsRule 63 = .ok (.iastore, 1) := by decide +kernel
theorem dX12_readsRule_64 : decode cX12_readsRule 64 = .ok (.iinc 3 1, 3) := by decide +kernel
theorem dX12_readsRule_67 : decode cX12_readsRule 67 = .ok (.goto (-38), 3) := by decide +kernel
theorem dX12_readsRule_70 : decode cX12_readsRule 70 = .ok (.aload_n 0, 1) := by decide +kernel
theorem dX12_readsRule_71 : decode cX12_readsRule 71 = .ok (.getfield 7, 3) := by decide +kernel
theorem dX12_readsRule_74 : decode cX12_readsRule 74 = .ok (.iconst 4, 1) := by decide +kernel
theorem dX12_readsRule_75 : decode cX12_readsRule 75 = .ok (.iconst 0, 1) := by decide +kernel
theorem dX12_readsRule_76 : decode cX12_readsRule 76 = .ok (.iastore, 1) := by decide +kernel
theorem dX12_readsRule_77 : decode cX12_readsRule 77 = .ok (.aload_n 0, 1) := by decide +kernel
theorem dX12_readsRule_78 : decode cX12_readsRule 78 = .ok (.getfield 7, 3) := by decide +kernel
theorem dX12_readsRule_81 : decode cX12_readsRule 81 = .ok (.sipush 1890, 3) := by decide +kernel
theorem dX12_readsRule_84 : decode cX12_readsRule 84 = .ok (.iload_n 1, 1) := by decide +kernel
theorem dX12_readsRule_85 : decode cX12_readsRule 85 = .ok (.iadd, 1) := by decide +kernel
theorem dX12_readsRule_86 : decode cX12_readsRule 86 = .ok (.iconst 0, 1) := by decide +kernel
theorem dX12_readsRule_87 : decode cX12_readsRule 87 = .ok (.iastore, 1) := by decide +kernel
theorem dX12_readsRule_88 : decode cX12_readsRule 88 = .ok (.aload_n 0, 1) := by decide +kernel
theorem dX12_readsRule_89 : decode cX12_readsRule 89 = .ok (.iload_n 1, 1) := by decide +kernel
theorem dX12_readsRule_90 : decode cX12_readsRule 90 = .ok (.putfield 152, 3) := by decide +kernel
theorem dX12_readsRule_93 : decode cX12_readsRule 93 = .ok (.aload_n 0, 1) := by decide +kernel
theorem dX12_readsRule_94 : decode cX12_readsRule 94 = .ok (.iconst 0, 1) := by decide +kernel
theorem dX12_readsRule_95 : decode cX12_readsRule 95 = .ok (.putfield 149, 3) := by decide +kernel
theorem dX12_readsRule_98 : decode cX12_readsRule 98 = .ok (.aload_n 0, 1) := by decide +kernel
theorem dX12_readsRule_99 : decode cX12_readsRule 99 = .ok (.iconst 0, 1) := by decide +kernel
theorem dX12_readsRule_100 : decode cX12_readsRule 100 = .ok (.putfield 155, 3) := by decide +kernel
theorem dX12_readsRule_103 : decode cX12_readsRule 103 = .ok (.aload_n 0, 1) := by decide +kernel
theorem dX12_readsRule_104 : decode cX12_readsRule 104 = .ok (.iload_n 1, 1) := by decide +kernel
theorem dX12_readsRule_105 : decode cX12_readsRule 105 = .ok (.invokevirtual 225, 3) := by decide +kernel
theorem dX12_readsRule_108 : decode cX12_readsRule 108 = .ok (.aload_n 0, 1) := by decide +kernel
theorem dX12_readsRule_109 : decode cX12_readsRule 109 = .ok (.getfield 155, 3) := by decide +kernel
theorem dX12_readsRule_112 : decode cX12_readsRule 112 = .ok (.ifCond .ne 45, 3) := by decide +kernel
theorem dX12_readsRule_115 : decode cX12_readsRule 115 = .ok (.aload_n 0, 1) := by decide +kernel
theorem dX12_readsRule_116 : decode cX12_readsRule 116 = .ok (.getfield 7, 3) := by decide +kernel
theorem dX12_readsRule_119 : decode cX12_readsRule 119 = .ok (.sipush 1890, 3) := by decide +kernel
theorem dX12_readsRule_122 : decode cX12_readsRule 122 = .ok (.iload_n 1, 1) := by decide +kernel
theorem dX12_readsRule_123 : decode cX12_readsRule 123 = .ok (.iadd, 1) := by decide +kernel
theorem dX12_readsRule_124 : decode cX12_readsRule 124 = .ok (.iaload, 1) := by decide +kernel
theorem dX12_readsRule_125 : decode cX12_readsRule 125 = .ok (.bipush 8, 2) := by decide +kernel
theorem dX12_readsRule_127 : decode cX12_readsRule 127 = .ok (.if_icmp .ge 30, 3) := by decide +kernel
theorem dX12_readsRule_130 : decode cX12_readsRule 130 = .ok (.aload_n 0, 1) := by decide +kernel
theorem dX12_readsRule_131 : decode cX12_readsRule 131 = .ok (.invokevirtual 159, 3) := by decide +kernel
theorem dX12_readsRule_134 : decode cX12_readsRule 134 = .ok (.bipush 59, 2) := by decide +kernel
theorem dX12_readsRule_136 : decode cX12_readsRule 136 = .ok (.if_icmp .ne 21, 3) := by decide +kernel
theorem dX12_readsRule_139 : decode cX12_readsRule 139 = .ok (.aload_n 0, 1) := by decide +kernel
theorem dX12_readsRule_140 : decode cX12_readsRule 140 = .ok (.dup, 1) := by decide +kernel
theorem dX12_readsRule_141 : decode cX12_readsRule 141 = .ok (.getfield 149, 3) := by decide +kernel
theorem dX12_readsRule_144 : decode cX12_readsRule 144 = .ok (.iconst 1, 1) := by decide +kernel
theorem dX12_readsRule_145 : decode cX12_readsRule 145 = .ok (.iadd, 1) := by decide +kernel
theorem dX12_readsRule_146 : decode cX12_readsRule 146 = .ok (.putfield 149, 3) := by decide +kernel
theorem dX12_readsRule_149 : decode cX12_readsRule 149 = .ok (.aload_n 0, 1) := by decide +kernel
theorem dX12_readsRule_150 : decode cX12_readsRule 150 = .ok (.iload_n 1, 1) := by decide +kernel
theorem dX12_readsRule_151 : decode cX12_readsRule 151 = .ok (.invokevirtual 225, 3) := by decide +kernel
theorem dX12_readsRule_154 : decode cX12_readsRule 154 = .ok (.goto (-46), 3) := by decide +kernel
theorem dX12_readsRule_157 : decode cX12_readsRule 157 = .ok (.aload_n 0, 1) := by decide +kernel
theorem dX12_readsRule_158 : decode cX12_readsRule 158 = .ok (.aload_n 0, 1) := by decide +kernel
theorem dX12_readsRule_159 : decode cX12_readsRule 159 = .ok (.getfield 155, 3) := by decide +kernel
theorem dX12_readsRule_162 : decode cX12_readsRule 162 = .ok (.ifCond .ne 20, 3) := by decide +kernel
theorem dX12_readsRule_165 : decode cX12_readsRule 165 = .ok (.aload_n 0, 1) := by decide +kernel
theorem dX12_readsRule_166 : decode cX12_readsRule 166 = .ok (.getfield 149, 3) := by decide +kernel
theorem dX12_readsRule_169 : decode cX12_readsRule 169 = .ok (.aload_n 0, 1) := by decide +kernel
theorem dX12_readsRule_170 : decode cX12_readsRule 170 = .ok (.getfield 7, 3) := by decide +kernel
theorem dX12_readsRule_173 : decode cX12_readsRule 173 = .ok (.sipush 800, 3) := by decide +kernel
theorem dX12_readsRule_176 : decode cX12_readsRule 176 = .ok (.iload_n 1, 1) := by decide +kernel
theorem dX12_readsRule_177 : decode cX12_readsRule 177 = .ok (.iadd, 1) := by decide +kernel
theorem dX12_readsRule_178 : decode cX12_readsRule 178 = .ok (.iaload, 1) := by decide +kernel
theorem dX12_readsRule_179 : decode cX12_readsRule 179 = .ok (.if_icmp .eq 7, 3) := by decide +kernel
theorem dX12_readsRule_182 : decode cX12_readsRule 182 = .ok (.iconst 1, 1) := by decide +kernel
theorem dX12_readsRule_183 : decode cX12_readsRule 183 = .ok (.goto 4, 3) := by decide +kernel
theorem dX12_readsRule_186 : decode cX12_readsRule 186 = .ok (.iconst 0, 1) := by decide +kernel
theorem dX12_readsRule_187 : decode cX12_readsRule 187 = .ok (.putfield 155, 3) := by decide +kernel
theorem dX12_readsRule_190 : decode cX12_readsRule 190 = .ok (.aload_n 0, 1) := by decide +kernel
theorem dX12_readsRule_191 : decode cX12_readsRule 191 = .ok (.getfield 155, 3) := by decide +kernel
theorem dX12_readsRule_194 : decode cX12_readsRule 194 = .ok (.ifCond .ne 7, 3) := by decide +kernel
theorem dX12_readsRule_197 : decode cX12_readsRule 197 = .ok (.iconst 1, 1) := by decide +kernel
theorem dX12_readsRule_198 : decode cX12_readsRule 198 = .ok (.goto 4, 3) := by decide +kernel
theorem dX12_readsRule_201 : decode cX12_readsRule 201 = .ok (.iconst 0, 1) := by decide +kernel
theorem dX12_readsRule_202 : decode cX12_readsRule 202 = .ok (.ireturn, 1) := by decide +kernel
theorem hd_Mo_readsRule_94 : y_Mo_readsRule_94.cls ≠ "java/lang/invoke/MethodHandle" ∧ y_Mo_readsRule_94.cls ≠ "java/lang/invoke/VarHandle" ∧ (parseMethodDescriptor y_Mo_readsRule_94.desc).map (fun d => d.parameters.length) = some 2 := by decide +kernel
def b_Mo_readsRule_94_29 (a1 : Int32) (y5 : Int32 × Mem) : Option ((Int32 × Mem) ⊕ (Mem)) :=
  if decide (y5.1 < (y5.2.1 95 4)) then (if inb (2140 + y5.1) 4700 then if inb ((810 + (120 * a1)) + y5.1) 4700 then jv_ (wI y5.2 95 ((810 + (120 * a1)) + y5.1).toNatClampNeg (y5.2.1 95 (2140 + y5.1).toNatClampNeg)) fun M9 => some (.inl (y5.1 + 1, M9)) else none else none) else (some (.inr y5.2))
def b_Mo_readsRule_94_108 (a1 : Int32) (y18 : Mem) : Option ((Mem) ⊕ (Mem)) :=
  if isb (y18.1 94 8) then if decide (y18.1 94 8 = 1) then (some (.inr y18)) else (if inb (1890 + a1) 4700 then if decide ((y18.1 95 (1890 + a1).toNatClampNeg) < 8) then ((f_Mo_here_94 y18).bind fun q23 => if decide (q23 = 59) then (jv_ (wI y18 94 7 ((y18.1 94 7) + 1)) fun M25 => (f_Mo_reads_94 a1 M25).bind fun q26 => some (.inl q26)) else (some (.inr y18))) else (some (.inr y18)) else none) else none
def f_Mo_readsRule_94 (a1 : Int32) (a2 : Int32) (M0 : Mem) : Option (Bool × Mem) :=
  if inb (790 + a1) 4700 then jv_ (wI M0 95 (790 + a1).toNatClampNeg a2) fun M2 => if inb (800 + a1) 4700 then jv_ (wI M2 95 (800 + a1).toNatClampNeg (M2.1 95 4)) fun M4 => (itr (b_Mo_readsRule_94_29 a1) FU (0, M4)).bind fun q10 => jv_ (wI q10 95 4 0) fun M11 => if inb (1890 + a1) 4700 then jv_ (wI M11 95 (1890 + a1).toNatClampNeg 0) fun M13 => jv_ (wI M13 94 6 a1) fun M14 => jv_ (wI M14 94 7 0) fun M15 => jv_ (wI M15 94 8 0) fun M16 => (f_Mo_reads_94 a1 M16).bind fun q17 => (itr (b_Mo_readsRule_94_108 a1) FU q17).bind fun q27 => if isb (q27.1 94 8) then jn_ (fun (u31 : Bool) => jv_ (wI q27 94 8 (bI u31)) fun M32 => if isb (M32.1 94 8) then if decide (M32.1 94 8 = 1) then (some (false, M32)) else (some (true, M32)) else none) fun k35 => if decide (q27.1 94 8 = 1) then (k35 true) else (if inb (800 + a1) 4700 then if decide ((q27.1 94 7) = (q27.1 95 (800 + a1).toNatClampNeg)) then (k35 false) else (k35 true) else none) else none else none else none else none
set_option maxHeartbeats 4000000 in
set_option maxRecDepth 20000 in
theorem C_Mo_readsRule_94 {D : va_G} {ad adK adV : Nat → Nat} {cI cJ : ClassId} {l : Launch} (a1 : Int32) (a2 : Int32) (M0 : Mem) (o : Bool × Mem) (h : f_Mo_readsRule_94 a1 a2 M0 = some o) : Ct D ad adK adV cI cJ l y_Mo_readsRule_94 cX12_readsRule 4 (some .boolean) 508 14175 [.ref (ad 94), .int a1, .int a2] M0 (some (.int (bI o.1))) o.2 := by
  refine x_start (lv := [(0, .ref (ad 94)), (1, .int a1), (2, .int a2)]) (own := "CurrentFarmsModel") rfl (by decide) (Nat.le_of_ble_eq_true rfl) rfl ?_
  intro p e s m args below meth c Q hQ B
  unfold f_Mo_readsRule_94 at h
  refine x_aload_n (pc := 0) B 0 dX12_readsRule_0 rfl rfl ?_
  refine x_get (T := TX12) (pc := 1) B 1 oi_94 rfl uw_12 (by decide) rfl tw_1300 rfl dX12_readsRule_1 ?_
  refine x_sipush (v := 790) (pc := 4) B dX12_readsRule_4 rfl ?_
  refine x_iload_n (pc := 7) B 1 dX12_readsRule_7 rfl rfl ?_
  refine x_iadd (pc := 8) B dX12_readsRule_8 ?_
  refine x_iload_n (pc := 9) B 2 dX12_readsRule_9 rfl rfl ?_
  obtain ⟨hk1, h⟩ := ifn h
  refine x_iast (pc := 10) B ai_95 hk1 dX12_readsRule_10 ?_
  refine jv_m (P := fun M2 => XX D ad cI cJ p l e (Rm 508 14175) s m args below meth c Q 4 M2 11 [(0, .ref (ad 94)), (1, .int a1), (2, .int a2)] []) h (fun M2 h => ?_)
  refine x_aload_n (pc := 11) B 0 dX12_readsRule_11 rfl rfl ?_
  refine x_get (T := TX12) (pc := 12) B 1 oi_94 rfl uw_12 (by decide) rfl tw_1300 rfl dX12_readsRule_12 ?_
  refine x_sipush (v := 800) (pc := 15) B dX12_readsRule_15 rfl ?_
  refine x_iload_n (pc := 18) B 1 dX12_readsRule_18 rfl rfl ?_
  refine x_iadd (pc := 19) B dX12_readsRule_19 ?_
  refine x_aload_n (pc := 20) B 0 dX12_readsRule_20 rfl rfl ?_
  refine x_get (T := TX12) (pc := 21) B 1 oi_94 rfl uw_12 (by decide) rfl tw_1300 rfl dX12_readsRule_21 ?_
  refine x_iconst (v := 4) (pc := 24) B dX12_readsRule_24 rfl ?_
  refine x_iald_c (j := 4) (pc := 25) B ai_95 (by decide) rfl dX12_readsRule_25 ?_
  obtain ⟨hk3, h⟩ := ifn h
  refine x_iast (pc := 26) B ai_95 hk3 dX12_readsRule_26 ?_
  refine jv_m (P := fun M4 => XX D ad cI cJ p l e (Rm 508 14175) s m args below meth c Q 4 M4 27 [(0, .ref (ad 94)), (1, .int a1), (2, .int a2)] []) h (fun M4 h => ?_)
  refine x_iconst (v := 0) (pc := 27) B dX12_readsRule_27 rfl ?_
  refine x_istore_n (lv' := [(3, .int 0), (0, .ref (ad 94)), (1, .int a1), (2, .int a2)]) (pc := 28) B dX12_readsRule_28 rfl (by decide) rfl ?_
  refine x_pick (lv' := [(0, .ref (ad 94)), (1, .int a1), (3, .int 0)]) [1, 2, 0] rfl ?_
  obtain ⟨q10, hq10, h⟩ := bnd h
  refine x_loop (Head := fun (y5 : Int32 × Mem) => XX D ad cI cJ p l e (Rm 508 14175) s m args below meth c Q 4 y5.2 29 [(0, .ref (ad 94)), (1, .int a1), (3, .int y5.1)] []) (Ex := fun (q10 : Mem) => XX D ad cI cJ p l e (Rm 508 14175) s m args below meth c Q 4 q10 70 [(0, .ref (ad 94)), (1, .int a1)] []) (fun y5 r h hback hexit => ?_) FU _ q10 hq10 ?_
  · unfold b_Mo_readsRule_94_29 at h
    refine x_iload_n (pc := 29) B 2 dX12_readsRule_29 rfl rfl ?_
    refine x_aload_n (pc := 30) B 0 dX12_readsRule_30 rfl rfl ?_
    refine x_get (T := TX12) (pc := 31) B 1 oi_94 rfl uw_12 (by decide) rfl tw_1300 rfl dX12_readsRule_31 ?_
    refine x_iconst (v := 4) (pc := 34) B dX12_readsRule_34 rfl ?_
    refine x_iald_c (j := 4) (pc := 35) B ai_95 (by decide) rfl dX12_readsRule_35 ?_
    refine x_icmp_ge (tgt := 70) (pc := 36) B dX12_readsRule_36 rfl (fun hc6 => ?_) (fun hc6 => ?_)
    · have h := iff_ hc6 h
      refine x_pick (lv' := [(0, .ref (ad 94)), (1, .int a1)]) [0, 1] rfl ?_
      have z := hexit y5.2 (Option.some.inj h).symm
      exact z
    · have h := ift hc6 h
      refine x_aload_n (pc := 39) B 0 dX12_readsRule_39 rfl rfl ?_
      refine x_get (T := TX12) (pc := 40) B 1 oi_94 rfl uw_12 (by decide) rfl tw_1300 rfl dX12_readsRule_40 ?_
      refine x_sipush (v := 810) (pc := 43) B dX12_readsRule_43 rfl ?_
      refine x_bipush (v := 120) (pc := 46) B dX12_readsRule_46 rfl ?_
      refine x_iload_n (pc := 48) B 1 dX12_readsRule_48 rfl rfl ?_
      refine x_imul (pc := 49) B dX12_readsRule_49 ?_
      refine x_iadd (pc := 50) B dX12_readsRule_50 ?_
      refine x_iload_n (pc := 51) B 2 dX12_readsRule_51 rfl rfl ?_
      refine x_iadd (pc := 52) B dX12_readsRule_52 ?_
      refine x_aload_n (pc := 53) B 0 dX12_readsRule_53 rfl rfl ?_
      refine x_get (T := TX12) (pc := 54) B 1 oi_94 rfl uw_12 (by decide) rfl tw_1300 rfl dX12_readsRule_54 ?_
      refine x_sipush (v := 2140) (pc := 57) B dX12_readsRule_57 rfl ?_
      refine x_iload_n (pc := 60) B 2 dX12_readsRule_60 rfl rfl ?_
      refine x_iadd (pc := 61) B dX12_readsRule_61 ?_
      obtain ⟨hk7, h⟩ := ifn h
      refine x_iald (pc := 62) B ai_95 hk7 dX12_readsRule_62 ?_
      obtain ⟨hk8, h⟩ := ifn h
      refine x_iast (pc := 63) B ai_95 hk8 dX12_readsRule_63 ?_
      refine jv_m (P := fun M9 => XX D ad cI cJ p l e (Rm 508 14175) s m args below meth c Q 4 M9 64 [(0, .ref (ad 94)), (1, .int a1), (3, .int y5.1)] []) h (fun M9 h => ?_)
      refine x_iinc (k := 2) (v := y5.1 + 1) (lv' := [(3, .int (y5.1 + 1)), (0, .ref (ad 94)), (1, .int a1)]) (pc := 64) B dX12_readsRule_64 rfl rfl (by decide) rfl ?_
      refine x_goto (tgt := 29) (pc := 67) B dX12_readsRule_67 rfl ?_
      refine x_pick (lv' := [(0, .ref (ad 94)), (1, .int a1), (3, .int (y5.1 + 1))]) [1, 2, 0] rfl ?_
      have z := hback (y5.1 + 1, M9) (Option.some.inj h).symm
      exact z
  · refine x_aload_n (pc := 70) B 0 dX12_readsRule_70 rfl rfl ?_
    refine x_get (T := TX12) (pc := 71) B 1 oi_94 rfl uw_12 (by decide) rfl tw_1300 rfl dX12_readsRule_71 ?_
    refine x_iconst (v := 4) (pc := 74) B dX12_readsRule_74 rfl ?_
    refine x_iconst (v := 0) (pc := 75) B dX12_readsRule_75 rfl ?_
    refine x_iast_c (j := 4) (pc := 76) B ai_95 (by decide) rfl dX12_readsRule_76 ?_
    refine jv_m (P := fun M11 => XX D ad cI cJ p l e (Rm 508 14175) s m args below meth c Q 4 M11 77 [(0, .ref (ad 94)), (1, .int a1)] []) h (fun M11 h => ?_)
    refine x_aload_n (pc := 77) B 0 dX12_readsRule_77 rfl rfl ?_
    refine x_get (T := TX12) (pc := 78) B 1 oi_94 rfl uw_12 (by decide) rfl tw_1300 rfl dX12_readsRule_78 ?_
    refine x_sipush (v := 1890) (pc := 81) B dX12_readsRule_81 rfl ?_
    refine x_iload_n (pc := 84) B 1 dX12_readsRule_84 rfl rfl ?_
    refine x_iadd (pc := 85) B dX12_readsRule_85 ?_
    refine x_iconst (v := 0) (pc := 86) B dX12_readsRule_86 rfl ?_
    obtain ⟨hk12, h⟩ := ifn h
    refine x_iast (pc := 87) B ai_95 hk12 dX12_readsRule_87 ?_
    refine jv_m (P := fun M13 => XX D ad cI cJ p l e (Rm 508 14175) s m args below meth c Q 4 M13 88 [(0, .ref (ad 94)), (1, .int a1)] []) h (fun M13 h => ?_)
    refine x_aload_n (pc := 88) B 0 dX12_readsRule_88 rfl rfl ?_
    refine x_iload_n (pc := 89) B 1 dX12_readsRule_89 rfl rfl ?_
    refine x_put (T := TX12) (pc := 90) B 6 oi_94 of_94_6 rfl uw_12 tyX12_ok nmX12 (by decide) rfl tw_1305 rfl rfl rfl (Nat.le_of_ble_eq_true rfl) dX12_readsRule_90 ?_
    refine jv_m (P := fun M14 => XX D ad cI cJ p l e (Rm 508 14175) s m args below meth c Q 4 M14 93 [(0, .ref (ad 94)), (1, .int a1)] []) h (fun M14 h => ?_)
    refine x_aload_n (pc := 93) B 0 dX12_readsRule_93 rfl rfl ?_
    refine x_iconst (v := 0) (pc := 94) B dX12_readsRule_94 rfl ?_
    refine x_put (T := TX12) (pc := 95) B 7 oi_94 of_94_7 rfl uw_12 tyX12_ok nmX12 (by decide) rfl tw_1306 rfl rfl rfl (Nat.le_of_ble_eq_true rfl) dX12_readsRule_95 ?_
    refine jv_m (P := fun M15 => XX D ad cI cJ p l e (Rm 508 14175) s m args below meth c Q 4 M15 98 [(0, .ref (ad 94)), (1, .int a1)] []) h (fun M15 h => ?_)
    refine x_aload_n (pc := 98) B 0 dX12_readsRule_98 rfl rfl ?_
    refine x_iconst (v := 0) (pc := 99) B dX12_readsRule_99 rfl ?_
    refine x_put (T := TX12) (pc := 100) B 8 oi_94 of_94_8 rfl uw_12 tyX12_ok nmX12 (by decide) rfl tw_1307 rfl rfl rfl (Nat.le_of_ble_eq_true rfl) dX12_readsRule_100 ?_
    refine jv_m (P := fun M16 => XX D ad cI cJ p l e (Rm 508 14175) s m args below meth c Q 4 M16 103 [(0, .ref (ad 94)), (1, .int a1)] []) h (fun M16 h => ?_)
    refine x_aload_n (pc := 103) B 0 dX12_readsRule_103 rfl rfl ?_
    refine x_iload_n (pc := 104) B 1 dX12_readsRule_104 rfl rfl ?_
    obtain ⟨q17, hq17, h⟩ := bnd h
    refine x_callV (rest := []) (st' := []) (pc := 105) B oi_94 rfl (C_Mo_reads_94 a1 M16 _ hq17) tw_1605 tw_1602 tw_1604 tw_74 tw_111 hd_Mo_reads_94 ⟨Nat.le_of_ble_eq_true rfl, Nat.le_of_ble_eq_true rfl⟩ rfl rfl (Nat.le_of_ble_eq_true rfl) rfl dX12_readsRule_105 ?_
    obtain ⟨q27, hq27, h⟩ := bnd h
    refine x_loop (Head := fun (y18 : Mem) => XX D ad cI cJ p l e (Rm 508 14175) s m args below meth c Q 4 y18 108 [(0, .ref (ad 94)), (1, .int a1)] []) (Ex := fun (q27 : Mem) => XX D ad cI cJ p l e (Rm 508 14175) s m args below meth c Q 4 q27 157 [(0, .ref (ad 94)), (1, .int a1)] []) (fun y18 r h hback hexit => ?_) FU _ q27 hq27 ?_
    · unfold b_Mo_readsRule_94_108 at h
      refine x_aload_n (pc := 108) B 0 dX12_readsRule_108 rfl rfl ?_
      obtain ⟨hk19, h⟩ := ifn h
      refine x_getZ (T := TX12) (pc := 109) B 8 oi_94 rfl uw_12 (by decide) rfl tw_1307 rfl hk19 dX12_readsRule_109 ?_
      refine x_if_ne_b (tgt := 157) (pc := 112) B dX12_readsRule_112 rfl (fun hc20 => ?_) (fun hc20 => ?_)
      · have h := ift hc20 h
        have z := hexit y18 (Option.some.inj h).symm
        exact z
      · have h := iff_ hc20 h
        refine x_aload_n (pc := 115) B 0 dX12_readsRule_115 rfl rfl ?_
        refine x_get (T := TX12) (pc := 116) B 1 oi_94 rfl uw_12 (by decide) rfl tw_1300 rfl dX12_readsRule_116 ?_
        refine x_sipush (v := 1890) (pc := 119) B dX12_readsRule_119 rfl ?_
        refine x_iload_n (pc := 122) B 1 dX12_readsRule_122 rfl rfl ?_
        refine x_iadd (pc := 123) B dX12_readsRule_123 ?_
        obtain ⟨hk21, h⟩ := ifn h
        refine x_iald (pc := 124) B ai_95 hk21 dX12_readsRule_124 ?_
        refine x_bipush (v := 8) (pc := 125) B dX12_readsRule_125 rfl ?_
        refine x_icmp_ge (tgt := 157) (pc := 127) B dX12_readsRule_127 rfl (fun hc22 => ?_) (fun hc22 => ?_)
        · have h := iff_ hc22 h
          have z := hexit y18 (Option.some.inj h).symm
          exact z
        · have h := ift hc22 h
          refine x_aload_n (pc := 130) B 0 dX12_readsRule_130 rfl rfl ?_
          obtain ⟨q23, hq23, h⟩ := bnd h
          refine x_callV (rest := []) (st' := [.int q23]) (pc := 131) B oi_94 rfl (C_Mo_here_94  y18 _ hq23) tw_1539 tw_1536 tw_1538 tw_66 tw_111 hd_Mo_here_94 ⟨Nat.le_of_ble_eq_true rfl, Nat.le_of_ble_eq_true rfl⟩ rfl rfl (Nat.le_of_ble_eq_true rfl) rfl dX12_readsRule_131 ?_
          refine x_bipush (v := 59) (pc := 134) B dX12_readsRule_134 rfl ?_
          refine x_icmp_ne (tgt := 157) (pc := 136) B dX12_readsRule_136 rfl (fun hc24 => ?_) (fun hc24 => ?_)
          · have h := iff_ hc24 h
            have z := hexit y18 (Option.some.inj h).symm
            exact z
          · have h := ift hc24 h
            refine x_aload_n (pc := 139) B 0 dX12_readsRule_139 rfl rfl ?_
            refine x_dup (pc := 140) B dX12_readsRule_140 rfl ?_
            refine x_get (T := TX12) (pc := 141) B 7 oi_94 rfl uw_12 (by decide) rfl tw_1306 rfl dX12_readsRule_141 ?_
            refine x_iconst (v := 1) (pc := 144) B dX12_readsRule_144 rfl ?_
            refine x_iadd (pc := 145) B dX12_readsRule_145 ?_
            refine x_put (T := TX12) (pc := 146) B 7 oi_94 of_94_7 rfl uw_12 tyX12_ok nmX12 (by decide) rfl tw_1306 rfl rfl rfl (Nat.le_of_ble_eq_true rfl) dX12_readsRule_146 ?_
            refine jv_m (P := fun M25 => XX D ad cI cJ p l e (Rm 508 14175) s m args below meth c Q 4 M25 149 [(0, .ref (ad 94)), (1, .int a1)] []) h (fun M25 h => ?_)
            refine x_aload_n (pc := 149) B 0 dX12_readsRule_149 rfl rfl ?_
            refine x_iload_n (pc := 150) B 1 dX12_readsRule_150 rfl rfl ?_
            obtain ⟨q26, hq26, h⟩ := bnd h
            refine x_callV (rest := []) (st' := []) (pc := 151) B oi_94 rfl (C_Mo_reads_94 a1 M25 _ hq26) tw_1605 tw_1602 tw_1604 tw_74 tw_111 hd_Mo_reads_94 ⟨Nat.le_of_ble_eq_true rfl, Nat.le_of_ble_eq_true rfl⟩ rfl rfl (Nat.le_of_ble_eq_true rfl) rfl dX12_readsRule_151 ?_
            refine x_goto (tgt := 108) (pc := 154) B dX12_readsRule_154 rfl ?_
            have z := hback q26 (Option.some.inj h).symm
            exact z
    · refine x_aload_n (pc := 157) B 0 dX12_readsRule_157 rfl rfl ?_
      refine x_aload_n (pc := 158) B 0 dX12_readsRule_158 rfl rfl ?_
      obtain ⟨hk28, h⟩ := ifn h
      refine x_getZ (T := TX12) (pc := 159) B 8 oi_94 rfl uw_12 (by decide) rfl tw_1307 rfl hk28 dX12_readsRule_159 ?_
      refine jn_k h (fun (u31 : Bool) => XX D ad cI cJ p l e (Rm 508 14175) s m args below meth c Q 4 q27 187 [(0, .ref (ad 94))] [.int (bI u31), .ref (ad 94)]) (fun u31 h => ?_) (fun k35 h JJ => ?_)
      · refine x_put (T := TX12) (pc := 187) B 8 oi_94 of_94_8 rfl uw_12 tyX12_ok nmX12 (by decide) rfl tw_1307 rfl (nrw_b _) (fts_b _) (Nat.le_of_ble_eq_true rfl) dX12_readsRule_187 ?_
        refine jv_m (P := fun M32 => XX D ad cI cJ p l e (Rm 508 14175) s m args below meth c Q 4 M32 190 [(0, .ref (ad 94))] []) h (fun M32 h => ?_)
        refine x_aload_n (pc := 190) B 0 dX12_readsRule_190 rfl rfl ?_
        obtain ⟨hk33, h⟩ := ifn h
        refine x_getZ (T := TX12) (pc := 191) B 8 oi_94 rfl uw_12 (by decide) rfl tw_1307 rfl hk33 dX12_readsRule_191 ?_
        refine x_if_ne_b (tgt := 201) (pc := 194) B dX12_readsRule_194 rfl (fun hc34 => ?_) (fun hc34 => ?_)
        · have h := ift hc34 h
          refine x_iconst (v := 0) (pc := 201) B dX12_readsRule_201 rfl ?_
          obtain rfl := Option.some.inj h
          exact x_zret (v := false) (pc := 202) B hQ dX12_readsRule_202
        · have h := iff_ hc34 h
          refine x_iconst (v := 1) (pc := 197) B dX12_readsRule_197 rfl ?_
          refine x_goto (tgt := 202) (pc := 198) B dX12_readsRule_198 rfl ?_
          obtain rfl := Option.some.inj h
          exact x_zret (v := true) (pc := 202) B hQ dX12_readsRule_202
      · refine x_if_ne_b (tgt := 182) (pc := 162) B dX12_readsRule_162 rfl (fun hc29 => ?_) (fun hc29 => ?_)
        · have h := ift hc29 h
          refine x_iconst (v := 1) (pc := 182) B dX12_readsRule_182 rfl ?_
          refine x_goto (tgt := 187) (pc := 183) B dX12_readsRule_183 rfl ?_
          refine x_pick (lv' := [(0, .ref (ad 94))]) [0] rfl ?_
          have z := JJ true h
          exact z
        · have h := iff_ hc29 h
          refine x_aload_n (pc := 165) B 0 dX12_readsRule_165 rfl rfl ?_
          refine x_get (T := TX12) (pc := 166) B 7 oi_94 rfl uw_12 (by decide) rfl tw_1306 rfl dX12_readsRule_166 ?_
          refine x_aload_n (pc := 169) B 0 dX12_readsRule_169 rfl rfl ?_
          refine x_get (T := TX12) (pc := 170) B 1 oi_94 rfl uw_12 (by decide) rfl tw_1300 rfl dX12_readsRule_170 ?_
          refine x_sipush (v := 800) (pc := 173) B dX12_readsRule_173 rfl ?_
          refine x_iload_n (pc := 176) B 1 dX12_readsRule_176 rfl rfl ?_
          refine x_iadd (pc := 177) B dX12_readsRule_177 ?_
          obtain ⟨hk36, h⟩ := ifn h
          refine x_iald (pc := 178) B ai_95 hk36 dX12_readsRule_178 ?_
          refine x_icmp_eq (tgt := 186) (pc := 179) B dX12_readsRule_179 rfl (fun hc37 => ?_) (fun hc37 => ?_)
          · have h := ift hc37 h
            refine x_iconst (v := 0) (pc := 186) B dX12_readsRule_186 rfl ?_
            refine x_pick (lv' := [(0, .ref (ad 94))]) [0] rfl ?_
            have z := JJ false h
            exact z
          · have h := iff_ hc37 h
            refine x_iconst (v := 1) (pc := 182) B dX12_readsRule_182 rfl ?_
            refine x_goto (tgt := 187) (pc := 183) B dX12_readsRule_183 rfl ?_
            refine x_pick (lv' := [(0, .ref (ad 94))]) [0] rfl ?_
            have z := JJ true h
            exact z
-- CurrentFarmsModel.text(I)I [94]
abbrev y_Mo_text_94 : MethodName := ⟨"CurrentFarmsModel", "text", "(I)I"⟩
abbrev cX12_text : ByteArray := prog_14_method_44_code
theorem dX12_text_0 : decode cX12_text 0 = .ok (.iload_n 1, 1) := by decide +kernel
theorem dX12_text_1 : decode cX12_text 1 = .ok (.invokestatic 124, 3) := by decide +kernel
theorem dX12_text_4 : decode cX12_text 4 = .ok (.ifCond .ne 6, 3) := by decide +kernel
theorem dX12_text_7 : decode cX12_text 7 = .ok (.bipush (-2), 2) := by decide +kernel
theorem dX12_text_9 : decode cX12_text 9 = .ok (.ireturn, 1) := by decide +kernel
theorem dX12_text_10 : decode cX12_text 10 = .ok (.aload_n 0, 1) := by decide +kernel
theorem dX12_text_11 : decode cX12_text 11 = .ok (.getfield 7, 3) := by decide +kernel
theorem dX12_text_14 : decode cX12_text 14 = .ok (.iconst 3, 1) := by decide +kernel
theorem dX12_text_15 : decode cX12_text 15 = .ok (.iaload, 1) := by decide +kernel
theorem dX12_text_16 : decode cX12_text 16 = .ok (.bipush 8, 2) := by decide +kernel
theorem dX12_text_18 : decode cX12_text 18 = .ok (.if_icmp .ne 6, 3) := by decide +kernel
theorem dX12_text_21 : decode cX12_text 21 = .ok (.bipush (-4), 2) := by decide +kernel
theorem dX12_text_23 : decode cX12_text 23 = .ok (.ireturn, 1) := by decide +kernel
theorem dX12_text_24 : decode cX12_text 24 = .ok (.aload_n 0, 1) := by decide +kernel
theorem dX12_text_25 : decode cX12_text 25 = .ok (.aload_n 0, 1) := by decide +kernel
theorem dX12_text_26 : decode cX12_text 26 = .ok (.getfield 7, 3) := by decide +kernel
theorem dX12_text_29 : decode cX12_text 29 = .ok (.iconst 3, 1) := by decide +kernel
theorem dX12_text_30 : decode cX12_text 30 = .ok (.iaload, 1) := by decide +kernel
theorem dX12_text_31 : decode cX12_text 31 = .ok (.iload_n 1, 1) := by decide +kernel
theorem dX12_text_32 : decode cX12_text 32 = .ok (.invokevirtual 228, 3) := by decide +kernel
theorem dX12_text_35 : decode cX12_text 35 = .ok (.ifCond .ne 11, 3) := by decide +kernel
theorem dX12_text_38 : decode cX12_text 38 = .ok (.bipush (-10), 2) := by decide +kernel
theorem dX12_text_40 : decode cX12_text 40 = .ok (.aload_n 0, 1) := by decide +kernel
theorem dX12_text_41 : decode cX12_text 41 = .ok (.getfield 149, 3) := by decide +kernel
theorem dX12_text_44 : decode cX12_text 44 = .ok (.isub, 1) := by decide +kernel
theorem dX12_text_45 : decode cX12_text 45 = .ok (.ireturn, 1) := by decide +kernel
theorem dX12_text_46 : decode cX12_text 46 = .ok (.aload_n 0, 1) := by decide +kernel
theorem dX12_text_47 : decode cX12_text 47 = .ok (.getfield 7, 3) := by decide +kernel
theorem dX12_text_50 : decode cX12_text 50 = .ok (.iconst 3, 1) := by decide +kernel
theorem dX12_text_51 : decode cX12_text 51 = .ok (.dup2, 1) := by decide +kernel
theorem dX12_text_52 : decode cX12_text 52 = .ok (.iaload, 1) := by decide +kernel
theorem dX12_text_53 : decode cX12_text 53 = .ok (.iconst 1, 1) := by decide +kernel
theorem dX12_text_54 : decode cX12_text 54 = .ok (.iadd, 1) := by decide +kernel
theorem dX12_text_55 : decode cX12_text 55 = .ok (.iastore, 1) := by decide +kernel
theorem dX12_text_56 : decode cX12_text 56 = .ok (.aload_n 0, 1) := by decide +kernel
theorem dX12_text_57 : decode cX12_text 57 = .ok (.dup, 1) := by decide +kernel
theorem dX12_text_58 : decode cX12_text 58 = .ok (.getfield 50, 3) := by decide +kernel
theorem dX12_text_61 : decode cX12_text 61 = .ok (.iconst 1, 1) := by decide +kernel
theorem dX12_text_62 : decode cX12_text 62 = .ok (.iadd, 1) := by decide +kernel
theorem dX12_text_63 : decode cX12_text 63 = .ok (.putfield 50, 3) := by decide +kernel
theorem dX12_text_66 : decode cX12_text 66 = .ok (.aload_n 0, 1) := by decide +kernel
theorem dX12_text_67 : decode cX12_text 67 = .ok (.getfield 7, 3) := by decide +kernel
theorem dX12_text_70 : decode cX12_text 70 = .ok (.iconst 3, 1) := by decide +kernel
theorem dX12_text_71 : decode cX12_text 71 = .ok (.iaload, 1) := by decide +kernel
theorem dX12_text_72 : decode cX12_text 72 = .ok (.iconst 1, 1) := by decide +kernel
theorem dX12_text_73 : decode cX12_text 73 = .ok (.isub, 1) := by decide +kernel
theorem dX12_text_74 : decode cX12_text 74 = .ok (.ireturn, 1) := by decide +kernel
theorem hd_Mo_text_94 : y_Mo_text_94.cls ≠ "java/lang/invoke/MethodHandle" ∧ y_Mo_text_94.cls ≠ "java/lang/invoke/VarHandle" ∧ (parseMethodDescriptor y_Mo_text_94.desc).map (fun d => d.parameters.length) = some 1 := by decide +kernel
def f_Mo_text_94 (a1 : Int32) (M0 : Mem) : Option (Int32 × Mem) :=
  (f_Mo_isMonth a1).bind fun q1 => if q1 then (if decide ((M0.1 95 3) = 8) then (some ((-4), M0)) else ((f_Mo_readsRule_94 (M0.1 95 3) a1 M0).bind fun q4 => if q4.1 then (jv_ (wI q4.2 95 3 ((q4.2.1 95 3) + 1)) fun M6 => jv_ (wI M6 94 21 ((M6.1 94 21) + 1)) fun M7 => some ((M7.1 95 3) - 1, M7)) else (some ((-10) - (q4.2.1 94 7), q4.2)))) else (some ((-2), M0))
set_option maxHeartbeats 4000000 in
set_option maxRecDepth 20000 in
theorem C_Mo_text_94 {D : va_G} {ad adK adV : Nat → Nat} {cI cJ : ClassId} {l : Launch} (a1 : Int32) (M0 : Mem) (o : Int32 × Mem) (h : f_Mo_text_94 a1 M0 = some o) : Ct D ad adK adV cI cJ l y_Mo_text_94 cX12_text 2 (some .int) 509 14198 [.ref (ad 94), .int a1] M0 (some (.int o.1)) o.2 := by
  refine x_start (lv := [(0, .ref (ad 94)), (1, .int a1)]) (own := "CurrentFarmsModel") rfl (by decide) (Nat.le_of_ble_eq_true rfl) rfl ?_
  intro p e s m args below meth c Q hQ B
  unfold f_Mo_text_94 at h
  refine x_iload_n (pc := 0) B 1 dX12_text_0 rfl rfl ?_
  obtain ⟨q1, hq1, h⟩ := bnd h
  refine x_callS (rest := []) (st' := [.int (bI q1)]) (pc := 1) B (C_Mo_isMonth a1 M0 _ hq1) tw_1467 tw_1465 tw_1466 tw_111 hd_Mo_isMonth ⟨Nat.le_of_ble_eq_true rfl, Nat.le_of_ble_eq_true rfl⟩ rfl rfl (Nat.le_of_ble_eq_true rfl) rfl dX12_text_1 ?_
  refine x_if_ne_b (tgt := 10) (pc := 4) B dX12_text_4 rfl (fun hc2 => ?_) (fun hc2 => ?_)
  · have h := ift hc2 h
    refine x_aload_n (pc := 10) B 0 dX12_text_10 rfl rfl ?_
    refine x_get (T := TX12) (pc := 11) B 1 oi_94 rfl uw_12 (by decide) rfl tw_1300 rfl dX12_text_11 ?_
    refine x_iconst (v := 3) (pc := 14) B dX12_text_14 rfl ?_
    refine x_iald_c (j := 3) (pc := 15) B ai_95 (by decide) rfl dX12_text_15 ?_
    refine x_bipush (v := 8) (pc := 16) B dX12_text_16 rfl ?_
    refine x_icmp_ne (tgt := 24) (pc := 18) B dX12_text_18 rfl (fun hc3 => ?_) (fun hc3 => ?_)
    · have h := iff_ hc3 h
      refine x_aload_n (pc := 24) B 0 dX12_text_24 rfl rfl ?_
      refine x_aload_n (pc := 25) B 0 dX12_text_25 rfl rfl ?_
      refine x_get (T := TX12) (pc := 26) B 1 oi_94 rfl uw_12 (by decide) rfl tw_1300 rfl dX12_text_26 ?_
      refine x_iconst (v := 3) (pc := 29) B dX12_text_29 rfl ?_
      refine x_iald_c (j := 3) (pc := 30) B ai_95 (by decide) rfl dX12_text_30 ?_
      refine x_iload_n (pc := 31) B 1 dX12_text_31 rfl rfl ?_
      obtain ⟨q4, hq4, h⟩ := bnd h
      refine x_callV (rest := []) (st' := [.int (bI q4.1)]) (pc := 32) B oi_94 rfl (C_Mo_readsRule_94 (M0.1 95 3) a1 M0 _ hq4) tw_1601 tw_1598 tw_1600 tw_73 tw_111 hd_Mo_readsRule_94 ⟨Nat.le_of_ble_eq_true rfl, Nat.le_of_ble_eq_true rfl⟩ rfl rfl (Nat.le_of_ble_eq_true rfl) rfl dX12_text_32 ?_
      refine x_if_ne_b (tgt := 46) (pc := 35) B dX12_text_35 rfl (fun hc5 => ?_) (fun hc5 => ?_)
      · have h := ift hc5 h
        refine x_aload_n (pc := 46) B 0 dX12_text_46 rfl rfl ?_
        refine x_get (T := TX12) (pc := 47) B 1 oi_94 rfl uw_12 (by decide) rfl tw_1300 rfl dX12_text_47 ?_
        refine x_iconst (v := 3) (pc := 50) B dX12_text_50 rfl ?_
        refine x_dup2 (pc := 51) B dX12_text_51 rfl rfl ?_
        refine x_iald_c (j := 3) (pc := 52) B ai_95 (by decide) rfl dX12_text_52 ?_
        refine x_iconst (v := 1) (pc := 53) B dX12_text_53 rfl ?_
        refine x_iadd (pc := 54) B dX12_text_54 ?_
        refine x_iast_c (j := 3) (pc := 55) B ai_95 (by decide) rfl dX12_text_55 ?_
        refine jv_m (P := fun M6 => XX D ad cI cJ p l e (Rm 509 14198) s m args below meth c Q 2 M6 56 [(0, .ref (ad 94)), (1, .int a1)] []) h (fun M6 h => ?_)
        refine x_aload_n (pc := 56) B 0 dX12_text_56 rfl rfl ?_
        refine x_dup (pc := 57) B dX12_text_57 rfl ?_
        refine x_get (T := TX12) (pc := 58) B 21 oi_94 rfl uw_12 (by decide) rfl tw_1320 rfl dX12_text_58 ?_
        refine x_iconst (v := 1) (pc := 61) B dX12_text_61 rfl ?_
        refine x_iadd (pc := 62) B dX12_text_62 ?_
        refine x_put (T := TX12) (pc := 63) B 21 oi_94 of_94_21 rfl uw_12 tyX12_ok nmX12 (by decide) rfl tw_1320 rfl rfl rfl (Nat.le_of_ble_eq_true rfl) dX12_text_63 ?_
        refine jv_m (P := fun M7 => XX D ad cI cJ p l e (Rm 509 14198) s m args below meth c Q 2 M7 66 [(0, .ref (ad 94)), (1, .int a1)] []) h (fun M7 h => ?_)
        refine x_aload_n (pc := 66) B 0 dX12_text_66 rfl rfl ?_
        refine x_get (T := TX12) (pc := 67) B 1 oi_94 rfl uw_12 (by decide) rfl tw_1300 rfl dX12_text_67 ?_
        refine x_iconst (v := 3) (pc := 70) B dX12_text_70 rfl ?_
        refine x_iald_c (j := 3) (pc := 71) B ai_95 (by decide) rfl dX12_text_71 ?_
        refine x_iconst (v := 1) (pc := 72) B dX12_text_72 rfl ?_
        refine x_isub (pc := 73) B dX12_text_73 ?_
        obtain rfl := Option.some.inj h
        exact x_iret (pc := 74) B hQ dX12_text_74
      · have h := iff_ hc5 h
        refine x_bipush (v := (-10)) (pc := 38) B dX12_text_38 rfl ?_
        refine x_aload_n (pc := 40) B 0 dX12_text_40 rfl rfl ?_
        refine x_get (T := TX12) (pc := 41) B 7 oi_94 rfl uw_12 (by decide) rfl tw_1306 rfl dX12_text_41 ?_
        refine x_isub (pc := 44) B dX12_text_44 ?_
        obtain rfl := Option.some.inj h
        exact x_iret (pc := 45) B hQ dX12_text_45
    · have h := ift hc3 h
      refine x_bipush (v := (-4)) (pc := 21) B dX12_text_21 rfl ?_
      obtain rfl := Option.some.inj h
      exact x_iret (pc := 23) B hQ dX12_text_23
  · have h := iff_ hc2 h
    refine x_bipush (v := (-2)) (pc := 7) B dX12_text_7 rfl ?_
    obtain rfl := Option.some.inj h
    exact x_iret (pc := 9) B hQ dX12_text_9
-- CurrentFarmsModel.ruleFor(IIII)I [94]
abbrev y_Mo_ruleFor_94 : MethodName := ⟨"CurrentFarmsModel", "ruleFor", "(IIII)I"⟩
abbrev cX12_ruleFor : ByteArray := prog_14_method_50_code
theorem dX12_ruleFor_0 : decode cX12_ruleFor 0 = .ok (.aload_n 0, 1) := by decide +kernel
theorem dX12_ruleFor_1 : decode cX12_ruleFor 1 = .ok (.iload_n 2, 1) := by decide +kernel
theorem dX12_ruleFor_2 : decode cX12_ruleFor 2 = .ok (.iload_n 3, 1) := by decide +kernel
theorem dX12_ruleFor_3 : decode cX12_ruleFor 3 = .ok (.iload 4, 2) := by decide +kernel
theorem dX12_ruleFor_5 : decode cX12_ruleFor 5 = .ok (.iload_n 2, 1) := by decide +kernel
theorem dX12_ruleFor_6 : decode cX12_ruleFor 6 = .ok (.iconst (-1), 1) := by decide +kernel
theorem dX12_ruleFor_7 : decode cX12_ruleFor 7 = .ok (.if_icmp .eq 7, 3) := by decide +kernel
theorem dX12_ruleFor_10 : decode cX12_ruleFor 10 = .ok (.iload_n 3, 1) := by decide +kernel
theorem dX12_ruleFor_11 : decode cX12_ruleFor 11 = .ok (.ifCond .ne 7, 3) := by decide +kernel
theorem dX12_ruleFor_14 : decode cX12_ruleFor 14 = .ok (.iconst 0, 1) := by decide +kernel
theorem dX12_ruleFor_15 : decode cX12_ruleFor 15 = .ok (.goto 11, 3) := by decide +kernel
theorem dX12_ruleFor_18 : decode cX12_ruleFor 18 = .ok (.aload_n 0, 1) := by decide +kernel
theorem dX12_ruleFor_19 : decode cX12_ruleFor 19 = .ok (.iload_n 2, 1) := by decide +kernel
theorem dX12_ruleFor_20 : decode cX12_ruleFor 20 = .ok (.iload_n 3, 1) := by decide +kernel
theorem dX12_ruleFor_21 : decode cX12_ruleFor 21 = .ok (.iconst 1, 1) := by decide +kernel
theorem dX12_ruleFor_22 : decode cX12_ruleFor 22 = .ok (.isub, 1) := by decide +kernel
theorem dX12_ruleFor_23 : decode cX12_ruleFor 23 = .ok (.invokevirtual 134, 3) := by decide +kernel
theorem dX12_ruleFor_26 : decode cX12_ruleFor 26 = .ok (.invokevirtual 244, 3) := by decide +kernel
theorem dX12_ruleFor_29 : decode cX12_ruleFor 29 = .ok (.aload_n 0, 1) := by decide +kernel
theorem dX12_ruleFor_30 : decode cX12_ruleFor 30 = .ok (.iload_n 1, 1) := by decide +kernel
theorem dX12_ruleFor_31 : decode cX12_ruleFor 31 = .ok (.iload_n 3, 1) := by decide +kernel
theorem dX12_ruleFor_32 : decode cX12_ruleFor 32 = .ok (.invokevirtual 246, 3) := by decide +kernel
theorem dX12_ruleFor_35 : decode cX12_ruleFor 35 = .ok (.ireturn, 1) := by decide +kernel
theorem hd_Mo_ruleFor_94 : y_Mo_ruleFor_94.cls ≠ "java/lang/invoke/MethodHandle" ∧ y_Mo_ruleFor_94.cls ≠ "java/lang/invoke/VarHandle" ∧ (parseMethodDescriptor y_Mo_ruleFor_94.desc).map (fun d => d.parameters.length) = some 4 := by decide +kernel
def f_Mo_ruleFor_94 (a1 : Int32) (a2 : Int32) (a3 : Int32) (a4 : Int32) (M0 : Mem) : Option (Int32 × Mem) :=
  jn_ (fun (u4 : Int32 × Mem) => (f_Mo_names_94 a2 a3 a4 u4.1 u4.2).bind fun q5 => (f_Mo_ruleBy_94 a1 a3 q5).bind fun q6 => some (q6.1, q6.2)) fun k7 => if decide (a2 = (-1)) then (k7 (0, M0)) else (if decide (a3 = 0) then (k7 (0, M0)) else ((f_Mo_arrears_94 a2 (a3 - 1) M0).bind fun q9 => k7 (q9.1, q9.2)))
set_option maxHeartbeats 4000000 in
set_option maxRecDepth 20000 in
theorem C_Mo_ruleFor_94 {D : va_G} {ad adK adV : Nat → Nat} {cI cJ : ClassId} {l : Launch} (a1 : Int32) (a2 : Int32) (a3 : Int32) (a4 : Int32) (M0 : Mem) (o : Int32 × Mem) (h : f_Mo_ruleFor_94 a1 a2 a3 a4 M0 = some o) : Ct D ad adK adV cI cJ l y_Mo_ruleFor_94 cX12_ruleFor 5 (some .int) 513 14294 [.ref (ad 94), .int a1, .int a2, .int a3, .int a4] M0 (some (.int o.1)) o.2 := by
  refine x_start (lv := [(0, .ref (ad 94)), (1, .int a1), (2, .int a2), (3, .int a3), (4, .int a4)]) (own := "CurrentFarmsModel") rfl (by decide) (Nat.le_of_ble_eq_true rfl) rfl ?_
  intro p e s m args below meth c Q hQ B
  unfold f_Mo_ruleFor_94 at h
  refine x_aload_n (pc := 0) B 0 dX12_ruleFor_0 rfl rfl ?_
  refine x_iload_n (pc := 1) B 2 dX12_ruleFor_1 rfl rfl ?_
  refine x_iload_n (pc := 2) B 3 dX12_ruleFor_2 rfl rfl ?_
  refine x_iload (pc := 3) B 4 dX12_ruleFor_3 rfl ?_
  refine x_iload_n (pc := 5) B 2 dX12_ruleFor_5 rfl rfl ?_
  refine x_iconst (v := (-1)) (pc := 6) B dX12_ruleFor_6 rfl ?_
  refine jn_k h (fun (u4 : Int32 × Mem) => XX D ad cI cJ p l e (Rm 513 14294) s m args below meth c Q 5 u4.2 26 [(0, .ref (ad 94)), (1, .int a1), (3, .int a3)] [.int u4.1, .int a4, .int a3, .int a2, .ref (ad 94)]) (fun u4 h => ?_) (fun k7 h JJ => ?_)
  · obtain ⟨q5, hq5, h⟩ := bnd h
    refine x_callV (rest := []) (st' := []) (pc := 26) B oi_94 rfl (C_Mo_names_94 a2 a3 a4 u4.1 u4.2 _ hq5) tw_1503 tw_1500 tw_1502 tw_57 tw_111 hd_Mo_names_94 ⟨Nat.le_of_ble_eq_true rfl, Nat.le_of_ble_eq_true rfl⟩ rfl rfl (Nat.le_of_ble_eq_true rfl) rfl dX12_ruleFor_26 ?_
    refine x_aload_n (pc := 29) B 0 dX12_ruleFor_29 rfl rfl ?_
    refine x_iload_n (pc := 30) B 1 dX12_ruleFor_30 rfl rfl ?_
    refine x_iload_n (pc := 31) B 2 dX12_ruleFor_31 rfl rfl ?_
    obtain ⟨q6, hq6, h⟩ := bnd h
    refine x_callV (rest := []) (st' := [.int q6.1]) (pc := 32) B oi_94 rfl (C_Mo_ruleBy_94 a1 a3 q5 _ hq6) tw_1511 tw_1508 tw_1510 tw_59 tw_111 hd_Mo_ruleBy_94 ⟨Nat.le_of_ble_eq_true rfl, Nat.le_of_ble_eq_true rfl⟩ rfl rfl (Nat.le_of_ble_eq_true rfl) rfl dX12_ruleFor_32 ?_
    obtain rfl := Option.some.inj h
    exact x_iret (pc := 35) B hQ dX12_ruleFor_35
  · refine x_icmp_eq (tgt := 14) (pc := 7) B dX12_ruleFor_7 rfl (fun hc1 => ?_) (fun hc1 => ?_)
    · have h := ift hc1 h
      refine x_iconst (v := 0) (pc := 14) B dX12_ruleFor_14 rfl ?_
      refine x_goto (tgt := 26) (pc := 15) B dX12_ruleFor_15 rfl ?_
      refine x_pick (lv' := [(0, .ref (ad 94)), (1, .int a1), (3, .int a3)]) [0, 1, 3] rfl ?_
      have z := JJ (0, M0) h
      exact z
    · have h := iff_ hc1 h
      refine x_iload_n (pc := 10) B 3 dX12_ruleFor_10 rfl rfl ?_
      refine x_if_ne (tgt := 18) (pc := 11) B dX12_ruleFor_11 rfl (fun hc8 => ?_) (fun hc8 => ?_)
      · have h := iff_ hc8 h
        refine x_aload_n (pc := 18) B 0 dX12_ruleFor_18 rfl rfl ?_
        refine x_iload_n (pc := 19) B 2 dX12_ruleFor_19 rfl rfl ?_
        refine x_iload_n (pc := 20) B 3 dX12_ruleFor_20 rfl rfl ?_
        refine x_iconst (v := 1) (pc := 21) B dX12_ruleFor_21 rfl ?_
        refine x_isub (pc := 22) B dX12_ruleFor_22 ?_
        obtain ⟨q9, hq9, h⟩ := bnd h
        refine x_callV (rest := [.int a4, .int a3, .int a2, .ref (ad 94)]) (st' := [.int q9.1, .int a4, .int a3, .int a2, .ref (ad 94)]) (pc := 23) B oi_94 rfl (C_Mo_arrears_94 a2 (a3 - 1) M0 _ hq9) tw_1483 tw_1480 tw_1482 tw_52 tw_111 hd_Mo_arrears_94 ⟨Nat.le_of_ble_eq_true rfl, Nat.le_of_ble_eq_true rfl⟩ rfl rfl (Nat.le_of_ble_eq_true rfl) rfl dX12_ruleFor_23 ?_
        refine x_pick (lv' := [(0, .ref (ad 94)), (1, .int a1), (3, .int a3)]) [0, 1, 3] rfl ?_
        have z := JJ (q9.1, q9.2) h
        exact z
      · have h := ift hc8 h
        refine x_iconst (v := 0) (pc := 14) B dX12_ruleFor_14 rfl ?_
        refine x_goto (tgt := 26) (pc := 15) B dX12_ruleFor_15 rfl ?_
        refine x_pick (lv' := [(0, .ref (ad 94)), (1, .int a1), (3, .int a3)]) [0, 1, 3] rfl ?_
        have z := JJ (0, M0) h
        exact z
-- CurrentFarmsModel.refuses(IIII)I [94]
abbrev y_Mo_refuses_94 : MethodName := ⟨"CurrentFarmsModel", "refuses", "(IIII)I"⟩
abbrev cX12_refuses : ByteArray := prog_14_method_51_code
theorem dX12_refuses_0 : decode cX12_refuses 0 = .ok (.iload_n 1, 1) := by decide +kernel
theorem dX12_refuses_1 : decode cX12_refuses 1 = .ok (.iconst 0, 1) := by decide +kernel
theorem dX12_refuses_2 : decode cX12_refuses 2 = .ok (.iconst 5, 1) := by decide +kernel
theorem dX12_refuses_3 : decode cX12_refuses 3 = .ok (.invokestatic 84, 3) := by decide +kernel
theorem dX12_refuses_6 : decode cX12_refuses 6 = .ok (.ifCond .eq 16, 3) := by decide +kernel
theorem dX12_refuses_9 : decode cX12_refuses 9 = .ok (.iload_n 2, 1) := by decide +kernel
theorem dX12_refuses_10 : decode cX12_refuses 10 = .ok (.iconst (-1), 1) := by decide +kernel
theorem dX12_refuses_11 : decode cX12_refuses 11 = .ok (.if_icmp .eq 13, 3) := by decide +kernel
theorem dX12_refuses_14 : decode cX12_refuses 14 = .ok (.aload_n 0, 1) := by decide +kernel
theorem dX12_refuses_15 : decode cX12_refuses 15 = .ok (.iload_n 2, 1) := by decide +kernel
theorem dX12_refuses_16 : decode cX12_refuses 16 = .ok (.invokevirtual 110, 3) := by decide +kernel
theorem dX12_refuses_19 : decode cX12_refuses 19 = .ok (.ifCond .ne 5, 3) := by decide +kernel
theorem dX12_refuses_22 : decode cX12_refuses 22 = .ok (.iconst (-1), 1) := by decide +kernel
theorem dX12_refuses_23 : decode cX12_refuses 23 = .ok (.ireturn, 1) := by decide +kernel
theorem dX12_refuses_24 : decode cX12_refuses 24 = .ok (.iload_n 3, 1) := by decide +kernel
theorem dX12_refuses_25 : decode cX12_refuses 25 = .ok (.invokestatic 124, 3) := by decide +kernel
theorem dX12_refuses_28 : decode cX12_refuses 28 = .ok (.ifCond .eq 19, 3) := by decide +kernel
theorem dX12_refuses_31 : decode cX12_refuses 31 = .ok (.iload 4, 2) := by decide +kernel
theorem dX12_refuses_33 : decode cX12_refuses 33 = .ok (.iconst 0, 1) := by decide +kernel
theorem dX12_refuses_34 : decode cX12_refuses 34 = .ok (.sipush 9999, 3) := by decide +kernel
theorem dX12_refuses_37 : decode cX12_refuses 37 = .ok (.invokestatic 84, 3) := by decide +kernel
theorem dX12_refuses_40 : decode cX12_refuses 40 = .ok (.ifCond .eq 7, 3) := by decide +kernel
theorem dX12_refuses_43 : decode cX12_refuses 43 = .ok (.iconst 0, 1) := by decide +kernel
theorem dX12_refuses_44 : decode cX12_refuses 44 = .ok (.goto 5, 3) := by decide +kernel
theorem dX12_refuses_47 : decode cX12_refuses 47 = .ok (.bipush (-2), 2) := by decide +kernel
theorem dX12_refuses_49 : decode cX12_refuses 49 = .ok (.ireturn, 1) := by decide +kernel
theorem hd_Mo_refuses_94 : y_Mo_refuses_94.cls ≠ "java/lang/invoke/MethodHandle" ∧ y_Mo_refuses_94.cls ≠ "java/lang/invoke/VarHandle" ∧ (parseMethodDescriptor y_Mo_refuses_94.desc).map (fun d => d.parameters.length) = some 4 := by decide +kernel
def f_Mo_refuses_94 (a1 : Int32) (a2 : Int32) (a3 : Int32) (a4 : Int32) (M0 : Mem) : Option (Int32) :=
  (f_Mo_in a1 0 5).bind fun q1 => if q1 then (jn_ (fun (u4 : Unit) => (f_Mo_isMonth a3).bind fun q5 => if q5 then ((f_Mo_in a4 0 9999).bind fun q7 => if q7 then (some 0) else (some (-2))) else (some (-2))) fun k9 => if decide (a2 = (-1)) then (k9 ()) else ((f_Mo_isFarm_94 a2 M0).bind fun q10 => if q10 then (k9 ()) else (some (-1)))) else (some (-1))
set_option maxHeartbeats 4000000 in
set_option maxRecDepth 20000 in
theorem C_Mo_refuses_94 {D : va_G} {ad adK adV : Nat → Nat} {cI cJ : ClassId} {l : Launch} (a1 : Int32) (a2 : Int32) (a3 : Int32) (a4 : Int32) (M0 : Mem) (o : Int32) (h : f_Mo_refuses_94 a1 a2 a3 a4 M0 = some o) : Ct D ad adK adV cI cJ l y_Mo_refuses_94 cX12_refuses 5 (some .int) 2 43 [.ref (ad 94), .int a1, .int a2, .int a3, .int a4] M0 (some (.int o)) M0 := by
  refine x_start (lv := [(0, .ref (ad 94)), (1, .int a1), (2, .int a2), (3, .int a3), (4, .int a4)]) (own := "CurrentFarmsModel") rfl (by decide) (Nat.le_of_ble_eq_true rfl) rfl ?_
  intro p e s m args below meth c Q hQ B
  unfold f_Mo_refuses_94 at h
  refine x_iload_n (pc := 0) B 1 dX12_refuses_0 rfl rfl ?_
  refine x_iconst (v := 0) (pc := 1) B dX12_refuses_1 rfl ?_
  refine x_iconst (v := 5) (pc := 2) B dX12_refuses_2 rfl ?_
  obtain ⟨q1, hq1, h⟩ := bnd h
  refine x_callS (rest := []) (st' := [.int (bI q1)]) (pc := 3) B (C_Mo_in a1 0 5 M0 _ hq1) tw_1406 tw_1404 tw_1405 tw_111 hd_Mo_in ⟨Nat.le_of_ble_eq_true rfl, Nat.le_of_ble_eq_true rfl⟩ rfl rfl (Nat.le_of_ble_eq_true rfl) rfl dX12_refuses_3 ?_
  refine x_if_eq_b (tgt := 22) (pc := 6) B dX12_refuses_6 rfl (fun hc2 => ?_) (fun hc2 => ?_)
  · have h := iff_ hc2 h
    refine x_iconst (v := (-1)) (pc := 22) B dX12_refuses_22 rfl ?_
    obtain rfl := Option.some.inj h
    exact x_iret (pc := 23) B hQ dX12_refuses_23
  · have h := ift hc2 h
    refine x_iload_n (pc := 9) B 2 dX12_refuses_9 rfl rfl ?_
    refine x_iconst (v := (-1)) (pc := 10) B dX12_refuses_10 rfl ?_
    refine jn_k h (fun (u4 : Unit) => XX D ad cI cJ p l e (Rm 2 43) s m args below meth c Q 5 M0 24 [(3, .int a3), (4, .int a4)] []) (fun u4 h => ?_) (fun k9 h JJ => ?_)
    · refine x_iload_n (pc := 24) B 0 dX12_refuses_24 rfl rfl ?_
      obtain ⟨q5, hq5, h⟩ := bnd h
      refine x_callS (rest := []) (st' := [.int (bI q5)]) (pc := 25) B (C_Mo_isMonth a3 M0 _ hq5) tw_1467 tw_1465 tw_1466 tw_111 hd_Mo_isMonth ⟨Nat.le_of_ble_eq_true rfl, Nat.le_of_ble_eq_true rfl⟩ rfl rfl (Nat.le_of_ble_eq_true rfl) rfl dX12_refuses_25 ?_
      refine x_if_eq_b (tgt := 47) (pc := 28) B dX12_refuses_28 rfl (fun hc6 => ?_) (fun hc6 => ?_)
      · have h := iff_ hc6 h
        refine x_bipush (v := (-2)) (pc := 47) B dX12_refuses_47 rfl ?_
        obtain rfl := Option.some.inj h
        exact x_iret (pc := 49) B hQ dX12_refuses_49
      · have h := ift hc6 h
        refine x_iload (pc := 31) B 1 dX12_refuses_31 rfl ?_
        refine x_iconst (v := 0) (pc := 33) B dX12_refuses_33 rfl ?_
        refine x_sipush (v := 9999) (pc := 34) B dX12_refuses_34 rfl ?_
        obtain ⟨q7, hq7, h⟩ := bnd h
        refine x_callS (rest := []) (st' := [.int (bI q7)]) (pc := 37) B (C_Mo_in a4 0 9999 M0 _ hq7) tw_1406 tw_1404 tw_1405 tw_111 hd_Mo_in ⟨Nat.le_of_ble_eq_true rfl, Nat.le_of_ble_eq_true rfl⟩ rfl rfl (Nat.le_of_ble_eq_true rfl) rfl dX12_refuses_37 ?_
        refine x_if_eq_b (tgt := 47) (pc := 40) B dX12_refuses_40 rfl (fun hc8 => ?_) (fun hc8 => ?_)
        · have h := iff_ hc8 h
          refine x_bipush (v := (-2)) (pc := 47) B dX12_refuses_47 rfl ?_
          obtain rfl := Option.some.inj h
          exact x_iret (pc := 49) B hQ dX12_refuses_49
        · have h := ift hc8 h
          refine x_iconst (v := 0) (pc := 43) B dX12_refuses_43 rfl ?_
          refine x_goto (tgt := 49) (pc := 44) B dX12_refuses_44 rfl ?_
          obtain rfl := Option.some.inj h
          exact x_iret (pc := 49) B hQ dX12_refuses_49
    · refine x_icmp_eq (tgt := 24) (pc := 11) B dX12_refuses_11 rfl (fun hc3 => ?_) (fun hc3 => ?_)
      · have h := ift hc3 h
        refine x_pick (lv' := [(3, .int a3), (4, .int a4)]) [3, 4] rfl ?_
        have z := JJ () h
        exact z
      · have h := iff_ hc3 h
        refine x_aload_n (pc := 14) B 0 dX12_refuses_14 rfl rfl ?_
        refine x_iload_n (pc := 15) B 2 dX12_refuses_15 rfl rfl ?_
        obtain ⟨q10, hq10, h⟩ := bnd h
        refine x_callV (rest := []) (st' := [.int (bI q10)]) (pc := 16) B oi_94 rfl (C_Mo_isFarm_94 a2 M0 _ hq10) tw_1448 tw_1445 tw_1447 tw_46 tw_111 hd_Mo_isFarm_94 ⟨Nat.le_of_ble_eq_true rfl, Nat.le_of_ble_eq_true rfl⟩ rfl rfl (Nat.le_of_ble_eq_true rfl) rfl dX12_refuses_16 ?_
        refine x_if_ne_b (tgt := 24) (pc := 19) B dX12_refuses_19 rfl (fun hc11 => ?_) (fun hc11 => ?_)
        · have h := ift hc11 h
          refine x_pick (lv' := [(3, .int a3), (4, .int a4)]) [3, 4] rfl ?_
          have z := JJ () h
          exact z
        · have h := iff_ hc11 h
          refine x_iconst (v := (-1)) (pc := 22) B dX12_refuses_22 rfl ?_
          obtain rfl := Option.some.inj h
          exact x_iret (pc := 23) B hQ dX12_refuses_23
-- CurrentFarmsModel.force(IIII)I [94]
abbrev y_Mo_force_94 : MethodName := ⟨"CurrentFarmsModel", "force", "(IIII)I"⟩
abbrev cX12_force : ByteArray := prog_14_method_52_code
theorem dX12_force_0 : decode cX12_force 0 = .ok (.aload_n 0, 1) := by decide +kernel
theorem dX12_force_1 : decode cX12_force 1 = .ok (.iload_n 1, 1) := by decide +kernel
theorem dX12_force_2 : decode cX12_force 2 = .ok (.iload_n 2, 1) := by decide +kernel
theorem dX12_force_3 : decode cX12_force 3 = .ok (.iload_n 3, 1) := by decide +kernel
theorem dX12_force_4 : decode cX12_force 4 = .ok (.iload 4, 2) := by decide +kernel
theorem dX12_force_6 : decode cX12_force 6 = .ok (.invokevirtual 249, 3) := by decide +kernel
theorem dX12_force_9 : decode cX12_force 9 = .ok (.istore 5, 2) := by decide +kernel
theorem dX12_force_11 : decode cX12_force 11 = .ok (.iload 5, 2) := by decide +kernel
theorem dX12_force_13 : decode cX12_force 13 = .ok (.ifCond .eq 8, 3) := by decide +kernel
theorem dX12_force_16 : decode cX12_force 16 = .ok (.iload 5, 2) := by decide +kernel
theorem dX12_force_18 : decode cX12_force 18 = .ok (.goto 12, 3) := by decide +kernel
theorem dX12_force_21 : decode cX12_force 21 = .ok (.aload_n 0, 1) := by decide +kernel
theorem dX12_force_22 : decode cX12_force 22 = .ok (.iload_n 1, 1) := by decide +kernel
theorem dX12_force_23 : decode cX12_force 23 = .ok (.iload_n 2, 1) := by decide +kernel
theorem dX12_force_24 : decode cX12_force 24 = .ok (.iload_n 3, 1) := by decide +kernel
theorem dX12_force_25 : decode cX12_force 25 = .ok (.iload 4, 2) := by decide +kernel
theorem dX12_force_27 : decode cX12_force 27 = .ok (.invokevirtual 252, 3) := by decide +kernel
theorem dX12_force_30 : decode cX12_force 30 = .ok (.ireturn, 1) := by decide +kernel
theorem hd_Mo_force_94 : y_Mo_force_94.cls ≠ "java/lang/invoke/MethodHandle" ∧ y_Mo_force_94.cls ≠ "java/lang/invoke/VarHandle" ∧ (parseMethodDescriptor y_Mo_force_94.desc).map (fun d => d.parameters.length) = some 4 := by decide +kernel
def f_Mo_force_94 (a1 : Int32) (a2 : Int32) (a3 : Int32) (a4 : Int32) (M0 : Mem) : Option (Int32 × Mem) :=
  (f_Mo_refuses_94 a1 a2 a3 a4 M0).bind fun q1 => if decide (q1 = 0) then ((f_Mo_ruleFor_94 a1 a2 a3 a4 M0).bind fun q3 => some (q3.1, q3.2)) else (some (q1, M0))
set_option maxHeartbeats 4000000 in
set_option maxRecDepth 20000 in
theorem C_Mo_force_94 {D : va_G} {ad adK adV : Nat → Nat} {cI cJ : ClassId} {l : Launch} (a1 : Int32) (a2 : Int32) (a3 : Int32) (a4 : Int32) (M0 : Mem) (o : Int32 × Mem) (h : f_Mo_force_94 a1 a2 a3 a4 M0 = some o) : Ct D ad adK adV cI cJ l y_Mo_force_94 cX12_force 6 (some .int) 514 14318 [.ref (ad 94), .int a1, .int a2, .int a3, .int a4] M0 (some (.int o.1)) o.2 := by
  refine x_start (lv := [(0, .ref (ad 94)), (1, .int a1), (2, .int a2), (3, .int a3), (4, .int a4)]) (own := "CurrentFarmsModel") rfl (by decide) (Nat.le_of_ble_eq_true rfl) rfl ?_
  intro p e s m args below meth c Q hQ B
  unfold f_Mo_force_94 at h
  refine x_aload_n (pc := 0) B 0 dX12_force_0 rfl rfl ?_
  refine x_iload_n (pc := 1) B 1 dX12_force_1 rfl rfl ?_
  refine x_iload_n (pc := 2) B 2 dX12_force_2 rfl rfl ?_
  refine x_iload_n (pc := 3) B 3 dX12_force_3 rfl rfl ?_
  refine x_iload (pc := 4) B 4 dX12_force_4 rfl ?_
  obtain ⟨q1, hq1, h⟩ := bnd h
  refine x_callV (rest := []) (st' := [.int q1]) (pc := 6) B oi_94 rfl (C_Mo_refuses_94 a1 a2 a3 a4 M0 _ hq1) tw_1624 tw_1621 tw_1623 tw_76 tw_111 hd_Mo_refuses_94 ⟨Nat.le_of_ble_eq_true rfl, Nat.le_of_ble_eq_true rfl⟩ rfl rfl (Nat.le_of_ble_eq_true rfl) rfl dX12_force_6 ?_
  refine x_istore (lv' := [(5, .int q1), (0, .ref (ad 94)), (1, .int a1), (2, .int a2), (3, .int a3), (4, .int a4)]) (pc := 9) B dX12_force_9 (by decide) rfl ?_
  refine x_iload (pc := 11) B 0 dX12_force_11 rfl ?_
  refine x_if_eq (tgt := 21) (pc := 13) B dX12_force_13 rfl (fun hc2 => ?_) (fun hc2 => ?_)
  · have h := ift hc2 h
    refine x_aload_n (pc := 21) B 1 dX12_force_21 rfl rfl ?_
    refine x_iload_n (pc := 22) B 2 dX12_force_22 rfl rfl ?_
    refine x_iload_n (pc := 23) B 3 dX12_force_23 rfl rfl ?_
    refine x_iload_n (pc := 24) B 4 dX12_force_24 rfl rfl ?_
    refine x_iload (pc := 25) B 5 dX12_force_25 rfl ?_
    obtain ⟨q3, hq3, h⟩ := bnd h
    refine x_callV (rest := []) (st' := [.int q3.1]) (pc := 27) B oi_94 rfl (C_Mo_ruleFor_94 a1 a2 a3 a4 M0 _ hq3) tw_1628 tw_1625 tw_1627 tw_77 tw_111 hd_Mo_ruleFor_94 ⟨Nat.le_of_ble_eq_true rfl, Nat.le_of_ble_eq_true rfl⟩ rfl rfl (Nat.le_of_ble_eq_true rfl) rfl dX12_force_27 ?_
    obtain rfl := Option.some.inj h
    exact x_iret (pc := 30) B hQ dX12_force_30
  · have h := iff_ hc2 h
    refine x_iload (pc := 16) B 0 dX12_force_16 rfl ?_
    refine x_goto (tgt := 30) (pc := 18) B dX12_force_18 rfl ?_
    obtain rfl := Option.some.inj h
    exact x_iret (pc := 30) B hQ dX12_force_30
-- CurrentFarmsModel.why(IIII)I [94]
abbrev y_Mo_why_94 : MethodName := ⟨"CurrentFarmsModel", "why", "(IIII)I"⟩
abbrev cX12_why : ByteArray := prog_14_method_53_code
theorem dX12_why_0 : decode cX12_why 0 = .ok (.aload_n 0, 1) := by decide +kernel
theorem dX12_why_1 : decode cX12_why 1 = .ok (.iload_n 1, 1) := by decide +kernel
theorem dX12_why_2 : decode cX12_why 2 = .ok (.iload_n 2, 1) := by decide +kernel
theorem dX12_why_3 : decode cX12_why 3 = .ok (.iload_n 3, 1) := by decide +kernel
theorem dX12_why_4 : decode cX12_why 4 = .ok (.iload 4, 2) := by decide +kernel
theorem dX12_why_6 : decode cX12_why 6 = .ok (.invokevirtual 249, 3) := by decide +kernel
theorem dX12_why_9 : decode cX12_why 9 = .ok (.istore 5, 2) := by decide +kernel
theorem dX12_why_11 : decode cX12_why 11 = .ok (.iload 5, 2) := by decide +kernel
theorem dX12_why_13 : decode cX12_why 13 = .ok (.ifCond .eq 6, 3) := by decide +kernel
theorem dX12_why_16 : decode cX12_why 16 = .ok (.iload 5, 2) := by decide +kernel
theorem dX12_why_18 : decode cX12_why 18 = .ok (.ireturn, 1) := by decide +kernel
theorem dX12_why_19 : decode cX12_why 19 = .ok (.aload_n 0, 1) := by decide +kernel
theorem dX12_why_20 : decode cX12_why 20 = .ok (.iload_n 2, 1) := by decide +kernel
theorem dX12_why_21 : decode cX12_why 21 = .ok (.iload_n 3, 1) := by decide +kernel
theorem dX12_why_22 : decode cX12_why 22 = .ok (.iload 4, 2) := by decide +kernel
theorem dX12_why_24 : decode cX12_why 24 = .ok (.iload_n 2, 1) := by decide +kernel
theorem dX12_why_25 : decode cX12_why 25 = .ok (.iconst (-1), 1) := by decide +kernel
theorem dX12_why_26 : decode cX12_why 26 = .ok (.if_icmp .eq 7, 3) := by decide +kernel
theorem dX12_why_29 : decode cX12_why 29 = .ok (.iload_n 3, 1) := by decide +kernel
theorem dX12_why_30 : decode cX12_why 30 = .ok (.ifCond .ne 7, 3) := by decide +kernel
theorem dX12_why_33 : decode cX12_why 33 = .ok (.iconst 0, 1) := by decide +kernel
theorem dX12_why_34 : decode cX12_why 34 = .ok (.goto 11, 3) := by decide +kernel
theorem dX12_why_37 : decode cX12_why 37 = .ok (.aload_n 0, 1) := by decide +kernel
theorem dX12_why_38 : decode cX12_why 38 = .ok (.iload_n 2, 1) := by decide +kernel
theorem dX12_why_39 : decode cX12_why 39 = .ok (.iload_n 3, 1) := by decide +kernel
theorem dX12_why_40 : decode cX12_why 40 = .ok (.iconst 1, 1) := by decide +kernel
theorem dX12_why_41 : decode cX12_why 41 = .ok (.isub, 1) := by decide +kernel
theorem dX12_why_42 : decode cX12_why 42 = .ok (.invokevirtual 134, 3) := by decide +kernel
theorem dX12_why_45 : decode cX12_why 45 = .ok (.invokevirtual 244, 3) := by decide +kernel
theorem dX12_why_48 : decode cX12_why 48 = .ok (.aload_n 0, 1) := by decide +kernel
theorem dX12_why_49 : decode cX12_why 49 = .ok (.iload_n 1, 1) := by decide +kernel
theorem dX12_why_50 : decode cX12_why 50 = .ok (.iload_n 3, 1) := by decide +kernel
theorem dX12_why_51 : decode cX12_why 51 = .ok (.invokevirtual 240, 3) := by decide +kernel
theorem dX12_why_54 : decode cX12_why 54 = .ok (.istore 6, 2) := by decide +kernel
theorem dX12_why_56 : decode cX12_why 56 = .ok (.iload 6, 2) := by decide +kernel
theorem dX12_why_58 : decode cX12_why 58 = .ok (.iconst (-1), 1) := by decide +kernel
theorem dX12_why_59 : decode cX12_why 59 = .ok (.if_icmp .ne 8, 3) := by decide +kernel
theorem dX12_why_62 : decode cX12_why 62 = .ok (.bipush (-5), 2) := by decide +kernel
theorem dX12_why_64 : decode cX12_why 64 = .ok (.goto 17, 3) := by decide +kernel
theorem dX12_why_67 : decode cX12_why 67 = .ok (.bipush 100, 2) := by decide +kernel
theorem dX12_why_69 : decode cX12_why 69 = .ok (.iload 6, 2) := by decide +kernel
theorem dX12_why_71 : decode cX12_why 71 = .ok (.bipush 8, 2) := by decide +kernel
theorem dX12_why_73 : decode cX12_why 73 = .ok (.idiv, 1) := by decide +kernel
theorem dX12_why_74 : decode cX12_why 74 = .ok (.imul, 1) := by decide +kernel
theorem dX12_why_75 : decode cX12_why 75 = .ok (.iload 6, 2) := by decide +kernel
theorem dX12_why_77 : decode cX12_why 77 = .ok (.bipush 8, 2) := by decide +kernel
theorem dX12_why_79 : decode cX12_why 79 = .ok (.irem, 1) := by decide +kernel
theorem dX12_why_80 : decode cX12_why 80 = .ok (.iadd, 1) := by decide +kernel
theorem dX12_why_81 : decode cX12_why 81 = .ok (.ireturn, 1) := by decide +kernel
theorem hd_Mo_why_94 : y_Mo_why_94.cls ≠ "java/lang/invoke/MethodHandle" ∧ y_Mo_why_94.cls ≠ "java/lang/invoke/VarHandle" ∧ (parseMethodDescriptor y_Mo_why_94.desc).map (fun d => d.parameters.length) = some 4 := by decide +kernel
def f_Mo_why_94 (a1 : Int32) (a2 : Int32) (a3 : Int32) (a4 : Int32) (M0 : Mem) : Option (Int32 × Mem) :=
  (f_Mo_refuses_94 a1 a2 a3 a4 M0).bind fun q1 => if decide (q1 = 0) then (jn_ (fun (u6 : Int32 × Mem) => (f_Mo_names_94 a2 a3 a4 u6.1 u6.2).bind fun q7 => (f_Mo_clauseOf_94 a1 a3 q7).bind fun q8 => if decide (q8.1 = (-1)) then (some ((-5), q8.2)) else (some ((100 * (q8.1 / 8)) + (q8.1 - q8.1 / 8 * 8), q8.2))) fun k10 => if decide (a2 = (-1)) then (k10 (0, M0)) else (if decide (a3 = 0) then (k10 (0, M0)) else ((f_Mo_arrears_94 a2 (a3 - 1) M0).bind fun q12 => k10 (q12.1, q12.2)))) else (some (q1, M0))
set_option maxHeartbeats 4000000 in
set_option maxRecDepth 20000 in
theorem C_Mo_why_94 {D : va_G} {ad adK adV : Nat → Nat} {cI cJ : ClassId} {l : Launch} (a1 : Int32) (a2 : Int32) (a3 : Int32) (a4 : Int32) (M0 : Mem) (o : Int32 × Mem) (h : f_Mo_why_94 a1 a2 a3 a4 M0 = some o) : Ct D ad adK adV cI cJ l y_Mo_why_94 cX12_why 7 (some .int) 513 14294 [.ref (ad 94), .int a1, .int a2, .int a3, .int a4] M0 (some (.int o.1)) o.2 := by
  refine x_start (lv := [(0, .ref (ad 94)), (1, .int a1), (2, .int a2), (3, .int a3), (4, .int a4)]) (own := "CurrentFarmsModel") rfl (by decide) (Nat.le_of_ble_eq_true rfl) rfl ?_
  intro p e s m args below meth c Q hQ B
  unfold f_Mo_why_94 at h
  refine x_aload_n (pc := 0) B 0 dX12_why_0 rfl rfl ?_
  refine x_iload_n (pc := 1) B 1 dX12_why_1 rfl rfl ?_
  refine x_iload_n (pc := 2) B 2 dX12_why_2 rfl rfl ?_
  refine x_iload_n (pc := 3) B 3 dX12_why_3 rfl rfl ?_
  refine x_iload (pc := 4) B 4 dX12_why_4 rfl ?_
  obtain ⟨q1, hq1, h⟩ := bnd h
  refine x_callV (rest := []) (st' := [.int q1]) (pc := 6) B oi_94 rfl (C_Mo_refuses_94 a1 a2 a3 a4 M0 _ hq1) tw_1624 tw_1621 tw_1623 tw_76 tw_111 hd_Mo_refuses_94 ⟨Nat.le_of_ble_eq_true rfl, Nat.le_of_ble_eq_true rfl⟩ rfl rfl (Nat.le_of_ble_eq_true rfl) rfl dX12_why_6 ?_
  refine x_istore (lv' := [(5, .int q1), (0, .ref (ad 94)), (1, .int a1), (2, .int a2), (3, .int a3), (4, .int a4)]) (pc := 9) B dX12_why_9 (by decide) rfl ?_
  refine x_iload (pc := 11) B 0 dX12_why_11 rfl ?_
  refine x_if_eq (tgt := 19) (pc := 13) B dX12_why_13 rfl (fun hc2 => ?_) (fun hc2 => ?_)
  · have h := ift hc2 h
    refine x_aload_n (pc := 19) B 1 dX12_why_19 rfl rfl ?_
    refine x_iload_n (pc := 20) B 3 dX12_why_20 rfl rfl ?_
    refine x_iload_n (pc := 21) B 4 dX12_why_21 rfl rfl ?_
    refine x_iload (pc := 22) B 5 dX12_why_22 rfl ?_
    refine x_iload_n (pc := 24) B 3 dX12_why_24 rfl rfl ?_
    refine x_iconst (v := (-1)) (pc := 25) B dX12_why_25 rfl ?_
    refine jn_k h (fun (u6 : Int32 × Mem) => XX D ad cI cJ p l e (Rm 513 14294) s m args below meth c Q 7 u6.2 45 [(0, .ref (ad 94)), (1, .int a1), (3, .int a3)] [.int u6.1, .int a4, .int a3, .int a2, .ref (ad 94)]) (fun u6 h => ?_) (fun k10 h JJ => ?_)
    · obtain ⟨q7, hq7, h⟩ := bnd h
      refine x_callV (rest := []) (st' := []) (pc := 45) B oi_94 rfl (C_Mo_names_94 a2 a3 a4 u6.1 u6.2 _ hq7) tw_1503 tw_1500 tw_1502 tw_57 tw_111 hd_Mo_names_94 ⟨Nat.le_of_ble_eq_true rfl, Nat.le_of_ble_eq_true rfl⟩ rfl rfl (Nat.le_of_ble_eq_true rfl) rfl dX12_why_45 ?_
      refine x_aload_n (pc := 48) B 0 dX12_why_48 rfl rfl ?_
      refine x_iload_n (pc := 49) B 1 dX12_why_49 rfl rfl ?_
      refine x_iload_n (pc := 50) B 2 dX12_why_50 rfl rfl ?_
      obtain ⟨q8, hq8, h⟩ := bnd h
      refine x_callV (rest := []) (st' := [.int q8.1]) (pc := 51) B oi_94 rfl (C_Mo_clauseOf_94 a1 a3 q7 _ hq8) tw_1515 tw_1512 tw_1514 tw_60 tw_111 hd_Mo_clauseOf_94 ⟨Nat.le_of_ble_eq_true rfl, Nat.le_of_ble_eq_true rfl⟩ rfl rfl (Nat.le_of_ble_eq_true rfl) rfl dX12_why_51 ?_
      refine x_istore (lv' := [(6, .int q8.1), (0, .ref (ad 94)), (1, .int a1), (3, .int a3)]) (pc := 54) B dX12_why_54 (by decide) rfl ?_
      refine x_iload (pc := 56) B 0 dX12_why_56 rfl ?_
      refine x_iconst (v := (-1)) (pc := 58) B dX12_why_58 rfl ?_
      refine x_icmp_ne (tgt := 67) (pc := 59) B dX12_why_59 rfl (fun hc9 => ?_) (fun hc9 => ?_)
      · have h := iff_ hc9 h
        refine x_bipush (v := 100) (pc := 67) B dX12_why_67 rfl ?_
        refine x_iload (pc := 69) B 0 dX12_why_69 rfl ?_
        refine x_bipush (v := 8) (pc := 71) B dX12_why_71 rfl ?_
        refine x_idiv (pc := 73) B dX12_why_73 (by decide) ?_
        refine x_imul (pc := 74) B dX12_why_74 ?_
        refine x_iload (pc := 75) B 0 dX12_why_75 rfl ?_
        refine x_bipush (v := 8) (pc := 77) B dX12_why_77 rfl ?_
        refine x_irem (pc := 79) B dX12_why_79 (by decide) ?_
        refine x_iadd (pc := 80) B dX12_why_80 ?_
        obtain rfl := Option.some.inj h
        exact x_iret (pc := 81) B hQ dX12_why_81
      · have h := ift hc9 h
        refine x_bipush (v := (-5)) (pc := 62) B dX12_why_62 rfl ?_
        refine x_goto (tgt := 81) (pc := 64) B dX12_why_64 rfl ?_
        obtain rfl := Option.some.inj h
        exact x_iret (pc := 81) B hQ dX12_why_81
    · refine x_icmp_eq (tgt := 33) (pc := 26) B dX12_why_26 rfl (fun hc3 => ?_) (fun hc3 => ?_)
      · have h := ift hc3 h
        refine x_iconst (v := 0) (pc := 33) B dX12_why_33 rfl ?_
        refine x_goto (tgt := 45) (pc := 34) B dX12_why_34 rfl ?_
        refine x_pick (lv' := [(0, .ref (ad 94)), (1, .int a1), (3, .int a3)]) [1, 2, 4] rfl ?_
        have z := JJ (0, M0) h
        exact z
      · have h := iff_ hc3 h
        refine x_iload_n (pc := 29) B 4 dX12_why_29 rfl rfl ?_
        refine x_if_ne (tgt := 37) (pc := 30) B dX12_why_30 rfl (fun hc11 => ?_) (fun hc11 => ?_)
        · have h := iff_ hc11 h
          refine x_aload_n (pc := 37) B 1 dX12_why_37 rfl rfl ?_
          refine x_iload_n (pc := 38) B 3 dX12_why_38 rfl rfl ?_
          refine x_iload_n (pc := 39) B 4 dX12_why_39 rfl rfl ?_
          refine x_iconst (v := 1) (pc := 40) B dX12_why_40 rfl ?_
          refine x_isub (pc := 41) B dX12_why_41 ?_
          obtain ⟨q12, hq12, h⟩ := bnd h
          refine x_callV (rest := [.int a4, .int a3, .int a2, .ref (ad 94)]) (st' := [.int q12.1, .int a4, .int a3, .int a2, .ref (ad 94)]) (pc := 42) B oi_94 rfl (C_Mo_arrears_94 a2 (a3 - 1) M0 _ hq12) tw_1483 tw_1480 tw_1482 tw_52 tw_111 hd_Mo_arrears_94 ⟨Nat.le_of_ble_eq_true rfl, Nat.le_of_ble_eq_true rfl⟩ rfl rfl (Nat.le_of_ble_eq_true rfl) rfl dX12_why_42 ?_
          refine x_pick (lv' := [(0, .ref (ad 94)), (1, .int a1), (3, .int a3)]) [1, 2, 4] rfl ?_
          have z := JJ (q12.1, q12.2) h
          exact z
        · have h := ift hc11 h
          refine x_iconst (v := 0) (pc := 33) B dX12_why_33 rfl ?_
          refine x_goto (tgt := 45) (pc := 34) B dX12_why_34 rfl ?_
          refine x_pick (lv' := [(0, .ref (ad 94)), (1, .int a1), (3, .int a3)]) [1, 2, 4] rfl ?_
          have z := JJ (0, M0) h
          exact z
  · have h := iff_ hc2 h
    refine x_iload (pc := 16) B 0 dX12_why_16 rfl ?_
    obtain rfl := Option.some.inj h
    exact x_iret (pc := 18) B hQ dX12_why_18
-- CurrentFarmsModel.line(II)I [94]
abbrev y_Mo_line_94 : MethodName := ⟨"CurrentFarmsModel", "line", "(II)I"⟩
abbrev cX12_line : ByteArray := prog_14_method_54_code
theorem dX12_line_0 : decode cX12_line 0 = .ok (.iload_n 1, 1) := by decide +kernel
theorem dX12_line_1 : decode cX12_line 1 = .ok (.invokestatic 88, 3) := by decide +kernel
theorem dX12_line_4 : decode cX12_line 4 = .ok (.ifCond .eq 10, 3) := by decide +kernel
theorem dX12_line_7 : decode cX12_line 7 = .ok (.iload_n 2, 1) := by decide +kernel
theorem dX12_line_8 : decode cX12_line 8 = .ok (.invokestatic 88, 3) := by decide +kernel
theorem dX12_line_11 : decode cX12_line 11 = .ok (.ifCond .ne 5, 3) := by decide +kernel
theorem dX12_line_14 : decode cX12_line 14 = .ok (.iconst (-1), 1) := by decide +kernel
theorem dX12_line_15 : decode cX12_line 15 = .ok (.ireturn, 1) := by decide +kernel
theorem dX12_line_16 : decode cX12_line 16 = .ok (.iload_n 1, 1) := by decide +kernel
theorem dX12_line_17 : decode cX12_line 17 = .ok (.iload_n 2, 1) := by decide +kernel
theorem dX12_line_18 : decode cX12_line 18 = .ok (.invokestatic 102, 3) := by decide +kernel
theorem dX12_line_21 : decode cX12_line 21 = .ok (.ifCond .ne 6, 3) := by decide +kernel
theorem dX12_line_24 : decode cX12_line 24 = .ok (.bipush (-2), 2) := by decide +kernel
theorem dX12_line_26 : decode cX12_line 26 = .ok (.ireturn, 1) := by decide +kernel
theorem dX12_line_27 : decode cX12_line 27 = .ok (.aload_n 0, 1) := by decide +kernel
theorem dX12_line_28 : decode cX12_line 28 = .ok (.iload_n 1, 1) := by decide +kernel
theorem dX12_line_29 : decode cX12_line 29 = .ok (.iload_n 2, 1) := by decide +kernel
theorem dX12_line_30 : decode cX12_line 30 = .ok (.invokevirtual 106, 3) := by decide +kernel
theorem dX12_line_33 : decode cX12_line 33 = .ok (.bipush (-5), 2) := by decide +kernel
theorem dX12_line_35 : decode cX12_line 35 = .ok (.if_icmp .eq 19, 3) := by decide +kernel
theorem dX12_line_38 : decode cX12_line 38 = .ok (.aload_n 0, 1) := by decide +kernel
theorem dX12_line_39 : decode cX12_line 39 = .ok (.iload_n 1, 1) := by decide +kernel
theorem dX12_line_40 : decode cX12_line 40 = .ok (.invokevirtual 92, 3) := by decide +kernel
theorem dX12_line_43 : decode cX12_line 43 = .ok (.ifCond .eq 11, 3) := by decide +kernel
theorem dX12_line_46 : decode cX12_line 46 = .ok (.aload_n 0, 1) := by decide +kernel
theorem dX12_line_47 : decode cX12_line 47 = .ok (.iload_n 2, 1) := by decide +kernel
theorem dX12_line_48 : decode cX12_line 48 = .ok (.invokevirtual 92, 3) := by decide +kernel
theorem dX12_line_51 : decode cX12_line 51 = .ok (.ifCond .eq 6, 3) := by decide +kernel
theorem dX12_line_54 : decode cX12_line 54 = .ok (.bipush (-3), 2) := by decide +kernel
theorem dX12_line_56 : decode cX12_line 56 = .ok (.ireturn, 1) := by decide +kernel
theorem dX12_line_57 : decode cX12_line 57 = .ok (.aload_n 0, 1) := by decide +kernel
theorem dX12_line_58 : decode cX12_line 58 = .ok (.getfield 7, 3) := by decide +kernel
theorem dX12_line_61 : decode cX12_line 61 = .ok (.bipush 116, 2) := by decide +kernel
theorem dX12_line_63 : decode cX12_line 63 = .ok (.iload_n 2, 1) := by decide +kernel
theorem dX12_line_64 : decode cX12_line 64 = .ok (.iadd, 1) := by decide +kernel
theorem dX12_line_65 : decode cX12_line 65 = .ok (.iload_n 1, 1) := by decide +kernel
theorem dX12_line_66 : decode cX12_line 66 = .ok (.iastore, 1) := by decide +kernel
theorem dX12_line_67 : decode cX12_line 67 = .ok (.aload_n 0, 1) := by decide +kernel
theorem dX12_line_68 : decode cX12_line 68 = .ok (.getfield 7, 3) := by decide +kernel
theorem dX12_line_71 : decode cX12_line 71 = .ok (.iconst 5, 1) := by decide +kernel
theorem dX12_line_72 : decode cX12_line 72 = .ok (.dup2, 1) := by decide +kernel
theorem dX12_line_73 : decode cX12_line 73 = .ok (.iaload, 1) := by decide +kernel
theorem dX12_line_74 : decode cX12_line 74 = .ok (.iconst 1, 1) := by decide +kernel
theorem dX12_line_75 : decode cX12_line 75 = .ok (.iadd, 1) := by decide +kernel
theorem dX12_line_76 : decode cX12_line 76 = .ok (.iastore, 1) := by decide +kernel
theorem dX12_line_77 : decode cX12_line 77 = .ok (.aload_n 0, 1) := by decide +kernel
theorem dX12_line_78 : decode cX12_line 78 = .ok (.dup, 1) := by decide +kernel
theorem dX12_line_79 : decode cX12_line 79 = .ok (.getfield 50, 3) := by decide +kernel
theorem dX12_line_82 : decode cX12_line 82 = .ok (.iconst 1, 1) := by decide +kernel
theorem dX12_line_83 : decode cX12_line 83 = .ok (.iadd, 1) := by decide +kernel
theorem dX12_line_84 : decode cX12_line 84 = .ok (.putfield 50, 3) := by decide +kernel
theorem dX12_line_87 : decode cX12_line 87 = .ok (.aload_n 0, 1) := by decide +kernel
theorem dX12_line_88 : decode cX12_line 88 = .ok (.getfield 7, 3) := by decide +kernel
theorem dX12_line_91 : decode cX12_line 91 = .ok (.iconst 5, 1) := by decide +kernel
theorem dX12_line_92 : decode cX12_line 92 = .ok (.iaload, 1) := by decide +kernel
theorem dX12_line_93 : decode cX12_line 93 = .ok (.ireturn, 1) := by decide +kernel
theorem hd_Mo_line_94 : y_Mo_line_94.cls ≠ "java/lang/invoke/MethodHandle" ∧ y_Mo_line_94.cls ≠ "java/lang/invoke/VarHandle" ∧ (parseMethodDescriptor y_Mo_line_94.desc).map (fun d => d.parameters.length) = some 2 := by decide +kernel
def f_Mo_line_94 (a1 : Int32) (a2 : Int32) (M0 : Mem) : Option (Int32 × Mem) :=
  (f_Mo_isCell a1).bind fun q1 => if q1 then ((f_Mo_isCell a2).bind fun q3 => if q3 then ((f_Mo_areBeside a1 a2).bind fun q5 => if q5 then ((f_Mo_costOf_94 a1 a2 M0).bind fun q7 => if decide (q7 = (-5)) then (some ((-3), M0)) else ((f_Mo_isOnLine_94 a1 M0).bind fun q9 => if q9 then ((f_Mo_isOnLine_94 a2 M0).bind fun q11 => if q11 then (some ((-3), M0)) else (if inb (116 + a2) 4700 then jv_ (wI M0 95 (116 + a2).toNatClampNeg a1) fun M14 => jv_ (wI M14 95 5 ((M14.1 95 5) + 1)) fun M15 => jv_ (wI M15 94 21 ((M15.1 94 21) + 1)) fun M16 => some (M16.1 95 5, M16) else none)) else (some ((-3), M0)))) else (some ((-2), M0))) else (some ((-1), M0))) else (some ((-1), M0))
set_option maxHeartbeats 4000000 in
set_option maxRecDepth 20000 in
theorem C_Mo_line_94 {D : va_G} {ad adK adV : Nat → Nat} {cI cJ : ClassId} {l : Launch} (a1 : Int32) (a2 : Int32) (M0 : Mem) (o : Int32 × Mem) (h : f_Mo_line_94 a1 a2 M0 = some o) : Ct D ad adK adV cI cJ l y_Mo_line_94 cX12_line 3 (some .int) 2 44 [.ref (ad 94), .int a1, .int a2] M0 (some (.int o.1)) o.2 := by
  refine x_start (lv := [(0, .ref (ad 94)), (1, .int a1), (2, .int a2)]) (own := "CurrentFarmsModel") rfl (by decide) (Nat.le_of_ble_eq_true rfl) rfl ?_
  intro p e s m args below meth c Q hQ B
  unfold f_Mo_line_94 at h
  refine x_iload_n (pc := 0) B 1 dX12_line_0 rfl rfl ?_
  obtain ⟨q1, hq1, h⟩ := bnd h
  refine x_callS (rest := []) (st' := [.int (bI q1)]) (pc := 1) B (C_Mo_isCell a1 M0 _ hq1) tw_1403 tw_1401 tw_1402 tw_111 hd_Mo_isCell ⟨Nat.le_of_ble_eq_true rfl, Nat.le_of_ble_eq_true rfl⟩ rfl rfl (Nat.le_of_ble_eq_true rfl) rfl dX12_line_1 ?_
  refine x_if_eq_b (tgt := 14) (pc := 4) B dX12_line_4 rfl (fun hc2 => ?_) (fun hc2 => ?_)
  · have h := iff_ hc2 h
    refine x_iconst (v := (-1)) (pc := 14) B dX12_line_14 rfl ?_
    obtain rfl := Option.some.inj h
    exact x_iret (pc := 15) B hQ dX12_line_15
  · have h := ift hc2 h
    refine x_iload_n (pc := 7) B 2 dX12_line_7 rfl rfl ?_
    obtain ⟨q3, hq3, h⟩ := bnd h
    refine x_callS (rest := []) (st' := [.int (bI q3)]) (pc := 8) B (C_Mo_isCell a2 M0 _ hq3) tw_1403 tw_1401 tw_1402 tw_111 hd_Mo_isCell ⟨Nat.le_of_ble_eq_true rfl, Nat.le_of_ble_eq_true rfl⟩ rfl rfl (Nat.le_of_ble_eq_true rfl) rfl dX12_line_8 ?_
    refine x_if_ne_b (tgt := 16) (pc := 11) B dX12_line_11 rfl (fun hc4 => ?_) (fun hc4 => ?_)
    · have h := ift hc4 h
      refine x_iload_n (pc := 16) B 1 dX12_line_16 rfl rfl ?_
      refine x_iload_n (pc := 17) B 2 dX12_line_17 rfl rfl ?_
      obtain ⟨q5, hq5, h⟩ := bnd h
      refine x_callS (rest := []) (st' := [.int (bI q5)]) (pc := 18) B (C_Mo_areBeside a1 a2 M0 _ hq5) tw_1417 tw_1415 tw_1416 tw_111 hd_Mo_areBeside ⟨Nat.le_of_ble_eq_true rfl, Nat.le_of_ble_eq_true rfl⟩ rfl rfl (Nat.le_of_ble_eq_true rfl) rfl dX12_line_18 ?_
      refine x_if_ne_b (tgt := 27) (pc := 21) B dX12_line_21 rfl (fun hc6 => ?_) (fun hc6 => ?_)
      · have h := ift hc6 h
        refine x_aload_n (pc := 27) B 0 dX12_line_27 rfl rfl ?_
        refine x_iload_n (pc := 28) B 1 dX12_line_28 rfl rfl ?_
        refine x_iload_n (pc := 29) B 2 dX12_line_29 rfl rfl ?_
        obtain ⟨q7, hq7, h⟩ := bnd h
        refine x_callV (rest := []) (st' := [.int q7]) (pc := 30) B oi_94 rfl (C_Mo_costOf_94 a1 a2 M0 _ hq7) tw_1421 tw_1418 tw_1420 tw_44 tw_111 hd_Mo_costOf_94 ⟨Nat.le_of_ble_eq_true rfl, Nat.le_of_ble_eq_true rfl⟩ rfl rfl (Nat.le_of_ble_eq_true rfl) rfl dX12_line_30 ?_
        refine x_bipush (v := (-5)) (pc := 33) B dX12_line_33 rfl ?_
        refine x_icmp_eq (tgt := 54) (pc := 35) B dX12_line_35 rfl (fun hc8 => ?_) (fun hc8 => ?_)
        · have h := ift hc8 h
          refine x_bipush (v := (-3)) (pc := 54) B dX12_line_54 rfl ?_
          obtain rfl := Option.some.inj h
          exact x_iret (pc := 56) B hQ dX12_line_56
        · have h := iff_ hc8 h
          refine x_aload_n (pc := 38) B 0 dX12_line_38 rfl rfl ?_
          refine x_iload_n (pc := 39) B 1 dX12_line_39 rfl rfl ?_
          obtain ⟨q9, hq9, h⟩ := bnd h
          refine x_callV (rest := []) (st' := [.int (bI q9)]) (pc := 40) B oi_94 rfl (C_Mo_isOnLine_94 a1 M0 _ hq9) tw_1410 tw_1407 tw_1409 tw_43 tw_111 hd_Mo_isOnLine_94 ⟨Nat.le_of_ble_eq_true rfl, Nat.le_of_ble_eq_true rfl⟩ rfl rfl (Nat.le_of_ble_eq_true rfl) rfl dX12_line_40 ?_
          refine x_if_eq_b (tgt := 54) (pc := 43) B dX12_line_43 rfl (fun hc10 => ?_) (fun hc10 => ?_)
          · have h := iff_ hc10 h
            refine x_bipush (v := (-3)) (pc := 54) B dX12_line_54 rfl ?_
            obtain rfl := Option.some.inj h
            exact x_iret (pc := 56) B hQ dX12_line_56
          · have h := ift hc10 h
            refine x_aload_n (pc := 46) B 0 dX12_line_46 rfl rfl ?_
            refine x_iload_n (pc := 47) B 2 dX12_line_47 rfl rfl ?_
            obtain ⟨q11, hq11, h⟩ := bnd h
            refine x_callV (rest := []) (st' := [.int (bI q11)]) (pc := 48) B oi_94 rfl (C_Mo_isOnLine_94 a2 M0 _ hq11) tw_1410 tw_1407 tw_1409 tw_43 tw_111 hd_Mo_isOnLine_94 ⟨Nat.le_of_ble_eq_true rfl, Nat.le_of_ble_eq_true rfl⟩ rfl rfl (Nat.le_of_ble_eq_true rfl) rfl dX12_line_48 ?_
            refine x_if_eq_b (tgt := 57) (pc := 51) B dX12_line_51 rfl (fun hc12 => ?_) (fun hc12 => ?_)
            · have h := iff_ hc12 h
              refine x_aload_n (pc := 57) B 0 dX12_line_57 rfl rfl ?_
              refine x_get (T := TX12) (pc := 58) B 1 oi_94 rfl uw_12 (by decide) rfl tw_1300 rfl dX12_line_58 ?_
              refine x_bipush (v := 116) (pc := 61) B dX12_line_61 rfl ?_
              refine x_iload_n (pc := 63) B 2 dX12_line_63 rfl rfl ?_
              refine x_iadd (pc := 64) B dX12_line_64 ?_
              refine x_iload_n (pc := 65) B 1 dX12_line_65 rfl rfl ?_
              obtain ⟨hk13, h⟩ := ifn h
              refine x_iast (pc := 66) B ai_95 hk13 dX12_line_66 ?_
              refine jv_m (P := fun M14 => XX D ad cI cJ p l e (Rm 2 44) s m args below meth c Q 3 M14 67 [(0, .ref (ad 94)), (1, .int a1), (2, .int a2)] []) h (fun M14 h => ?_)
              refine x_aload_n (pc := 67) B 0 dX12_line_67 rfl rfl ?_
              refine x_get (T := TX12) (pc := 68) B 1 oi_94 rfl uw_12 (by decide) rfl tw_1300 rfl dX12_line_68 ?_
              refine x_iconst (v := 5) (pc := 71) B dX12_line_71 rfl ?_
              refine x_dup2 (pc := 72) B dX12_line_72 rfl rfl ?_
              refine x_iald_c (j := 5) (pc := 73) B ai_95 (by decide) rfl dX12_line_73 ?_
              refine x_iconst (v := 1) (pc := 74) B dX12_line_74 rfl ?_
              refine x_iadd (pc := 75) B dX12_line_75 ?_
              refine x_iast_c (j := 5) (pc := 76) B ai_95 (by decide) rfl dX12_line_76 ?_
              refine jv_m (P := fun M15 => XX D ad cI cJ p l e (Rm 2 44) s m args below meth c Q 3 M15 77 [(0, .ref (ad 94)), (1, .int a1), (2, .int a2)] []) h (fun M15 h => ?_)
              refine x_aload_n (pc := 77) B 0 dX12_line_77 rfl rfl ?_
              refine x_dup (pc := 78) B dX12_line_78 rfl ?_
              refine x_get (T := TX12) (pc := 79) B 21 oi_94 rfl uw_12 (by decide) rfl tw_1320 rfl dX12_line_79 ?_
              refine x_iconst (v := 1) (pc := 82) B dX12_line_82 rfl ?_
              refine x_iadd (pc := 83) B dX12_line_83 ?_
              refine x_put (T := TX12) (pc := 84) B 21 oi_94 of_94_21 rfl uw_12 tyX12_ok nmX12 (by decide) rfl tw_1320 rfl rfl rfl (Nat.le_of_ble_eq_true rfl) dX12_line_84 ?_
              refine jv_m (P := fun M16 => XX D ad cI cJ p l e (Rm 2 44) s m args below meth c Q 3 M16 87 [(0, .ref (ad 94)), (1, .int a1), (2, .int a2)] []) h (fun M16 h => ?_)
              refine x_aload_n (pc := 87) B 0 dX12_line_87 rfl rfl ?_
              refine x_get (T := TX12) (pc := 88) B 1 oi_94 rfl uw_12 (by decide) rfl tw_1300 rfl dX12_line_88 ?_
              refine x_iconst (v := 5) (pc := 91) B dX12_line_91 rfl ?_
              refine x_iald_c (j := 5) (pc := 92) B ai_95 (by decide) rfl dX12_line_92 ?_
              obtain rfl := Option.some.inj h
              exact x_iret (pc := 93) B hQ dX12_line_93
            · have h := ift hc12 h
              refine x_bipush (v := (-3)) (pc := 54) B dX12_line_54 rfl ?_
              obtain rfl := Option.some.inj h
              exact x_iret (pc := 56) B hQ dX12_line_56
      · have h := iff_ hc6 h
        refine x_bipush (v := (-2)) (pc := 24) B dX12_line_24 rfl ?_
        obtain rfl := Option.some.inj h
        exact x_iret (pc := 26) B hQ dX12_line_26
    · have h := iff_ hc4 h
      refine x_iconst (v := (-1)) (pc := 14) B dX12_line_14 rfl ?_
      obtain rfl := Option.some.inj h
      exact x_iret (pc := 15) B hQ dX12_line_15
-- CurrentFarmsModel.clear()I [94]
abbrev y_Mo_clear_94 : MethodName := ⟨"CurrentFarmsModel", "clear", "()I"⟩
abbrev cX12_clear : ByteArray := prog_14_method_55_code
theorem dX12_clear_0 : decode cX12_clear 0 = .ok (.aload_n 0, 1) := by decide +kernel
theorem dX12_clear_1 : decode cX12_clear 1 = .ok (.getfield 7, 3) := by decide +kernel
theorem dX12_clear_4 : decode cX12_clear 4 = .ok (.iconst 5, 1) := by decide +kernel
theorem dX12_clear_5 : decode cX12_clear 5 = .ok (.iaload, 1) := by decide +kernel
theorem dX12_clear_6 : decode cX12_clear 6 = .ok (.istore_n 1, 1) := by decide +kernel
theorem dX12_clear_7 : decode cX12_clear 7 = .ok (.iconst 0, 1) := by decide +kernel
theorem dX12_clear_8 : decode cX12_clear 8 = .ok (.istore_n 2, 1) := by decide +kernel
theorem dX12_clear_9 : decode cX12_clear 9 = .ok (.iload_n 2, 1) := by decide +kernel
theorem dX12_clear_10 : decode cX12_clear 10 = .ok (.bipush 48, 2) := by decide +kernel
theorem dX12_clear_12 : decode cX12_clear 12 = .ok (.if_icmp .ge 19, 3) := by decide +kernel
theorem dX12_clear_15 : decode cX12_clear 15 = .ok (.aload_n 0, 1) := by decide +kernel
theorem dX12_clear_16 : decode cX12_clear 16 = .ok (.getfield 7, 3) := by decide +kernel
theorem dX12_clear_19 : decode cX12_clear 19 = .ok (.bipush 116, 2) := by decide +kernel
theorem dX12_clear_21 : decode cX12_clear 21 = .ok (.iload_n 2, 1) := by decide +kernel
theorem dX12_clear_22 : decode cX12_clear 22 = .ok (.iadd, 1) := by decide +kernel
theorem dX12_clear_23 : decode cX12_clear 23 = .ok (.iconst (-1), 1) := by decide +kernel
theorem dX12_clear_24 : decode cX12_clear 24 = .ok (.iastore, 1) := by decide +kernel
theorem dX12_clear_25 : decode cX12_clear 25 = .ok (.iinc 2 1, 3) := by decide +kernel
theorem dX12_clear_28 : decode cX12_clear 28 = .ok (.goto (-19), 3) := by decide +kernel
theorem dX12_clear_31 : decode cX12_clear 31 = .ok (.aload_n 0, 1) := by decide +kernel
theorem dX12_clear_32 : decode cX12_clear 32 = .ok (.getfield 7, 3) := by decide +kernel
theorem dX12_clear_35 : decode cX12_clear 35 = .ok (.iconst 5, 1) := by decide +kernel
theorem dX12_clear_36 : decode cX12_clear 36 = .ok (.iconst 0, 1) := by decide +kernel
theorem dX12_clear_37 : decode cX12_clear 37 = .ok (.iastore, 1) := by decide +kernel
theorem dX12_clear_38 : decode cX12_clear 38 = .ok (.aload_n 0, 1) := by decide +kernel
theorem dX12_clear_39 : decode cX12_clear 39 = .ok (.getfield 7, 3) := by decide +kernel
theorem dX12_clear_42 : decode cX12_clear 42 = .ok (.bipush 6, 2) := by decide +kernel
theorem dX12_clear_44 : decode cX12_clear 44 = .ok (.iconst 0, 1) := by decide +kernel
theorem dX12_clear_45 : decode cX12_clear 45 = .ok (.iastore, 1) := by decide +kernel
theorem dX12_clear_46 : decode cX12_clear 46 = .ok (.aload_n 0, 1) := by decide +kernel
theorem dX12_clear_47 : decode cX12_clear 47 = .ok (.dup, 1) := by decide +kernel
theorem dX12_clear_48 : decode cX12_clear 48 = .ok (.getfield 50, 3) := by decide +kernel
theorem dX12_clear_51 : decode cX12_clear 51 = .ok (.iconst 1, 1) := by decide +kernel
theorem dX12_clear_52 : decode cX12_clear 52 = .ok (.iadd, 1) := by decide +kernel
theorem dX12_clear_53 : decode cX12_clear 53 = .ok (.putfield 50, 3) := by decide +kernel
theorem dX12_clear_56 : decode cX12_clear 56 = .ok (.iload_n 1, 1) := by decide +kernel
theorem dX12_clear_57 : decode cX12_clear 57 = .ok (.ireturn, 1) := by decide +kernel
theorem hd_Mo_clear_94 : y_Mo_clear_94.cls ≠ "java/lang/invoke/MethodHandle" ∧ y_Mo_clear_94.cls ≠ "java/lang/invoke/VarHandle" ∧ (parseMethodDescriptor y_Mo_clear_94.desc).map (fun d => d.parameters.length) = some 0 := by decide +kernel
def b_Mo_clear_94_9  (y1 : Int32 × Mem) : Option ((Int32 × Mem) ⊕ (Mem)) :=
  if decide (y1.1 < 48) then (if inb (116 + y1.1) 4700 then jv_ (wI y1.2 95 (116 + y1.1).toNatClampNeg (-1)) fun M4 => some (.inl (y1.1 + 1, M4)) else none) else (some (.inr y1.2))
def f_Mo_clear_94  (M0 : Mem) : Option (Int32 × Mem) :=
  (itr (b_Mo_clear_94_9) FU (0, M0)).bind fun q5 => jv_ (wI q5 95 5 0) fun M6 => jv_ (wI M6 95 6 0) fun M7 => jv_ (wI M7 94 21 ((M7.1 94 21) + 1)) fun M8 => some (M0.1 95 5, M8)
set_option maxHeartbeats 4000000 in
set_option maxRecDepth 20000 in
theorem C_Mo_clear_94 {D : va_G} {ad adK adV : Nat → Nat} {cI cJ : ClassId} {l : Launch}  (M0 : Mem) (o : Int32 × Mem) (h : f_Mo_clear_94  M0 = some o) : Ct D ad adK adV cI cJ l y_Mo_clear_94 cX12_clear 3 (some .int) 0 0 [.ref (ad 94)] M0 (some (.int o.1)) o.2 := by
  refine x_start (lv := [(0, .ref (ad 94))]) (own := "CurrentFarmsModel") rfl (by decide) (Nat.le_of_ble_eq_true rfl) rfl ?_
  intro p e s m args below meth c Q hQ B
  unfold f_Mo_clear_94 at h
  refine x_aload_n (pc := 0) B 0 dX12_clear_0 rfl rfl ?_
  refine x_get (T := TX12) (pc := 1) B 1 oi_94 rfl uw_12 (by decide) rfl tw_1300 rfl dX12_clear_1 ?_
  refine x_iconst (v := 5) (pc := 4) B dX12_clear_4 rfl ?_
  refine x_iald_c (j := 5) (pc := 5) B ai_95 (by decide) rfl dX12_clear_5 ?_
  refine x_istore_n (lv' := [(1, .int (M0.1 95 5)), (0, .ref (ad 94))]) (pc := 6) B dX12_clear_6 rfl (by decide) rfl ?_
  refine x_iconst (v := 0) (pc := 7) B dX12_clear_7 rfl ?_
  refine x_istore_n (lv' := [(2, .int 0), (1, .int (M0.1 95 5)), (0, .ref (ad 94))]) (pc := 8) B dX12_clear_8 rfl (by decide) rfl ?_
  refine x_pick (lv' := [(0, .ref (ad 94)), (1, .int (M0.1 95 5)), (2, .int 0)]) [2, 1, 0] rfl ?_
  obtain ⟨q5, hq5, h⟩ := bnd h
  refine x_loop (Head := fun (y1 : Int32 × Mem) => XX D ad cI cJ p l e (Rm 0 0) s m args below meth c Q 3 y1.2 9 [(0, .ref (ad 94)), (1, .int (M0.1 95 5)), (2, .int y1.1)] []) (Ex := fun (q5 : Mem) => XX D ad cI cJ p l e (Rm 0 0) s m args below meth c Q 3 q5 31 [(0, .ref (ad 94)), (1, .int (M0.1 95 5))] []) (fun y1 r h hback hexit => ?_) FU _ q5 hq5 ?_
  · unfold b_Mo_clear_94_9 at h
    refine x_iload_n (pc := 9) B 2 dX12_clear_9 rfl rfl ?_
    refine x_bipush (v := 48) (pc := 10) B dX12_clear_10 rfl ?_
    refine x_icmp_ge (tgt := 31) (pc := 12) B dX12_clear_12 rfl (fun hc2 => ?_) (fun hc2 => ?_)
    · have h := iff_ hc2 h
      refine x_pick (lv' := [(0, .ref (ad 94)), (1, .int (M0.1 95 5))]) [0, 1] rfl ?_
      have z := hexit y1.2 (Option.some.inj h).symm
      exact z
    · have h := ift hc2 h
      refine x_aload_n (pc := 15) B 0 dX12_clear_15 rfl rfl ?_
      refine x_get (T := TX12) (pc := 16) B 1 oi_94 rfl uw_12 (by decide) rfl tw_1300 rfl dX12_clear_16 ?_
      refine x_bipush (v := 116) (pc := 19) B dX12_clear_19 rfl ?_
      refine x_iload_n (pc := 21) B 2 dX12_clear_21 rfl rfl ?_
      refine x_iadd (pc := 22) B dX12_clear_22 ?_
      refine x_iconst (v := (-1)) (pc := 23) B dX12_clear_23 rfl ?_
      obtain ⟨hk3, h⟩ := ifn h
      refine x_iast (pc := 24) B ai_95 hk3 dX12_clear_24 ?_
      refine jv_m (P := fun M4 => XX D ad cI cJ p l e (Rm 0 0) s m args below meth c Q 3 M4 25 [(0, .ref (ad 94)), (1, .int (M0.1 95 5)), (2, .int y1.1)] []) h (fun M4 h => ?_)
      refine x_iinc (k := 2) (v := y1.1 + 1) (lv' := [(2, .int (y1.1 + 1)), (0, .ref (ad 94)), (1, .int (M0.1 95 5))]) (pc := 25) B dX12_clear_25 rfl rfl (by decide) rfl ?_
      refine x_goto (tgt := 9) (pc := 28) B dX12_clear_28 rfl ?_
      refine x_pick (lv' := [(0, .ref (ad 94)), (1, .int (M0.1 95 5)), (2, .int (y1.1 + 1))]) [1, 2, 0] rfl ?_
      have z := hback (y1.1 + 1, M4) (Option.some.inj h).symm
      exact z
  · refine x_aload_n (pc := 31) B 0 dX12_clear_31 rfl rfl ?_
    refine x_get (T := TX12) (pc := 32) B 1 oi_94 rfl uw_12 (by decide) rfl tw_1300 rfl dX12_clear_32 ?_
    refine x_iconst (v := 5) (pc := 35) B dX12_clear_35 rfl ?_
    refine x_iconst (v := 0) (pc := 36) B dX12_clear_36 rfl ?_
    refine x_iast_c (j := 5) (pc := 37) B ai_95 (by decide) rfl dX12_clear_37 ?_
    refine jv_m (P := fun M6 => XX D ad cI cJ p l e (Rm 0 0) s m args below meth c Q 3 M6 38 [(0, .ref (ad 94)), (1, .int (M0.1 95 5))] []) h (fun M6 h => ?_)
    refine x_aload_n (pc := 38) B 0 dX12_clear_38 rfl rfl ?_
    refine x_get (T := TX12) (pc := 39) B 1 oi_94 rfl uw_12 (by decide) rfl tw_1300 rfl dX12_clear_39 ?_
    refine x_bipush (v := 6) (pc := 42) B dX12_clear_42 rfl ?_
    refine x_iconst (v := 0) (pc := 44) B dX12_clear_44 rfl ?_
    refine x_iast_c (j := 6) (pc := 45) B ai_95 (by decide) rfl dX12_clear_45 ?_
    refine jv_m (P := fun M7 => XX D ad cI cJ p l e (Rm 0 0) s m args below meth c Q 3 M7 46 [(0, .ref (ad 94)), (1, .int (M0.1 95 5))] []) h (fun M7 h => ?_)
    refine x_aload_n (pc := 46) B 0 dX12_clear_46 rfl rfl ?_
    refine x_dup (pc := 47) B dX12_clear_47 rfl ?_
    refine x_get (T := TX12) (pc := 48) B 21 oi_94 rfl uw_12 (by decide) rfl tw_1320 rfl dX12_clear_48 ?_
    refine x_iconst (v := 1) (pc := 51) B dX12_clear_51 rfl ?_
    refine x_iadd (pc := 52) B dX12_clear_52 ?_
    refine x_put (T := TX12) (pc := 53) B 21 oi_94 of_94_21 rfl uw_12 tyX12_ok nmX12 (by decide) rfl tw_1320 rfl rfl rfl (Nat.le_of_ble_eq_true rfl) dX12_clear_53 ?_
    refine jv_m (P := fun M8 => XX D ad cI cJ p l e (Rm 0 0) s m args below meth c Q 3 M8 56 [(0, .ref (ad 94)), (1, .int (M0.1 95 5))] []) h (fun M8 h => ?_)
    refine x_iload_n (pc := 56) B 1 dX12_clear_56 rfl rfl ?_
    obtain rfl := Option.some.inj h
    exact x_iret (pc := 57) B hQ dX12_clear_57
-- CurrentFarmsModel.goesOn(I)V [94]
abbrev y_Mo_goesOn_94 : MethodName := ⟨"CurrentFarmsModel", "goesOn", "(I)V"⟩
abbrev cX12_goesOn : ByteArray := prog_14_method_57_code
theorem dX12_goesOn_0 : decode cX12_goesOn 0 = .ok (.iconst 1, 1) := by decide +kernel
theorem dX12_goesOn_1 : decode cX12_goesOn 1 = .ok (.istore_n 2, 1) := by decide +kernel
theorem dX12_goesOn_2 : decode cX12_goesOn 2 = .ok (.iload_n 2, 1) := by decide +kernel
theorem dX12_goesOn_3 : decode cX12_goesOn 3 = .ok (.ifCond .eq 180, 3) := by decide +kernel
theorem dX12_goesOn_6 : decode cX12_goesOn 6 = .ok (.iconst 0, 1) := by decide +kernel
theorem dX12_goesOn_7 : decode cX12_goesOn 7 = .ok (.istore_n 2, 1) := by decide +kernel
theorem dX12_goesOn_8 : decode cX12_goesOn 8 = .ok (.iconst 0, 1) := by decide +kernel
theorem dX12_goesOn_9 : decode cX12_goesOn 9 = .ok (.istore_n 3, 1) := by decide +kernel
theorem dX12_goesOn_10 : decode cX12_goesOn 10 = .ok (.iload_n 3, 1) := by decide +kernel
theorem dX12_goesOn_11 : decode cX12_goesOn 11 = .ok (.bipush 48, 2) := by decide +kernel
theorem dX12_goesOn_13 : decode cX12_goesOn 13 = .ok (.if_icmp .ge 167, 3) := by decide +kernel
theorem dX12_goesOn_16 : decode cX12_goesOn 16 = .ok (.iconst 0, 1) := by decide +kernel
theorem dX12_goesOn_17 : decode cX12_goesOn 17 = .ok (.istore 4, 2) := by decide +kernel
theorem dX12_goesOn_19 : decode cX12_goesOn 19 = .ok (.iload 4, 2) := by decide +kernel
theorem dX12_goesOn_21 : decode cX12_goesOn 21 = .ok (.iconst 4, 1) := by decide +kernel
theorem dX12_goesOn_22 : decode cX12_goesOn 22 = .ok (.if_icmp .ge 152, 3) := by decide +kernel
theorem dX12_goesOn_25 : decode cX12_goesOn 25 = .ok (.iload_n 3, 1) := by decide +kernel
theorem dX12_goesOn_26 : decode cX12_goesOn 26 = .ok (.iload 4, 2) := by decide +kernel
theorem dX12_goesOn_28 : decode cX12_goesOn 28 = .ok (.ifCond .ne 7, 3) := by decide +kernel
theorem dX12_goesOn_31 : decode cX12_goesOn 31 = .ok (.iconst 1, 1) := by decide +kernel
theorem dX12_goesOn_32 : decode cX12_goesOn 32 = .ok (.goto 26, 3) := by decide +kernel
theorem dX12_goesOn_35 : decode cX12_goesOn 35 = .ok (.iload 4, 2) := by decide +kernel
theorem dX12_goesOn_37 : decode cX12_goesOn 37 = .ok (.iconst 1, 1) := by decide +kernel
theorem dX12_goesOn_38 : decode cX12_goesOn 38 = .ok (.if_icmp .ne 7, 3) := by decide +kernel
theorem dX12_goesOn_41 : decode cX12_goesOn 41 = .ok (.iconst (-1), 1) := by decide +kernel
theorem dX12_goesOn_42 : decode cX12_goesOn 42 = .ok (.goto 16, 3) := by decide +kernel
theorem dX12_goesOn_45 : decode cX12_goesOn 45 = .ok (.iload 4, 2) := by decide +kernel
theorem dX12_goesOn_47 : decode cX12_goesOn 47 = .ok (.iconst 2, 1) := by decide +kernel
theorem dX12_goesOn_48 : decode cX12_goesOn 48 = .ok (.if_icmp .ne 8, 3) := by decide +kernel
theorem dX12_goesOn_51 : decode cX12_goesOn 51 = .ok (.bipush 8, 2) := by decide +kernel
theorem dX12_goesOn_53 : decode cX12_goesOn 53 = .ok (.goto 5, 3) := by decide +kernel
theorem dX12_goesOn_56 : decode cX12_goesOn 56 = .ok (.bipush (-8), 2) := by decide +kernel
theorem dX12_goesOn_58 : decode cX12_goesOn 58 = .ok (.iadd, 1) := by decide +kernel
theorem dX12_goesOn_59 : decode cX12_goesOn 59 = .ok (.istore 5, 2) := by decide +kernel
theorem dX12_goesOn_61 : decode cX12_goesOn 61 = .ok (.iload 5, 2) := by decide +kernel
theorem dX12_goesOn_63 : decode cX12_goesOn 63 = .ok (.invokestatic 88, 3) := by decide +kernel
theorem dX12_goesOn_66 : decode cX12_goesOn 66 = .ok (.ifCond .eq 28, 3) := by decide +kernel
theorem dX12_goesOn_69 : decode cX12_goesOn 69 = .ok (.iload_n 3, 1) := by decide +kernel
theorem dX12_goesOn_70 : decode cX12_goesOn 70 = .ok (.iload 5, 2) := by decide +kernel
theorem dX12_goesOn_72 : decode cX12_goesOn 72 = .ok (.invokestatic 102, 3) := by decide +kernel
theorem dX12_goesOn_75 : decode cX12_goesOn 75 = .ok (.ifCond .eq 19, 3) := by decide +kernel
theorem dX12_goesOn_78 : decode cX12_goesOn 78 = .ok (.aload_n 0, 1) := by decide +kernel
theorem dX12_goesOn_79 : decode cX12_goesOn 79 = .ok (.iload_n 3, 1) := by decide +kernel
theorem dX12_goesOn_80 : decode cX12_goesOn 80 = .ok (.iload 5, 2) := by decide +kernel
theorem dX12_goesOn_82 : decode cX12_goesOn 82 = .ok (.invokevirtual 106, 3) := by decide +kernel
theorem dX12_goesOn_85 : decode cX12_goesOn 85 = .ok (.bipush (-5), 2) := by decide +kernel
theorem dX12_goesOn_87 : decode cX12_goesOn 87 = .ok (.if_icmp .eq 7, 3) := by decide +kernel
theorem dX12_goesOn_90 : decode cX12_goesOn 90 = .ok (.iconst 1, 1) := by decide +kernel
theorem dX12_goesOn_91 : decode cX12_goesOn 91 = .ok (.goto 4, 3) := by decide +kernel
theorem dX12_goesOn_94 : decode cX12_goesOn 94 = .ok (.iconst 0, 1) := by decide +kernel
theorem dX12_goesOn_95 : decode cX12_goesOn 95 = .ok (.istore 6, 2) := by decide +kernel
theorem dX12_goesOn_97 : decode cX12_goesOn 97 = .ok (.iload 6, 2) := by decide +kernel
theorem dX12_goesOn_99 : decode cX12_goesOn 99 = .ok (.ifCond .eq 25, 3) := by decide +kernel
theorem dX12_goesOn_102 : decode cX12_goesOn 102 = .ok (.aload_n 0, 1) := by decide +kernel
theorem dX12_goesOn_103 : decode cX12_goesOn 103 = .ok (.getfield 25, 3) := by decide +kernel
theorem dX12_goesOn_106 : decode cX12_goesOn 106 = .ok (.bipush 48, 2) := by decide +kernel
theorem dX12_goesOn_108 : decode cX12_goesOn 108 = .ok (.iload_n 1, 1) := by decide +kernel
theorem dX12_goesOn_109 : decode cX12_goesOn 109 = .ok (.imul, 1) := by decide +kernel
theorem dX12_goesOn_110 : decode cX12_goesOn 110 = .ok (.iload_n 3, 1) := by decide +kernel
theorem dX12_goesOn_111 : decode cX12_goesOn 111 = .ok (.iadd, 1) := by decide +kernel
theorem dX12_goesOn_112 : decode cX12_goesOn 112 = .ok (.iaload, 1) := by decide +kernel
theorem dX12_goesOn_113 : decode cX12_goesOn 113 = .ok (.aload_n 0, 1) := by decide +kernel
theorem dX12_goesOn_114 : decode cX12_goesOn 114 = .ok (.iload_n 3, 1) := by decide +kernel
theorem dX12_goesOn_115 : decode cX12_goesOn 115 = .ok (.iload 5, 2) := by decide +kernel
theorem dX12_goesOn_117 : decode cX12_goesOn 117 = .ok (.invokevirtual 106, 3) := by decide +kernel
theorem dX12_goesOn_120 : decode cX12_goesOn 120 = .ok (.iadd, 1) := by decide +kernel
theorem dX12_goesOn_121 : decode cX12_goesOn 121 = .ok (.goto 5, 3) := by decide +kernel
theorem dX12_goesOn_124 : decode cX12_goesOn 124 = .ok (.ldc 255, 2) := by decide +kernel
theorem dX12_goesOn_126 : decode cX12_goesOn 126 = .ok (.istore 7, 2) := by decide +kernel
theorem dX12_goesOn_128 : decode cX12_goesOn 128 = .ok (.iload 7, 2) := by decide +kernel
theorem dX12_goesOn_130 : decode cX12_goesOn 130 = .ok (.ldc 255, 2) := by decide +kernel
theorem dX12_goesOn_132 : decode cX12_goesOn 132 = .ok (.if_icmp .ge 36, 3) := by decide +kernel
theorem dX12_goesOn_135 : decode cX12_goesOn 135 = .ok (.iload 7, 2) := by decide +kernel
theorem dX12_goesOn_137 : decode cX12_goesOn 137 = .ok (.aload_n 0, 1) := by decide +kernel
theorem dX12_goesOn_138 : decode cX12_goesOn 138 = .ok (.getfield 25, 3) := by decide +kernel
theorem dX12_goesOn_141 : decode cX12_goesOn 141 = .ok (.bipush 48, 2) := by decide +kernel
theorem dX12_goesOn_143 : decode cX12_goesOn 143 = .ok (.iload_n 1, 1) := by decide +kernel
theorem dX12_goesOn_144 : decode cX12_goesOn 144 = .ok (.imul, 1) := by decide +kernel
theorem dX12_goesOn_145 : decode cX12_goesOn 145 = .ok (.iload 5, 2) := by decide +kernel
theorem dX12_goesOn_147 : decode cX12_goesOn 147 = .ok (.iadd, 1) := by decide +kernel
theorem dX12_goesOn_148 : decode cX12_goesOn 148 = .ok (.iaload, 1) := by decide +kernel
theorem dX12_goesOn_149 : decode cX12_goesOn 149 = .ok (.if_icmp .ge 19, 3) := by decide +kernel
theorem dX12_goesOn_152 : decode cX12_goesOn 152 = .ok (.aload_n 0, 1) := by decide +kernel
theorem dX12_goesOn_153 : decode cX12_goesOn 153 = .ok (.getfield 25, 3) := by decide +kernel
theorem dX12_goesOn_156 : decode cX12_goesOn 156 = .ok (.bipush 48, 2) := by decide +kernel
theorem dX12_goesOn_158 : decode cX12_goesOn 158 = .ok (.iload_n 1, 1) := by decide +kernel
theorem dX12_goesOn_159 : decode cX12_goesOn 159 = .ok (.imul, 1) := by decide +kernel
theorem dX12_goesOn_160 : decode cX12_goesOn 160 = .ok (.iload 5, 2) := by decide +kernel
theorem dX12_goesOn_162 : decode cX12_goesOn 162 = .ok (.iadd, 1) := by decide +kernel
theorem dX12_goesOn_163 : decode cX12_goesOn 163 = .ok (.iload 7, 2) := by decide +kernel
theorem dX12_goesOn_165 : decode cX12_goesOn 165 = .ok (.iastore, 1) := by decide +kernel
theorem dX12_goesOn_166 : decode cX12_goesOn 166 = .ok (.iconst 1, 1) := by decide +kernel
theorem dX12_goesOn_167 : decode cX12_goesOn 167 = .ok (.istore_n 2, 1) := by decide +kernel
theorem dX12_goesOn_168 : decode cX12_goesOn 168 = .ok (.iinc 4 1, 3) := by decide +kernel
theorem dX12_goesOn_171 : decode cX12_goesOn 171 = .ok (.goto (-152), 3) := by decide +kernel
theorem dX12_goesOn_174 : decode cX12_goesOn 174 = .ok (.iinc 3 1, 3) := by decide +kernel
theorem dX12_goesOn_177 : decode cX12_goesOn 177 = .ok (.goto (-167), 3) := by decide +kernel
theorem dX12_goesOn_180 : decode cX12_goesOn 180 = .ok (.goto (-178), 3) := by decide +kernel
theorem dX12_goesOn_183 : decode cX12_goesOn 183 = .ok (.return_, 1) := by decide +kernel
theorem hd_Mo_goesOn_94 : y_Mo_goesOn_94.cls ≠ "java/lang/invoke/MethodHandle" ∧ y_Mo_goesOn_94.cls ≠ "java/lang/invoke/VarHandle" ∧ (parseMethodDescriptor y_Mo_goesOn_94.desc).map (fun d => d.parameters.length) = some 1 := by decide +kernel
def b_Mo_goesOn_94_19 (a1 : Int32) (y3 : Int32 × Int32 × Mem) (y5 : Int32 × Int32 × Mem) : Option ((Int32 × Int32 × Mem) ⊕ (Int32 × Mem)) :=
  if decide (y5.2.1 < 4) then (jv_ ((if decide (y5.2.1 = 0) then 1 else (if decide (y5.2.1 = 1) then (-1) else (if decide (y5.2.1 = 2) then 8 else (-8)))) : Int32) fun u9 => (f_Mo_isCell (y3.2.1 + u9)).bind fun q10 => jn_ (fun (u13 : Bool) => jn_ (fun (u16 : Int32) => if decide (u16 < 1000000) then (if inb ((48 * a1) + (y3.2.1 + u9)) 3072 then if decide (u16 < (y5.2.2.1 100 ((48 * a1) + (y3.2.1 + u9)).toNatClampNeg)) then (if inb ((48 * a1) + (y3.2.1 + u9)) 3072 then jv_ (wI y5.2.2 100 ((48 * a1) + (y3.2.1 + u9)).toNatClampNeg u16) fun M21 => some (.inl (1, y5.2.1 + 1, M21)) else none) else (some (.inl (y5.1, y5.2.1 + 1, y5.2.2))) else none) else (some (.inl (y5.1, y5.2.1 + 1, y5.2.2)))) fun k22 => if u13 then (if inb ((48 * a1) + y3.2.1) 3072 then (f_Mo_costOf_94 y3.2.1 (y3.2.1 + u9) y5.2.2).bind fun q24 => k22 ((y5.2.2.1 100 ((48 * a1) + y3.2.1).toNatClampNeg) + q24) else none) else (k22 1000000)) fun k25 => if q10 then ((f_Mo_areBeside y3.2.1 (y3.2.1 + u9)).bind fun q26 => if q26 then ((f_Mo_costOf_94 y3.2.1 (y3.2.1 + u9) y5.2.2).bind fun q28 => if decide (q28 = (-5)) then (k25 false) else (k25 true)) else (k25 false)) else (k25 false)) else (some (.inr (y5.1, y5.2.2)))
def b_Mo_goesOn_94_10 (a1 : Int32) (y3 : Int32 × Int32 × Mem) : Option ((Int32 × Int32 × Mem) ⊕ (Int32 × Mem)) :=
  if decide (y3.2.1 < 48) then ((itr (b_Mo_goesOn_94_19 a1 y3) FU (y3.1, 0, y3.2.2)).bind fun q32 => some (.inl (q32.1, y3.2.1 + 1, q32.2))) else (some (.inr (y3.1, y3.2.2)))
def b_Mo_goesOn_94_2 (a1 : Int32) (y1 : Int32 × Mem) : Option ((Int32 × Mem) ⊕ (Mem)) :=
  if decide (y1.1 = 0) then (some (.inr y1.2)) else ((itr (b_Mo_goesOn_94_10 a1) FU (0, 0, y1.2)).bind fun q33 => some (.inl (q33.1, q33.2)))
def f_Mo_goesOn_94 (a1 : Int32) (M0 : Mem) : Option (Mem) :=
  (itr (b_Mo_goesOn_94_2 a1) FU (1, M0)).bind fun q34 => some q34
set_option maxHeartbeats 4000000 in
set_option maxRecDepth 20000 in
theorem C_Mo_goesOn_94 {D : va_G} {ad adK adV : Nat → Nat} {cI cJ : ClassId} {l : Launch} (a1 : Int32) (M0 : Mem) (o : Mem) (h : f_Mo_goesOn_94 a1 M0 = some o) : Ct D ad adK adV cI cJ l y_Mo_goesOn_94 cX12_goesOn 8 none 2 44 [.ref (ad 94), .int a1] M0 none o := by
  refine x_start (lv := [(0, .ref (ad 94)), (1, .int a1)]) (own := "CurrentFarmsModel") rfl (by decide) (Nat.le_of_ble_eq_true rfl) rfl ?_
  intro p e s m args below meth c Q hQ B
  unfold f_Mo_goesOn_94 at h
  refine x_iconst (v := 1) (pc := 0) B dX12_goesOn_0 rfl ?_
  refine x_istore_n (lv' := [(2, .int 1), (0, .ref (ad 94)), (1, .int a1)]) (pc := 1) B dX12_goesOn_1 rfl (by decide) rfl ?_
  refine x_pick (lv' := [(0, .ref (ad 94)), (1, .int a1), (2, .int 1)]) [1, 2, 0] rfl ?_
  obtain ⟨q34, hq34, h⟩ := bnd h
  refine x_loop (Head := fun (y1 : Int32 × Mem) => XX D ad cI cJ p l e (Rm 2 44) s m args below meth c Q 8 y1.2 2 [(0, .ref (ad 94)), (1, .int a1), (2, .int y1.1)] []) (Ex := fun (q34 : Mem) => XX D ad cI cJ p l e (Rm 2 44) s m args below meth c Q 8 q34 183 [] []) (fun y1 r h hback hexit => ?_) FU _ q34 hq34 ?_
  · unfold b_Mo_goesOn_94_2 at h
    refine x_iload_n (pc := 2) B 2 dX12_goesOn_2 rfl rfl ?_
    refine x_if_eq (tgt := 183) (pc := 3) B dX12_goesOn_3 rfl (fun hc2 => ?_) (fun hc2 => ?_)
    · have h := ift hc2 h
      refine x_pick (lv' := []) [] rfl ?_
      have z := hexit y1.2 (Option.some.inj h).symm
      exact z
    · have h := iff_ hc2 h
      refine x_iconst (v := 0) (pc := 6) B dX12_goesOn_6 rfl ?_
      refine x_istore_n (lv' := [(2, .int 0), (0, .ref (ad 94)), (1, .int a1)]) (pc := 7) B dX12_goesOn_7 rfl (by decide) rfl ?_
      refine x_iconst (v := 0) (pc := 8) B dX12_goesOn_8 rfl ?_
      refine x_istore_n (lv' := [(3, .int 0), (2, .int 0), (0, .ref (ad 94)), (1, .int a1)]) (pc := 9) B dX12_goesOn_9 rfl (by decide) rfl ?_
      refine x_pick (lv' := [(0, .ref (ad 94)), (1, .int a1), (2, .int 0), (3, .int 0)]) [2, 3, 1, 0] rfl ?_
      obtain ⟨q33, hq33, h⟩ := bnd h
      refine x_loop (Head := fun (y3 : Int32 × Int32 × Mem) => XX D ad cI cJ p l e (Rm 2 44) s m args below meth c Q 8 y3.2.2 10 [(0, .ref (ad 94)), (1, .int a1), (2, .int y3.1), (3, .int y3.2.1)] []) (Ex := fun (q33 : Int32 × Mem) => XX D ad cI cJ p l e (Rm 2 44) s m args below meth c Q 8 q33.2 180 [(0, .ref (ad 94)), (1, .int a1), (2, .int q33.1)] []) (fun y3 r h hback hexit => ?_) FU _ q33 hq33 ?_
      · unfold b_Mo_goesOn_94_10 at h
        refine x_iload_n (pc := 10) B 3 dX12_goesOn_10 rfl rfl ?_
        refine x_bipush (v := 48) (pc := 11) B dX12_goesOn_11 rfl ?_
        refine x_icmp_ge (tgt := 180) (pc := 13) B dX12_goesOn_13 rfl (fun hc4 => ?_) (fun hc4 => ?_)
        · have h := iff_ hc4 h
          refine x_pick (lv' := [(0, .ref (ad 94)), (1, .int a1), (2, .int y3.1)]) [0, 1, 2] rfl ?_
          have z := hexit (y3.1, y3.2.2) (Option.some.inj h).symm
          exact z
        · have h := ift hc4 h
          refine x_iconst (v := 0) (pc := 16) B dX12_goesOn_16 rfl ?_
          refine x_istore (lv' := [(4, .int 0), (0, .ref (ad 94)), (1, .int a1), (2, .int y3.1), (3, .int y3.2.1)]) (pc := 17) B dX12_goesOn_17 (by decide) rfl ?_
          refine x_pick (lv' := [(0, .ref (ad 94)), (1, .int a1), (2, .int y3.1), (3, .int y3.2.1), (4, .int 0)]) [1, 2, 3, 4, 0] rfl ?_
          obtain ⟨q32, hq32, h⟩ := bnd h
          refine x_loop (Head := fun (y5 : Int32 × Int32 × Mem) => XX D ad cI cJ p l e (Rm 2 44) s m args below meth c Q 8 y5.2.2 19 [(0, .ref (ad 94)), (1, .int a1), (2, .int y5.1), (3, .int y3.2.1), (4, .int y5.2.1)] []) (Ex := fun (q32 : Int32 × Mem) => XX D ad cI cJ p l e (Rm 2 44) s m args below meth c Q 8 q32.2 174 [(0, .ref (ad 94)), (1, .int a1), (2, .int q32.1), (3, .int y3.2.1)] []) (fun y5 r h hback hexit => ?_) FU _ q32 hq32 ?_
          · unfold b_Mo_goesOn_94_19 at h
            refine x_iload (pc := 19) B 4 dX12_goesOn_19 rfl ?_
            refine x_iconst (v := 4) (pc := 21) B dX12_goesOn_21 rfl ?_
            refine x_icmp_ge (tgt := 174) (pc := 22) B dX12_goesOn_22 rfl (fun hc6 => ?_) (fun hc6 => ?_)
            · have h := iff_ hc6 h
              refine x_pick (lv' := [(0, .ref (ad 94)), (1, .int a1), (2, .int y5.1), (3, .int y3.2.1)]) [0, 1, 2, 3] rfl ?_
              have z := hexit (y5.1, y5.2.2) (Option.some.inj h).symm
              exact z
            · have h := ift hc6 h
              refine x_iload_n (pc := 25) B 3 dX12_goesOn_25 rfl rfl ?_
              refine x_iload (pc := 26) B 4 dX12_goesOn_26 rfl ?_
              refine jv_k h (fun (u9 : Int32) => XX D ad cI cJ p l e (Rm 2 44) s m args below meth c Q 8 y5.2.2 58 [(0, .ref (ad 94)), (1, .int a1), (2, .int y5.1), (3, .int y3.2.1), (4, .int y5.2.1)] [.int u9, .int y3.2.1]) (fun u9 h => ?_) (fun JJ => ?_)
              · refine x_iadd (pc := 58) B dX12_goesOn_58 ?_
                refine x_istore (lv' := [(5, .int (y3.2.1 + u9)), (0, .ref (ad 94)), (1, .int a1), (2, .int y5.1), (3, .int y3.2.1), (4, .int y5.2.1)]) (pc := 59) B dX12_goesOn_59 (by decide) rfl ?_
                refine x_iload (pc := 61) B 0 dX12_goesOn_61 rfl ?_
                obtain ⟨q10, hq10, h⟩ := bnd h
                refine x_callS (rest := []) (st' := [.int (bI q10)]) (pc := 63) B (C_Mo_isCell (y3.2.1 + u9) y5.2.2 _ hq10) tw_1403 tw_1401 tw_1402 tw_111 hd_Mo_isCell ⟨Nat.le_of_ble_eq_true rfl, Nat.le_of_ble_eq_true rfl⟩ rfl rfl (Nat.le_of_ble_eq_true rfl) rfl dX12_goesOn_63 ?_
                refine jn_k h (fun (u13 : Bool) => XX D ad cI cJ p l e (Rm 2 44) s m args below meth c Q 8 y5.2.2 95 [(0, .ref (ad 94)), (1, .int a1), (2, .int y5.1), (3, .int y3.2.1), (4, .int y5.2.1), (5, .int (y3.2.1 + u9))] [.int (bI u13)]) (fun u13 h => ?_) (fun k25 h JJ => ?_)
                · refine x_istore (lv' := [(6, .int (bI u13)), (0, .ref (ad 94)), (1, .int a1), (2, .int y5.1), (3, .int y3.2.1), (4, .int y5.2.1), (5, .int (y3.2.1 + u9))]) (pc := 95) B dX12_goesOn_95 (by decide) rfl ?_
                  refine x_iload (pc := 97) B 0 dX12_goesOn_97 rfl ?_
                  refine jn_k h (fun (u16 : Int32) => XX D ad cI cJ p l e (Rm 2 44) s m args below meth c Q 8 y5.2.2 126 [(0, .ref (ad 94)), (1, .int a1), (2, .int y5.1), (3, .int y3.2.1), (4, .int y5.2.1), (5, .int (y3.2.1 + u9))] [.int u16]) (fun u16 h => ?_) (fun k22 h JJ => ?_)
                  · refine x_istore (lv' := [(7, .int u16), (0, .ref (ad 94)), (1, .int a1), (2, .int y5.1), (3, .int y3.2.1), (4, .int y5.2.1), (5, .int (y3.2.1 + u9))]) (pc := 126) B dX12_goesOn_126 (by decide) rfl ?_
                    refine x_iload (pc := 128) B 0 dX12_goesOn_128 rfl ?_
                    refine x_ldc (v := 1000000) (pc := 130) B tw_1645 dX12_goesOn_130 ?_
                    refine x_icmp_ge (tgt := 168) (pc := 132) B dX12_goesOn_132 rfl (fun hc17 => ?_) (fun hc17 => ?_)
                    · have h := iff_ hc17 h
                      refine x_iinc (k := 5) (v := y5.2.1 + 1) (lv' := [(4, .int (y5.2.1 + 1)), (7, .int u16), (0, .ref (ad 94)), (1, .int a1), (2, .int y5.1), (3, .int y3.2.1), (5, .int (y3.2.1 + u9))]) (pc := 168) B dX12_goesOn_168 rfl rfl (by decide) rfl ?_
                      refine x_goto (tgt := 19) (pc := 171) B dX12_goesOn_171 rfl ?_
                      refine x_pick (lv' := [(0, .ref (ad 94)), (1, .int a1), (2, .int y5.1), (3, .int y3.2.1), (4, .int (y5.2.1 + 1))]) [2, 3, 4, 5, 0] rfl ?_
                      have z := hback (y5.1, y5.2.1 + 1, y5.2.2) (Option.some.inj h).symm
                      exact z
                    · have h := ift hc17 h
                      refine x_iload (pc := 135) B 0 dX12_goesOn_135 rfl ?_
                      refine x_aload_n (pc := 137) B 1 dX12_goesOn_137 rfl rfl ?_
                      refine x_get (T := TX12) (pc := 138) B 10 oi_94 rfl uw_12 (by decide) rfl tw_1309 rfl dX12_goesOn_138 ?_
                      refine x_bipush (v := 48) (pc := 141) B dX12_goesOn_141 rfl ?_
                      refine x_iload_n (pc := 143) B 2 dX12_goesOn_143 rfl rfl ?_
                      refine x_imul (pc := 144) B dX12_goesOn_144 ?_
                      refine x_iload (pc := 145) B 6 dX12_goesOn_145 rfl ?_
                      refine x_iadd (pc := 147) B dX12_goesOn_147 ?_
                      obtain ⟨hk18, h⟩ := ifn h
                      refine x_iald (pc := 148) B ai_100 hk18 dX12_goesOn_148 ?_
                      refine x_icmp_ge (tgt := 168) (pc := 149) B dX12_goesOn_149 rfl (fun hc19 => ?_) (fun hc19 => ?_)
                      · have h := iff_ hc19 h
                        refine x_iinc (k := 5) (v := y5.2.1 + 1) (lv' := [(4, .int (y5.2.1 + 1)), (7, .int u16), (0, .ref (ad 94)), (1, .int a1), (2, .int y5.1), (3, .int y3.2.1), (5, .int (y3.2.1 + u9))]) (pc := 168) B dX12_goesOn_168 rfl rfl (by decide) rfl ?_
                        refine x_goto (tgt := 19) (pc := 171) B dX12_goesOn_171 rfl ?_
                        refine x_pick (lv' := [(0, .ref (ad 94)), (1, .int a1), (2, .int y5.1), (3, .int y3.2.1), (4, .int (y5.2.1 + 1))]) [2, 3, 4, 5, 0] rfl ?_
                        have z := hback (y5.1, y5.2.1 + 1, y5.2.2) (Option.some.inj h).symm
                        exact z
                      · have h := ift hc19 h
                        refine x_aload_n (pc := 152) B 1 dX12_goesOn_152 rfl rfl ?_
                        refine x_get (T := TX12) (pc := 153) B 10 oi_94 rfl uw_12 (by decide) rfl tw_1309 rfl dX12_goesOn_153 ?_
                        refine x_bipush (v := 48) (pc := 156) B dX12_goesOn_156 rfl ?_
                        refine x_iload_n (pc := 158) B 2 dX12_goesOn_158 rfl rfl ?_
                        refine x_imul (pc := 159) B dX12_goesOn_159 ?_
                        refine x_iload (pc := 160) B 6 dX12_goesOn_160 rfl ?_
                        refine x_iadd (pc := 162) B dX12_goesOn_162 ?_
                        refine x_iload (pc := 163) B 0 dX12_goesOn_163 rfl ?_
                        obtain ⟨hk20, h⟩ := ifn h
                        refine x_iast (pc := 165) B ai_100 hk20 dX12_goesOn_165 ?_
                        refine jv_m (P := fun M21 => XX D ad cI cJ p l e (Rm 2 44) s m args below meth c Q 8 M21 166 [(7, .int u16), (0, .ref (ad 94)), (1, .int a1), (2, .int y5.1), (3, .int y3.2.1), (4, .int y5.2.1), (5, .int (y3.2.1 + u9))] []) h (fun M21 h => ?_)
                        refine x_iconst (v := 1) (pc := 166) B dX12_goesOn_166 rfl ?_
                        refine x_istore_n (lv' := [(2, .int 1), (7, .int u16), (0, .ref (ad 94)), (1, .int a1), (3, .int y3.2.1), (4, .int y5.2.1), (5, .int (y3.2.1 + u9))]) (pc := 167) B dX12_goesOn_167 rfl (by decide) rfl ?_
                        refine x_iinc (k := 5) (v := y5.2.1 + 1) (lv' := [(4, .int (y5.2.1 + 1)), (2, .int 1), (7, .int u16), (0, .ref (ad 94)), (1, .int a1), (3, .int y3.2.1), (5, .int (y3.2.1 + u9))]) (pc := 168) B dX12_goesOn_168 rfl rfl (by decide) rfl ?_
                        refine x_goto (tgt := 19) (pc := 171) B dX12_goesOn_171 rfl ?_
                        refine x_pick (lv' := [(0, .ref (ad 94)), (1, .int a1), (2, .int 1), (3, .int y3.2.1), (4, .int (y5.2.1 + 1))]) [3, 4, 1, 5, 0] rfl ?_
                        have z := hback (1, y5.2.1 + 1, M21) (Option.some.inj h).symm
                        exact z
                  · refine x_if_eq_b (tgt := 124) (pc := 99) B dX12_goesOn_99 rfl (fun hc14 => ?_) (fun hc14 => ?_)
                    · have h := iff_ hc14 h
                      refine x_ldc (v := 1000000) (pc := 124) B tw_1645 dX12_goesOn_124 ?_
                      refine x_pick (lv' := [(0, .ref (ad 94)), (1, .int a1), (2, .int y5.1), (3, .int y3.2.1), (4, .int y5.2.1), (5, .int (y3.2.1 + u9))]) [1, 2, 3, 4, 5, 6] rfl ?_
                      have z := JJ 1000000 h
                      exact z
                    · have h := ift hc14 h
                      refine x_aload_n (pc := 102) B 1 dX12_goesOn_102 rfl rfl ?_
                      refine x_get (T := TX12) (pc := 103) B 10 oi_94 rfl uw_12 (by decide) rfl tw_1309 rfl dX12_goesOn_103 ?_
                      refine x_bipush (v := 48) (pc := 106) B dX12_goesOn_106 rfl ?_
                      refine x_iload_n (pc := 108) B 2 dX12_goesOn_108 rfl rfl ?_
                      refine x_imul (pc := 109) B dX12_goesOn_109 ?_
                      refine x_iload_n (pc := 110) B 4 dX12_goesOn_110 rfl rfl ?_
                      refine x_iadd (pc := 111) B dX12_goesOn_111 ?_
                      obtain ⟨hk23, h⟩ := ifn h
                      refine x_iald (pc := 112) B ai_100 hk23 dX12_goesOn_112 ?_
                      refine x_aload_n (pc := 113) B 1 dX12_goesOn_113 rfl rfl ?_
                      refine x_iload_n (pc := 114) B 4 dX12_goesOn_114 rfl rfl ?_
                      refine x_iload (pc := 115) B 6 dX12_goesOn_115 rfl ?_
                      obtain ⟨q24, hq24, h⟩ := bnd h
                      refine x_callV (rest := [.int (y5.2.2.1 100 ((48 * a1) + y3.2.1).toNatClampNeg)]) (st' := [.int q24, .int (y5.2.2.1 100 ((48 * a1) + y3.2.1).toNatClampNeg)]) (pc := 117) B oi_94 rfl (C_Mo_costOf_94 y3.2.1 (y3.2.1 + u9) y5.2.2 _ hq24) tw_1421 tw_1418 tw_1420 tw_44 tw_111 hd_Mo_costOf_94 ⟨Nat.le_of_ble_eq_true rfl, Nat.le_of_ble_eq_true rfl⟩ rfl rfl (Nat.le_of_ble_eq_true rfl) rfl dX12_goesOn_117 ?_
                      refine x_iadd (pc := 120) B dX12_goesOn_120 ?_
                      refine x_goto (tgt := 126) (pc := 121) B dX12_goesOn_121 rfl ?_
                      refine x_pick (lv' := [(0, .ref (ad 94)), (1, .int a1), (2, .int y5.1), (3, .int y3.2.1), (4, .int y5.2.1), (5, .int (y3.2.1 + u9))]) [1, 2, 3, 4, 5, 6] rfl ?_
                      have z := JJ ((y5.2.2.1 100 ((48 * a1) + y3.2.1).toNatClampNeg) + q24) h
                      exact z
                · refine x_if_eq_b (tgt := 94) (pc := 66) B dX12_goesOn_66 rfl (fun hc11 => ?_) (fun hc11 => ?_)
                  · have h := iff_ hc11 h
                    refine x_iconst (v := 0) (pc := 94) B dX12_goesOn_94 rfl ?_
                    refine x_pick (lv' := [(0, .ref (ad 94)), (1, .int a1), (2, .int y5.1), (3, .int y3.2.1), (4, .int y5.2.1), (5, .int (y3.2.1 + u9))]) [1, 2, 3, 4, 5, 0] rfl ?_
                    have z := JJ false h
                    exact z
                  · have h := ift hc11 h
                    refine x_iload_n (pc := 69) B 4 dX12_goesOn_69 rfl rfl ?_
                    refine x_iload (pc := 70) B 0 dX12_goesOn_70 rfl ?_
                    obtain ⟨q26, hq26, h⟩ := bnd h
                    refine x_callS (rest := []) (st' := [.int (bI q26)]) (pc := 72) B (C_Mo_areBeside y3.2.1 (y3.2.1 + u9) y5.2.2 _ hq26) tw_1417 tw_1415 tw_1416 tw_111 hd_Mo_areBeside ⟨Nat.le_of_ble_eq_true rfl, Nat.le_of_ble_eq_true rfl⟩ rfl rfl (Nat.le_of_ble_eq_true rfl) rfl dX12_goesOn_72 ?_
                    refine x_if_eq_b (tgt := 94) (pc := 75) B dX12_goesOn_75 rfl (fun hc27 => ?_) (fun hc27 => ?_)
                    · have h := iff_ hc27 h
                      refine x_iconst (v := 0) (pc := 94) B dX12_goesOn_94 rfl ?_
                      refine x_pick (lv' := [(0, .ref (ad 94)), (1, .int a1), (2, .int y5.1), (3, .int y3.2.1), (4, .int y5.2.1), (5, .int (y3.2.1 + u9))]) [1, 2, 3, 4, 5, 0] rfl ?_
                      have z := JJ false h
                      exact z
                    · have h := ift hc27 h
                      refine x_aload_n (pc := 78) B 1 dX12_goesOn_78 rfl rfl ?_
                      refine x_iload_n (pc := 79) B 4 dX12_goesOn_79 rfl rfl ?_
                      refine x_iload (pc := 80) B 0 dX12_goesOn_80 rfl ?_
                      obtain ⟨q28, hq28, h⟩ := bnd h
                      refine x_callV (rest := []) (st' := [.int q28]) (pc := 82) B oi_94 rfl (C_Mo_costOf_94 y3.2.1 (y3.2.1 + u9) y5.2.2 _ hq28) tw_1421 tw_1418 tw_1420 tw_44 tw_111 hd_Mo_costOf_94 ⟨Nat.le_of_ble_eq_true rfl, Nat.le_of_ble_eq_true rfl⟩ rfl rfl (Nat.le_of_ble_eq_true rfl) rfl dX12_goesOn_82 ?_
                      refine x_bipush (v := (-5)) (pc := 85) B dX12_goesOn_85 rfl ?_
                      refine x_icmp_eq (tgt := 94) (pc := 87) B dX12_goesOn_87 rfl (fun hc29 => ?_) (fun hc29 => ?_)
                      · have h := ift hc29 h
                        refine x_iconst (v := 0) (pc := 94) B dX12_goesOn_94 rfl ?_
                        refine x_pick (lv' := [(0, .ref (ad 94)), (1, .int a1), (2, .int y5.1), (3, .int y3.2.1), (4, .int y5.2.1), (5, .int (y3.2.1 + u9))]) [1, 2, 3, 4, 5, 0] rfl ?_
                        have z := JJ false h
                        exact z
                      · have h := iff_ hc29 h
                        refine x_iconst (v := 1) (pc := 90) B dX12_goesOn_90 rfl ?_
                        refine x_goto (tgt := 95) (pc := 91) B dX12_goesOn_91 rfl ?_
                        refine x_pick (lv' := [(0, .ref (ad 94)), (1, .int a1), (2, .int y5.1), (3, .int y3.2.1), (4, .int y5.2.1), (5, .int (y3.2.1 + u9))]) [1, 2, 3, 4, 5, 0] rfl ?_
                        have z := JJ true h
                        exact z
              · refine x_if_ne (tgt := 35) (pc := 28) B dX12_goesOn_28 rfl (fun hc7 => ?_) (fun hc7 => ?_)
                · refine x_iload (pc := 35) B 4 dX12_goesOn_35 rfl ?_
                  refine x_iconst (v := 1) (pc := 37) B dX12_goesOn_37 rfl ?_
                  refine x_icmp_ne (tgt := 45) (pc := 38) B dX12_goesOn_38 rfl (fun hc30 => ?_) (fun hc30 => ?_)
                  · refine x_iload (pc := 45) B 4 dX12_goesOn_45 rfl ?_
                    refine x_iconst (v := 2) (pc := 47) B dX12_goesOn_47 rfl ?_
                    refine x_icmp_ne (tgt := 56) (pc := 48) B dX12_goesOn_48 rfl (fun hc31 => ?_) (fun hc31 => ?_)
                    · refine x_bipush (v := (-8)) (pc := 56) B dX12_goesOn_56 rfl ?_
                      have z := JJ (-8) ((zif_f hc7).trans ((zif_f hc30).trans ((zif_f hc31).trans rfl)))
                      exact z
                    · refine x_bipush (v := 8) (pc := 51) B dX12_goesOn_51 rfl ?_
                      refine x_goto (tgt := 58) (pc := 53) B dX12_goesOn_53 rfl ?_
                      have z := JJ 8 ((zif_f hc7).trans ((zif_f hc30).trans ((zif_t hc31).trans rfl)))
                      exact z
                  · refine x_iconst (v := (-1)) (pc := 41) B dX12_goesOn_41 rfl ?_
                    refine x_goto (tgt := 58) (pc := 42) B dX12_goesOn_42 rfl ?_
                    have z := JJ (-1) ((zif_f hc7).trans ((zif_t hc30).trans rfl))
                    exact z
                · refine x_iconst (v := 1) (pc := 31) B dX12_goesOn_31 rfl ?_
                  refine x_goto (tgt := 58) (pc := 32) B dX12_goesOn_32 rfl ?_
                  have z := JJ 1 ((zif_t hc7).trans rfl)
                  exact z
          · refine x_iinc (k := 3) (v := y3.2.1 + 1) (lv' := [(3, .int (y3.2.1 + 1)), (0, .ref (ad 94)), (1, .int a1), (2, .int q32.1)]) (pc := 174) B dX12_goesOn_174 rfl rfl (by decide) rfl ?_
            refine x_goto (tgt := 10) (pc := 177) B dX12_goesOn_177 rfl ?_
            refine x_pick (lv' := [(0, .ref (ad 94)), (1, .int a1), (2, .int q32.1), (3, .int (y3.2.1 + 1))]) [1, 2, 3, 0] rfl ?_
            have z := hback (q32.1, y3.2.1 + 1, q32.2) (Option.some.inj h).symm
            exact z
      · refine x_goto (tgt := 2) (pc := 180) B dX12_goesOn_180 rfl ?_
        have z := hback (q33.1, q33.2) (Option.some.inj h).symm
        exact z
  · obtain rfl := Option.some.inj h
    exact x_vret (pc := 183) B hQ dX12_goesOn_183
-- CurrentFarmsModel.best(I)I [94]
abbrev y_Mo_best_94 : MethodName := ⟨"CurrentFarmsModel", "best", "(I)I"⟩
abbrev cX12_best : ByteArray := prog_14_method_58_code
theorem dX12_best_0 : decode cX12_best 0 = .ok (.iload_n 1, 1) := by decide +kernel
theorem dX12_best_1 : decode cX12_best 1 = .ok (.iconst 0, 1) := by decide +kernel
theorem dX12_best_2 : decode cX12_best 2 = .ok (.iconst 1, 1) := by decide +kernel
theorem dX12_best_3 : decode cX12_best 3 = .ok (.aload_n 0, 1) := by decide +kernel
theorem dX12_best_4 : decode cX12_best 4 = .ok (.getfield 7, 3) := by decide +kernel
theorem dX12_best_7 : decode cX12_best 7 = .ok (.iconst 1, 1) := by decide +kernel
theorem dX12_best_8 : decode cX12_best 8 = .ok (.iaload, 1) := by decide +kernel
theorem dX12_best_9 : decode cX12_best 9 = .ok (.ishl, 1) := by decide +kernel
theorem dX12_best_10 : decode cX12_best 10 = .ok (.iconst 1, 1) := by decide +kernel
theorem dX12_best_11 : decode cX12_best 11 = .ok (.isub, 1) := by decide +kernel
theorem dX12_best_12 : decode cX12_best 12 = .ok (.invokestatic 84, 3) := by decide +kernel
theorem dX12_best_15 : decode cX12_best 15 = .ok (.ifCond .eq 12, 3) := by decide +kernel
theorem dX12_best_18 : decode cX12_best 18 = .ok (.iload_n 1, 1) := by decide +kernel
theorem dX12_best_19 : decode cX12_best 19 = .ok (.invokestatic 144, 3) := by decide +kernel
theorem dX12_best_22 : decode cX12_best 22 = .ok (.bipush 6, 2) := by decide +kernel
theorem dX12_best_24 : decode cX12_best 24 = .ok (.if_icmp .le 6, 3) := by decide +kernel
theorem dX12_best_27 : decode cX12_best 27 = .ok (.bipush (-2), 2) := by decide +kernel
theorem dX12_best_29 : decode cX12_best 29 = .ok (.ireturn, 1) := by decide +kernel
theorem dX12_best_30 : decode cX12_best 30 = .ok (.iload_n 1, 1) := by decide +kernel
theorem dX12_best_31 : decode cX12_best 31 = .ok (.invokestatic 144, 3) := by decide +kernel
theorem dX12_best_34 : decode cX12_best 34 = .ok (.istore_n 2, 1) := by decide +kernel
theorem dX12_best_35 : decode cX12_best 35 = .ok (.iconst 1, 1) := by decide +kernel
theorem dX12_best_36 : decode cX12_best 36 = .ok (.iload_n 2, 1) := by decide +kernel
theorem dX12_best_37 : decode cX12_best 37 = .ok (.ishl, 1) := by decide +kernel
theorem dX12_best_38 : decode cX12_best 38 = .ok (.istore_n 3, 1) := by decide +kernel
theorem dX12_best_39 : decode cX12_best 39 = .ok (.iconst 0, 1) := by decide +kernel
theorem dX12_best_40 : decode cX12_best 40 = .ok (.istore 4, 2) := by decide +kernel
theorem dX12_best_42 : decode cX12_best 42 = .ok (.iload 4, 2) := by decide +kernel
theorem dX12_best_44 : decode cX12_best 44 = .ok (.iload_n 3, 1) := by decide +kernel
theorem dX12_best_45 : decode cX12_best 45 = .ok (.if_icmp .ge 208, 3) := by decide +kernel
theorem dX12_best_48 : decode cX12_best 48 = .ok (.iconst 0, 1) := by decide +kernel
theorem dX12_best_49 : decode cX12_best 49 = .ok (.istore 5, 2) := by decide +kernel
theorem dX12_best_51 : decode cX12_best 51 = .ok (.iload 5, 2) := by decide +kernel
theorem dX12_best_53 : decode cX12_best 53 = .ok (.bipush 48, 2) := by decide +kernel
theorem dX12_best_55 : decode cX12_best 55 = .ok (.if_icmp .ge 113, 3) := by decide +kernel
theorem dX12_best_58 : decode cX12_best 58 = .ok (.iload 4, 2) := by decide +kernel
theorem dX12_best_60 : decode cX12_best 60 = .ok (.ifCond .ne 7, 3) := by decide +kernel
theorem dX12_best_63 : decode cX12_best 63 = .ok (.iconst 0, 1) := by decide +kernel
theorem dX12_best_64 : decode cX12_best 64 = .ok (.goto 5, 3) := by decide +kernel
theorem dX12_best_67 : decode cX12_best 67 = .ok (.ldc 255, 2) := by decide +kernel
theorem dX12_best_69 : decode cX12_best 69 = .ok (.istore 6, 2) := by decide +kernel
theorem dX12_best_71 : decode cX12_best 71 = .ok (.iload 4, 2) := by decide +kernel
theorem dX12_best_73 : decode cX12_best 73 = .ok (.iconst 1, 1) := by decide +kernel
theorem dX12_best_74 : decode cX12_best 74 = .ok (.isub, 1) := by decide +kernel
theorem dX12_best_75 : decode cX12_best 75 = .ok (.iload 4, 2) := by decide +kernel
theorem dX12_best_77 : decode cX12_best 77 = .ok (.iand, 1) := by decide +kernel
theorem dX12_best_78 : decode cX12_best 78 = .ok (.istore 7, 2) := by decide +kernel
theorem dX12_best_80 : decode cX12_best 80 = .ok (.iload 7, 2) := by decide +kernel
theorem dX12_best_82 : decode cX12_best 82 = .ok (.ifCond .le 65, 3) := by decide +kernel
theorem dX12_best_85 : decode cX12_best 85 = .ok (.aload_n 0, 1) := by decide +kernel
theorem dX12_best_86 : decode cX12_best 86 = .ok (.getfield 25, 3) := by decide +kernel
theorem dX12_best_89 : decode cX12_best 89 = .ok (.bipush 48, 2) := by decide +kernel
theorem dX12_best_91 : decode cX12_best 91 = .ok (.iload 7, 2) := by decide +kernel
theorem dX12_best_93 : decode cX12_best 93 = .ok (.imul, 1) := by decide +kernel
theorem dX12_best_94 : decode cX12_best 94 = .ok (.iload 5, 2) := by decide +kernel
theorem dX12_best_96 : decode cX12_best 96 = .ok (.iadd, 1) := by decide +kernel
theorem dX12_best_97 : decode cX12_best 97 = .ok (.iaload, 1) := by decide +kernel
theorem dX12_best_98 : decode cX12_best 98 = .ok (.aload_n 0, 1) := by decide +kernel
theorem dX12_best_99 : decode cX12_best 99 = .ok (.getfield 25, 3) := by decide +kernel
theorem dX12_best_102 : decode cX12_best 102 = .ok (.bipush 48, 2) := by decide +kernel
theorem dX12_best_104 : decode cX12_best 104 = .ok (.iload 4, 2) := by decide +kernel
theorem dX12_best_106 : decode cX12_best 106 = .ok (.iload 7, 2) := by decide +kernel
theorem dX12_best_108 : decode cX12_best 108 = .ok (.iconst (-1), 1) := by decide +kernel
theorem dX12_best_109 : decode cX12_best 109 = .ok (.ixor, 1) := by decide +kernel
theorem dX12_best_110 : decode cX12_best 110 = .ok (.iand, 1) := by decide +kernel
theorem dX12_best_111 : decode cX12_best 111 = .ok (.imul, 1) := by decide +kernel
theorem dX12_best_112 : decode cX12_best 112 = .ok (.iload 5, 2) := by decide +kernel
theorem dX12_best_114 : decode cX12_best 114 = .ok (.iadd, 1) := by decide +kernel
theorem dX12_best_115 : decode cX12_best 115 = .ok (.iaload, 1) := by decide +kernel
theorem dX12_best_116 : decode cX12_best 116 = .ok (.iadd, 1) := by decide +kernel
theorem dX12_best_117 : decode cX12_best 117 = .ok (.istore 8, 2) := by decide +kernel
theorem dX12_best_119 : decode cX12_best 119 = .ok (.iload 8, 2) := by decide +kernel
theorem dX12_best_121 : decode cX12_best 121 = .ok (.iload 6, 2) := by decide +kernel
theorem dX12_best_123 : decode cX12_best 123 = .ok (.if_icmp .ge 8, 3) := by decide +kernel
theorem dX12_best_126 : decode cX12_best 126 = .ok (.iload 8, 2) := by decide +kernel
theorem dX12_best_128 : decode cX12_best 128 = .ok (.goto 5, 3) := by decide +kernel
theorem dX12_best_131 : decode cX12_best 131 = .ok (.iload 6, 2) := by decide +kernel
theorem dX12_best_133 : decode cX12_best 133 = .ok (.istore 6, 2) := by decide +kernel
theorem dX12_best_135 : decode cX12_best 135 = .ok (.iload 7, 2) := by decide +kernel
theorem dX12_best_137 : decode cX12_best 137 = .ok (.iconst 1, 1) := by decide +kernel
theorem dX12_best_138 : decode cX12_best 138 = .ok (.isub, 1) := by decide +kernel
theorem dX12_best_139 : decode cX12_best 139 = .ok (.iload 4, 2) := by decide +kernel
theorem dX12_best_141 : decode cX12_best 141 = .ok (.iand, 1) := by decide +kernel
theorem dX12_best_142 : decode cX12_best 142 = .ok (.istore 7, 2) := by decide +kernel
theorem dX12_best_144 : decode cX12_best 144 = .ok (.goto (-64), 3) := by decide +kernel
theorem dX12_best_147 : decode cX12_best 147 = .ok (.aload_n 0, 1) := by decide +kernel
theorem dX12_best_148 : decode cX12_best 148 = .ok (.getfield 25, 3) := by decide +kernel
theorem dX12_best_151 : decode cX12_best 151 = .ok (.bipush 48, 2) := by decide +kernel
theorem dX12_best_153 : decode cX12_best 153 = .ok (.iload 4, 2) := by decide +kernel
theorem dX12_best_155 : decode cX12_best 155 = .ok (.imul, 1) := by decide +kernel
theorem dX12_best_156 : decode cX12_best 156 = .ok (.iload 5, 2) := by decide +kernel
theorem dX12_best_158 : decode cX12_best 158 = .ok (.iadd, 1) := by decide +kernel
theorem dX12_best_159 : decode cX12_best 159 = .ok (.iload 6, 2) := by decide +kernel
theorem dX12_best_161 : decode cX12_best 161 = .ok (.iastore, 1) := by decide +kernel
theorem dX12_best_162 : decode cX12_best 162 = .ok (.iinc 5 1, 3) := by decide +kernel
theorem dX12_best_165 : decode cX12_best 165 = .ok (.goto (-114), 3) := by decide +kernel
theorem dX12_best_168 : decode cX12_best 168 = .ok (.iconst 0, 1) := by decide +kernel
theorem dX12_best_169 : decode cX12_best 169 = .ok (.istore 5, 2) := by decide +kernel
theorem dX12_best_171 : decode cX12_best 171 = .ok (.iconst 0, 1) := by decide +kernel
theorem dX12_best_172 : decode cX12_best 172 = .ok (.istore 6, 2) := by decide +kernel
theorem dX12_best_174 : decode cX12_best 174 = .ok (.iload 6, 2) := by decide +kernel
theorem dX12_best_176 : decode cX12_best 176 = .ok (.aload_n 0, 1) := by decide +kernel
theorem dX12_best_177 : decode cX12_best 177 = .ok (.getfield 7, 3) := by decide +kernel
theorem dX12_best_180 : decode cX12_best 180 = .ok (.iconst 1, 1) := by decide +kernel
theorem dX12_best_181 : decode cX12_best 181 = .ok (.iaload, 1) := by decide +kernel
theorem dX12_best_182 : decode cX12_best 182 = .ok (.if_icmp .ge 54, 3) := by decide +kernel
theorem dX12_best_185 : decode cX12_best 185 = .ok (.iload_n 1, 1) := by decide +kernel
theorem dX12_best_186 : decode cX12_best 186 = .ok (.iload 6, 2) := by decide +kernel
theorem dX12_best_188 : decode cX12_best 188 = .ok (.ishr, 1) := by decide +kernel
theorem dX12_best_189 : decode cX12_best 189 = .ok (.iconst 1, 1) := by decide +kernel
theorem dX12_best_190 : decode cX12_best 190 = .ok (.iand, 1) := by decide +kernel
theorem dX12_best_191 : decode cX12_best 191 = .ok (.iconst 1, 1) := by decide +kernel
theorem dX12_best_192 : decode cX12_best 192 = .ok (.if_icmp .ne 38, 3) := by decide +kernel
theorem dX12_best_195 : decode cX12_best 195 = .ok (.iload 4, 2) := by decide +kernel
theorem dX12_best_197 : decode cX12_best 197 = .ok (.iconst 1, 1) := by decide +kernel
theorem dX12_best_198 : decode cX12_best 198 = .ok (.iload 5, 2) := by decide +kernel
theorem dX12_best_200 : decode cX12_best 200 = .ok (.ishl, 1) := by decide +kernel
theorem dX12_best_201 : decode cX12_best 201 = .ok (.if_icmp .ne 26, 3) := by decide +kernel
theorem dX12_best_204 : decode cX12_best 204 = .ok (.aload_n 0, 1) := by decide +kernel
theorem dX12_best_205 : decode cX12_best 205 = .ok (.getfield 25, 3) := by decide +kernel
theorem dX12_best_208 : decode cX12_best 208 = .ok (.bipush 48, 2) := by decide +kernel
theorem dX12_best_210 : decode cX12_best 210 = .ok (.iload 4, 2) := by decide +kernel
theorem dX12_best_212 : decode cX12_best 212 = .ok (.imul, 1) := by decide +kernel
theorem dX12_best_213 : decode cX12_best 213 = .ok (.aload_n 0, 1) := by decide +kernel
theorem dX12_best_214 : decode cX12_best 214 = .ok (.getfield 7, 3) := by decide +kernel
theorem dX12_best_217 : decode cX12_best 217 = .ok (.sipush 164, 3) := by decide +kernel
theorem dX12_best_220 : decode cX12_best 220 = .ok (.iload 6, 2) := by decide +kernel
theorem dX12_best_222 : decode cX12_best 222 = .ok (.iadd, 1) := by decide +kernel
theorem dX12_best_223 : decode cX12_best 223 = .ok (.iaload, 1) := by decide +kernel
theorem dX12_best_224 : decode cX12_best 224 = .ok (.iadd, 1) := by decide +kernel
theorem dX12_best_225 : decode cX12_best 225 = .ok (.iconst 0, 1) := by decide +kernel
theorem dX12_best_226 : decode cX12_best 226 = .ok (.iastore, 1) := by decide +kernel
theorem dX12_best_227 : decode cX12_best 227 = .ok (.iinc 5 1, 3) := by decide +kernel
theorem dX12_best_230 : decode cX12_best 230 = .ok (.iinc 6 1, 3) := by decide +kernel
theorem dX12_best_233 : decode cX12_best 233 = .ok (.goto (-59), 3) := by decide +kernel
theorem dX12_best_236 : decode cX12_best 236 = .ok (.iload 4, 2) := by decide +kernel
theorem dX12_best_238 : decode cX12_best 238 = .ok (.ifCond .le 9, 3) := by decide +kernel
theorem dX12_best_241 : decode cX12_best 241 = .ok (.aload_n 0, 1) := by decide +kernel
theorem dX12_best_242 : decode cX12_best 242 = .ok (.iload 4, 2) := by decide +kernel
theorem dX12_best_244 : decode cX12_best 244 = .ok (.invokevirtual 256, 3) := by decide +kernel
theorem dX12_best_247 : decode cX12_best 247 = .ok (.iinc 4 1, 3) := by decide +kernel
theorem dX12_best_250 : decode cX12_best 250 = .ok (.goto (-208), 3) := by decide +kernel
theorem dX12_best_253 : decode cX12_best 253 = .ok (.aload_n 0, 1) := by decide +kernel
theorem dX12_best_254 : decode cX12_best 254 = .ok (.getfield 25, 3) := by decide +kernel
theorem dX12_best_257 : decode cX12_best 257 = .ok (.bipush 48, 2) := by decide +kernel
theorem dX12_best_259 : decode cX12_best 259 = .ok (.iload_n 3, 1) := by decide +kernel
theorem dX12_best_260 : decode cX12_best 260 = .ok (.iconst 1, 1) := by decide +kernel
theorem dX12_best_261 : decode cX12_best 261 = .ok (.isub, 1) := by decide +kernel
theorem dX12_best_262 : decode cX12_best 262 = .ok (.imul, 1) := by decide +kernel
theorem dX12_best_263 : decode cX12_best 263 = .ok (.aload_n 0, 1) := by decide +kernel
theorem dX12_best_264 : decode cX12_best 264 = .ok (.getfield 7, 3) := by decide +kernel
theorem dX12_best_267 : decode cX12_best 267 = .ok (.bipush 9, 2) := by decide +kernel
theorem dX12_best_269 : decode cX12_best 269 = .ok (.iaload, 1) := by decide +kernel
theorem dX12_best_270 : decode cX12_best 270 = .ok (.iadd, 1) := by decide +kernel
theorem dX12_best_271 : decode cX12_best 271 = .ok (.iaload, 1) := by decide +kernel
theorem dX12_best_272 : decode cX12_best 272 = .ok (.istore 4, 2) := by decide +kernel
theorem dX12_best_274 : decode cX12_best 274 = .ok (.iload 4, 2) := by decide +kernel
theorem dX12_best_276 : decode cX12_best 276 = .ok (.ldc 255, 2) := by decide +kernel
theorem dX12_best_278 : decode cX12_best 278 = .ok (.if_icmp .lt 8, 3) := by decide +kernel
theorem dX12_best_281 : decode cX12_best 281 = .ok (.bipush (-5), 2) := by decide +kernel
theorem dX12_best_283 : decode cX12_best 283 = .ok (.goto 5, 3) := by decide +kernel
theorem dX12_best_286 : decode cX12_best 286 = .ok (.iload 4, 2) := by decide +kernel
theorem dX12_best_288 : decode cX12_best 288 = .ok (.ireturn, 1) := by decide +kernel
theorem hd_Mo_best_94 : y_Mo_best_94.cls ≠ "java/lang/invoke/MethodHandle" ∧ y_Mo_best_94.cls ≠ "java/lang/invoke/VarHandle" ∧ (parseMethodDescriptor y_Mo_best_94.desc).map (fun d => d.parameters.length) = some 1 := by decide +kernel
def b_Mo_best_94_80 (y6 : Int32 × Mem) (y8 : Int32 × Mem) (y13 : Int32 × Int32) : Option ((Int32 × Int32) ⊕ (Int32)) :=
  if decide (y13.2 ≤ 0) then (some (.inr y13.1)) else (if inb ((48 * y13.2) + y8.1) 3072 then if inb ((48 * (y6.1 &&& (y13.2 ^^^ (-1)))) + y8.1) 3072 then jv_ ((y8.2.1 100 ((48 * y13.2) + y8.1).toNatClampNeg) + (y8.2.1 100 ((48 * (y6.1 &&& (y13.2 ^^^ (-1)))) + y8.1).toNatClampNeg) : Int32) fun x17 => jv_ ((if decide (x17 < y13.1) then x17 else y13.1) : Int32) fun u20 => some (.inl (u20, (y13.2 - 1) &&& y6.1)) else none else none)
def b_Mo_best_94_51 (y6 : Int32 × Mem) (y8 : Int32 × Mem) : Option ((Int32 × Mem) ⊕ (Mem)) :=
  if decide (y8.1 < 48) then (jv_ ((if decide (y6.1 = 0) then 0 else 1000000) : Int32) fun u12 => (itr (b_Mo_best_94_80 y6 y8) FU (u12, (y6.1 - 1) &&& y6.1)).bind fun q21 => if inb ((48 * y6.1) + y8.1) 3072 then jv_ (wI y8.2 100 ((48 * y6.1) + y8.1).toNatClampNeg q21) fun M23 => some (.inl (y8.1 + 1, M23)) else none) else (some (.inr y8.2))
def b_Mo_best_94_174 (a1 : Int32) (y6 : Int32 × Mem) (y25 : Int32 × Int32 × Mem) : Option ((Int32 × Int32 × Mem) ⊕ (Mem)) :=
  if decide (y25.2.1 < (y25.2.2.1 95 1)) then (if decide (((a1 >>> (y25.2.1 &&& 31)) &&& 1) = 1) then (if decide (y6.1 = ((1 : Int32) <<< (y25.1 &&& 31))) then (if inb (164 + y25.2.1) 4700 then if inb ((48 * y6.1) + (y25.2.2.1 95 (164 + y25.2.1).toNatClampNeg)) 3072 then jv_ (wI y25.2.2 100 ((48 * y6.1) + (y25.2.2.1 95 (164 + y25.2.1).toNatClampNeg)).toNatClampNeg 0) fun M31 => some (.inl (y25.1 + 1, y25.2.1 + 1, M31)) else none else none) else (some (.inl (y25.1 + 1, y25.2.1 + 1, y25.2.2)))) else (some (.inl (y25.1, y25.2.1 + 1, y25.2.2)))) else (some (.inr y25.2.2))
def b_Mo_best_94_42 (a1 : Int32) (q5 : Int32) (y6 : Int32 × Mem) : Option ((Int32 × Mem) ⊕ (Mem)) :=
  if decide (y6.1 < ((1 : Int32) <<< (q5 &&& 31))) then ((itr (b_Mo_best_94_51 y6) FU (0, y6.2)).bind fun q24 => (itr (b_Mo_best_94_174 a1 y6) FU (0, 0, q24)).bind fun q32 => if decide (y6.1 ≤ 0) then (some (.inl (y6.1 + 1, q32))) else ((f_Mo_goesOn_94 y6.1 q32).bind fun q34 => some (.inl (y6.1 + 1, q34)))) else (some (.inr y6.2))
def f_Mo_best_94 (a1 : Int32) (M0 : Mem) : Option (Int32 × Mem) :=
  (f_Mo_in a1 0 (((1 : Int32) <<< ((M0.1 95 1) &&& 31)) - 1)).bind fun q1 => if q1 then ((f_Mo_count1 a1).bind fun q3 => if decide (q3 ≤ 6) then ((f_Mo_count1 a1).bind fun q5 => (itr (b_Mo_best_94_42 a1 q5) FU (0, M0)).bind fun q35 => if inb ((48 * (((1 : Int32) <<< (q5 &&& 31)) - 1)) + (q35.1 95 9)) 3072 then jv_ (q35.1 100 ((48 * (((1 : Int32) <<< (q5 &&& 31)) - 1)) + (q35.1 95 9)).toNatClampNeg : Int32) fun x37 => if decide (x37 < 1000000) then (some (x37, q35)) else (some ((-5), q35)) else none) else (some ((-2), M0))) else (some ((-2), M0))
set_option maxHeartbeats 4000000 in
set_option maxRecDepth 20000 in
theorem C_Mo_best_94 {D : va_G} {ad adK adV : Nat → Nat} {cI cJ : ClassId} {l : Launch} (a1 : Int32) (M0 : Mem) (o : Int32 × Mem) (h : f_Mo_best_94 a1 M0 = some o) : Ct D ad adK adV cI cJ l y_Mo_best_94 cX12_best 9 (some .int) 3 71 [.ref (ad 94), .int a1] M0 (some (.int o.1)) o.2 := by
  refine x_start (lv := [(0, .ref (ad 94)), (1, .int a1)]) (own := "CurrentFarmsModel") rfl (by decide) (Nat.le_of_ble_eq_true rfl) rfl ?_
  intro p e s m args below meth c Q hQ B
  unfold f_Mo_best_94 at h
  refine x_iload_n (pc := 0) B 1 dX12_best_0 rfl rfl ?_
  refine x_iconst (v := 0) (pc := 1) B dX12_best_1 rfl ?_
  refine x_iconst (v := 1) (pc := 2) B dX12_best_2 rfl ?_
  refine x_aload_n (pc := 3) B 0 dX12_best_3 rfl rfl ?_
  refine x_get (T := TX12) (pc := 4) B 1 oi_94 rfl uw_12 (by decide) rfl tw_1300 rfl dX12_best_4 ?_
  refine x_iconst (v := 1) (pc := 7) B dX12_best_7 rfl ?_
  refine x_iald_c (j := 1) (pc := 8) B ai_95 (by decide) rfl dX12_best_8 ?_
  refine x_ishl (pc := 9) B dX12_best_9 ?_
  refine x_iconst (v := 1) (pc := 10) B dX12_best_10 rfl ?_
  refine x_isub (pc := 11) B dX12_best_11 ?_
  obtain ⟨q1, hq1, h⟩ := bnd h
  refine x_callS (rest := []) (st' := [.int (bI q1)]) (pc := 12) B (C_Mo_in a1 0 (((1 : Int32) <<< ((M0.1 95 1) &&& 31)) - 1) M0 _ hq1) tw_1406 tw_1404 tw_1405 tw_111 hd_Mo_in ⟨Nat.le_of_ble_eq_true rfl, Nat.le_of_ble_eq_true rfl⟩ rfl rfl (Nat.le_of_ble_eq_true rfl) rfl dX12_best_12 ?_
  refine x_if_eq_b (tgt := 27) (pc := 15) B dX12_best_15 rfl (fun hc2 => ?_) (fun hc2 => ?_)
  · have h := iff_ hc2 h
    refine x_bipush (v := (-2)) (pc := 27) B dX12_best_27 rfl ?_
    obtain rfl := Option.some.inj h
    exact x_iret (pc := 29) B hQ dX12_best_29
  · have h := ift hc2 h
    refine x_iload_n (pc := 18) B 1 dX12_best_18 rfl rfl ?_
    obtain ⟨q3, hq3, h⟩ := bnd h
    refine x_callS (rest := []) (st' := [.int q3]) (pc := 19) B (C_Mo_count1 a1 M0 _ hq3) tw_1588 tw_1586 tw_1587 tw_111 hd_Mo_count1 ⟨Nat.le_of_ble_eq_true rfl, Nat.le_of_ble_eq_true rfl⟩ rfl rfl (Nat.le_of_ble_eq_true rfl) rfl dX12_best_19 ?_
    refine x_bipush (v := 6) (pc := 22) B dX12_best_22 rfl ?_
    refine x_icmp_le (tgt := 30) (pc := 24) B dX12_best_24 rfl (fun hc4 => ?_) (fun hc4 => ?_)
    · have h := ift hc4 h
      refine x_iload_n (pc := 30) B 1 dX12_best_30 rfl rfl ?_
      obtain ⟨q5, hq5, h⟩ := bnd h
      refine x_callS (rest := []) (st' := [.int q5]) (pc := 31) B (C_Mo_count1 a1 M0 _ hq5) tw_1588 tw_1586 tw_1587 tw_111 hd_Mo_count1 ⟨Nat.le_of_ble_eq_true rfl, Nat.le_of_ble_eq_true rfl⟩ rfl rfl (Nat.le_of_ble_eq_true rfl) rfl dX12_best_31 ?_
      refine x_istore_n (lv' := [(2, .int q5), (0, .ref (ad 94)), (1, .int a1)]) (pc := 34) B dX12_best_34 rfl (by decide) rfl ?_
      refine x_iconst (v := 1) (pc := 35) B dX12_best_35 rfl ?_
      refine x_iload_n (pc := 36) B 0 dX12_best_36 rfl rfl ?_
      refine x_ishl (pc := 37) B dX12_best_37 ?_
      refine x_istore_n (lv' := [(3, .int ((1 : Int32) <<< (q5 &&& 31))), (2, .int q5), (0, .ref (ad 94)), (1, .int a1)]) (pc := 38) B dX12_best_38 rfl (by decide) rfl ?_
      refine x_iconst (v := 0) (pc := 39) B dX12_best_39 rfl ?_
      refine x_istore (lv' := [(4, .int 0), (3, .int ((1 : Int32) <<< (q5 &&& 31))), (2, .int q5), (0, .ref (ad 94)), (1, .int a1)]) (pc := 40) B dX12_best_40 (by decide) rfl ?_
      refine x_pick (lv' := [(0, .ref (ad 94)), (1, .int a1), (3, .int ((1 : Int32) <<< (q5 &&& 31))), (4, .int 0)]) [3, 4, 1, 0] rfl ?_
      obtain ⟨q35, hq35, h⟩ := bnd h
      refine x_loop (Head := fun (y6 : Int32 × Mem) => XX D ad cI cJ p l e (Rm 3 71) s m args below meth c Q 9 y6.2 42 [(0, .ref (ad 94)), (1, .int a1), (3, .int ((1 : Int32) <<< (q5 &&& 31))), (4, .int y6.1)] []) (Ex := fun (q35 : Mem) => XX D ad cI cJ p l e (Rm 3 71) s m args below meth c Q 9 q35 253 [(0, .ref (ad 94)), (3, .int ((1 : Int32) <<< (q5 &&& 31)))] []) (fun y6 r h hback hexit => ?_) FU _ q35 hq35 ?_
      · unfold b_Mo_best_94_42 at h
        refine x_iload (pc := 42) B 3 dX12_best_42 rfl ?_
        refine x_iload_n (pc := 44) B 2 dX12_best_44 rfl rfl ?_
        refine x_icmp_ge (tgt := 253) (pc := 45) B dX12_best_45 rfl (fun hc7 => ?_) (fun hc7 => ?_)
        · have h := iff_ hc7 h
          refine x_pick (lv' := [(0, .ref (ad 94)), (3, .int ((1 : Int32) <<< (q5 &&& 31)))]) [0, 2] rfl ?_
          have z := hexit y6.2 (Option.some.inj h).symm
          exact z
        · have h := ift hc7 h
          refine x_iconst (v := 0) (pc := 48) B dX12_best_48 rfl ?_
          refine x_istore (lv' := [(5, .int 0), (0, .ref (ad 94)), (1, .int a1), (3, .int ((1 : Int32) <<< (q5 &&& 31))), (4, .int y6.1)]) (pc := 49) B dX12_best_49 (by decide) rfl ?_
          refine x_pick (lv' := [(0, .ref (ad 94)), (1, .int a1), (3, .int ((1 : Int32) <<< (q5 &&& 31))), (4, .int y6.1), (5, .int 0)]) [1, 2, 3, 4, 0] rfl ?_
          obtain ⟨q24, hq24, h⟩ := bnd h
          refine x_loop (Head := fun (y8 : Int32 × Mem) => XX D ad cI cJ p l e (Rm 3 71) s m args below meth c Q 9 y8.2 51 [(0, .ref (ad 94)), (1, .int a1), (3, .int ((1 : Int32) <<< (q5 &&& 31))), (4, .int y6.1), (5, .int y8.1)] []) (Ex := fun (q24 : Mem) => XX D ad cI cJ p l e (Rm 3 71) s m args below meth c Q 9 q24 168 [(0, .ref (ad 94)), (1, .int a1), (3, .int ((1 : Int32) <<< (q5 &&& 31))), (4, .int y6.1)] []) (fun y8 r h hback hexit => ?_) FU _ q24 hq24 ?_
          · unfold b_Mo_best_94_51 at h
            refine x_iload (pc := 51) B 4 dX12_best_51 rfl ?_
            refine x_bipush (v := 48) (pc := 53) B dX12_best_53 rfl ?_
            refine x_icmp_ge (tgt := 168) (pc := 55) B dX12_best_55 rfl (fun hc9 => ?_) (fun hc9 => ?_)
            · have h := iff_ hc9 h
              refine x_pick (lv' := [(0, .ref (ad 94)), (1, .int a1), (3, .int ((1 : Int32) <<< (q5 &&& 31))), (4, .int y6.1)]) [0, 1, 2, 3] rfl ?_
              have z := hexit y8.2 (Option.some.inj h).symm
              exact z
            · have h := ift hc9 h
              refine x_iload (pc := 58) B 3 dX12_best_58 rfl ?_
              refine jv_k h (fun (u12 : Int32) => XX D ad cI cJ p l e (Rm 3 71) s m args below meth c Q 9 y8.2 69 [(0, .ref (ad 94)), (1, .int a1), (3, .int ((1 : Int32) <<< (q5 &&& 31))), (4, .int y6.1), (5, .int y8.1)] [.int u12]) (fun u12 h => ?_) (fun JJ => ?_)
              · refine x_istore (lv' := [(6, .int u12), (0, .ref (ad 94)), (1, .int a1), (3, .int ((1 : Int32) <<< (q5 &&& 31))), (4, .int y6.1), (5, .int y8.1)]) (pc := 69) B dX12_best_69 (by decide) rfl ?_
                refine x_iload (pc := 71) B 4 dX12_best_71 rfl ?_
                refine x_iconst (v := 1) (pc := 73) B dX12_best_73 rfl ?_
                refine x_isub (pc := 74) B dX12_best_74 ?_
                refine x_iload (pc := 75) B 4 dX12_best_75 rfl ?_
                refine x_iand (pc := 77) B dX12_best_77 ?_
                refine x_istore (lv' := [(7, .int ((y6.1 - 1) &&& y6.1)), (6, .int u12), (0, .ref (ad 94)), (1, .int a1), (3, .int ((1 : Int32) <<< (q5 &&& 31))), (4, .int y6.1), (5, .int y8.1)]) (pc := 78) B dX12_best_78 (by decide) rfl ?_
                refine x_pick (lv' := [(0, .ref (ad 94)), (1, .int a1), (3, .int ((1 : Int32) <<< (q5 &&& 31))), (4, .int y6.1), (5, .int y8.1), (6, .int u12), (7, .int ((y6.1 - 1) &&& y6.1))]) [2, 3, 4, 5, 6, 1, 0] rfl ?_
                obtain ⟨q21, hq21, h⟩ := bnd h
                refine x_loop (Head := fun (y13 : Int32 × Int32) => XX D ad cI cJ p l e (Rm 3 71) s m args below meth c Q 9 y8.2 80 [(0, .ref (ad 94)), (1, .int a1), (3, .int ((1 : Int32) <<< (q5 &&& 31))), (4, .int y6.1), (5, .int y8.1), (6, .int y13.1), (7, .int y13.2)] []) (Ex := fun (q21 : Int32) => XX D ad cI cJ p l e (Rm 3 71) s m args below meth c Q 9 y8.2 147 [(0, .ref (ad 94)), (1, .int a1), (3, .int ((1 : Int32) <<< (q5 &&& 31))), (4, .int y6.1), (5, .int y8.1), (6, .int q21)] []) (fun y13 r h hback hexit => ?_) FU _ q21 hq21 ?_
                · unfold b_Mo_best_94_80 at h
                  refine x_iload (pc := 80) B 6 dX12_best_80 rfl ?_
                  refine x_if_le (tgt := 147) (pc := 82) B dX12_best_82 rfl (fun hc14 => ?_) (fun hc14 => ?_)
                  · have h := ift hc14 h
                    refine x_pick (lv' := [(0, .ref (ad 94)), (1, .int a1), (3, .int ((1 : Int32) <<< (q5 &&& 31))), (4, .int y6.1), (5, .int y8.1), (6, .int y13.1)]) [0, 1, 2, 3, 4, 5] rfl ?_
                    have z := hexit y13.1 (Option.some.inj h).symm
                    exact z
                  · have h := iff_ hc14 h
                    refine x_aload_n (pc := 85) B 0 dX12_best_85 rfl rfl ?_
                    refine x_get (T := TX12) (pc := 86) B 10 oi_94 rfl uw_12 (by decide) rfl tw_1309 rfl dX12_best_86 ?_
                    refine x_bipush (v := 48) (pc := 89) B dX12_best_89 rfl ?_
                    refine x_iload (pc := 91) B 6 dX12_best_91 rfl ?_
                    refine x_imul (pc := 93) B dX12_best_93 ?_
                    refine x_iload (pc := 94) B 4 dX12_best_94 rfl ?_
                    refine x_iadd (pc := 96) B dX12_best_96 ?_
                    obtain ⟨hk15, h⟩ := ifn h
                    refine x_iald (pc := 97) B ai_100 hk15 dX12_best_97 ?_
                    refine x_aload_n (pc := 98) B 0 dX12_best_98 rfl rfl ?_
                    refine x_get (T := TX12) (pc := 99) B 10 oi_94 rfl uw_12 (by decide) rfl tw_1309 rfl dX12_best_99 ?_
                    refine x_bipush (v := 48) (pc := 102) B dX12_best_102 rfl ?_
                    refine x_iload (pc := 104) B 3 dX12_best_104 rfl ?_
                    refine x_iload (pc := 106) B 6 dX12_best_106 rfl ?_
                    refine x_iconst (v := (-1)) (pc := 108) B dX12_best_108 rfl ?_
                    refine x_ixor (pc := 109) B dX12_best_109 ?_
                    refine x_iand (pc := 110) B dX12_best_110 ?_
                    refine x_imul (pc := 111) B dX12_best_111 ?_
                    refine x_iload (pc := 112) B 4 dX12_best_112 rfl ?_
                    refine x_iadd (pc := 114) B dX12_best_114 ?_
                    obtain ⟨hk16, h⟩ := ifn h
                    refine x_iald (pc := 115) B ai_100 hk16 dX12_best_115 ?_
                    refine x_iadd (pc := 116) B dX12_best_116 ?_
                    refine jv_m (P := fun (x17 : Int32) => XX D ad cI cJ p l e (Rm 3 71) s m args below meth c Q 9 y8.2 117 [(0, .ref (ad 94)), (1, .int a1), (3, .int ((1 : Int32) <<< (q5 &&& 31))), (4, .int y6.1), (5, .int y8.1), (6, .int y13.1), (7, .int y13.2)] [.int x17]) h (fun x17 h => ?_)
                    refine x_istore (lv' := [(8, .int x17), (0, .ref (ad 94)), (1, .int a1), (3, .int ((1 : Int32) <<< (q5 &&& 31))), (4, .int y6.1), (5, .int y8.1), (6, .int y13.1), (7, .int y13.2)]) (pc := 117) B dX12_best_117 (by decide) rfl ?_
                    refine x_iload (pc := 119) B 0 dX12_best_119 rfl ?_
                    refine x_iload (pc := 121) B 6 dX12_best_121 rfl ?_
                    refine jv_k h (fun (u20 : Int32) => XX D ad cI cJ p l e (Rm 3 71) s m args below meth c Q 9 y8.2 133 [(0, .ref (ad 94)), (1, .int a1), (3, .int ((1 : Int32) <<< (q5 &&& 31))), (4, .int y6.1), (5, .int y8.1), (7, .int y13.2)] [.int u20]) (fun u20 h => ?_) (fun JJ => ?_)
                    · refine x_istore (lv' := [(6, .int u20), (0, .ref (ad 94)), (1, .int a1), (3, .int ((1 : Int32) <<< (q5 &&& 31))), (4, .int y6.1), (5, .int y8.1), (7, .int y13.2)]) (pc := 133) B dX12_best_133 (by decide) rfl ?_
                      refine x_iload (pc := 135) B 6 dX12_best_135 rfl ?_
                      refine x_iconst (v := 1) (pc := 137) B dX12_best_137 rfl ?_
                      refine x_isub (pc := 138) B dX12_best_138 ?_
                      refine x_iload (pc := 139) B 4 dX12_best_139 rfl ?_
                      refine x_iand (pc := 141) B dX12_best_141 ?_
                      refine x_istore (lv' := [(7, .int ((y13.2 - 1) &&& y6.1)), (6, .int u20), (0, .ref (ad 94)), (1, .int a1), (3, .int ((1 : Int32) <<< (q5 &&& 31))), (4, .int y6.1), (5, .int y8.1)]) (pc := 142) B dX12_best_142 (by decide) rfl ?_
                      refine x_goto (tgt := 80) (pc := 144) B dX12_best_144 rfl ?_
                      refine x_pick (lv' := [(0, .ref (ad 94)), (1, .int a1), (3, .int ((1 : Int32) <<< (q5 &&& 31))), (4, .int y6.1), (5, .int y8.1), (6, .int u20), (7, .int ((y13.2 - 1) &&& y6.1))]) [2, 3, 4, 5, 6, 1, 0] rfl ?_
                      have z := hback (u20, (y13.2 - 1) &&& y6.1) (Option.some.inj h).symm
                      exact z
                    · refine x_icmp_ge (tgt := 131) (pc := 123) B dX12_best_123 rfl (fun hc18 => ?_) (fun hc18 => ?_)
                      · refine x_iload (pc := 131) B 6 dX12_best_131 rfl ?_
                        refine x_pick (lv' := [(0, .ref (ad 94)), (1, .int a1), (3, .int ((1 : Int32) <<< (q5 &&& 31))), (4, .int y6.1), (5, .int y8.1), (7, .int y13.2)]) [1, 2, 3, 4, 5, 7] rfl ?_
                        have z := JJ y13.1 ((zif_f hc18).trans rfl)
                        exact z
                      · refine x_iload (pc := 126) B 0 dX12_best_126 rfl ?_
                        refine x_goto (tgt := 133) (pc := 128) B dX12_best_128 rfl ?_
                        refine x_pick (lv' := [(0, .ref (ad 94)), (1, .int a1), (3, .int ((1 : Int32) <<< (q5 &&& 31))), (4, .int y6.1), (5, .int y8.1), (7, .int y13.2)]) [1, 2, 3, 4, 5, 7] rfl ?_
                        have z := JJ x17 ((zif_t hc18).trans rfl)
                        exact z
                · refine x_aload_n (pc := 147) B 0 dX12_best_147 rfl rfl ?_
                  refine x_get (T := TX12) (pc := 148) B 10 oi_94 rfl uw_12 (by decide) rfl tw_1309 rfl dX12_best_148 ?_
                  refine x_bipush (v := 48) (pc := 151) B dX12_best_151 rfl ?_
                  refine x_iload (pc := 153) B 3 dX12_best_153 rfl ?_
                  refine x_imul (pc := 155) B dX12_best_155 ?_
                  refine x_iload (pc := 156) B 4 dX12_best_156 rfl ?_
                  refine x_iadd (pc := 158) B dX12_best_158 ?_
                  refine x_iload (pc := 159) B 5 dX12_best_159 rfl ?_
                  obtain ⟨hk22, h⟩ := ifn h
                  refine x_iast (pc := 161) B ai_100 hk22 dX12_best_161 ?_
                  refine jv_m (P := fun M23 => XX D ad cI cJ p l e (Rm 3 71) s m args below meth c Q 9 M23 162 [(0, .ref (ad 94)), (1, .int a1), (3, .int ((1 : Int32) <<< (q5 &&& 31))), (4, .int y6.1), (5, .int y8.1), (6, .int q21)] []) h (fun M23 h => ?_)
                  refine x_iinc (k := 4) (v := y8.1 + 1) (lv' := [(5, .int (y8.1 + 1)), (0, .ref (ad 94)), (1, .int a1), (3, .int ((1 : Int32) <<< (q5 &&& 31))), (4, .int y6.1), (6, .int q21)]) (pc := 162) B dX12_best_162 rfl rfl (by decide) rfl ?_
                  refine x_goto (tgt := 51) (pc := 165) B dX12_best_165 rfl ?_
                  refine x_pick (lv' := [(0, .ref (ad 94)), (1, .int a1), (3, .int ((1 : Int32) <<< (q5 &&& 31))), (4, .int y6.1), (5, .int (y8.1 + 1))]) [1, 2, 3, 4, 0] rfl ?_
                  have z := hback (y8.1 + 1, M23) (Option.some.inj h).symm
                  exact z
              · refine x_if_ne (tgt := 67) (pc := 60) B dX12_best_60 rfl (fun hc10 => ?_) (fun hc10 => ?_)
                · refine x_ldc (v := 1000000) (pc := 67) B tw_1645 dX12_best_67 ?_
                  have z := JJ 1000000 ((zif_f hc10).trans rfl)
                  exact z
                · refine x_iconst (v := 0) (pc := 63) B dX12_best_63 rfl ?_
                  refine x_goto (tgt := 69) (pc := 64) B dX12_best_64 rfl ?_
                  have z := JJ 0 ((zif_t hc10).trans rfl)
                  exact z
          · refine x_iconst (v := 0) (pc := 168) B dX12_best_168 rfl ?_
            refine x_istore (lv' := [(5, .int 0), (0, .ref (ad 94)), (1, .int a1), (3, .int ((1 : Int32) <<< (q5 &&& 31))), (4, .int y6.1)]) (pc := 169) B dX12_best_169 (by decide) rfl ?_
            refine x_iconst (v := 0) (pc := 171) B dX12_best_171 rfl ?_
            refine x_istore (lv' := [(6, .int 0), (5, .int 0), (0, .ref (ad 94)), (1, .int a1), (3, .int ((1 : Int32) <<< (q5 &&& 31))), (4, .int y6.1)]) (pc := 172) B dX12_best_172 (by decide) rfl ?_
            refine x_pick (lv' := [(0, .ref (ad 94)), (1, .int a1), (3, .int ((1 : Int32) <<< (q5 &&& 31))), (4, .int y6.1), (5, .int 0), (6, .int 0)]) [2, 3, 4, 5, 1, 0] rfl ?_
            obtain ⟨q32, hq32, h⟩ := bnd h
            refine x_loop (Head := fun (y25 : Int32 × Int32 × Mem) => XX D ad cI cJ p l e (Rm 3 71) s m args below meth c Q 9 y25.2.2 174 [(0, .ref (ad 94)), (1, .int a1), (3, .int ((1 : Int32) <<< (q5 &&& 31))), (4, .int y6.1), (5, .int y25.1), (6, .int y25.2.1)] []) (Ex := fun (q32 : Mem) => XX D ad cI cJ p l e (Rm 3 71) s m args below meth c Q 9 q32 236 [(0, .ref (ad 94)), (1, .int a1), (3, .int ((1 : Int32) <<< (q5 &&& 31))), (4, .int y6.1)] []) (fun y25 r h hback hexit => ?_) FU _ q32 hq32 ?_
            · unfold b_Mo_best_94_174 at h
              refine x_iload (pc := 174) B 5 dX12_best_174 rfl ?_
              refine x_aload_n (pc := 176) B 0 dX12_best_176 rfl rfl ?_
              refine x_get (T := TX12) (pc := 177) B 1 oi_94 rfl uw_12 (by decide) rfl tw_1300 rfl dX12_best_177 ?_
              refine x_iconst (v := 1) (pc := 180) B dX12_best_180 rfl ?_
              refine x_iald_c (j := 1) (pc := 181) B ai_95 (by decide) rfl dX12_best_181 ?_
              refine x_icmp_ge (tgt := 236) (pc := 182) B dX12_best_182 rfl (fun hc26 => ?_) (fun hc26 => ?_)
              · have h := iff_ hc26 h
                refine x_pick (lv' := [(0, .ref (ad 94)), (1, .int a1), (3, .int ((1 : Int32) <<< (q5 &&& 31))), (4, .int y6.1)]) [0, 1, 2, 3] rfl ?_
                have z := hexit y25.2.2 (Option.some.inj h).symm
                exact z
              · have h := ift hc26 h
                refine x_iload_n (pc := 185) B 1 dX12_best_185 rfl rfl ?_
                refine x_iload (pc := 186) B 5 dX12_best_186 rfl ?_
                refine x_ishr (pc := 188) B dX12_best_188 ?_
                refine x_iconst (v := 1) (pc := 189) B dX12_best_189 rfl ?_
                refine x_iand (pc := 190) B dX12_best_190 ?_
                refine x_iconst (v := 1) (pc := 191) B dX12_best_191 rfl ?_
                refine x_icmp_ne (tgt := 230) (pc := 192) B dX12_best_192 rfl (fun hc27 => ?_) (fun hc27 => ?_)
                · have h := iff_ hc27 h
                  refine x_iinc (k := 5) (v := y25.2.1 + 1) (lv' := [(6, .int (y25.2.1 + 1)), (0, .ref (ad 94)), (1, .int a1), (3, .int ((1 : Int32) <<< (q5 &&& 31))), (4, .int y6.1), (5, .int y25.1)]) (pc := 230) B dX12_best_230 rfl rfl (by decide) rfl ?_
                  refine x_goto (tgt := 174) (pc := 233) B dX12_best_233 rfl ?_
                  refine x_pick (lv' := [(0, .ref (ad 94)), (1, .int a1), (3, .int ((1 : Int32) <<< (q5 &&& 31))), (4, .int y6.1), (5, .int y25.1), (6, .int (y25.2.1 + 1))]) [1, 2, 3, 4, 5, 0] rfl ?_
                  have z := hback (y25.1, y25.2.1 + 1, y25.2.2) (Option.some.inj h).symm
                  exact z
                · have h := ift hc27 h
                  refine x_iload (pc := 195) B 3 dX12_best_195 rfl ?_
                  refine x_iconst (v := 1) (pc := 197) B dX12_best_197 rfl ?_
                  refine x_iload (pc := 198) B 4 dX12_best_198 rfl ?_
                  refine x_ishl (pc := 200) B dX12_best_200 ?_
                  refine x_icmp_ne (tgt := 227) (pc := 201) B dX12_best_201 rfl (fun hc28 => ?_) (fun hc28 => ?_)
                  · have h := iff_ hc28 h
                    refine x_iinc (k := 4) (v := y25.1 + 1) (lv' := [(5, .int (y25.1 + 1)), (0, .ref (ad 94)), (1, .int a1), (3, .int ((1 : Int32) <<< (q5 &&& 31))), (4, .int y6.1), (6, .int y25.2.1)]) (pc := 227) B dX12_best_227 rfl rfl (by decide) rfl ?_
                    refine x_iinc (k := 5) (v := y25.2.1 + 1) (lv' := [(6, .int (y25.2.1 + 1)), (5, .int (y25.1 + 1)), (0, .ref (ad 94)), (1, .int a1), (3, .int ((1 : Int32) <<< (q5 &&& 31))), (4, .int y6.1)]) (pc := 230) B dX12_best_230 rfl rfl (by decide) rfl ?_
                    refine x_goto (tgt := 174) (pc := 233) B dX12_best_233 rfl ?_
                    refine x_pick (lv' := [(0, .ref (ad 94)), (1, .int a1), (3, .int ((1 : Int32) <<< (q5 &&& 31))), (4, .int y6.1), (5, .int (y25.1 + 1)), (6, .int (y25.2.1 + 1))]) [2, 3, 4, 5, 1, 0] rfl ?_
                    have z := hback (y25.1 + 1, y25.2.1 + 1, y25.2.2) (Option.some.inj h).symm
                    exact z
                  · have h := ift hc28 h
                    refine x_aload_n (pc := 204) B 0 dX12_best_204 rfl rfl ?_
                    refine x_get (T := TX12) (pc := 205) B 10 oi_94 rfl uw_12 (by decide) rfl tw_1309 rfl dX12_best_205 ?_
                    refine x_bipush (v := 48) (pc := 208) B dX12_best_208 rfl ?_
                    refine x_iload (pc := 210) B 3 dX12_best_210 rfl ?_
                    refine x_imul (pc := 212) B dX12_best_212 ?_
                    refine x_aload_n (pc := 213) B 0 dX12_best_213 rfl rfl ?_
                    refine x_get (T := TX12) (pc := 214) B 1 oi_94 rfl uw_12 (by decide) rfl tw_1300 rfl dX12_best_214 ?_
                    refine x_sipush (v := 164) (pc := 217) B dX12_best_217 rfl ?_
                    refine x_iload (pc := 220) B 5 dX12_best_220 rfl ?_
                    refine x_iadd (pc := 222) B dX12_best_222 ?_
                    obtain ⟨hk29, h⟩ := ifn h
                    refine x_iald (pc := 223) B ai_95 hk29 dX12_best_223 ?_
                    refine x_iadd (pc := 224) B dX12_best_224 ?_
                    refine x_iconst (v := 0) (pc := 225) B dX12_best_225 rfl ?_
                    obtain ⟨hk30, h⟩ := ifn h
                    refine x_iast (pc := 226) B ai_100 hk30 dX12_best_226 ?_
                    refine jv_m (P := fun M31 => XX D ad cI cJ p l e (Rm 3 71) s m args below meth c Q 9 M31 227 [(0, .ref (ad 94)), (1, .int a1), (3, .int ((1 : Int32) <<< (q5 &&& 31))), (4, .int y6.1), (5, .int y25.1), (6, .int y25.2.1)] []) h (fun M31 h => ?_)
                    refine x_iinc (k := 4) (v := y25.1 + 1) (lv' := [(5, .int (y25.1 + 1)), (0, .ref (ad 94)), (1, .int a1), (3, .int ((1 : Int32) <<< (q5 &&& 31))), (4, .int y6.1), (6, .int y25.2.1)]) (pc := 227) B dX12_best_227 rfl rfl (by decide) rfl ?_
                    refine x_iinc (k := 5) (v := y25.2.1 + 1) (lv' := [(6, .int (y25.2.1 + 1)), (5, .int (y25.1 + 1)), (0, .ref (ad 94)), (1, .int a1), (3, .int ((1 : Int32) <<< (q5 &&& 31))), (4, .int y6.1)]) (pc := 230) B dX12_best_230 rfl rfl (by decide) rfl ?_
                    refine x_goto (tgt := 174) (pc := 233) B dX12_best_233 rfl ?_
                    refine x_pick (lv' := [(0, .ref (ad 94)), (1, .int a1), (3, .int ((1 : Int32) <<< (q5 &&& 31))), (4, .int y6.1), (5, .int (y25.1 + 1)), (6, .int (y25.2.1 + 1))]) [2, 3, 4, 5, 1, 0] rfl ?_
                    have z := hback (y25.1 + 1, y25.2.1 + 1, M31) (Option.some.inj h).symm
                    exact z
            · refine x_iload (pc := 236) B 3 dX12_best_236 rfl ?_
              refine x_if_le (tgt := 247) (pc := 238) B dX12_best_238 rfl (fun hc33 => ?_) (fun hc33 => ?_)
              · have h := ift hc33 h
                refine x_iinc (k := 3) (v := y6.1 + 1) (lv' := [(4, .int (y6.1 + 1)), (0, .ref (ad 94)), (1, .int a1), (3, .int ((1 : Int32) <<< (q5 &&& 31)))]) (pc := 247) B dX12_best_247 rfl rfl (by decide) rfl ?_
                refine x_goto (tgt := 42) (pc := 250) B dX12_best_250 rfl ?_
                refine x_pick (lv' := [(0, .ref (ad 94)), (1, .int a1), (3, .int ((1 : Int32) <<< (q5 &&& 31))), (4, .int (y6.1 + 1))]) [1, 2, 3, 0] rfl ?_
                have z := hback (y6.1 + 1, q32) (Option.some.inj h).symm
                exact z
              · have h := iff_ hc33 h
                refine x_aload_n (pc := 241) B 0 dX12_best_241 rfl rfl ?_
                refine x_iload (pc := 242) B 3 dX12_best_242 rfl ?_
                obtain ⟨q34, hq34, h⟩ := bnd h
                refine x_callV (rest := []) (st' := []) (pc := 244) B oi_94 rfl (C_Mo_goesOn_94 y6.1 q32 _ hq34) tw_1649 tw_1646 tw_1648 tw_78 tw_111 hd_Mo_goesOn_94 ⟨Nat.le_of_ble_eq_true rfl, Nat.le_of_ble_eq_true rfl⟩ rfl rfl (Nat.le_of_ble_eq_true rfl) rfl dX12_best_244 ?_
                refine x_iinc (k := 3) (v := y6.1 + 1) (lv' := [(4, .int (y6.1 + 1)), (0, .ref (ad 94)), (1, .int a1), (3, .int ((1 : Int32) <<< (q5 &&& 31)))]) (pc := 247) B dX12_best_247 rfl rfl (by decide) rfl ?_
                refine x_goto (tgt := 42) (pc := 250) B dX12_best_250 rfl ?_
                refine x_pick (lv' := [(0, .ref (ad 94)), (1, .int a1), (3, .int ((1 : Int32) <<< (q5 &&& 31))), (4, .int (y6.1 + 1))]) [1, 2, 3, 0] rfl ?_
                have z := hback (y6.1 + 1, q34) (Option.some.inj h).symm
                exact z
      · refine x_aload_n (pc := 253) B 0 dX12_best_253 rfl rfl ?_
        refine x_get (T := TX12) (pc := 254) B 10 oi_94 rfl uw_12 (by decide) rfl tw_1309 rfl dX12_best_254 ?_
        refine x_bipush (v := 48) (pc := 257) B dX12_best_257 rfl ?_
        refine x_iload_n (pc := 259) B 1 dX12_best_259 rfl rfl ?_
        refine x_iconst (v := 1) (pc := 260) B dX12_best_260 rfl ?_
        refine x_isub (pc := 261) B dX12_best_261 ?_
        refine x_imul (pc := 262) B dX12_best_262 ?_
        refine x_aload_n (pc := 263) B 0 dX12_best_263 rfl rfl ?_
        refine x_get (T := TX12) (pc := 264) B 1 oi_94 rfl uw_12 (by decide) rfl tw_1300 rfl dX12_best_264 ?_
        refine x_bipush (v := 9) (pc := 267) B dX12_best_267 rfl ?_
        refine x_iald_c (j := 9) (pc := 269) B ai_95 (by decide) rfl dX12_best_269 ?_
        refine x_iadd (pc := 270) B dX12_best_270 ?_
        obtain ⟨hk36, h⟩ := ifn h
        refine x_iald (pc := 271) B ai_100 hk36 dX12_best_271 ?_
        refine jv_m (P := fun (x37 : Int32) => XX D ad cI cJ p l e (Rm 3 71) s m args below meth c Q 9 q35 272 [(0, .ref (ad 94)), (3, .int ((1 : Int32) <<< (q5 &&& 31)))] [.int x37]) h (fun x37 h => ?_)
        refine x_istore (lv' := [(4, .int x37), (0, .ref (ad 94)), (3, .int ((1 : Int32) <<< (q5 &&& 31)))]) (pc := 272) B dX12_best_272 (by decide) rfl ?_
        refine x_iload (pc := 274) B 0 dX12_best_274 rfl ?_
        refine x_ldc (v := 1000000) (pc := 276) B tw_1645 dX12_best_276 ?_
        refine x_icmp_lt (tgt := 286) (pc := 278) B dX12_best_278 rfl (fun hc38 => ?_) (fun hc38 => ?_)
        · have h := ift hc38 h
          refine x_iload (pc := 286) B 0 dX12_best_286 rfl ?_
          obtain rfl := Option.some.inj h
          exact x_iret (pc := 288) B hQ dX12_best_288
        · have h := iff_ hc38 h
          refine x_bipush (v := (-5)) (pc := 281) B dX12_best_281 rfl ?_
          refine x_goto (tgt := 288) (pc := 283) B dX12_best_283 rfl ?_
          obtain rfl := Option.some.inj h
          exact x_iret (pc := 288) B hQ dX12_best_288
    · have h := iff_ hc4 h
      refine x_bipush (v := (-2)) (pc := 27) B dX12_best_27 rfl ?_
      obtain rfl := Option.some.inj h
      exact x_iret (pc := 29) B hQ dX12_best_29
-- CurrentFarmsModel.onLine()I [94]
abbrev y_Mo_onLine_94 : MethodName := ⟨"CurrentFarmsModel", "onLine", "()I"⟩
abbrev cX12_onLine : ByteArray := prog_14_method_59_code
theorem dX12_onLine_0 : decode cX12_onLine 0 = .ok (.iconst 0, 1) := by decide +kernel
theorem dX12_onLine_1 : decode cX12_onLine 1 = .ok (.istore_n 1, 1) := by decide +kernel
theorem dX12_onLine_2 : decode cX12_onLine 2 = .ok (.iconst 0, 1) := by decide +kernel
theorem dX12_onLine_3 : decode cX12_onLine 3 = .ok (.istore_n 2, 1) := by decide +kernel
theorem dX12_onLine_4 : decode cX12_onLine 4 = .ok (.iload_n 2, 1) := by decide +kernel
theorem dX12_onLine_5 : decode cX12_onLine 5 = .ok (.aload_n 0, 1) := by decide +kernel
theorem dX12_onLine_6 : decode cX12_onLine 6 = .ok (.getfield 7, 3) := by decide +kernel
theorem dX12_onLine_9 : decode cX12_onLine 9 = .ok (.iconst 1, 1) := by decide +kernel
theorem dX12_onLine_10 : decode cX12_onLine 10 = .ok (.iaload, 1) := by decide +kernel
theorem dX12_onLine_11 : decode cX12_onLine 11 = .ok (.if_icmp .ge 46, 3) := by decide +kernel
theorem dX12_onLine_14 : decode cX12_onLine 14 = .ok (.iload_n 1, 1) := by decide +kernel
theorem dX12_onLine_15 : decode cX12_onLine 15 = .ok (.aload_n 0, 1) := by decide +kernel
theorem dX12_onLine_16 : decode cX12_onLine 16 = .ok (.invokevirtual 140, 3) := by decide +kernel
theorem dX12_onLine_19 : decode cX12_onLine 19 = .ok (.iload_n 2, 1) := by decide +kernel
theorem dX12_onLine_20 : decode cX12_onLine 20 = .ok (.ishr, 1) := by decide +kernel
theorem dX12_onLine_21 : decode cX12_onLine 21 = .ok (.iconst 1, 1) := by decide +kernel
theorem dX12_onLine_22 : decode cX12_onLine 22 = .ok (.iand, 1) := by decide +kernel
theorem dX12_onLine_23 : decode cX12_onLine 23 = .ok (.iconst 1, 1) := by decide +kernel
theorem dX12_onLine_24 : decode cX12_onLine 24 = .ok (.if_icmp .ne 24, 3) := by decide +kernel
theorem dX12_onLine_27 : decode cX12_onLine 27 = .ok (.aload_n 0, 1) := by decide +kernel
theorem dX12_onLine_28 : decode cX12_onLine 28 = .ok (.aload_n 0, 1) := by decide +kernel
theorem dX12_onLine_29 : decode cX12_onLine 29 = .ok (.getfield 7, 3) := by decide +kernel
theorem dX12_onLine_32 : decode cX12_onLine 32 = .ok (.sipush 164, 3) := by decide +kernel
theorem dX12_onLine_35 : decode cX12_onLine 35 = .ok (.iload_n 2, 1) := by decide +kernel
theorem dX12_onLine_36 : decode cX12_onLine 36 = .ok (.iadd, 1) := by decide +kernel
theorem dX12_onLine_37 : decode cX12_onLine 37 = .ok (.iaload, 1) := by decide +kernel
theorem dX12_onLine_38 : decode cX12_onLine 38 = .ok (.invokevirtual 92, 3) := by decide +kernel
theorem dX12_onLine_41 : decode cX12_onLine 41 = .ok (.ifCond .eq 7, 3) := by decide +kernel
theorem dX12_onLine_44 : decode cX12_onLine 44 = .ok (.iconst 1, 1) := by decide +kernel
theorem dX12_onLine_45 : decode cX12_onLine 45 = .ok (.goto 4, 3) := by decide +kernel
theorem dX12_onLine_48 : decode cX12_onLine 48 = .ok (.iconst 0, 1) := by decide +kernel
theorem dX12_onLine_49 : decode cX12_onLine 49 = .ok (.iadd, 1) := by decide +kernel
theorem dX12_onLine_50 : decode cX12_onLine 50 = .ok (.istore_n 1, 1) := by decide +kernel
theorem dX12_onLine_51 : decode cX12_onLine 51 = .ok (.iinc 2 1, 3) := by decide +kernel
theorem dX12_onLine_54 : decode cX12_onLine 54 = .ok (.goto (-50), 3) := by decide +kernel
theorem dX12_onLine_57 : decode cX12_onLine 57 = .ok (.iload_n 1, 1) := by decide +kernel
theorem dX12_onLine_58 : decode cX12_onLine 58 = .ok (.ireturn, 1) := by decide +kernel
theorem hd_Mo_onLine_94 : y_Mo_onLine_94.cls ≠ "java/lang/invoke/MethodHandle" ∧ y_Mo_onLine_94.cls ≠ "java/lang/invoke/VarHandle" ∧ (parseMethodDescriptor y_Mo_onLine_94.desc).map (fun d => d.parameters.length) = some 0 := by decide +kernel
def b_Mo_onLine_94_4 (M0 : Mem) (y1 : Int32 × Int32) : Option ((Int32 × Int32) ⊕ (Int32)) :=
  if decide (y1.2 < (M0.1 95 1)) then ((f_Mo_members_94 M0).bind fun q3 => jn_ (fun (u6 : Bool) => some (.inl (y1.1 + (bI u6), y1.2 + 1))) fun k7 => if decide (((q3 >>> (y1.2 &&& 31)) &&& 1) = 1) then (if inb (164 + y1.2) 4700 then (f_Mo_isOnLine_94 (M0.1 95 (164 + y1.2).toNatClampNeg) M0).bind fun q9 => if q9 then (k7 true) else (k7 false) else none) else (k7 false)) else (some (.inr y1.1))
def f_Mo_onLine_94  (M0 : Mem) : Option (Int32) :=
  (itr (b_Mo_onLine_94_4 M0) FU (0, 0)).bind fun q11 => some q11
set_option maxHeartbeats 4000000 in
set_option maxRecDepth 20000 in
theorem C_Mo_onLine_94 {D : va_G} {ad adK adV : Nat → Nat} {cI cJ : ClassId} {l : Launch}  (M0 : Mem) (o : Int32) (h : f_Mo_onLine_94  M0 = some o) : Ct D ad adK adV cI cJ l y_Mo_onLine_94 cX12_onLine 3 (some .int) 1 22 [.ref (ad 94)] M0 (some (.int o)) M0 := by
  refine x_start (lv := [(0, .ref (ad 94))]) (own := "CurrentFarmsModel") rfl (by decide) (Nat.le_of_ble_eq_true rfl) rfl ?_
  intro p e s m args below meth c Q hQ B
  unfold f_Mo_onLine_94 at h
  refine x_iconst (v := 0) (pc := 0) B dX12_onLine_0 rfl ?_
  refine x_istore_n (lv' := [(1, .int 0), (0, .ref (ad 94))]) (pc := 1) B dX12_onLine_1 rfl (by decide) rfl ?_
  refine x_iconst (v := 0) (pc := 2) B dX12_onLine_2 rfl ?_
  refine x_istore_n (lv' := [(2, .int 0), (1, .int 0), (0, .ref (ad 94))]) (pc := 3) B dX12_onLine_3 rfl (by decide) rfl ?_
  refine x_pick (lv' := [(0, .ref (ad 94)), (1, .int 0), (2, .int 0)]) [2, 1, 0] rfl ?_
  obtain ⟨q11, hq11, h⟩ := bnd h
  refine x_loop (Head := fun (y1 : Int32 × Int32) => XX D ad cI cJ p l e (Rm 1 22) s m args below meth c Q 3 M0 4 [(0, .ref (ad 94)), (1, .int y1.1), (2, .int y1.2)] []) (Ex := fun (q11 : Int32) => XX D ad cI cJ p l e (Rm 1 22) s m args below meth c Q 3 M0 57 [(1, .int q11)] []) (fun y1 r h hback hexit => ?_) FU _ q11 hq11 ?_
  · unfold b_Mo_onLine_94_4 at h
    refine x_iload_n (pc := 4) B 2 dX12_onLine_4 rfl rfl ?_
    refine x_aload_n (pc := 5) B 0 dX12_onLine_5 rfl rfl ?_
    refine x_get (T := TX12) (pc := 6) B 1 oi_94 rfl uw_12 (by decide) rfl tw_1300 rfl dX12_onLine_6 ?_
    refine x_iconst (v := 1) (pc := 9) B dX12_onLine_9 rfl ?_
    refine x_iald_c (j := 1) (pc := 10) B ai_95 (by decide) rfl dX12_onLine_10 ?_
    refine x_icmp_ge (tgt := 57) (pc := 11) B dX12_onLine_11 rfl (fun hc2 => ?_) (fun hc2 => ?_)
    · have h := iff_ hc2 h
      refine x_pick (lv' := [(1, .int y1.1)]) [1] rfl ?_
      have z := hexit y1.1 (Option.some.inj h).symm
      exact z
    · have h := ift hc2 h
      refine x_iload_n (pc := 14) B 1 dX12_onLine_14 rfl rfl ?_
      refine x_aload_n (pc := 15) B 0 dX12_onLine_15 rfl rfl ?_
      obtain ⟨q3, hq3, h⟩ := bnd h
      refine x_callV (rest := [.int y1.1]) (st' := [.int q3, .int y1.1]) (pc := 16) B oi_94 rfl (C_Mo_members_94  M0 _ hq3) tw_1585 tw_1582 tw_1584 tw_72 tw_111 hd_Mo_members_94 ⟨Nat.le_of_ble_eq_true rfl, Nat.le_of_ble_eq_true rfl⟩ rfl rfl (Nat.le_of_ble_eq_true rfl) rfl dX12_onLine_16 ?_
      refine x_iload_n (pc := 19) B 2 dX12_onLine_19 rfl rfl ?_
      refine x_ishr (pc := 20) B dX12_onLine_20 ?_
      refine x_iconst (v := 1) (pc := 21) B dX12_onLine_21 rfl ?_
      refine x_iand (pc := 22) B dX12_onLine_22 ?_
      refine x_iconst (v := 1) (pc := 23) B dX12_onLine_23 rfl ?_
      refine jn_k h (fun (u6 : Bool) => XX D ad cI cJ p l e (Rm 1 22) s m args below meth c Q 3 M0 49 [(0, .ref (ad 94)), (2, .int y1.2)] [.int (bI u6), .int y1.1]) (fun u6 h => ?_) (fun k7 h JJ => ?_)
      · refine x_iadd (pc := 49) B dX12_onLine_49 ?_
        refine x_istore_n (lv' := [(1, .int (y1.1 + (bI u6))), (0, .ref (ad 94)), (2, .int y1.2)]) (pc := 50) B dX12_onLine_50 rfl (by decide) rfl ?_
        refine x_iinc (k := 2) (v := y1.2 + 1) (lv' := [(2, .int (y1.2 + 1)), (1, .int (y1.1 + (bI u6))), (0, .ref (ad 94))]) (pc := 51) B dX12_onLine_51 rfl rfl (by decide) rfl ?_
        refine x_goto (tgt := 4) (pc := 54) B dX12_onLine_54 rfl ?_
        refine x_pick (lv' := [(0, .ref (ad 94)), (1, .int (y1.1 + (bI u6))), (2, .int (y1.2 + 1))]) [2, 1, 0] rfl ?_
        have z := hback (y1.1 + (bI u6), y1.2 + 1) (Option.some.inj h).symm
        exact z
      · refine x_icmp_ne (tgt := 48) (pc := 24) B dX12_onLine_24 rfl (fun hc4 => ?_) (fun hc4 => ?_)
        · have h := iff_ hc4 h
          refine x_iconst (v := 0) (pc := 48) B dX12_onLine_48 rfl ?_
          refine x_pick (lv' := [(0, .ref (ad 94)), (2, .int y1.2)]) [0, 2] rfl ?_
          have z := JJ false h
          exact z
        · have h := ift hc4 h
          refine x_aload_n (pc := 27) B 0 dX12_onLine_27 rfl rfl ?_
          refine x_aload_n (pc := 28) B 0 dX12_onLine_28 rfl rfl ?_
          refine x_get (T := TX12) (pc := 29) B 1 oi_94 rfl uw_12 (by decide) rfl tw_1300 rfl dX12_onLine_29 ?_
          refine x_sipush (v := 164) (pc := 32) B dX12_onLine_32 rfl ?_
          refine x_iload_n (pc := 35) B 2 dX12_onLine_35 rfl rfl ?_
          refine x_iadd (pc := 36) B dX12_onLine_36 ?_
          obtain ⟨hk8, h⟩ := ifn h
          refine x_iald (pc := 37) B ai_95 hk8 dX12_onLine_37 ?_
          obtain ⟨q9, hq9, h⟩ := bnd h
          refine x_callV (rest := [.int y1.1]) (st' := [.int (bI q9), .int y1.1]) (pc := 38) B oi_94 rfl (C_Mo_isOnLine_94 (M0.1 95 (164 + y1.2).toNatClampNeg) M0 _ hq9) tw_1410 tw_1407 tw_1409 tw_43 tw_111 hd_Mo_isOnLine_94 ⟨Nat.le_of_ble_eq_true rfl, Nat.le_of_ble_eq_true rfl⟩ rfl rfl (Nat.le_of_ble_eq_true rfl) rfl dX12_onLine_38 ?_
          refine x_if_eq_b (tgt := 48) (pc := 41) B dX12_onLine_41 rfl (fun hc10 => ?_) (fun hc10 => ?_)
          · have h := iff_ hc10 h
            refine x_iconst (v := 0) (pc := 48) B dX12_onLine_48 rfl ?_
            refine x_pick (lv' := [(0, .ref (ad 94)), (2, .int y1.2)]) [0, 2] rfl ?_
            have z := JJ false h
            exact z
          · have h := ift hc10 h
            refine x_iconst (v := 1) (pc := 44) B dX12_onLine_44 rfl ?_
            refine x_goto (tgt := 49) (pc := 45) B dX12_onLine_45 rfl ?_
            refine x_pick (lv' := [(0, .ref (ad 94)), (2, .int y1.2)]) [0, 2] rfl ?_
            have z := JJ true h
            exact z
  · refine x_iload_n (pc := 57) B 0 dX12_onLine_57 rfl rfl ?_
    obtain rfl := Option.some.inj h
    exact x_iret (pc := 58) B hQ dX12_onLine_58
-- CurrentFarmsModel.isEnough()Z [94]
abbrev y_Mo_isEnough_94 : MethodName := ⟨"CurrentFarmsModel", "isEnough", "()Z"⟩
abbrev cX12_isEnough : ByteArray := prog_14_method_60_code
theorem dX12_isEnough_0 : decode cX12_isEnough 0 = .ok (.aload_n 0, 1) := by decide +kernel
theorem dX12_isEnough_1 : decode cX12_isEnough 1 = .ok (.invokevirtual 259, 3) := by decide +kernel
theorem dX12_isEnough_4 : decode cX12_isEnough 4 = .ok (.istore_n 1, 1) := by decide +kernel
theorem dX12_isEnough_5 : decode cX12_isEnough 5 = .ok (.iload_n 1, 1) := by decide +kernel
theorem dX12_isEnough_6 : decode cX12_isEnough 6 = .ok (.aload_n 0, 1) := by decide +kernel
theorem dX12_isEnough_7 : decode cX12_isEnough 7 = .ok (.getfield 7, 3) := by decide +kernel
theorem dX12_isEnough_10 : decode cX12_isEnough 10 = .ok (.iconst 5, 1) := by decide +kernel
theorem dX12_isEnough_11 : decode cX12_isEnough 11 = .ok (.iaload, 1) := by decide +kernel
theorem dX12_isEnough_12 : decode cX12_isEnough 12 = .ok (.aload_n 0, 1) := by decide +kernel
theorem dX12_isEnough_13 : decode cX12_isEnough 13 = .ok (.iconst 0, 1) := by decide +kernel
theorem dX12_isEnough_14 : decode cX12_isEnough 14 = .ok (.iconst (-1), 1) := by decide +kernel
theorem dX12_isEnough_15 : decode cX12_isEnough 15 = .ok (.aload_n 0, 1) := by decide +kernel
theorem dX12_isEnough_16 : decode cX12_isEnough 16 = .ok (.getfield 7, 3) := by decide +kernel
theorem dX12_isEnough_19 : decode cX12_isEnough 19 = .ok (.iconst 0, 1) := by decide +kernel
theorem dX12_isEnough_20 : decode cX12_isEnough 20 = .ok (.iaload, 1) := by decide +kernel
theorem dX12_isEnough_21 : decode cX12_isEnough 21 = .ok (.iconst 0, 1) := by decide +kernel
theorem dX12_isEnough_22 : decode cX12_isEnough 22 = .ok (.invokevirtual 252, 3) := by decide +kernel
theorem dX12_isEnough_25 : decode cX12_isEnough 25 = .ok (.imul, 1) := by decide +kernel
theorem dX12_isEnough_26 : decode cX12_isEnough 26 = .ok (.bipush 10, 2) := by decide +kernel
theorem dX12_isEnough_28 : decode cX12_isEnough 28 = .ok (.idiv, 1) := by decide +kernel
theorem dX12_isEnough_29 : decode cX12_isEnough 29 = .ok (.if_icmp .lt 7, 3) := by decide +kernel
theorem dX12_isEnough_32 : decode cX12_isEnough 32 = .ok (.iconst 1, 1) := by decide +kernel
theorem dX12_isEnough_33 : decode cX12_isEnough 33 = .ok (.goto 4, 3) := by decide +kernel
theorem dX12_isEnough_36 : decode cX12_isEnough 36 = .ok (.iconst 0, 1) := by decide +kernel
theorem dX12_isEnough_37 : decode cX12_isEnough 37 = .ok (.ireturn, 1) := by decide +kernel
theorem hd_Mo_isEnough_94 : y_Mo_isEnough_94.cls ≠ "java/lang/invoke/MethodHandle" ∧ y_Mo_isEnough_94.cls ≠ "java/lang/invoke/VarHandle" ∧ (parseMethodDescriptor y_Mo_isEnough_94.desc).map (fun d => d.parameters.length) = some 0 := by decide +kernel
def f_Mo_isEnough_94  (M0 : Mem) : Option (Bool × Mem) :=
  (f_Mo_onLine_94 M0).bind fun q1 => (f_Mo_ruleFor_94 0 (-1) (M0.1 95 0) 0 M0).bind fun q2 => if decide (q1 < (((M0.1 95 5) * q2.1) / 10)) then (some (false, q2.2)) else (some (true, q2.2))
set_option maxHeartbeats 4000000 in
set_option maxRecDepth 20000 in
theorem C_Mo_isEnough_94 {D : va_G} {ad adK adV : Nat → Nat} {cI cJ : ClassId} {l : Launch}  (M0 : Mem) (o : Bool × Mem) (h : f_Mo_isEnough_94  M0 = some o) : Ct D ad adK adV cI cJ l y_Mo_isEnough_94 cX12_isEnough 2 (some .boolean) 514 14318 [.ref (ad 94)] M0 (some (.int (bI o.1))) o.2 := by
  refine x_start (lv := [(0, .ref (ad 94))]) (own := "CurrentFarmsModel") rfl (by decide) (Nat.le_of_ble_eq_true rfl) rfl ?_
  intro p e s m args below meth c Q hQ B
  unfold f_Mo_isEnough_94 at h
  refine x_aload_n (pc := 0) B 0 dX12_isEnough_0 rfl rfl ?_
  obtain ⟨q1, hq1, h⟩ := bnd h
  refine x_callV (rest := []) (st' := [.int q1]) (pc := 1) B oi_94 rfl (C_Mo_onLine_94  M0 _ hq1) tw_1661 tw_1658 tw_1660 tw_80 tw_111 hd_Mo_onLine_94 ⟨Nat.le_of_ble_eq_true rfl, Nat.le_of_ble_eq_true rfl⟩ rfl rfl (Nat.le_of_ble_eq_true rfl) rfl dX12_isEnough_1 ?_
  refine x_istore_n (lv' := [(1, .int q1), (0, .ref (ad 94))]) (pc := 4) B dX12_isEnough_4 rfl (by decide) rfl ?_
  refine x_iload_n (pc := 5) B 0 dX12_isEnough_5 rfl rfl ?_
  refine x_aload_n (pc := 6) B 1 dX12_isEnough_6 rfl rfl ?_
  refine x_get (T := TX12) (pc := 7) B 1 oi_94 rfl uw_12 (by decide) rfl tw_1300 rfl dX12_isEnough_7 ?_
  refine x_iconst (v := 5) (pc := 10) B dX12_isEnough_10 rfl ?_
  refine x_iald_c (j := 5) (pc := 11) B ai_95 (by decide) rfl dX12_isEnough_11 ?_
  refine x_aload_n (pc := 12) B 1 dX12_isEnough_12 rfl rfl ?_
  refine x_iconst (v := 0) (pc := 13) B dX12_isEnough_13 rfl ?_
  refine x_iconst (v := (-1)) (pc := 14) B dX12_isEnough_14 rfl ?_
  refine x_aload_n (pc := 15) B 1 dX12_isEnough_15 rfl rfl ?_
  refine x_get (T := TX12) (pc := 16) B 1 oi_94 rfl uw_12 (by decide) rfl tw_1300 rfl dX12_isEnough_16 ?_
  refine x_iconst (v := 0) (pc := 19) B dX12_isEnough_19 rfl ?_
  refine x_iald_c (j := 0) (pc := 20) B ai_95 (by decide) rfl dX12_isEnough_20 ?_
  refine x_iconst (v := 0) (pc := 21) B dX12_isEnough_21 rfl ?_
  obtain ⟨q2, hq2, h⟩ := bnd h
  refine x_callV (rest := [.int (M0.1 95 5), .int q1]) (st' := [.int q2.1, .int (M0.1 95 5), .int q1]) (pc := 22) B oi_94 rfl (C_Mo_ruleFor_94 0 (-1) (M0.1 95 0) 0 M0 _ hq2) tw_1628 tw_1625 tw_1627 tw_77 tw_111 hd_Mo_ruleFor_94 ⟨Nat.le_of_ble_eq_true rfl, Nat.le_of_ble_eq_true rfl⟩ rfl rfl (Nat.le_of_ble_eq_true rfl) rfl dX12_isEnough_22 ?_
  refine x_imul (pc := 25) B dX12_isEnough_25 ?_
  refine x_bipush (v := 10) (pc := 26) B dX12_isEnough_26 rfl ?_
  refine x_idiv (pc := 28) B dX12_isEnough_28 (by decide) ?_
  refine x_icmp_lt (tgt := 36) (pc := 29) B dX12_isEnough_29 rfl (fun hc3 => ?_) (fun hc3 => ?_)
  · have h := ift hc3 h
    refine x_iconst (v := 0) (pc := 36) B dX12_isEnough_36 rfl ?_
    obtain rfl := Option.some.inj h
    exact x_zret (v := false) (pc := 37) B hQ dX12_isEnough_37
  · have h := iff_ hc3 h
    refine x_iconst (v := 1) (pc := 32) B dX12_isEnough_32 rfl ?_
    refine x_goto (tgt := 37) (pc := 33) B dX12_isEnough_33 rfl ?_
    obtain rfl := Option.some.inj h
    exact x_zret (v := true) (pc := 37) B hQ dX12_isEnough_37
-- CurrentFarmsModel.mile(I)I [94]
abbrev y_Mo_mile_94 : MethodName := ⟨"CurrentFarmsModel", "mile", "(I)I"⟩
abbrev cX12_mile : ByteArray := prog_14_method_61_code
theorem dX12_mile_0 : decode cX12_mile 0 = .ok (.aload_n 0, 1) := by decide +kernel
theorem dX12_mile_1 : decode cX12_mile 1 = .ok (.aload_n 0, 1) := by decide +kernel
theorem dX12_mile_2 : decode cX12_mile 2 = .ok (.getfield 7, 3) := by decide +kernel
theorem dX12_mile_5 : decode cX12_mile 5 = .ok (.iconst 0, 1) := by decide +kernel
theorem dX12_mile_6 : decode cX12_mile 6 = .ok (.iaload, 1) := by decide +kernel
theorem dX12_mile_7 : decode cX12_mile 7 = .ok (.iconst (-1), 1) := by decide +kernel
theorem dX12_mile_8 : decode cX12_mile 8 = .ok (.iconst (-1), 1) := by decide +kernel
theorem dX12_mile_9 : decode cX12_mile 9 = .ok (.iconst 0, 1) := by decide +kernel
theorem dX12_mile_10 : decode cX12_mile 10 = .ok (.invokevirtual 130, 3) := by decide +kernel
theorem dX12_mile_13 : decode cX12_mile 13 = .ok (.iload_n 1, 1) := by decide +kernel
theorem dX12_mile_14 : decode cX12_mile 14 = .ok (.tableswitch 107 0 3 #[30, 43, 50, 55], 30) := by decide +kernel
theorem dX12_mile_44 : decode cX12_mile 44 = .ok (.aload_n 0, 1) := by decide +kernel
theorem dX12_mile_45 : decode cX12_mile 45 = .ok (.invokevirtual 262, 3) := by decide +kernel
theorem dX12_mile_48 : decode cX12_mile 48 = .ok (.ifCond .eq 7, 3) := by decide +kernel
theorem dX12_mile_51 : decode cX12_mile 51 = .ok (.iconst 1, 1) := by decide +kernel
theorem dX12_mile_52 : decode cX12_mile 52 = .ok (.goto 4, 3) := by decide +kernel
theorem dX12_mile_55 : decode cX12_mile 55 = .ok (.iconst 0, 1) := by decide +kernel
theorem dX12_mile_56 : decode cX12_mile 56 = .ok (.ireturn, 1) := by decide +kernel
theorem dX12_mile_57 : decode cX12_mile 57 = .ok (.aload_n 0, 1) := by decide +kernel
theorem dX12_mile_58 : decode cX12_mile 58 = .ok (.getfield 7, 3) := by decide +kernel
theorem dX12_mile_61 : decode cX12_mile 61 = .ok (.iconst 5, 1) := by decide +kernel
theorem dX12_mile_62 : decode cX12_mile 62 = .ok (.iaload, 1) := by decide +kernel
theorem dX12_mile_63 : decode cX12_mile 63 = .ok (.ireturn, 1) := by decide +kernel
theorem dX12_mile_64 : decode cX12_mile 64 = .ok (.aload_n 0, 1) := by decide +kernel
theorem dX12_mile_65 : decode cX12_mile 65 = .ok (.invokevirtual 259, 3) := by decide +kernel
theorem dX12_mile_68 : decode cX12_mile 68 = .ok (.ireturn, 1) := by decide +kernel
theorem dX12_mile_69 : decode cX12_mile 69 = .ok (.iconst 0, 1) := by decide +kernel
theorem dX12_mile_70 : decode cX12_mile 70 = .ok (.istore_n 2, 1) := by decide +kernel
theorem dX12_mile_71 : decode cX12_mile 71 = .ok (.iconst 0, 1) := by decide +kernel
theorem dX12_mile_72 : decode cX12_mile 72 = .ok (.istore_n 3, 1) := by decide +kernel
theorem dX12_mile_73 : decode cX12_mile 73 = .ok (.iload_n 3, 1) := by decide +kernel
theorem dX12_mile_74 : decode cX12_mile 74 = .ok (.bipush 48, 2) := by decide +kernel
theorem dX12_mile_76 : decode cX12_mile 76 = .ok (.if_icmp .ge 43, 3) := by decide +kernel
theorem dX12_mile_79 : decode cX12_mile 79 = .ok (.iload_n 2, 1) := by decide +kernel
theorem dX12_mile_80 : decode cX12_mile 80 = .ok (.aload_n 0, 1) := by decide +kernel
theorem dX12_mile_81 : decode cX12_mile 81 = .ok (.getfield 7, 3) := by decide +kernel
theorem dX12_mile_84 : decode cX12_mile 84 = .ok (.bipush 116, 2) := by decide +kernel
theorem dX12_mile_86 : decode cX12_mile 86 = .ok (.iload_n 3, 1) := by decide +kernel
theorem dX12_mile_87 : decode cX12_mile 87 = .ok (.iadd, 1) := by decide +kernel
theorem dX12_mile_88 : decode cX12_mile 88 = .ok (.iaload, 1) := by decide +kernel
theorem dX12_mile_89 : decode cX12_mile 89 = .ok (.iconst (-1), 1) := by decide +kernel
theorem dX12_mile_90 : decode cX12_mile 90 = .ok (.if_icmp .eq 20, 3) := by decide +kernel
theorem dX12_mile_93 : decode cX12_mile 93 = .ok (.aload_n 0, 1) := by decide +kernel
theorem dX12_mile_94 : decode cX12_mile 94 = .ok (.aload_n 0, 1) := by decide +kernel
theorem dX12_mile_95 : decode cX12_mile 95 = .ok (.getfield 7, 3) := by decide +kernel
theorem dX12_mile_98 : decode cX12_mile 98 = .ok (.bipush 116, 2) := by decide +kernel
theorem dX12_mile_100 : decode cX12_mile 100 = .ok (.iload_n 3, 1) := by decide +kernel
theorem dX12_mile_101 : decode cX12_mile 101 = .ok (.iadd, 1) := by decide +kernel
theorem dX12_mile_102 : decode cX12_mile 102 = .ok (.iaload, 1) := by decide +kernel
theorem dX12_mile_103 : decode cX12_mile 103 = .ok (.iload_n 3, 1) := by decide +kernel
theorem dX12_mile_104 : decode cX12_mile 104 = .ok (.invokevirtual 106, 3) := by decide +kernel
theorem dX12_mile_107 : decode cX12_mile 107 = .ok (.goto 4, 3) := by decide +kernel
theorem dX12_mile_110 : decode cX12_mile 110 = .ok (.iconst 0, 1) := by decide +kernel
theorem dX12_mile_111 : decode cX12_mile 111 = .ok (.iadd, 1) := by decide +kernel
theorem dX12_mile_112 : decode cX12_mile 112 = .ok (.istore_n 2, 1) := by decide +kernel
theorem dX12_mile_113 : decode cX12_mile 113 = .ok (.iinc 3 1, 3) := by decide +kernel
theorem dX12_mile_116 : decode cX12_mile 116 = .ok (.goto (-43), 3) := by decide +kernel
theorem dX12_mile_119 : decode cX12_mile 119 = .ok (.iload_n 2, 1) := by decide +kernel
theorem dX12_mile_120 : decode cX12_mile 120 = .ok (.ireturn, 1) := by decide +kernel
theorem dX12_mile_121 : decode cX12_mile 121 = .ok (.iconst (-1), 1) := by decide +kernel
theorem dX12_mile_122 : decode cX12_mile 122 = .ok (.ireturn, 1) := by decide +kernel
theorem hd_Mo_mile_94 : y_Mo_mile_94.cls ≠ "java/lang/invoke/MethodHandle" ∧ y_Mo_mile_94.cls ≠ "java/lang/invoke/VarHandle" ∧ (parseMethodDescriptor y_Mo_mile_94.desc).map (fun d => d.parameters.length) = some 1 := by decide +kernel
def b_Mo_mile_94_73 (q1 : Mem) (y9 : Int32 × Int32) : Option ((Int32 × Int32) ⊕ (Int32)) :=
  if decide (y9.2 < 48) then (if inb (116 + y9.2) 4700 then jn_ (fun (u14 : Int32) => some (.inl (y9.1 + u14, y9.2 + 1))) fun k15 => if decide ((q1.1 95 (116 + y9.2).toNatClampNeg) = (-1)) then (k15 0) else (if inb (116 + y9.2) 4700 then (f_Mo_costOf_94 (q1.1 95 (116 + y9.2).toNatClampNeg) y9.2 q1).bind fun q17 => k15 q17 else none) else none) else (some (.inr y9.1))
def f_Mo_mile_94 (a1 : Int32) (M0 : Mem) : Option (Int32 × Mem) :=
  (f_Mo_looks_94 (M0.1 95 0) (-1) (-1) 0 M0).bind fun q1 => if decide (a1 = 0) then ((f_Mo_isEnough_94 q1).bind fun q3 => if q3.1 then (some (1, q3.2)) else (some (0, q3.2))) else (if decide (a1 = 1) then (some (q1.1 95 5, q1)) else (if decide (a1 = 2) then ((f_Mo_onLine_94 q1).bind fun q7 => some (q7, q1)) else (if decide (a1 = 3) then ((itr (b_Mo_mile_94_73 q1) FU (0, 0)).bind fun q18 => some (q18, q1)) else (some ((-1), q1)))))
set_option maxHeartbeats 4000000 in
set_option maxRecDepth 20000 in
theorem C_Mo_mile_94 {D : va_G} {ad adK adV : Nat → Nat} {cI cJ : ClassId} {l : Launch} (a1 : Int32) (M0 : Mem) (o : Int32 × Mem) (h : f_Mo_mile_94 a1 M0 = some o) : Ct D ad adK adV cI cJ l y_Mo_mile_94 cX12_mile 4 (some .int) 515 14339 [.ref (ad 94), .int a1] M0 (some (.int o.1)) o.2 := by
  refine x_start (lv := [(0, .ref (ad 94)), (1, .int a1)]) (own := "CurrentFarmsModel") rfl (by decide) (Nat.le_of_ble_eq_true rfl) rfl ?_
  intro p e s m args below meth c Q hQ B
  unfold f_Mo_mile_94 at h
  refine x_aload_n (pc := 0) B 0 dX12_mile_0 rfl rfl ?_
  refine x_aload_n (pc := 1) B 0 dX12_mile_1 rfl rfl ?_
  refine x_get (T := TX12) (pc := 2) B 1 oi_94 rfl uw_12 (by decide) rfl tw_1300 rfl dX12_mile_2 ?_
  refine x_iconst (v := 0) (pc := 5) B dX12_mile_5 rfl ?_
  refine x_iald_c (j := 0) (pc := 6) B ai_95 (by decide) rfl dX12_mile_6 ?_
  refine x_iconst (v := (-1)) (pc := 7) B dX12_mile_7 rfl ?_
  refine x_iconst (v := (-1)) (pc := 8) B dX12_mile_8 rfl ?_
  refine x_iconst (v := 0) (pc := 9) B dX12_mile_9 rfl ?_
  obtain ⟨q1, hq1, h⟩ := bnd h
  refine x_callV (rest := []) (st' := []) (pc := 10) B oi_94 rfl (C_Mo_looks_94 (M0.1 95 0) (-1) (-1) 0 M0 _ hq1) tw_1475 tw_1472 tw_1474 tw_50 tw_111 hd_Mo_looks_94 ⟨Nat.le_of_ble_eq_true rfl, Nat.le_of_ble_eq_true rfl⟩ rfl rfl (Nat.le_of_ble_eq_true rfl) rfl dX12_mile_10 ?_
  refine x_iload_n (pc := 13) B 1 dX12_mile_13 rfl rfl ?_
  rcases bcase (decide (a1 = 0)) with hc2 | hc2
  · have h := ift hc2 h
    refine x_tableIn (cv := 0) (tgt := 44) (pc := 14) B dX12_mile_14 (of_decide_eq_true hc2) (by decide) (by decide) rfl rfl ?_
    refine x_aload_n (pc := 44) B 0 dX12_mile_44 rfl rfl ?_
    obtain ⟨q3, hq3, h⟩ := bnd h
    refine x_callV (rest := []) (st' := [.int (bI q3.1)]) (pc := 45) B oi_94 rfl (C_Mo_isEnough_94  q1 _ hq3) tw_1657 tw_1654 tw_1656 tw_79 tw_111 hd_Mo_isEnough_94 ⟨Nat.le_of_ble_eq_true rfl, Nat.le_of_ble_eq_true rfl⟩ rfl rfl (Nat.le_of_ble_eq_true rfl) rfl dX12_mile_45 ?_
    refine x_if_eq_b (tgt := 55) (pc := 48) B dX12_mile_48 rfl (fun hc4 => ?_) (fun hc4 => ?_)
    · have h := iff_ hc4 h
      refine x_iconst (v := 0) (pc := 55) B dX12_mile_55 rfl ?_
      obtain rfl := Option.some.inj h
      exact x_iret (pc := 56) B hQ dX12_mile_56
    · have h := ift hc4 h
      refine x_iconst (v := 1) (pc := 51) B dX12_mile_51 rfl ?_
      refine x_goto (tgt := 56) (pc := 52) B dX12_mile_52 rfl ?_
      obtain rfl := Option.some.inj h
      exact x_iret (pc := 56) B hQ dX12_mile_56
  · have h := iff_ hc2 h
    rcases bcase (decide (a1 = 1)) with hc5 | hc5
    · have h := ift hc5 h
      refine x_tableIn (cv := 1) (tgt := 57) (pc := 14) B dX12_mile_14 (of_decide_eq_true hc5) (by decide) (by decide) rfl rfl ?_
      refine x_aload_n (pc := 57) B 0 dX12_mile_57 rfl rfl ?_
      refine x_get (T := TX12) (pc := 58) B 1 oi_94 rfl uw_12 (by decide) rfl tw_1300 rfl dX12_mile_58 ?_
      refine x_iconst (v := 5) (pc := 61) B dX12_mile_61 rfl ?_
      refine x_iald_c (j := 5) (pc := 62) B ai_95 (by decide) rfl dX12_mile_62 ?_
      obtain rfl := Option.some.inj h
      exact x_iret (pc := 63) B hQ dX12_mile_63
    · have h := iff_ hc5 h
      rcases bcase (decide (a1 = 2)) with hc6 | hc6
      · have h := ift hc6 h
        refine x_tableIn (cv := 2) (tgt := 64) (pc := 14) B dX12_mile_14 (of_decide_eq_true hc6) (by decide) (by decide) rfl rfl ?_
        refine x_aload_n (pc := 64) B 0 dX12_mile_64 rfl rfl ?_
        obtain ⟨q7, hq7, h⟩ := bnd h
        refine x_callV (rest := []) (st' := [.int q7]) (pc := 65) B oi_94 rfl (C_Mo_onLine_94  q1 _ hq7) tw_1661 tw_1658 tw_1660 tw_80 tw_111 hd_Mo_onLine_94 ⟨Nat.le_of_ble_eq_true rfl, Nat.le_of_ble_eq_true rfl⟩ rfl rfl (Nat.le_of_ble_eq_true rfl) rfl dX12_mile_65 ?_
        obtain rfl := Option.some.inj h
        exact x_iret (pc := 68) B hQ dX12_mile_68
      · have h := iff_ hc6 h
        rcases bcase (decide (a1 = 3)) with hc8 | hc8
        · have h := ift hc8 h
          refine x_tableIn (cv := 3) (tgt := 69) (pc := 14) B dX12_mile_14 (of_decide_eq_true hc8) (by decide) (by decide) rfl rfl ?_
          refine x_iconst (v := 0) (pc := 69) B dX12_mile_69 rfl ?_
          refine x_istore_n (lv' := [(2, .int 0), (0, .ref (ad 94)), (1, .int a1)]) (pc := 70) B dX12_mile_70 rfl (by decide) rfl ?_
          refine x_iconst (v := 0) (pc := 71) B dX12_mile_71 rfl ?_
          refine x_istore_n (lv' := [(3, .int 0), (2, .int 0), (0, .ref (ad 94)), (1, .int a1)]) (pc := 72) B dX12_mile_72 rfl (by decide) rfl ?_
          refine x_pick (lv' := [(0, .ref (ad 94)), (2, .int 0), (3, .int 0)]) [2, 1, 0] rfl ?_
          obtain ⟨q18, hq18, h⟩ := bnd h
          refine x_loop (Head := fun (y9 : Int32 × Int32) => XX D ad cI cJ p l e (Rm 515 14339) s m args below meth c Q 4 q1 73 [(0, .ref (ad 94)), (2, .int y9.1), (3, .int y9.2)] []) (Ex := fun (q18 : Int32) => XX D ad cI cJ p l e (Rm 515 14339) s m args below meth c Q 4 q1 119 [(2, .int q18)] []) (fun y9 r h hback hexit => ?_) FU _ q18 hq18 ?_
          · unfold b_Mo_mile_94_73 at h
            refine x_iload_n (pc := 73) B 2 dX12_mile_73 rfl rfl ?_
            refine x_bipush (v := 48) (pc := 74) B dX12_mile_74 rfl ?_
            refine x_icmp_ge (tgt := 119) (pc := 76) B dX12_mile_76 rfl (fun hc10 => ?_) (fun hc10 => ?_)
            · have h := iff_ hc10 h
              refine x_pick (lv' := [(2, .int y9.1)]) [1] rfl ?_
              have z := hexit y9.1 (Option.some.inj h).symm
              exact z
            · have h := ift hc10 h
              refine x_iload_n (pc := 79) B 1 dX12_mile_79 rfl rfl ?_
              refine x_aload_n (pc := 80) B 0 dX12_mile_80 rfl rfl ?_
              refine x_get (T := TX12) (pc := 81) B 1 oi_94 rfl uw_12 (by decide) rfl tw_1300 rfl dX12_mile_81 ?_
              refine x_bipush (v := 116) (pc := 84) B dX12_mile_84 rfl ?_
              refine x_iload_n (pc := 86) B 2 dX12_mile_86 rfl rfl ?_
              refine x_iadd (pc := 87) B dX12_mile_87 ?_
              obtain ⟨hk11, h⟩ := ifn h
              refine x_iald (pc := 88) B ai_95 hk11 dX12_mile_88 ?_
              refine x_iconst (v := (-1)) (pc := 89) B dX12_mile_89 rfl ?_
              refine jn_k h (fun (u14 : Int32) => XX D ad cI cJ p l e (Rm 515 14339) s m args below meth c Q 4 q1 111 [(0, .ref (ad 94)), (3, .int y9.2)] [.int u14, .int y9.1]) (fun u14 h => ?_) (fun k15 h JJ => ?_)
              · refine x_iadd (pc := 111) B dX12_mile_111 ?_
                refine x_istore_n (lv' := [(2, .int (y9.1 + u14)), (0, .ref (ad 94)), (3, .int y9.2)]) (pc := 112) B dX12_mile_112 rfl (by decide) rfl ?_
                refine x_iinc (k := 2) (v := y9.2 + 1) (lv' := [(3, .int (y9.2 + 1)), (2, .int (y9.1 + u14)), (0, .ref (ad 94))]) (pc := 113) B dX12_mile_113 rfl rfl (by decide) rfl ?_
                refine x_goto (tgt := 73) (pc := 116) B dX12_mile_116 rfl ?_
                refine x_pick (lv' := [(0, .ref (ad 94)), (2, .int (y9.1 + u14)), (3, .int (y9.2 + 1))]) [2, 1, 0] rfl ?_
                have z := hback (y9.1 + u14, y9.2 + 1) (Option.some.inj h).symm
                exact z
              · refine x_icmp_eq (tgt := 110) (pc := 90) B dX12_mile_90 rfl (fun hc12 => ?_) (fun hc12 => ?_)
                · have h := ift hc12 h
                  refine x_iconst (v := 0) (pc := 110) B dX12_mile_110 rfl ?_
                  refine x_pick (lv' := [(0, .ref (ad 94)), (3, .int y9.2)]) [0, 2] rfl ?_
                  have z := JJ 0 h
                  exact z
                · have h := iff_ hc12 h
                  refine x_aload_n (pc := 93) B 0 dX12_mile_93 rfl rfl ?_
                  refine x_aload_n (pc := 94) B 0 dX12_mile_94 rfl rfl ?_
                  refine x_get (T := TX12) (pc := 95) B 1 oi_94 rfl uw_12 (by decide) rfl tw_1300 rfl dX12_mile_95 ?_
                  refine x_bipush (v := 116) (pc := 98) B dX12_mile_98 rfl ?_
                  refine x_iload_n (pc := 100) B 2 dX12_mile_100 rfl rfl ?_
                  refine x_iadd (pc := 101) B dX12_mile_101 ?_
                  obtain ⟨hk16, h⟩ := ifn h
                  refine x_iald (pc := 102) B ai_95 hk16 dX12_mile_102 ?_
                  refine x_iload_n (pc := 103) B 2 dX12_mile_103 rfl rfl ?_
                  obtain ⟨q17, hq17, h⟩ := bnd h
                  refine x_callV (rest := [.int y9.1]) (st' := [.int q17, .int y9.1]) (pc := 104) B oi_94 rfl (C_Mo_costOf_94 (q1.1 95 (116 + y9.2).toNatClampNeg) y9.2 q1 _ hq17) tw_1421 tw_1418 tw_1420 tw_44 tw_111 hd_Mo_costOf_94 ⟨Nat.le_of_ble_eq_true rfl, Nat.le_of_ble_eq_true rfl⟩ rfl rfl (Nat.le_of_ble_eq_true rfl) rfl dX12_mile_104 ?_
                  refine x_goto (tgt := 111) (pc := 107) B dX12_mile_107 rfl ?_
                  refine x_pick (lv' := [(0, .ref (ad 94)), (3, .int y9.2)]) [0, 2] rfl ?_
                  have z := JJ q17 h
                  exact z
          · refine x_iload_n (pc := 119) B 0 dX12_mile_119 rfl rfl ?_
            obtain rfl := Option.some.inj h
            exact x_iret (pc := 120) B hQ dX12_mile_120
        · have h := iff_ hc8 h
          have e0 : ¬ a1.toInt = 0 := fun q => (of_decide_eq_false hc2) (Int32.toInt_inj.mp (q.trans (by decide : (0 : Int) = (0 : Int32).toInt)))
          have e1 : ¬ a1.toInt = 1 := fun q => (of_decide_eq_false hc5) (Int32.toInt_inj.mp (q.trans (by decide : (1 : Int) = (1 : Int32).toInt)))
          have e2 : ¬ a1.toInt = 2 := fun q => (of_decide_eq_false hc6) (Int32.toInt_inj.mp (q.trans (by decide : (2 : Int) = (2 : Int32).toInt)))
          have e3 : ¬ a1.toInt = 3 := fun q => (of_decide_eq_false hc8) (Int32.toInt_inj.mp (q.trans (by decide : (3 : Int) = (3 : Int32).toInt)))
          refine x_tableOut (tgt := 121) (pc := 14) B dX12_mile_14 (by omega) rfl ?_
          refine x_iconst (v := (-1)) (pc := 121) B dX12_mile_121 rfl ?_
          obtain rfl := Option.some.inj h
          exact x_iret (pc := 122) B hQ dX12_mile_122
-- CurrentFarmsModel.span(I)I [94]
abbrev y_Mo_span_94 : MethodName := ⟨"CurrentFarmsModel", "span", "(I)I"⟩
abbrev cX12_span : ByteArray := prog_14_method_62_code
theorem dX12_span_0 : decode cX12_span 0 = .ok (.iload_n 1, 1) := by decide +kernel
theorem dX12_span_1 : decode cX12_span 1 = .ok (.iconst 1, 1) := by decide +kernel
theorem dX12_span_2 : decode cX12_span 2 = .ok (.iconst 5, 1) := by decide +kernel
theorem dX12_span_3 : decode cX12_span 3 = .ok (.invokestatic 84, 3) := by decide +kernel
theorem dX12_span_6 : decode cX12_span 6 = .ok (.ifCond .ne 6, 3) := by decide +kernel
theorem dX12_span_9 : decode cX12_span 9 = .ok (.bipush (-2), 2) := by decide +kernel
theorem dX12_span_11 : decode cX12_span 11 = .ok (.ireturn, 1) := by decide +kernel
theorem dX12_span_12 : decode cX12_span 12 = .ok (.aload_n 0, 1) := by decide +kernel
theorem dX12_span_13 : decode cX12_span 13 = .ok (.getfield 7, 3) := by decide +kernel
theorem dX12_span_16 : decode cX12_span 16 = .ok (.bipush 7, 2) := by decide +kernel
theorem dX12_span_18 : decode cX12_span 18 = .ok (.iaload, 1) := by decide +kernel
theorem dX12_span_19 : decode cX12_span 19 = .ok (.istore_n 2, 1) := by decide +kernel
theorem dX12_span_20 : decode cX12_span 20 = .ok (.aload_n 0, 1) := by decide +kernel
theorem dX12_span_21 : decode cX12_span 21 = .ok (.getfield 7, 3) := by decide +kernel
theorem dX12_span_24 : decode cX12_span 24 = .ok (.bipush 7, 2) := by decide +kernel
theorem dX12_span_26 : decode cX12_span 26 = .ok (.iload_n 1, 1) := by decide +kernel
theorem dX12_span_27 : decode cX12_span 27 = .ok (.iastore, 1) := by decide +kernel
theorem dX12_span_28 : decode cX12_span 28 = .ok (.iload_n 2, 1) := by decide +kernel
theorem dX12_span_29 : decode cX12_span 29 = .ok (.ireturn, 1) := by decide +kernel
theorem hd_Mo_span_94 : y_Mo_span_94.cls ≠ "java/lang/invoke/MethodHandle" ∧ y_Mo_span_94.cls ≠ "java/lang/invoke/VarHandle" ∧ (parseMethodDescriptor y_Mo_span_94.desc).map (fun d => d.parameters.length) = some 1 := by decide +kernel
def f_Mo_span_94 (a1 : Int32) (M0 : Mem) : Option (Int32 × Mem) :=
  (f_Mo_in a1 1 5).bind fun q1 => if q1 then (jv_ (wI M0 95 7 a1) fun M3 => some (M0.1 95 7, M3)) else (some ((-2), M0))
set_option maxHeartbeats 4000000 in
set_option maxRecDepth 20000 in
theorem C_Mo_span_94 {D : va_G} {ad adK adV : Nat → Nat} {cI cJ : ClassId} {l : Launch} (a1 : Int32) (M0 : Mem) (o : Int32 × Mem) (h : f_Mo_span_94 a1 M0 = some o) : Ct D ad adK adV cI cJ l y_Mo_span_94 cX12_span 3 (some .int) 1 22 [.ref (ad 94), .int a1] M0 (some (.int o.1)) o.2 := by
  refine x_start (lv := [(0, .ref (ad 94)), (1, .int a1)]) (own := "CurrentFarmsModel") rfl (by decide) (Nat.le_of_ble_eq_true rfl) rfl ?_
  intro p e s m args below meth c Q hQ B
  unfold f_Mo_span_94 at h
  refine x_iload_n (pc := 0) B 1 dX12_span_0 rfl rfl ?_
  refine x_iconst (v := 1) (pc := 1) B dX12_span_1 rfl ?_
  refine x_iconst (v := 5) (pc := 2) B dX12_span_2 rfl ?_
  obtain ⟨q1, hq1, h⟩ := bnd h
  refine x_callS (rest := []) (st' := [.int (bI q1)]) (pc := 3) B (C_Mo_in a1 1 5 M0 _ hq1) tw_1406 tw_1404 tw_1405 tw_111 hd_Mo_in ⟨Nat.le_of_ble_eq_true rfl, Nat.le_of_ble_eq_true rfl⟩ rfl rfl (Nat.le_of_ble_eq_true rfl) rfl dX12_span_3 ?_
  refine x_if_ne_b (tgt := 12) (pc := 6) B dX12_span_6 rfl (fun hc2 => ?_) (fun hc2 => ?_)
  · have h := ift hc2 h
    refine x_aload_n (pc := 12) B 0 dX12_span_12 rfl rfl ?_
    refine x_get (T := TX12) (pc := 13) B 1 oi_94 rfl uw_12 (by decide) rfl tw_1300 rfl dX12_span_13 ?_
    refine x_bipush (v := 7) (pc := 16) B dX12_span_16 rfl ?_
    refine x_iald_c (j := 7) (pc := 18) B ai_95 (by decide) rfl dX12_span_18 ?_
    refine x_istore_n (lv' := [(2, .int (M0.1 95 7)), (0, .ref (ad 94)), (1, .int a1)]) (pc := 19) B dX12_span_19 rfl (by decide) rfl ?_
    refine x_aload_n (pc := 20) B 1 dX12_span_20 rfl rfl ?_
    refine x_get (T := TX12) (pc := 21) B 1 oi_94 rfl uw_12 (by decide) rfl tw_1300 rfl dX12_span_21 ?_
    refine x_bipush (v := 7) (pc := 24) B dX12_span_24 rfl ?_
    refine x_iload_n (pc := 26) B 2 dX12_span_26 rfl rfl ?_
    refine x_iast_c (j := 7) (pc := 27) B ai_95 (by decide) rfl dX12_span_27 ?_
    refine jv_m (P := fun M3 => XX D ad cI cJ p l e (Rm 1 22) s m args below meth c Q 3 M3 28 [(2, .int (M0.1 95 7)), (0, .ref (ad 94)), (1, .int a1)] []) h (fun M3 h => ?_)
    refine x_iload_n (pc := 28) B 0 dX12_span_28 rfl rfl ?_
    obtain rfl := Option.some.inj h
    exact x_iret (pc := 29) B hQ dX12_span_29
  · have h := iff_ hc2 h
    refine x_bipush (v := (-2)) (pc := 9) B dX12_span_9 rfl ?_
    obtain rfl := Option.some.inj h
    exact x_iret (pc := 11) B hQ dX12_span_11
-- CurrentFarmsModel.pole(I)I [94]
abbrev y_Mo_pole_94 : MethodName := ⟨"CurrentFarmsModel", "pole", "(I)I"⟩
abbrev cX12_pole : ByteArray := prog_14_method_63_code
theorem dX12_pole_0 : decode cX12_pole 0 = .ok (.aload_n 0, 1) := by decide +kernel
theorem dX12_pole_1 : decode cX12_pole 1 = .ok (.iload_n 1, 1) := by decide +kernel
theorem dX12_pole_2 : decode cX12_pole 2 = .ok (.invokevirtual 110, 3) := by decide +kernel
theorem dX12_pole_5 : decode cX12_pole 5 = .ok (.ifCond .ne 5, 3) := by decide +kernel
theorem dX12_pole_8 : decode cX12_pole 8 = .ok (.iconst (-1), 1) := by decide +kernel
theorem dX12_pole_9 : decode cX12_pole 9 = .ok (.ireturn, 1) := by decide +kernel
theorem dX12_pole_10 : decode cX12_pole 10 = .ok (.aload_n 0, 1) := by decide +kernel
theorem dX12_pole_11 : decode cX12_pole 11 = .ok (.aload_n 0, 1) := by decide +kernel
theorem dX12_pole_12 : decode cX12_pole 12 = .ok (.getfield 7, 3) := by decide +kernel
theorem dX12_pole_15 : decode cX12_pole 15 = .ok (.sipush 164, 3) := by decide +kernel
theorem dX12_pole_18 : decode cX12_pole 18 = .ok (.iload_n 1, 1) := by decide +kernel
theorem dX12_pole_19 : decode cX12_pole 19 = .ok (.iadd, 1) := by decide +kernel
theorem dX12_pole_20 : decode cX12_pole 20 = .ok (.iaload, 1) := by decide +kernel
theorem dX12_pole_21 : decode cX12_pole 21 = .ok (.invokevirtual 92, 3) := by decide +kernel
theorem dX12_pole_24 : decode cX12_pole 24 = .ok (.ifCond .ne 6, 3) := by decide +kernel
theorem dX12_pole_27 : decode cX12_pole 27 = .ok (.bipush (-3), 2) := by decide +kernel
theorem dX12_pole_29 : decode cX12_pole 29 = .ok (.ireturn, 1) := by decide +kernel
theorem dX12_pole_30 : decode cX12_pole 30 = .ok (.aload_n 0, 1) := by decide +kernel
theorem dX12_pole_31 : decode cX12_pole 31 = .ok (.aload_n 0, 1) := by decide +kernel
theorem dX12_pole_32 : decode cX12_pole 32 = .ok (.getfield 7, 3) := by decide +kernel
theorem dX12_pole_35 : decode cX12_pole 35 = .ok (.sipush 164, 3) := by decide +kernel
theorem dX12_pole_38 : decode cX12_pole 38 = .ok (.iload_n 1, 1) := by decide +kernel
theorem dX12_pole_39 : decode cX12_pole 39 = .ok (.iadd, 1) := by decide +kernel
theorem dX12_pole_40 : decode cX12_pole 40 = .ok (.iaload, 1) := by decide +kernel
theorem dX12_pole_41 : decode cX12_pole 41 = .ok (.invokevirtual 237, 3) := by decide +kernel
theorem dX12_pole_44 : decode cX12_pole 44 = .ok (.istore_n 2, 1) := by decide +kernel
theorem dX12_pole_45 : decode cX12_pole 45 = .ok (.aload_n 0, 1) := by decide +kernel
theorem dX12_pole_46 : decode cX12_pole 46 = .ok (.getfield 7, 3) := by decide +kernel
theorem dX12_pole_49 : decode cX12_pole 49 = .ok (.sipush 164, 3) := by decide +kernel
theorem dX12_pole_52 : decode cX12_pole 52 = .ok (.iload_n 1, 1) := by decide +kernel
theorem dX12_pole_53 : decode cX12_pole 53 = .ok (.iadd, 1) := by decide +kernel
theorem dX12_pole_54 : decode cX12_pole 54 = .ok (.iaload, 1) := by decide +kernel
theorem dX12_pole_55 : decode cX12_pole 55 = .ok (.istore_n 3, 1) := by decide +kernel
theorem dX12_pole_56 : decode cX12_pole 56 = .ok (.iconst 0, 1) := by decide +kernel
theorem dX12_pole_57 : decode cX12_pole 57 = .ok (.istore 4, 2) := by decide +kernel
theorem dX12_pole_59 : decode cX12_pole 59 = .ok (.iload 4, 2) := by decide +kernel
theorem dX12_pole_61 : decode cX12_pole 61 = .ok (.iload_n 2, 1) := by decide +kernel
theorem dX12_pole_62 : decode cX12_pole 62 = .ok (.if_icmp .gt 45, 3) := by decide +kernel
theorem dX12_pole_65 : decode cX12_pole 65 = .ok (.aload_n 0, 1) := by decide +kernel
theorem dX12_pole_66 : decode cX12_pole 66 = .ok (.getfield 28, 3) := by decide +kernel
theorem dX12_pole_69 : decode cX12_pole 69 = .ok (.iload 4, 2) := by decide +kernel
theorem dX12_pole_71 : decode cX12_pole 71 = .ok (.aload_n 0, 1) := by decide +kernel
theorem dX12_pole_72 : decode cX12_pole 72 = .ok (.getfield 7, 3) := by decide +kernel
theorem dX12_pole_75 : decode cX12_pole 75 = .ok (.bipush 20, 2) := by decide +kernel
theorem dX12_pole_77 : decode cX12_pole 77 = .ok (.iload_n 3, 1) := by decide +kernel
theorem dX12_pole_78 : decode cX12_pole 78 = .ok (.iadd, 1) := by decide +kernel
theorem dX12_pole_79 : decode cX12_pole 79 = .ok (.iaload, 1) := by decide +kernel
theorem dX12_pole_80 : decode cX12_pole 80 = .ok (.iastore, 1) := by decide +kernel
theorem dX12_pole_81 : decode cX12_pole 81 = .ok (.iload 4, 2) := by decide +kernel
theorem dX12_pole_83 : decode cX12_pole 83 = .ok (.iload_n 2, 1) := by decide +kernel
theorem dX12_pole_84 : decode cX12_pole 84 = .ok (.if_icmp .ge 15, 3) := by decide +kernel
theorem dX12_pole_87 : decode cX12_pole 87 = .ok (.aload_n 0, 1) := by decide +kernel
theorem dX12_pole_88 : decode cX12_pole 88 = .ok (.getfield 7, 3) := by decide +kernel
theorem dX12_pole_91 : decode cX12_pole 91 = .ok (.bipush 116, 2) := by decide +kernel
theorem dX12_pole_93 : decode cX12_pole 93 = .ok (.iload_n 3, 1) := by decide +kernel
theorem dX12_pole_94 : decode cX12_pole 94 = .ok (.iadd, 1) := by decide +kernel
theorem dX12_pole_95 : decode cX12_pole 95 = .ok (.iaload, 1) := by decide +kernel
theorem dX12_pole_96 : decode cX12_pole 96 = .ok (.goto 4, 3) := by decide +kernel
theorem dX12_pole_99 : decode cX12_pole 99 = .ok (.iload_n 3, 1) := by decide +kernel
theorem dX12_pole_100 : decode cX12_pole 100 = .ok (.istore_n 3, 1) := by decide +kernel
theorem dX12_pole_101 : decode cX12_pole 101 = .ok (.iinc 4 1, 3) := by decide +kernel
theorem dX12_pole_104 : decode cX12_pole 104 = .ok (.goto (-45), 3) := by decide +kernel
theorem dX12_pole_107 : decode cX12_pole 107 = .ok (.iconst 0, 1) := by decide +kernel
theorem dX12_pole_108 : decode cX12_pole 108 = .ok (.istore 4, 2) := by decide +kernel
theorem dX12_pole_110 : decode cX12_pole 110 = .ok (.iload 4, 2) := by decide +kernel
theorem dX12_pole_112 : decode cX12_pole 112 = .ok (.iload_n 2, 1) := by decide +kernel
theorem dX12_pole_113 : decode cX12_pole 113 = .ok (.if_icmp .gt 177, 3) := by decide +kernel
theorem dX12_pole_116 : decode cX12_pole 116 = .ok (.aload_n 0, 1) := by decide +kernel
theorem dX12_pole_117 : decode cX12_pole 117 = .ok (.getfield 31, 3) := by decide +kernel
theorem dX12_pole_120 : decode cX12_pole 120 = .ok (.iload 4, 2) := by decide +kernel
theorem dX12_pole_122 : decode cX12_pole 122 = .ok (.iload 4, 2) := by decide +kernel
theorem dX12_pole_124 : decode cX12_pole 124 = .ok (.ifCond .ne 7, 3) := by decide +kernel
theorem dX12_pole_127 : decode cX12_pole 127 = .ok (.iconst 1, 1) := by decide +kernel
theorem dX12_pole_128 : decode cX12_pole 128 = .ok (.goto 5, 3) := by decide +kernel
theorem dX12_pole_131 : decode cX12_pole 131 = .ok (.ldc 255, 2) := by decide +kernel
theorem dX12_pole_133 : decode cX12_pole 133 = .ok (.iastore, 1) := by decide +kernel
theorem dX12_pole_134 : decode cX12_pole 134 = .ok (.iload 4, 2) := by decide +kernel
theorem dX12_pole_136 : decode cX12_pole 136 = .ok (.iconst 1, 1) := by decide +kernel
theorem dX12_pole_137 : decode cX12_pole 137 = .ok (.isub, 1) := by decide +kernel
theorem dX12_pole_138 : decode cX12_pole 138 = .ok (.istore 5, 2) := by decide +kernel
theorem dX12_pole_140 : decode cX12_pole 140 = .ok (.iload 5, 2) := by decide +kernel
theorem dX12_pole_142 : decode cX12_pole 142 = .ok (.ifCond .lt 142, 3) := by decide +kernel
theorem dX12_pole_145 : decode cX12_pole 145 = .ok (.iload 5, 2) := by decide +kernel
theorem dX12_pole_147 : decode cX12_pole 147 = .ok (.iload 4, 2) := by decide +kernel
theorem dX12_pole_149 : decode cX12_pole 149 = .ok (.aload_n 0, 1) := by decide +kernel
theorem dX12_pole_150 : decode cX12_pole 150 = .ok (.getfield 7, 3) := by decide +kernel
theorem dX12_pole_153 : decode cX12_pole 153 = .ok (.bipush 7, 2) := by decide +kernel
theorem dX12_pole_155 : decode cX12_pole 155 = .ok (.iaload, 1) := by decide +kernel
theorem dX12_pole_156 : decode cX12_pole 156 = .ok (.isub, 1) := by decide +kernel
theorem dX12_pole_157 : decode cX12_pole 157 = .ok (.if_icmp .lt 127, 3) := by decide +kernel
theorem dX12_pole_160 : decode cX12_pole 160 = .ok (.iconst 1, 1) := by decide +kernel
theorem dX12_pole_161 : decode cX12_pole 161 = .ok (.istore 6, 2) := by decide +kernel
theorem dX12_pole_163 : decode cX12_pole 163 = .ok (.iload 5, 2) := by decide +kernel
theorem dX12_pole_165 : decode cX12_pole 165 = .ok (.iconst 1, 1) := by decide +kernel
theorem dX12_pole_166 : decode cX12_pole 166 = .ok (.iadd, 1) := by decide +kernel
theorem dX12_pole_167 : decode cX12_pole 167 = .ok (.istore 7, 2) := by decide +kernel
theorem dX12_pole_169 : decode cX12_pole 169 = .ok (.iload 7, 2) := by decide +kernel
theorem dX12_pole_171 : decode cX12_pole 171 = .ok (.iload 4, 2) := by decide +kernel
theorem dX12_pole_173 : decode cX12_pole 173 = .ok (.if_icmp .ge 55, 3) := by decide +kernel
theorem dX12_pole_176 : decode cX12_pole 176 = .ok (.iload 6, 2) := by decide +kernel
theorem dX12_pole_178 : decode cX12_pole 178 = .ok (.ifCond .eq 41, 3) := by decide +kernel
theorem dX12_pole_181 : decode cX12_pole 181 = .ok (.aload_n 0, 1) := by decide +kernel
theorem dX12_pole_182 : decode cX12_pole 182 = .ok (.getfield 28, 3) := by decide +kernel
theorem dX12_pole_185 : decode cX12_pole 185 = .ok (.iload 7, 2) := by decide +kernel
theorem dX12_pole_187 : decode cX12_pole 187 = .ok (.iaload, 1) := by decide +kernel
theorem dX12_pole_188 : decode cX12_pole 188 = .ok (.aload_n 0, 1) := by decide +kernel
theorem dX12_pole_189 : decode cX12_pole 189 = .ok (.getfield 28, 3) := by decide +kernel
theorem dX12_pole_192 : decode cX12_pole 192 = .ok (.iload 5, 2) := by decide +kernel
theorem dX12_pole_194 : decode cX12_pole 194 = .ok (.iaload, 1) := by decide +kernel
theorem dX12_pole_195 : decode cX12_pole 195 = .ok (.if_icmp .le 20, 3) := by decide +kernel
theorem dX12_pole_198 : decode cX12_pole 198 = .ok (.aload_n 0, 1) := by decide +kernel
theorem dX12_pole_199 : decode cX12_pole 199 = .ok (.getfield 28, 3) := by decide +kernel
theorem dX12_pole_202 : decode cX12_pole 202 = .ok (.iload 7, 2) := by decide +kernel
theorem dX12_pole_204 : decode cX12_pole 204 = .ok (.iaload, 1) := by decide +kernel
theorem dX12_pole_205 : decode cX12_pole 205 = .ok (.aload_n 0, 1) := by decide +kernel
theorem dX12_pole_206 : decode cX12_pole 206 = .ok (.getfield 28, 3) := by decide +kernel
theorem dX12_pole_209 : decode cX12_pole 209 = .ok (.iload 4, 2) := by decide +kernel
theorem dX12_pole_211 : decode cX12_pole 211 = .ok (.iaload, 1) := by decide +kernel
theorem dX12_pole_212 : decode cX12_pole 212 = .ok (.if_icmp .gt 7, 3) := by decide +kernel
theorem dX12_pole_215 : decode cX12_pole 215 = .ok (.iconst 1, 1) := by decide +kernel
theorem dX12_pole_216 : decode cX12_pole 216 = .ok (.goto 4, 3) := by decide +kernel
theorem dX12_pole_219 : decode cX12_pole 219 = .ok (.iconst 0, 1) := by decide +kernel
theorem dX12_pole_220 : decode cX12_pole 220 = .ok (.istore 6, 2) := by decide +kernel
theorem dX12_pole_222 : decode cX12_pole 222 = .ok (.iinc 7 1, 3) := by decide +kernel
theorem dX12_pole_225 : decode cX12_pole 225 = .ok (.goto (-56), 3) := by decide +kernel
theorem dX12_pole_228 : decode cX12_pole 228 = .ok (.aload_n 0, 1) := by decide +kernel
theorem dX12_pole_229 : decode cX12_pole 229 = .ok (.getfield 31, 3) := by decide +kernel
theorem dX12_pole_232 : decode cX12_pole 232 = .ok (.iload 4, 2) := by decide +kernel
theorem dX12_pole_234 : decode cX12_pole 234 = .ok (.iload 6, 2) := by decide +kernel
theorem dX12_pole_236 : decode cX12_pole 236 = .ok (.ifCond .eq 34, 3) := by decide +kernel
theorem dX12_pole_239 : decode cX12_pole 239 = .ok (.aload_n 0, 1) := by decide +kernel
theorem dX12_pole_240 : decode cX12_pole 240 = .ok (.getfield 31, 3) := by decide +kernel
theorem dX12_pole_243 : decode cX12_pole 243 = .ok (.iload 5, 2) := by decide +kernel
theorem dX12_pole_245 : decode cX12_pole 245 = .ok (.iaload, 1) := by decide +kernel
theorem dX12_pole_246 : decode cX12_pole 246 = .ok (.iconst 1, 1) := by decide +kernel
theorem dX12_pole_247 : decode cX12_pole 247 = .ok (.iadd, 1) := by decide +kernel
theorem dX12_pole_248 : decode cX12_pole 248 = .ok (.aload_n 0, 1) := by decide +kernel
theorem dX12_pole_249 : decode cX12_pole 249 = .ok (.getfield 31, 3) := by decide +kernel
theorem dX12_pole_252 : decode cX12_pole 252 = .ok (.iload 4, 2) := by decide +kernel
theorem dX12_pole_254 : decode cX12_pole 254 = .ok (.iaload, 1) := by decide +kernel
theorem dX12_pole_255 : decode cX12_pole 255 = .ok (.if_icmp .ge 15, 3) := by decide +kernel
theorem dX12_pole_258 : decode cX12_pole 258 = .ok (.aload_n 0, 1) := by decide +kernel
theorem dX12_pole_259 : decode cX12_pole 259 = .ok (.getfield 31, 3) := by decide +kernel
theorem dX12_pole_262 : decode cX12_pole 262 = .ok (.iload 5, 2) := by decide +kernel
theorem dX12_pole_264 : decode cX12_pole 264 = .ok (.iaload, 1) := by decide +kernel
theorem dX12_pole_265 : decode cX12_pole 265 = .ok (.iconst 1, 1) := by decide +kernel
theorem dX12_pole_266 : decode cX12_pole 266 = .ok (.iadd, 1) := by decide +kernel
theorem dX12_pole_267 : decode cX12_pole 267 = .ok (.goto 10, 3) := by decide +kernel
theorem dX12_pole_270 : decode cX12_pole 270 = .ok (.aload_n 0, 1) := by decide +kernel
theorem dX12_pole_271 : decode cX12_pole 271 = .ok (.getfield 31, 3) := by decide +kernel
theorem dX12_pole_274 : decode cX12_pole 274 = .ok (.iload 4, 2) := by decide +kernel
theorem dX12_pole_276 : decode cX12_pole 276 = .ok (.iaload, 1) := by decide +kernel
theorem dX12_pole_277 : decode cX12_pole 277 = .ok (.iastore, 1) := by decide +kernel
theorem dX12_pole_278 : decode cX12_pole 278 = .ok (.iinc 5 (-1), 3) := by decide +kernel
theorem dX12_pole_281 : decode cX12_pole 281 = .ok (.goto (-141), 3) := by decide +kernel
theorem dX12_pole_284 : decode cX12_pole 284 = .ok (.iinc 4 1, 3) := by decide +kernel
theorem dX12_pole_287 : decode cX12_pole 287 = .ok (.goto (-177), 3) := by decide +kernel
theorem dX12_pole_290 : decode cX12_pole 290 = .ok (.aload_n 0, 1) := by decide +kernel
theorem dX12_pole_291 : decode cX12_pole 291 = .ok (.getfield 31, 3) := by decide +kernel
theorem dX12_pole_294 : decode cX12_pole 294 = .ok (.iload_n 2, 1) := by decide +kernel
theorem dX12_pole_295 : decode cX12_pole 295 = .ok (.iaload, 1) := by decide +kernel
theorem dX12_pole_296 : decode cX12_pole 296 = .ok (.ldc 255, 2) := by decide +kernel
theorem dX12_pole_298 : decode cX12_pole 298 = .ok (.if_icmp .lt 8, 3) := by decide +kernel
theorem dX12_pole_301 : decode cX12_pole 301 = .ok (.bipush (-5), 2) := by decide +kernel
theorem dX12_pole_303 : decode cX12_pole 303 = .ok (.goto 9, 3) := by decide +kernel
theorem dX12_pole_306 : decode cX12_pole 306 = .ok (.aload_n 0, 1) := by decide +kernel
theorem dX12_pole_307 : decode cX12_pole 307 = .ok (.getfield 31, 3) := by decide +kernel
theorem dX12_pole_310 : decode cX12_pole 310 = .ok (.iload_n 2, 1) := by decide +kernel
theorem dX12_pole_311 : decode cX12_pole 311 = .ok (.iaload, 1) := by decide +kernel
theorem dX12_pole_312 : decode cX12_pole 312 = .ok (.ireturn, 1) := by decide +kernel
theorem hd_Mo_pole_94 : y_Mo_pole_94.cls ≠ "java/lang/invoke/MethodHandle" ∧ y_Mo_pole_94.cls ≠ "java/lang/invoke/VarHandle" ∧ (parseMethodDescriptor y_Mo_pole_94.desc).map (fun d => d.parameters.length) = some 1 := by decide +kernel
def b_Mo_pole_94_59 (q7 : Int32) (y9 : Int32 × Int32 × Mem) : Option ((Int32 × Int32 × Mem) ⊕ (Mem)) :=
  if decide (y9.2.1 ≤ q7) then (if inb (20 + y9.1) 4700 then if inb y9.2.1 48 then jv_ (wI y9.2.2 101 y9.2.1.toNatClampNeg (y9.2.2.1 95 (20 + y9.1).toNatClampNeg)) fun M13 => if decide (y9.2.1 < q7) then (if inb (116 + y9.1) 4700 then some (.inl (M13.1 95 (116 + y9.1).toNatClampNeg, y9.2.1 + 1, M13)) else none) else (some (.inl (y9.1, y9.2.1 + 1, M13))) else none else none) else (some (.inr y9.2.2))
def b_Mo_pole_94_169 (y17 : Int32 × Mem) (y24 : Int32 × Mem) (y27 : Int32 × Int32) : Option ((Int32 × Int32) ⊕ (Int32)) :=
  if decide (y27.2 < y17.1) then (if decide (y27.1 = 0) then (some (.inl (0, y27.2 + 1))) else (if inb y27.2 48 then if inb y24.1 48 then if decide ((y24.2.1 101 y27.2.toNatClampNeg) ≤ (y24.2.1 101 y24.1.toNatClampNeg)) then (some (.inl (1, y27.2 + 1))) else (if inb y27.2 48 then if inb y17.1 48 then if decide ((y24.2.1 101 y27.2.toNatClampNeg) ≤ (y24.2.1 101 y17.1.toNatClampNeg)) then (some (.inl (1, y27.2 + 1))) else (some (.inl (0, y27.2 + 1))) else none else none) else none else none)) else (some (.inr y27.1))
def b_Mo_pole_94_140 (y17 : Int32 × Mem) (y24 : Int32 × Mem) : Option ((Int32 × Mem) ⊕ (Mem)) :=
  if decide (y24.1 < 0) then (some (.inr y24.2)) else (if decide (y24.1 < (y17.1 - (y24.2.1 95 7))) then (some (.inr y24.2)) else ((itr (b_Mo_pole_94_169 y17 y24) FU (1, y24.1 + 1)).bind fun q36 => jn_ (fun (u39 : Int32) => if inb y17.1 48 then jv_ (wI y24.2 102 y17.1.toNatClampNeg u39) fun M41 => some (.inl (y24.1 + (-1), M41)) else none) fun k42 => if decide (q36 = 0) then (if inb y17.1 48 then k42 (y24.2.1 102 y17.1.toNatClampNeg) else none) else (if inb y24.1 48 then if inb y17.1 48 then if decide (((y24.2.1 102 y24.1.toNatClampNeg) + 1) < (y24.2.1 102 y17.1.toNatClampNeg)) then (if inb y24.1 48 then k42 ((y24.2.1 102 y24.1.toNatClampNeg) + 1) else none) else (if inb y17.1 48 then k42 (y24.2.1 102 y17.1.toNatClampNeg) else none) else none else none)))
def b_Mo_pole_94_110 (q7 : Int32) (y17 : Int32 × Mem) : Option ((Int32 × Mem) ⊕ (Mem)) :=
  if decide (y17.1 ≤ q7) then (jv_ ((if decide (y17.1 = 0) then 1 else 1000000) : Int32) fun u21 => if inb y17.1 48 then jv_ (wI y17.2 102 y17.1.toNatClampNeg u21) fun M23 => (itr (b_Mo_pole_94_140 y17) FU (y17.1 - 1, M23)).bind fun q49 => some (.inl (y17.1 + 1, q49)) else none) else (some (.inr y17.2))
def f_Mo_pole_94 (a1 : Int32) (M0 : Mem) : Option (Int32 × Mem) :=
  (f_Mo_isFarm_94 a1 M0).bind fun q1 => if q1 then (if inb (164 + a1) 4700 then (f_Mo_isOnLine_94 (M0.1 95 (164 + a1).toNatClampNeg) M0).bind fun q4 => if q4 then (if inb (164 + a1) 4700 then (f_Mo_milesTo_94 (M0.1 95 (164 + a1).toNatClampNeg) M0).bind fun q7 => if inb (164 + a1) 4700 then (itr (b_Mo_pole_94_59 q7) FU (M0.1 95 (164 + a1).toNatClampNeg, 0, M0)).bind fun q16 => (itr (b_Mo_pole_94_110 q7) FU (0, q16)).bind fun q50 => if inb q7 48 then if decide ((q50.1 102 q7.toNatClampNeg) < 1000000) then (if inb q7 48 then some (q50.1 102 q7.toNatClampNeg, q50) else none) else (some ((-5), q50)) else none else none else none) else (some ((-3), M0)) else none) else (some ((-1), M0))
set_option maxHeartbeats 4000000 in
set_option maxRecDepth 20000 in
theorem C_Mo_pole_94 {D : va_G} {ad adK adV : Nat → Nat} {cI cJ : ClassId} {l : Launch} (a1 : Int32) (M0 : Mem) (o : Int32 × Mem) (h : f_Mo_pole_94 a1 M0 = some o) : Ct D ad adK adV cI cJ l y_Mo_pole_94 cX12_pole 8 (some .int) 2 44 [.ref (ad 94), .int a1] M0 (some (.int o.1)) o.2 := by
  refine x_start (lv := [(0, .ref (ad 94)), (1, .int a1)]) (own := "CurrentFarmsModel") rfl (by decide) (Nat.le_of_ble_eq_true rfl) rfl ?_
  intro p e s m args below meth c Q hQ B
  unfold f_Mo_pole_94 at h
  refine x_aload_n (pc := 0) B 0 dX12_pole_0 rfl rfl ?_
  refine x_iload_n (pc := 1) B 1 dX12_pole_1 rfl rfl ?_
  obtain ⟨q1, hq1, h⟩ := bnd h
  refine x_callV (rest := []) (st' := [.int (bI q1)]) (pc := 2) B oi_94 rfl (C_Mo_isFarm_94 a1 M0 _ hq1) tw_1448 tw_1445 tw_1447 tw_46 tw_111 hd_Mo_isFarm_94 ⟨Nat.le_of_ble_eq_true rfl, Nat.le_of_ble_eq_true rfl⟩ rfl rfl (Nat.le_of_ble_eq_true rfl) rfl dX12_pole_2 ?_
  refine x_if_ne_b (tgt := 10) (pc := 5) B dX12_pole_5 rfl (fun hc2 => ?_) (fun hc2 => ?_)
  · have h := ift hc2 h
    refine x_aload_n (pc := 10) B 0 dX12_pole_10 rfl rfl ?_
    refine x_aload_n (pc := 11) B 0 dX12_pole_11 rfl rfl ?_
    refine x_get (T := TX12) (pc := 12) B 1 oi_94 rfl uw_12 (by decide) rfl tw_1300 rfl dX12_pole_12 ?_
    refine x_sipush (v := 164) (pc := 15) B dX12_pole_15 rfl ?_
    refine x_iload_n (pc := 18) B 1 dX12_pole_18 rfl rfl ?_
    refine x_iadd (pc := 19) B dX12_pole_19 ?_
    obtain ⟨hk3, h⟩ := ifn h
    refine x_iald (pc := 20) B ai_95 hk3 dX12_pole_20 ?_
    obtain ⟨q4, hq4, h⟩ := bnd h
    refine x_callV (rest := []) (st' := [.int (bI q4)]) (pc := 21) B oi_94 rfl (C_Mo_isOnLine_94 (M0.1 95 (164 + a1).toNatClampNeg) M0 _ hq4) tw_1410 tw_1407 tw_1409 tw_43 tw_111 hd_Mo_isOnLine_94 ⟨Nat.le_of_ble_eq_true rfl, Nat.le_of_ble_eq_true rfl⟩ rfl rfl (Nat.le_of_ble_eq_true rfl) rfl dX12_pole_21 ?_
    refine x_if_ne_b (tgt := 30) (pc := 24) B dX12_pole_24 rfl (fun hc5 => ?_) (fun hc5 => ?_)
    · have h := ift hc5 h
      refine x_aload_n (pc := 30) B 0 dX12_pole_30 rfl rfl ?_
      refine x_aload_n (pc := 31) B 0 dX12_pole_31 rfl rfl ?_
      refine x_get (T := TX12) (pc := 32) B 1 oi_94 rfl uw_12 (by decide) rfl tw_1300 rfl dX12_pole_32 ?_
      refine x_sipush (v := 164) (pc := 35) B dX12_pole_35 rfl ?_
      refine x_iload_n (pc := 38) B 1 dX12_pole_38 rfl rfl ?_
      refine x_iadd (pc := 39) B dX12_pole_39 ?_
      obtain ⟨hk6, h⟩ := ifn h
      refine x_iald (pc := 40) B ai_95 hk6 dX12_pole_40 ?_
      obtain ⟨q7, hq7, h⟩ := bnd h
      refine x_callV (rest := []) (st' := [.int q7]) (pc := 41) B oi_94 rfl (C_Mo_milesTo_94 (M0.1 95 (164 + a1).toNatClampNeg) M0 _ hq7) tw_1507 tw_1504 tw_1506 tw_58 tw_111 hd_Mo_milesTo_94 ⟨Nat.le_of_ble_eq_true rfl, Nat.le_of_ble_eq_true rfl⟩ rfl rfl (Nat.le_of_ble_eq_true rfl) rfl dX12_pole_41 ?_
      refine x_istore_n (lv' := [(2, .int q7), (0, .ref (ad 94)), (1, .int a1)]) (pc := 44) B dX12_pole_44 rfl (by decide) rfl ?_
      refine x_aload_n (pc := 45) B 1 dX12_pole_45 rfl rfl ?_
      refine x_get (T := TX12) (pc := 46) B 1 oi_94 rfl uw_12 (by decide) rfl tw_1300 rfl dX12_pole_46 ?_
      refine x_sipush (v := 164) (pc := 49) B dX12_pole_49 rfl ?_
      refine x_iload_n (pc := 52) B 2 dX12_pole_52 rfl rfl ?_
      refine x_iadd (pc := 53) B dX12_pole_53 ?_
      obtain ⟨hk8, h⟩ := ifn h
      refine x_iald (pc := 54) B ai_95 hk8 dX12_pole_54 ?_
      refine x_istore_n (lv' := [(3, .int (M0.1 95 (164 + a1).toNatClampNeg)), (2, .int q7), (0, .ref (ad 94)), (1, .int a1)]) (pc := 55) B dX12_pole_55 rfl (by decide) rfl ?_
      refine x_iconst (v := 0) (pc := 56) B dX12_pole_56 rfl ?_
      refine x_istore (lv' := [(4, .int 0), (3, .int (M0.1 95 (164 + a1).toNatClampNeg)), (2, .int q7), (0, .ref (ad 94)), (1, .int a1)]) (pc := 57) B dX12_pole_57 (by decide) rfl ?_
      refine x_pick (lv' := [(0, .ref (ad 94)), (2, .int q7), (3, .int (M0.1 95 (164 + a1).toNatClampNeg)), (4, .int 0)]) [3, 2, 1, 0] rfl ?_
      obtain ⟨q16, hq16, h⟩ := bnd h
      refine x_loop (Head := fun (y9 : Int32 × Int32 × Mem) => XX D ad cI cJ p l e (Rm 2 44) s m args below meth c Q 8 y9.2.2 59 [(0, .ref (ad 94)), (2, .int q7), (3, .int y9.1), (4, .int y9.2.1)] []) (Ex := fun (q16 : Mem) => XX D ad cI cJ p l e (Rm 2 44) s m args below meth c Q 8 q16 107 [(0, .ref (ad 94)), (2, .int q7)] []) (fun y9 r h hback hexit => ?_) FU _ q16 hq16 ?_
      · unfold b_Mo_pole_94_59 at h
        refine x_iload (pc := 59) B 3 dX12_pole_59 rfl ?_
        refine x_iload_n (pc := 61) B 1 dX12_pole_61 rfl rfl ?_
        refine x_icmp_gt (tgt := 107) (pc := 62) B dX12_pole_62 rfl (fun hc10 => ?_) (fun hc10 => ?_)
        · have h := iff_ hc10 h
          refine x_pick (lv' := [(0, .ref (ad 94)), (2, .int q7)]) [0, 1] rfl ?_
          have z := hexit y9.2.2 (Option.some.inj h).symm
          exact z
        · have h := ift hc10 h
          refine x_aload_n (pc := 65) B 0 dX12_pole_65 rfl rfl ?_
          refine x_get (T := TX12) (pc := 66) B 11 oi_94 rfl uw_12 (by decide) rfl tw_1310 rfl dX12_pole_66 ?_
          refine x_iload (pc := 69) B 3 dX12_pole_69 rfl ?_
          refine x_aload_n (pc := 71) B 0 dX12_pole_71 rfl rfl ?_
          refine x_get (T := TX12) (pc := 72) B 1 oi_94 rfl uw_12 (by decide) rfl tw_1300 rfl dX12_pole_72 ?_
          refine x_bipush (v := 20) (pc := 75) B dX12_pole_75 rfl ?_
          refine x_iload_n (pc := 77) B 2 dX12_pole_77 rfl rfl ?_
          refine x_iadd (pc := 78) B dX12_pole_78 ?_
          obtain ⟨hk11, h⟩ := ifn h
          refine x_iald (pc := 79) B ai_95 hk11 dX12_pole_79 ?_
          obtain ⟨hk12, h⟩ := ifn h
          refine x_iast (pc := 80) B ai_101 hk12 dX12_pole_80 ?_
          refine jv_m (P := fun M13 => XX D ad cI cJ p l e (Rm 2 44) s m args below meth c Q 8 M13 81 [(0, .ref (ad 94)), (2, .int q7), (3, .int y9.1), (4, .int y9.2.1)] []) h (fun M13 h => ?_)
          refine x_iload (pc := 81) B 3 dX12_pole_81 rfl ?_
          refine x_iload_n (pc := 83) B 1 dX12_pole_83 rfl rfl ?_
          refine x_icmp_ge (tgt := 99) (pc := 84) B dX12_pole_84 rfl (fun hc14 => ?_) (fun hc14 => ?_)
          · have h := iff_ hc14 h
            refine x_iload_n (pc := 99) B 2 dX12_pole_99 rfl rfl ?_
            refine x_istore_n (lv' := [(3, .int y9.1), (0, .ref (ad 94)), (2, .int q7), (4, .int y9.2.1)]) (pc := 100) B dX12_pole_100 rfl (by decide) rfl ?_
            refine x_iinc (k := 3) (v := y9.2.1 + 1) (lv' := [(4, .int (y9.2.1 + 1)), (3, .int y9.1), (0, .ref (ad 94)), (2, .int q7)]) (pc := 101) B dX12_pole_101 rfl rfl (by decide) rfl ?_
            refine x_goto (tgt := 59) (pc := 104) B dX12_pole_104 rfl ?_
            refine x_pick (lv' := [(0, .ref (ad 94)), (2, .int q7), (3, .int y9.1), (4, .int (y9.2.1 + 1))]) [2, 3, 1, 0] rfl ?_
            have z := hback (y9.1, y9.2.1 + 1, M13) (Option.some.inj h).symm
            exact z
          · have h := ift hc14 h
            refine x_aload_n (pc := 87) B 0 dX12_pole_87 rfl rfl ?_
            refine x_get (T := TX12) (pc := 88) B 1 oi_94 rfl uw_12 (by decide) rfl tw_1300 rfl dX12_pole_88 ?_
            refine x_bipush (v := 116) (pc := 91) B dX12_pole_91 rfl ?_
            refine x_iload_n (pc := 93) B 2 dX12_pole_93 rfl rfl ?_
            refine x_iadd (pc := 94) B dX12_pole_94 ?_
            obtain ⟨hk15, h⟩ := ifn h
            refine x_iald (pc := 95) B ai_95 hk15 dX12_pole_95 ?_
            refine x_goto (tgt := 100) (pc := 96) B dX12_pole_96 rfl ?_
            refine x_istore_n (lv' := [(3, .int (M13.1 95 (116 + y9.1).toNatClampNeg)), (0, .ref (ad 94)), (2, .int q7), (4, .int y9.2.1)]) (pc := 100) B dX12_pole_100 rfl (by decide) rfl ?_
            refine x_iinc (k := 3) (v := y9.2.1 + 1) (lv' := [(4, .int (y9.2.1 + 1)), (3, .int (M13.1 95 (116 + y9.1).toNatClampNeg)), (0, .ref (ad 94)), (2, .int q7)]) (pc := 101) B dX12_pole_101 rfl rfl (by decide) rfl ?_
            refine x_goto (tgt := 59) (pc := 104) B dX12_pole_104 rfl ?_
            refine x_pick (lv' := [(0, .ref (ad 94)), (2, .int q7), (3, .int (M13.1 95 (116 + y9.1).toNatClampNeg)), (4, .int (y9.2.1 + 1))]) [2, 3, 1, 0] rfl ?_
            have z := hback (M13.1 95 (116 + y9.1).toNatClampNeg, y9.2.1 + 1, M13) (Option.some.inj h).symm
            exact z
      · refine x_iconst (v := 0) (pc := 107) B dX12_pole_107 rfl ?_
        refine x_istore (lv' := [(4, .int 0), (0, .ref (ad 94)), (2, .int q7)]) (pc := 108) B dX12_pole_108 (by decide) rfl ?_
        refine x_pick (lv' := [(0, .ref (ad 94)), (2, .int q7), (4, .int 0)]) [1, 2, 0] rfl ?_
        obtain ⟨q50, hq50, h⟩ := bnd h
        refine x_loop (Head := fun (y17 : Int32 × Mem) => XX D ad cI cJ p l e (Rm 2 44) s m args below meth c Q 8 y17.2 110 [(0, .ref (ad 94)), (2, .int q7), (4, .int y17.1)] []) (Ex := fun (q50 : Mem) => XX D ad cI cJ p l e (Rm 2 44) s m args below meth c Q 8 q50 290 [(0, .ref (ad 94)), (2, .int q7)] []) (fun y17 r h hback hexit => ?_) FU _ q50 hq50 ?_
        · unfold b_Mo_pole_94_110 at h
          refine x_iload (pc := 110) B 2 dX12_pole_110 rfl ?_
          refine x_iload_n (pc := 112) B 1 dX12_pole_112 rfl rfl ?_
          refine x_icmp_gt (tgt := 290) (pc := 113) B dX12_pole_113 rfl (fun hc18 => ?_) (fun hc18 => ?_)
          · have h := iff_ hc18 h
            refine x_pick (lv' := [(0, .ref (ad 94)), (2, .int q7)]) [0, 1] rfl ?_
            have z := hexit y17.2 (Option.some.inj h).symm
            exact z
          · have h := ift hc18 h
            refine x_aload_n (pc := 116) B 0 dX12_pole_116 rfl rfl ?_
            refine x_get (T := TX12) (pc := 117) B 12 oi_94 rfl uw_12 (by decide) rfl tw_1311 rfl dX12_pole_117 ?_
            refine x_iload (pc := 120) B 2 dX12_pole_120 rfl ?_
            refine x_iload (pc := 122) B 2 dX12_pole_122 rfl ?_
            refine jv_k h (fun (u21 : Int32) => XX D ad cI cJ p l e (Rm 2 44) s m args below meth c Q 8 y17.2 133 [(0, .ref (ad 94)), (2, .int q7), (4, .int y17.1)] [.int u21, .int y17.1, .ref (ad 102)]) (fun u21 h => ?_) (fun JJ => ?_)
            · obtain ⟨hk22, h⟩ := ifn h
              refine x_iast (pc := 133) B ai_102 hk22 dX12_pole_133 ?_
              refine jv_m (P := fun M23 => XX D ad cI cJ p l e (Rm 2 44) s m args below meth c Q 8 M23 134 [(0, .ref (ad 94)), (2, .int q7), (4, .int y17.1)] []) h (fun M23 h => ?_)
              refine x_iload (pc := 134) B 2 dX12_pole_134 rfl ?_
              refine x_iconst (v := 1) (pc := 136) B dX12_pole_136 rfl ?_
              refine x_isub (pc := 137) B dX12_pole_137 ?_
              refine x_istore (lv' := [(5, .int (y17.1 - 1)), (0, .ref (ad 94)), (2, .int q7), (4, .int y17.1)]) (pc := 138) B dX12_pole_138 (by decide) rfl ?_
              refine x_pick (lv' := [(0, .ref (ad 94)), (2, .int q7), (4, .int y17.1), (5, .int (y17.1 - 1))]) [1, 2, 3, 0] rfl ?_
              obtain ⟨q49, hq49, h⟩ := bnd h
              refine x_loop (Head := fun (y24 : Int32 × Mem) => XX D ad cI cJ p l e (Rm 2 44) s m args below meth c Q 8 y24.2 140 [(0, .ref (ad 94)), (2, .int q7), (4, .int y17.1), (5, .int y24.1)] []) (Ex := fun (q49 : Mem) => XX D ad cI cJ p l e (Rm 2 44) s m args below meth c Q 8 q49 284 [(0, .ref (ad 94)), (2, .int q7), (4, .int y17.1)] []) (fun y24 r h hback hexit => ?_) FU _ q49 hq49 ?_
              · unfold b_Mo_pole_94_140 at h
                refine x_iload (pc := 140) B 3 dX12_pole_140 rfl ?_
                refine x_if_lt (tgt := 284) (pc := 142) B dX12_pole_142 rfl (fun hc25 => ?_) (fun hc25 => ?_)
                · have h := ift hc25 h
                  refine x_pick (lv' := [(0, .ref (ad 94)), (2, .int q7), (4, .int y17.1)]) [0, 1, 2] rfl ?_
                  have z := hexit y24.2 (Option.some.inj h).symm
                  exact z
                · have h := iff_ hc25 h
                  refine x_iload (pc := 145) B 3 dX12_pole_145 rfl ?_
                  refine x_iload (pc := 147) B 2 dX12_pole_147 rfl ?_
                  refine x_aload_n (pc := 149) B 0 dX12_pole_149 rfl rfl ?_
                  refine x_get (T := TX12) (pc := 150) B 1 oi_94 rfl uw_12 (by decide) rfl tw_1300 rfl dX12_pole_150 ?_
                  refine x_bipush (v := 7) (pc := 153) B dX12_pole_153 rfl ?_
                  refine x_iald_c (j := 7) (pc := 155) B ai_95 (by decide) rfl dX12_pole_155 ?_
                  refine x_isub (pc := 156) B dX12_pole_156 ?_
                  refine x_icmp_lt (tgt := 284) (pc := 157) B dX12_pole_157 rfl (fun hc26 => ?_) (fun hc26 => ?_)
                  · have h := ift hc26 h
                    refine x_pick (lv' := [(0, .ref (ad 94)), (2, .int q7), (4, .int y17.1)]) [0, 1, 2] rfl ?_
                    have z := hexit y24.2 (Option.some.inj h).symm
                    exact z
                  · have h := iff_ hc26 h
                    refine x_iconst (v := 1) (pc := 160) B dX12_pole_160 rfl ?_
                    refine x_istore (lv' := [(6, .int 1), (0, .ref (ad 94)), (2, .int q7), (4, .int y17.1), (5, .int y24.1)]) (pc := 161) B dX12_pole_161 (by decide) rfl ?_
                    refine x_iload (pc := 163) B 4 dX12_pole_163 rfl ?_
                    refine x_iconst (v := 1) (pc := 165) B dX12_pole_165 rfl ?_
                    refine x_iadd (pc := 166) B dX12_pole_166 ?_
                    refine x_istore (lv' := [(7, .int (y24.1 + 1)), (6, .int 1), (0, .ref (ad 94)), (2, .int q7), (4, .int y17.1), (5, .int y24.1)]) (pc := 167) B dX12_pole_167 (by decide) rfl ?_
                    refine x_pick (lv' := [(0, .ref (ad 94)), (2, .int q7), (4, .int y17.1), (5, .int y24.1), (6, .int 1), (7, .int (y24.1 + 1))]) [2, 3, 4, 5, 1, 0] rfl ?_
                    obtain ⟨q36, hq36, h⟩ := bnd h
                    refine x_loop (Head := fun (y27 : Int32 × Int32) => XX D ad cI cJ p l e (Rm 2 44) s m args below meth c Q 8 y24.2 169 [(0, .ref (ad 94)), (2, .int q7), (4, .int y17.1), (5, .int y24.1), (6, .int y27.1), (7, .int y27.2)] []) (Ex := fun (q36 : Int32) => XX D ad cI cJ p l e (Rm 2 44) s m args below meth c Q 8 y24.2 228 [(0, .ref (ad 94)), (2, .int q7), (4, .int y17.1), (5, .int y24.1), (6, .int q36)] []) (fun y27 r h hback hexit => ?_) FU _ q36 hq36 ?_
                    · unfold b_Mo_pole_94_169 at h
                      refine x_iload (pc := 169) B 5 dX12_pole_169 rfl ?_
                      refine x_iload (pc := 171) B 2 dX12_pole_171 rfl ?_
                      refine x_icmp_ge (tgt := 228) (pc := 173) B dX12_pole_173 rfl (fun hc28 => ?_) (fun hc28 => ?_)
                      · have h := iff_ hc28 h
                        refine x_pick (lv' := [(0, .ref (ad 94)), (2, .int q7), (4, .int y17.1), (5, .int y24.1), (6, .int y27.1)]) [0, 1, 2, 3, 4] rfl ?_
                        have z := hexit y27.1 (Option.some.inj h).symm
                        exact z
                      · have h := ift hc28 h
                        refine x_iload (pc := 176) B 4 dX12_pole_176 rfl ?_
                        refine x_if_eq (tgt := 219) (pc := 178) B dX12_pole_178 rfl (fun hc29 => ?_) (fun hc29 => ?_)
                        · have h := ift hc29 h
                          refine x_iconst (v := 0) (pc := 219) B dX12_pole_219 rfl ?_
                          refine x_istore (lv' := [(6, .int 0), (0, .ref (ad 94)), (2, .int q7), (4, .int y17.1), (5, .int y24.1), (7, .int y27.2)]) (pc := 220) B dX12_pole_220 (by decide) rfl ?_
                          refine x_iinc (k := 5) (v := y27.2 + 1) (lv' := [(7, .int (y27.2 + 1)), (6, .int 0), (0, .ref (ad 94)), (2, .int q7), (4, .int y17.1), (5, .int y24.1)]) (pc := 222) B dX12_pole_222 rfl rfl (by decide) rfl ?_
                          refine x_goto (tgt := 169) (pc := 225) B dX12_pole_225 rfl ?_
                          refine x_pick (lv' := [(0, .ref (ad 94)), (2, .int q7), (4, .int y17.1), (5, .int y24.1), (6, .int 0), (7, .int (y27.2 + 1))]) [2, 3, 4, 5, 1, 0] rfl ?_
                          have z := hback (0, y27.2 + 1) (Option.some.inj h).symm
                          exact z
                        · have h := iff_ hc29 h
                          refine x_aload_n (pc := 181) B 0 dX12_pole_181 rfl rfl ?_
                          refine x_get (T := TX12) (pc := 182) B 11 oi_94 rfl uw_12 (by decide) rfl tw_1310 rfl dX12_pole_182 ?_
                          refine x_iload (pc := 185) B 5 dX12_pole_185 rfl ?_
                          obtain ⟨hk30, h⟩ := ifn h
                          refine x_iald (pc := 187) B ai_101 hk30 dX12_pole_187 ?_
                          refine x_aload_n (pc := 188) B 0 dX12_pole_188 rfl rfl ?_
                          refine x_get (T := TX12) (pc := 189) B 11 oi_94 rfl uw_12 (by decide) rfl tw_1310 rfl dX12_pole_189 ?_
                          refine x_iload (pc := 192) B 3 dX12_pole_192 rfl ?_
                          obtain ⟨hk31, h⟩ := ifn h
                          refine x_iald (pc := 194) B ai_101 hk31 dX12_pole_194 ?_
                          refine x_icmp_le (tgt := 215) (pc := 195) B dX12_pole_195 rfl (fun hc32 => ?_) (fun hc32 => ?_)
                          · have h := ift hc32 h
                            refine x_iconst (v := 1) (pc := 215) B dX12_pole_215 rfl ?_
                            refine x_goto (tgt := 220) (pc := 216) B dX12_pole_216 rfl ?_
                            refine x_istore (lv' := [(6, .int 1), (0, .ref (ad 94)), (2, .int q7), (4, .int y17.1), (5, .int y24.1), (7, .int y27.2)]) (pc := 220) B dX12_pole_220 (by decide) rfl ?_
                            refine x_iinc (k := 5) (v := y27.2 + 1) (lv' := [(7, .int (y27.2 + 1)), (6, .int 1), (0, .ref (ad 94)), (2, .int q7), (4, .int y17.1), (5, .int y24.1)]) (pc := 222) B dX12_pole_222 rfl rfl (by decide) rfl ?_
                            refine x_goto (tgt := 169) (pc := 225) B dX12_pole_225 rfl ?_
                            refine x_pick (lv' := [(0, .ref (ad 94)), (2, .int q7), (4, .int y17.1), (5, .int y24.1), (6, .int 1), (7, .int (y27.2 + 1))]) [2, 3, 4, 5, 1, 0] rfl ?_
                            have z := hback (1, y27.2 + 1) (Option.some.inj h).symm
                            exact z
                          · have h := iff_ hc32 h
                            refine x_aload_n (pc := 198) B 0 dX12_pole_198 rfl rfl ?_
                            refine x_get (T := TX12) (pc := 199) B 11 oi_94 rfl uw_12 (by decide) rfl tw_1310 rfl dX12_pole_199 ?_
                            refine x_iload (pc := 202) B 5 dX12_pole_202 rfl ?_
                            obtain ⟨hk33, h⟩ := ifn h
                            refine x_iald (pc := 204) B ai_101 hk33 dX12_pole_204 ?_
                            refine x_aload_n (pc := 205) B 0 dX12_pole_205 rfl rfl ?_
                            refine x_get (T := TX12) (pc := 206) B 11 oi_94 rfl uw_12 (by decide) rfl tw_1310 rfl dX12_pole_206 ?_
                            refine x_iload (pc := 209) B 2 dX12_pole_209 rfl ?_
                            obtain ⟨hk34, h⟩ := ifn h
                            refine x_iald (pc := 211) B ai_101 hk34 dX12_pole_211 ?_
                            refine x_icmp_gt (tgt := 219) (pc := 212) B dX12_pole_212 rfl (fun hc35 => ?_) (fun hc35 => ?_)
                            · have h := iff_ hc35 h
                              refine x_iconst (v := 0) (pc := 219) B dX12_pole_219 rfl ?_
                              refine x_istore (lv' := [(6, .int 0), (0, .ref (ad 94)), (2, .int q7), (4, .int y17.1), (5, .int y24.1), (7, .int y27.2)]) (pc := 220) B dX12_pole_220 (by decide) rfl ?_
                              refine x_iinc (k := 5) (v := y27.2 + 1) (lv' := [(7, .int (y27.2 + 1)), (6, .int 0), (0, .ref (ad 94)), (2, .int q7), (4, .int y17.1), (5, .int y24.1)]) (pc := 222) B dX12_pole_222 rfl rfl (by decide) rfl ?_
                              refine x_goto (tgt := 169) (pc := 225) B dX12_pole_225 rfl ?_
                              refine x_pick (lv' := [(0, .ref (ad 94)), (2, .int q7), (4, .int y17.1), (5, .int y24.1), (6, .int 0), (7, .int (y27.2 + 1))]) [2, 3, 4, 5, 1, 0] rfl ?_
                              have z := hback (0, y27.2 + 1) (Option.some.inj h).symm
                              exact z
                            · have h := ift hc35 h
                              refine x_iconst (v := 1) (pc := 215) B dX12_pole_215 rfl ?_
                              refine x_goto (tgt := 220) (pc := 216) B dX12_pole_216 rfl ?_
                              refine x_istore (lv' := [(6, .int 1), (0, .ref (ad 94)), (2, .int q7), (4, .int y17.1), (5, .int y24.1), (7, .int y27.2)]) (pc := 220) B dX12_pole_220 (by decide) rfl ?_
                              refine x_iinc (k := 5) (v := y27.2 + 1) (lv' := [(7, .int (y27.2 + 1)), (6, .int 1), (0, .ref (ad 94)), (2, .int q7), (4, .int y17.1), (5, .int y24.1)]) (pc := 222) B dX12_pole_222 rfl rfl (by decide) rfl ?_
                              refine x_goto (tgt := 169) (pc := 225) B dX12_pole_225 rfl ?_
                              refine x_pick (lv' := [(0, .ref (ad 94)), (2, .int q7), (4, .int y17.1), (5, .int y24.1), (6, .int 1), (7, .int (y27.2 + 1))]) [2, 3, 4, 5, 1, 0] rfl ?_
                              have z := hback (1, y27.2 + 1) (Option.some.inj h).symm
                              exact z
                    · refine x_aload_n (pc := 228) B 0 dX12_pole_228 rfl rfl ?_
                      refine x_get (T := TX12) (pc := 229) B 12 oi_94 rfl uw_12 (by decide) rfl tw_1311 rfl dX12_pole_229 ?_
                      refine x_iload (pc := 232) B 2 dX12_pole_232 rfl ?_
                      refine x_iload (pc := 234) B 4 dX12_pole_234 rfl ?_
                      refine jn_k h (fun (u39 : Int32) => XX D ad cI cJ p l e (Rm 2 44) s m args below meth c Q 8 y24.2 277 [(0, .ref (ad 94)), (2, .int q7), (4, .int y17.1), (5, .int y24.1)] [.int u39, .int y17.1, .ref (ad 102)]) (fun u39 h => ?_) (fun k42 h JJ => ?_)
                      · obtain ⟨hk40, h⟩ := ifn h
                        refine x_iast (pc := 277) B ai_102 hk40 dX12_pole_277 ?_
                        refine jv_m (P := fun M41 => XX D ad cI cJ p l e (Rm 2 44) s m args below meth c Q 8 M41 278 [(0, .ref (ad 94)), (2, .int q7), (4, .int y17.1), (5, .int y24.1)] []) h (fun M41 h => ?_)
                        refine x_iinc (k := 3) (v := y24.1 + (-1)) (lv' := [(5, .int (y24.1 + (-1))), (0, .ref (ad 94)), (2, .int q7), (4, .int y17.1)]) (pc := 278) B dX12_pole_278 rfl rfl (by decide) rfl ?_
                        refine x_goto (tgt := 140) (pc := 281) B dX12_pole_281 rfl ?_
                        refine x_pick (lv' := [(0, .ref (ad 94)), (2, .int q7), (4, .int y17.1), (5, .int (y24.1 + (-1)))]) [1, 2, 3, 0] rfl ?_
                        have z := hback (y24.1 + (-1), M41) (Option.some.inj h).symm
                        exact z
                      · refine x_if_eq (tgt := 270) (pc := 236) B dX12_pole_236 rfl (fun hc37 => ?_) (fun hc37 => ?_)
                        · have h := ift hc37 h
                          refine x_aload_n (pc := 270) B 0 dX12_pole_270 rfl rfl ?_
                          refine x_get (T := TX12) (pc := 271) B 12 oi_94 rfl uw_12 (by decide) rfl tw_1311 rfl dX12_pole_271 ?_
                          refine x_iload (pc := 274) B 2 dX12_pole_274 rfl ?_
                          obtain ⟨hk48, h⟩ := ifn h
                          refine x_iald (pc := 276) B ai_102 hk48 dX12_pole_276 ?_
                          refine x_pick (lv' := [(0, .ref (ad 94)), (2, .int q7), (4, .int y17.1), (5, .int y24.1)]) [0, 1, 2, 3] rfl ?_
                          have z := JJ (y24.2.1 102 y17.1.toNatClampNeg) h
                          exact z
                        · have h := iff_ hc37 h
                          refine x_aload_n (pc := 239) B 0 dX12_pole_239 rfl rfl ?_
                          refine x_get (T := TX12) (pc := 240) B 12 oi_94 rfl uw_12 (by decide) rfl tw_1311 rfl dX12_pole_240 ?_
                          refine x_iload (pc := 243) B 3 dX12_pole_243 rfl ?_
                          obtain ⟨hk43, h⟩ := ifn h
                          refine x_iald (pc := 245) B ai_102 hk43 dX12_pole_245 ?_
                          refine x_iconst (v := 1) (pc := 246) B dX12_pole_246 rfl ?_
                          refine x_iadd (pc := 247) B dX12_pole_247 ?_
                          refine x_aload_n (pc := 248) B 0 dX12_pole_248 rfl rfl ?_
                          refine x_get (T := TX12) (pc := 249) B 12 oi_94 rfl uw_12 (by decide) rfl tw_1311 rfl dX12_pole_249 ?_
                          refine x_iload (pc := 252) B 2 dX12_pole_252 rfl ?_
                          obtain ⟨hk44, h⟩ := ifn h
                          refine x_iald (pc := 254) B ai_102 hk44 dX12_pole_254 ?_
                          refine x_icmp_ge (tgt := 270) (pc := 255) B dX12_pole_255 rfl (fun hc45 => ?_) (fun hc45 => ?_)
                          · have h := iff_ hc45 h
                            refine x_aload_n (pc := 270) B 0 dX12_pole_270 rfl rfl ?_
                            refine x_get (T := TX12) (pc := 271) B 12 oi_94 rfl uw_12 (by decide) rfl tw_1311 rfl dX12_pole_271 ?_
                            refine x_iload (pc := 274) B 2 dX12_pole_274 rfl ?_
                            obtain ⟨hk47, h⟩ := ifn h
                            refine x_iald (pc := 276) B ai_102 hk47 dX12_pole_276 ?_
                            refine x_pick (lv' := [(0, .ref (ad 94)), (2, .int q7), (4, .int y17.1), (5, .int y24.1)]) [0, 1, 2, 3] rfl ?_
                            have z := JJ (y24.2.1 102 y17.1.toNatClampNeg) h
                            exact z
                          · have h := ift hc45 h
                            refine x_aload_n (pc := 258) B 0 dX12_pole_258 rfl rfl ?_
                            refine x_get (T := TX12) (pc := 259) B 12 oi_94 rfl uw_12 (by decide) rfl tw_1311 rfl dX12_pole_259 ?_
                            refine x_iload (pc := 262) B 3 dX12_pole_262 rfl ?_
                            obtain ⟨hk46, h⟩ := ifn h
                            refine x_iald (pc := 264) B ai_102 hk46 dX12_pole_264 ?_
                            refine x_iconst (v := 1) (pc := 265) B dX12_pole_265 rfl ?_
                            refine x_iadd (pc := 266) B dX12_pole_266 ?_
                            refine x_goto (tgt := 277) (pc := 267) B dX12_pole_267 rfl ?_
                            refine x_pick (lv' := [(0, .ref (ad 94)), (2, .int q7), (4, .int y17.1), (5, .int y24.1)]) [0, 1, 2, 3] rfl ?_
                            have z := JJ ((y24.2.1 102 y24.1.toNatClampNeg) + 1) h
                            exact z
              · refine x_iinc (k := 2) (v := y17.1 + 1) (lv' := [(4, .int (y17.1 + 1)), (0, .ref (ad 94)), (2, .int q7)]) (pc := 284) B dX12_pole_284 rfl rfl (by decide) rfl ?_
                refine x_goto (tgt := 110) (pc := 287) B dX12_pole_287 rfl ?_
                refine x_pick (lv' := [(0, .ref (ad 94)), (2, .int q7), (4, .int (y17.1 + 1))]) [1, 2, 0] rfl ?_
                have z := hback (y17.1 + 1, q49) (Option.some.inj h).symm
                exact z
            · refine x_if_ne (tgt := 131) (pc := 124) B dX12_pole_124 rfl (fun hc19 => ?_) (fun hc19 => ?_)
              · refine x_ldc (v := 1000000) (pc := 131) B tw_1645 dX12_pole_131 ?_
                have z := JJ 1000000 ((zif_f hc19).trans rfl)
                exact z
              · refine x_iconst (v := 1) (pc := 127) B dX12_pole_127 rfl ?_
                refine x_goto (tgt := 133) (pc := 128) B dX12_pole_128 rfl ?_
                have z := JJ 1 ((zif_t hc19).trans rfl)
                exact z
        · refine x_aload_n (pc := 290) B 0 dX12_pole_290 rfl rfl ?_
          refine x_get (T := TX12) (pc := 291) B 12 oi_94 rfl uw_12 (by decide) rfl tw_1311 rfl dX12_pole_291 ?_
          refine x_iload_n (pc := 294) B 1 dX12_pole_294 rfl rfl ?_
          obtain ⟨hk51, h⟩ := ifn h
          refine x_iald (pc := 295) B ai_102 hk51 dX12_pole_295 ?_
          refine x_ldc (v := 1000000) (pc := 296) B tw_1645 dX12_pole_296 ?_
          refine x_icmp_lt (tgt := 306) (pc := 298) B dX12_pole_298 rfl (fun hc52 => ?_) (fun hc52 => ?_)
          · have h := ift hc52 h
            refine x_aload_n (pc := 306) B 0 dX12_pole_306 rfl rfl ?_
            refine x_get (T := TX12) (pc := 307) B 12 oi_94 rfl uw_12 (by decide) rfl tw_1311 rfl dX12_pole_307 ?_
            refine x_iload_n (pc := 310) B 1 dX12_pole_310 rfl rfl ?_
            obtain ⟨hk53, h⟩ := ifn h
            refine x_iald (pc := 311) B ai_102 hk53 dX12_pole_311 ?_
            obtain rfl := Option.some.inj h
            exact x_iret (pc := 312) B hQ dX12_pole_312
          · have h := iff_ hc52 h
            refine x_bipush (v := (-5)) (pc := 301) B dX12_pole_301 rfl ?_
            refine x_goto (tgt := 312) (pc := 303) B dX12_pole_303 rfl ?_
            obtain rfl := Option.some.inj h
            exact x_iret (pc := 312) B hQ dX12_pole_312
    · have h := iff_ hc5 h
      refine x_bipush (v := (-3)) (pc := 27) B dX12_pole_27 rfl ?_
      obtain rfl := Option.some.inj h
      exact x_iret (pc := 29) B hQ dX12_pole_29
  · have h := iff_ hc2 h
    refine x_iconst (v := (-1)) (pc := 8) B dX12_pole_8 rfl ?_
    obtain rfl := Option.some.inj h
    exact x_iret (pc := 9) B hQ dX12_pole_9
-- CurrentFarmsModel.leftOut()I [94]
abbrev y_Mo_leftOut_94 : MethodName := ⟨"CurrentFarmsModel", "leftOut", "()I"⟩
abbrev cX12_leftOut : ByteArray := prog_14_method_64_code
theorem dX12_leftOut_0 : decode cX12_leftOut 0 = .ok (.iconst 0, 1) := by decide +kernel
theorem dX12_leftOut_1 : decode cX12_leftOut 1 = .ok (.istore_n 1, 1) := by decide +kernel
theorem dX12_leftOut_2 : decode cX12_leftOut 2 = .ok (.iconst 0, 1) := by decide +kernel
theorem dX12_leftOut_3 : decode cX12_leftOut 3 = .ok (.istore_n 2, 1) := by decide +kernel
theorem dX12_leftOut_4 : decode cX12_leftOut 4 = .ok (.iload_n 2, 1) := by decide +kernel
theorem dX12_leftOut_5 : decode cX12_leftOut 5 = .ok (.aload_n 0, 1) := by decide +kernel
theorem dX12_leftOut_6 : decode cX12_leftOut 6 = .ok (.getfield 7, 3) := by decide +kernel
theorem dX12_leftOut_9 : decode cX12_leftOut 9 = .ok (.iconst 1, 1) := by decide +kernel
theorem dX12_leftOut_10 : decode cX12_leftOut 10 = .ok (.iaload, 1) := by decide +kernel
theorem dX12_leftOut_11 : decode cX12_leftOut 11 = .ok (.if_icmp .ge 48, 3) := by decide +kernel
theorem dX12_leftOut_14 : decode cX12_leftOut 14 = .ok (.iload_n 1, 1) := by decide +kernel
theorem dX12_leftOut_15 : decode cX12_leftOut 15 = .ok (.aload_n 0, 1) := by decide +kernel
theorem dX12_leftOut_16 : decode cX12_leftOut 16 = .ok (.invokevirtual 140, 3) := by decide +kernel
theorem dX12_leftOut_19 : decode cX12_leftOut 19 = .ok (.iload_n 2, 1) := by decide +kernel
theorem dX12_leftOut_20 : decode cX12_leftOut 20 = .ok (.ishr, 1) := by decide +kernel
theorem dX12_leftOut_21 : decode cX12_leftOut 21 = .ok (.iconst 1, 1) := by decide +kernel
theorem dX12_leftOut_22 : decode cX12_leftOut 22 = .ok (.iand, 1) := by decide +kernel
theorem dX12_leftOut_23 : decode cX12_leftOut 23 = .ok (.iconst 1, 1) := by decide +kernel
theorem dX12_leftOut_24 : decode cX12_leftOut 24 = .ok (.if_icmp .ne 26, 3) := by decide +kernel
theorem dX12_leftOut_27 : decode cX12_leftOut 27 = .ok (.aload_n 0, 1) := by decide +kernel
theorem dX12_leftOut_28 : decode cX12_leftOut 28 = .ok (.aload_n 0, 1) := by decide +kernel
theorem dX12_leftOut_29 : decode cX12_leftOut 29 = .ok (.getfield 7, 3) := by decide +kernel
theorem dX12_leftOut_32 : decode cX12_leftOut 32 = .ok (.sipush 164, 3) := by decide +kernel
theorem dX12_leftOut_35 : decode cX12_leftOut 35 = .ok (.iload_n 2, 1) := by decide +kernel
theorem dX12_leftOut_36 : decode cX12_leftOut 36 = .ok (.iadd, 1) := by decide +kernel
theorem dX12_leftOut_37 : decode cX12_leftOut 37 = .ok (.iaload, 1) := by decide +kernel
theorem dX12_leftOut_38 : decode cX12_leftOut 38 = .ok (.invokevirtual 92, 3) := by decide +kernel
theorem dX12_leftOut_41 : decode cX12_leftOut 41 = .ok (.ifCond .ne 9, 3) := by decide +kernel
theorem dX12_leftOut_44 : decode cX12_leftOut 44 = .ok (.iconst 1, 1) := by decide +kernel
theorem dX12_leftOut_45 : decode cX12_leftOut 45 = .ok (.iload_n 2, 1) := by decide +kernel
theorem dX12_leftOut_46 : decode cX12_leftOut 46 = .ok (.ishl, 1) := by decide +kernel
theorem dX12_leftOut_47 : decode cX12_leftOut 47 = .ok (.goto 4, 3) := by decide +kernel
theorem dX12_leftOut_50 : decode cX12_leftOut 50 = .ok (.iconst 0, 1) := by decide +kernel
theorem dX12_leftOut_51 : decode cX12_leftOut 51 = .ok (.ior, 1) := by decide +kernel
theorem dX12_leftOut_52 : decode cX12_leftOut 52 = .ok (.istore_n 1, 1) := by decide +kernel
theorem dX12_leftOut_53 : decode cX12_leftOut 53 = .ok (.iinc 2 1, 3) := by decide +kernel
theorem dX12_leftOut_56 : decode cX12_leftOut 56 = .ok (.goto (-52), 3) := by decide +kernel
theorem dX12_leftOut_59 : decode cX12_leftOut 59 = .ok (.iload_n 1, 1) := by decide +kernel
theorem dX12_leftOut_60 : decode cX12_leftOut 60 = .ok (.ireturn, 1) := by decide +kernel
theorem hd_Mo_leftOut_94 : y_Mo_leftOut_94.cls ≠ "java/lang/invoke/MethodHandle" ∧ y_Mo_leftOut_94.cls ≠ "java/lang/invoke/VarHandle" ∧ (parseMethodDescriptor y_Mo_leftOut_94.desc).map (fun d => d.parameters.length) = some 0 := by decide +kernel
def b_Mo_leftOut_94_4 (M0 : Mem) (y1 : Int32 × Int32) : Option ((Int32 × Int32) ⊕ (Int32)) :=
  if decide (y1.2 < (M0.1 95 1)) then ((f_Mo_members_94 M0).bind fun q3 => jn_ (fun (u6 : Int32) => some (.inl (y1.1 ||| u6, y1.2 + 1))) fun k7 => if decide (((q3 >>> (y1.2 &&& 31)) &&& 1) = 1) then (if inb (164 + y1.2) 4700 then (f_Mo_isOnLine_94 (M0.1 95 (164 + y1.2).toNatClampNeg) M0).bind fun q9 => if q9 then (k7 0) else (k7 (1 <<< (y1.2 &&& 31))) else none) else (k7 0)) else (some (.inr y1.1))
def f_Mo_leftOut_94  (M0 : Mem) : Option (Int32) :=
  (itr (b_Mo_leftOut_94_4 M0) FU (0, 0)).bind fun q11 => some q11
set_option maxHeartbeats 4000000 in
set_option maxRecDepth 20000 in
theorem C_Mo_leftOut_94 {D : va_G} {ad adK adV : Nat → Nat} {cI cJ : ClassId} {l : Launch}  (M0 : Mem) (o : Int32) (h : f_Mo_leftOut_94  M0 = some o) : Ct D ad adK adV cI cJ l y_Mo_leftOut_94 cX12_leftOut 3 (some .int) 1 22 [.ref (ad 94)] M0 (some (.int o)) M0 := by
  refine x_start (lv := [(0, .ref (ad 94))]) (own := "CurrentFarmsModel") rfl (by decide) (Nat.le_of_ble_eq_true rfl) rfl ?_
  intro p e s m args below meth c Q hQ B
  unfold f_Mo_leftOut_94 at h
  refine x_iconst (v := 0) (pc := 0) B dX12_leftOut_0 rfl ?_
  refine x_istore_n (lv' := [(1, .int 0), (0, .ref (ad 94))]) (pc := 1) B dX12_leftOut_1 rfl (by decide) rfl ?_
  refine x_iconst (v := 0) (pc := 2) B dX12_leftOut_2 rfl ?_
  refine x_istore_n (lv' := [(2, .int 0), (1, .int 0), (0, .ref (ad 94))]) (pc := 3) B dX12_leftOut_3 rfl (by decide) rfl ?_
  refine x_pick (lv' := [(0, .ref (ad 94)), (1, .int 0), (2, .int 0)]) [2, 1, 0] rfl ?_
  obtain ⟨q11, hq11, h⟩ := bnd h
  refine x_loop (Head := fun (y1 : Int32 × Int32) => XX D ad cI cJ p l e (Rm 1 22) s m args below meth c Q 3 M0 4 [(0, .ref (ad 94)), (1, .int y1.1), (2, .int y1.2)] []) (Ex := fun (q11 : Int32) => XX D ad cI cJ p l e (Rm 1 22) s m args below meth c Q 3 M0 59 [(1, .int q11)] []) (fun y1 r h hback hexit => ?_) FU _ q11 hq11 ?_
  · unfold b_Mo_leftOut_94_4 at h
    refine x_iload_n (pc := 4) B 2 dX12_leftOut_4 rfl rfl ?_
    refine x_aload_n (pc := 5) B 0 dX12_leftOut_5 rfl rfl ?_
    refine x_get (T := TX12) (pc := 6) B 1 oi_94 rfl uw_12 (by decide) rfl tw_1300 rfl dX12_leftOut_6 ?_
    refine x_iconst (v := 1) (pc := 9) B dX12_leftOut_9 rfl ?_
    refine x_iald_c (j := 1) (pc := 10) B ai_95 (by decide) rfl dX12_leftOut_10 ?_
    refine x_icmp_ge (tgt := 59) (pc := 11) B dX12_leftOut_11 rfl (fun hc2 => ?_) (fun hc2 => ?_)
    · have h := iff_ hc2 h
      refine x_pick (lv' := [(1, .int y1.1)]) [1] rfl ?_
      have z := hexit y1.1 (Option.some.inj h).symm
      exact z
    · have h := ift hc2 h
      refine x_iload_n (pc := 14) B 1 dX12_leftOut_14 rfl rfl ?_
      refine x_aload_n (pc := 15) B 0 dX12_leftOut_15 rfl rfl ?_
      obtain ⟨q3, hq3, h⟩ := bnd h
      refine x_callV (rest := [.int y1.1]) (st' := [.int q3, .int y1.1]) (pc := 16) B oi_94 rfl (C_Mo_members_94  M0 _ hq3) tw_1585 tw_1582 tw_1584 tw_72 tw_111 hd_Mo_members_94 ⟨Nat.le_of_ble_eq_true rfl, Nat.le_of_ble_eq_true rfl⟩ rfl rfl (Nat.le_of_ble_eq_true rfl) rfl dX12_leftOut_16 ?_
      refine x_iload_n (pc := 19) B 2 dX12_leftOut_19 rfl rfl ?_
      refine x_ishr (pc := 20) B dX12_leftOut_20 ?_
      refine x_iconst (v := 1) (pc := 21) B dX12_leftOut_21 rfl ?_
      refine x_iand (pc := 22) B dX12_leftOut_22 ?_
      refine x_iconst (v := 1) (pc := 23) B dX12_leftOut_23 rfl ?_
      refine jn_k h (fun (u6 : Int32) => XX D ad cI cJ p l e (Rm 1 22) s m args below meth c Q 3 M0 51 [(0, .ref (ad 94)), (2, .int y1.2)] [.int u6, .int y1.1]) (fun u6 h => ?_) (fun k7 h JJ => ?_)
      · refine x_ior (pc := 51) B dX12_leftOut_51 ?_
        refine x_istore_n (lv' := [(1, .int (y1.1 ||| u6)), (0, .ref (ad 94)), (2, .int y1.2)]) (pc := 52) B dX12_leftOut_52 rfl (by decide) rfl ?_
        refine x_iinc (k := 2) (v := y1.2 + 1) (lv' := [(2, .int (y1.2 + 1)), (1, .int (y1.1 ||| u6)), (0, .ref (ad 94))]) (pc := 53) B dX12_leftOut_53 rfl rfl (by decide) rfl ?_
        refine x_goto (tgt := 4) (pc := 56) B dX12_leftOut_56 rfl ?_
        refine x_pick (lv' := [(0, .ref (ad 94)), (1, .int (y1.1 ||| u6)), (2, .int (y1.2 + 1))]) [2, 1, 0] rfl ?_
        have z := hback (y1.1 ||| u6, y1.2 + 1) (Option.some.inj h).symm
        exact z
      · refine x_icmp_ne (tgt := 50) (pc := 24) B dX12_leftOut_24 rfl (fun hc4 => ?_) (fun hc4 => ?_)
        · have h := iff_ hc4 h
          refine x_iconst (v := 0) (pc := 50) B dX12_leftOut_50 rfl ?_
          refine x_pick (lv' := [(0, .ref (ad 94)), (2, .int y1.2)]) [0, 2] rfl ?_
          have z := JJ 0 h
          exact z
        · have h := ift hc4 h
          refine x_aload_n (pc := 27) B 0 dX12_leftOut_27 rfl rfl ?_
          refine x_aload_n (pc := 28) B 0 dX12_leftOut_28 rfl rfl ?_
          refine x_get (T := TX12) (pc := 29) B 1 oi_94 rfl uw_12 (by decide) rfl tw_1300 rfl dX12_leftOut_29 ?_
          refine x_sipush (v := 164) (pc := 32) B dX12_leftOut_32 rfl ?_
          refine x_iload_n (pc := 35) B 2 dX12_leftOut_35 rfl rfl ?_
          refine x_iadd (pc := 36) B dX12_leftOut_36 ?_
          obtain ⟨hk8, h⟩ := ifn h
          refine x_iald (pc := 37) B ai_95 hk8 dX12_leftOut_37 ?_
          obtain ⟨q9, hq9, h⟩ := bnd h
          refine x_callV (rest := [.int y1.1]) (st' := [.int (bI q9), .int y1.1]) (pc := 38) B oi_94 rfl (C_Mo_isOnLine_94 (M0.1 95 (164 + y1.2).toNatClampNeg) M0 _ hq9) tw_1410 tw_1407 tw_1409 tw_43 tw_111 hd_Mo_isOnLine_94 ⟨Nat.le_of_ble_eq_true rfl, Nat.le_of_ble_eq_true rfl⟩ rfl rfl (Nat.le_of_ble_eq_true rfl) rfl dX12_leftOut_38 ?_
          refine x_if_ne_b (tgt := 50) (pc := 41) B dX12_leftOut_41 rfl (fun hc10 => ?_) (fun hc10 => ?_)
          · have h := ift hc10 h
            refine x_iconst (v := 0) (pc := 50) B dX12_leftOut_50 rfl ?_
            refine x_pick (lv' := [(0, .ref (ad 94)), (2, .int y1.2)]) [0, 2] rfl ?_
            have z := JJ 0 h
            exact z
          · have h := iff_ hc10 h
            refine x_iconst (v := 1) (pc := 44) B dX12_leftOut_44 rfl ?_
            refine x_iload_n (pc := 45) B 2 dX12_leftOut_45 rfl rfl ?_
            refine x_ishl (pc := 46) B dX12_leftOut_46 ?_
            refine x_goto (tgt := 51) (pc := 47) B dX12_leftOut_47 rfl ?_
            refine x_pick (lv' := [(0, .ref (ad 94)), (2, .int y1.2)]) [0, 2] rfl ?_
            have z := JJ (1 <<< (y1.2 &&& 31)) h
            exact z
  · refine x_iload_n (pc := 59) B 0 dX12_leftOut_59 rfl rfl ?_
    obtain rfl := Option.some.inj h
    exact x_iret (pc := 60) B hQ dX12_leftOut_60
-- CurrentFarmsModel.left()I [94]
abbrev y_Mo_left_94 : MethodName := ⟨"CurrentFarmsModel", "left", "()I"⟩
abbrev cX12_left : ByteArray := prog_14_method_65_code
theorem dX12_left_0 : decode cX12_left 0 = .ok (.aload_n 0, 1) := by decide +kernel
theorem dX12_left_1 : decode cX12_left 1 = .ok (.aload_n 0, 1) := by decide +kernel
theorem dX12_left_2 : decode cX12_left 2 = .ok (.getfield 7, 3) := by decide +kernel
theorem dX12_left_5 : decode cX12_left 5 = .ok (.iconst 0, 1) := by decide +kernel
theorem dX12_left_6 : decode cX12_left 6 = .ok (.iaload, 1) := by decide +kernel
theorem dX12_left_7 : decode cX12_left 7 = .ok (.iconst (-1), 1) := by decide +kernel
theorem dX12_left_8 : decode cX12_left 8 = .ok (.iconst (-1), 1) := by decide +kernel
theorem dX12_left_9 : decode cX12_left 9 = .ok (.iconst 0, 1) := by decide +kernel
theorem dX12_left_10 : decode cX12_left 10 = .ok (.invokevirtual 130, 3) := by decide +kernel
theorem dX12_left_13 : decode cX12_left 13 = .ok (.aload_n 0, 1) := by decide +kernel
theorem dX12_left_14 : decode cX12_left 14 = .ok (.invokevirtual 266, 3) := by decide +kernel
theorem dX12_left_17 : decode cX12_left 17 = .ok (.ireturn, 1) := by decide +kernel
theorem hd_Mo_left_94 : y_Mo_left_94.cls ≠ "java/lang/invoke/MethodHandle" ∧ y_Mo_left_94.cls ≠ "java/lang/invoke/VarHandle" ∧ (parseMethodDescriptor y_Mo_left_94.desc).map (fun d => d.parameters.length) = some 0 := by decide +kernel
def f_Mo_left_94  (M0 : Mem) : Option (Int32 × Mem) :=
  (f_Mo_looks_94 (M0.1 95 0) (-1) (-1) 0 M0).bind fun q1 => (f_Mo_leftOut_94 q1).bind fun q2 => some (q2, q1)
set_option maxHeartbeats 4000000 in
set_option maxRecDepth 20000 in
theorem C_Mo_left_94 {D : va_G} {ad adK adV : Nat → Nat} {cI cJ : ClassId} {l : Launch}  (M0 : Mem) (o : Int32 × Mem) (h : f_Mo_left_94  M0 = some o) : Ct D ad adK adV cI cJ l y_Mo_left_94 cX12_left 1 (some .int) 2 54 [.ref (ad 94)] M0 (some (.int o.1)) o.2 := by
  refine x_start (lv := [(0, .ref (ad 94))]) (own := "CurrentFarmsModel") rfl (by decide) (Nat.le_of_ble_eq_true rfl) rfl ?_
  intro p e s m args below meth c Q hQ B
  unfold f_Mo_left_94 at h
  refine x_aload_n (pc := 0) B 0 dX12_left_0 rfl rfl ?_
  refine x_aload_n (pc := 1) B 0 dX12_left_1 rfl rfl ?_
  refine x_get (T := TX12) (pc := 2) B 1 oi_94 rfl uw_12 (by decide) rfl tw_1300 rfl dX12_left_2 ?_
  refine x_iconst (v := 0) (pc := 5) B dX12_left_5 rfl ?_
  refine x_iald_c (j := 0) (pc := 6) B ai_95 (by decide) rfl dX12_left_6 ?_
  refine x_iconst (v := (-1)) (pc := 7) B dX12_left_7 rfl ?_
  refine x_iconst (v := (-1)) (pc := 8) B dX12_left_8 rfl ?_
  refine x_iconst (v := 0) (pc := 9) B dX12_left_9 rfl ?_
  obtain ⟨q1, hq1, h⟩ := bnd h
  refine x_callV (rest := []) (st' := []) (pc := 10) B oi_94 rfl (C_Mo_looks_94 (M0.1 95 0) (-1) (-1) 0 M0 _ hq1) tw_1475 tw_1472 tw_1474 tw_50 tw_111 hd_Mo_looks_94 ⟨Nat.le_of_ble_eq_true rfl, Nat.le_of_ble_eq_true rfl⟩ rfl rfl (Nat.le_of_ble_eq_true rfl) rfl dX12_left_10 ?_
  refine x_aload_n (pc := 13) B 0 dX12_left_13 rfl rfl ?_
  obtain ⟨q2, hq2, h⟩ := bnd h
  refine x_callV (rest := []) (st' := [.int q2]) (pc := 14) B oi_94 rfl (C_Mo_leftOut_94  q1 _ hq2) tw_1677 tw_1674 tw_1676 tw_81 tw_111 hd_Mo_leftOut_94 ⟨Nat.le_of_ble_eq_true rfl, Nat.le_of_ble_eq_true rfl⟩ rfl rfl (Nat.le_of_ble_eq_true rfl) rfl dX12_left_14 ?_
  obtain rfl := Option.some.inj h
  exact x_iret (pc := 17) B hQ dX12_left_17
-- CurrentFarmsModel.works()V [94]
abbrev y_Mo_works_94 : MethodName := ⟨"CurrentFarmsModel", "works", "()V"⟩
abbrev cX12_works : ByteArray := prog_14_method_66_code
theorem dX12_works_0 : decode cX12_works 0 = .ok (.iconst 0, 1) := by decide +kernel
theorem dX12_works_1 : decode cX12_works 1 = .ok (.istore_n 1, 1) := by decide +kernel
theorem dX12_works_2 : decode cX12_works 2 = .ok (.iload_n 1, 1) := by decide +kernel
theorem dX12_works_3 : decode cX12_works 3 = .ok (.bipush 48, 2) := by decide +kernel
theorem dX12_works_5 : decode cX12_works 5 = .ok (.if_icmp .ge 28, 3) := by decide +kernel
theorem dX12_works_8 : decode cX12_works 8 = .ok (.aload_n 0, 1) := by decide +kernel
theorem dX12_works_9 : decode cX12_works 9 = .ok (.getfield 34, 3) := by decide +kernel
theorem dX12_works_12 : decode cX12_works 12 = .ok (.iload_n 1, 1) := by decide +kernel
theorem dX12_works_13 : decode cX12_works 13 = .ok (.aload_n 0, 1) := by decide +kernel
theorem dX12_works_14 : decode cX12_works 14 = .ok (.iload_n 1, 1) := by decide +kernel
theorem dX12_works_15 : decode cX12_works 15 = .ok (.invokevirtual 92, 3) := by decide +kernel
theorem dX12_works_18 : decode cX12_works 18 = .ok (.ifCond .eq 7, 3) := by decide +kernel
theorem dX12_works_21 : decode cX12_works 21 = .ok (.iconst 0, 1) := by decide +kernel
theorem dX12_works_22 : decode cX12_works 22 = .ok (.goto 4, 3) := by decide +kernel
theorem dX12_works_25 : decode cX12_works 25 = .ok (.iconst (-1), 1) := by decide +kernel
theorem dX12_works_26 : decode cX12_works 26 = .ok (.iastore, 1) := by decide +kernel
theorem dX12_works_27 : decode cX12_works 27 = .ok (.iinc 1 1, 3) := by decide +kernel
theorem dX12_works_30 : decode cX12_works 30 = .ok (.goto (-28), 3) := by decide +kernel
theorem dX12_works_33 : decode cX12_works 33 = .ok (.iconst 1, 1) := by decide +kernel
theorem dX12_works_34 : decode cX12_works 34 = .ok (.istore_n 1, 1) := by decide +kernel
theorem dX12_works_35 : decode cX12_works 35 = .ok (.iload_n 1, 1) := by decide +kernel
theorem dX12_works_36 : decode cX12_works 36 = .ok (.ifCond .eq 118, 3) := by decide +kernel
theorem dX12_works_39 : decode cX12_works 39 = .ok (.iconst 0, 1) := by decide +kernel
theorem dX12_works_40 : decode cX12_works 40 = .ok (.istore_n 1, 1) := by decide +kernel
theorem dX12_works_41 : decode cX12_works 41 = .ok (.iconst 0, 1) := by decide +kernel
theorem dX12_works_42 : decode cX12_works 42 = .ok (.istore_n 2, 1) := by decide +kernel
theorem dX12_works_43 : decode cX12_works 43 = .ok (.iload_n 2, 1) := by decide +kernel
theorem dX12_works_44 : decode cX12_works 44 = .ok (.bipush 48, 2) := by decide +kernel
theorem dX12_works_46 : decode cX12_works 46 = .ok (.if_icmp .ge 105, 3) := by decide +kernel
theorem dX12_works_49 : decode cX12_works 49 = .ok (.iconst 0, 1) := by decide +kernel
theorem dX12_works_50 : decode cX12_works 50 = .ok (.istore_n 3, 1) := by decide +kernel
theorem dX12_works_51 : decode cX12_works 51 = .ok (.iload_n 3, 1) := by decide +kernel
theorem dX12_works_52 : decode cX12_works 52 = .ok (.bipush 48, 2) := by decide +kernel
theorem dX12_works_54 : decode cX12_works 54 = .ok (.if_icmp .ge 91, 3) := by decide +kernel
theorem dX12_works_57 : decode cX12_works 57 = .ok (.aload_n 0, 1) := by decide +kernel
theorem dX12_works_58 : decode cX12_works 58 = .ok (.getfield 34, 3) := by decide +kernel
theorem dX12_works_61 : decode cX12_works 61 = .ok (.iload_n 2, 1) := by decide +kernel
theorem dX12_works_62 : decode cX12_works 62 = .ok (.iaload, 1) := by decide +kernel
theorem dX12_works_63 : decode cX12_works 63 = .ok (.iconst (-1), 1) := by decide +kernel
theorem dX12_works_64 : decode cX12_works 64 = .ok (.if_icmp .eq 75, 3) := by decide +kernel
theorem dX12_works_67 : decode cX12_works 67 = .ok (.iload_n 2, 1) := by decide +kernel
theorem dX12_works_68 : decode cX12_works 68 = .ok (.iload_n 3, 1) := by decide +kernel
theorem dX12_works_69 : decode cX12_works 69 = .ok (.invokestatic 102, 3) := by decide +kernel
theorem dX12_works_72 : decode cX12_works 72 = .ok (.ifCond .eq 67, 3) := by decide +kernel
theorem dX12_works_75 : decode cX12_works 75 = .ok (.aload_n 0, 1) := by decide +kernel
theorem dX12_works_76 : decode cX12_works 76 = .ok (.iload_n 2, 1) := by decide +kernel
theorem dX12_works_77 : decode cX12_works 77 = .ok (.iload_n 3, 1) := by decide +kernel
theorem dX12_works_78 : decode cX12_works 78 = .ok (.invokevirtual 106, 3) := by decide +kernel
theorem dX12_works_81 : decode cX12_works 81 = .ok (.bipush (-5), 2) := by decide +kernel
theorem dX12_works_83 : decode cX12_works 83 = .ok (.if_icmp .eq 56, 3) := by decide +kernel
theorem dX12_works_86 : decode cX12_works 86 = .ok (.aload_n 0, 1) := by decide +kernel
theorem dX12_works_87 : decode cX12_works 87 = .ok (.getfield 34, 3) := by decide +kernel
theorem dX12_works_90 : decode cX12_works 90 = .ok (.iload_n 3, 1) := by decide +kernel
theorem dX12_works_91 : decode cX12_works 91 = .ok (.iaload, 1) := by decide +kernel
theorem dX12_works_92 : decode cX12_works 92 = .ok (.iconst (-1), 1) := by decide +kernel
theorem dX12_works_93 : decode cX12_works 93 = .ok (.if_icmp .eq 25, 3) := by decide +kernel
theorem dX12_works_96 : decode cX12_works 96 = .ok (.aload_n 0, 1) := by decide +kernel
theorem dX12_works_97 : decode cX12_works 97 = .ok (.getfield 34, 3) := by decide +kernel
theorem dX12_works_100 : decode cX12_works 100 = .ok (.iload_n 2, 1) := by decide +kernel
theorem dX12_works_101 : decode cX12_works 101 = .ok (.iaload, 1) := by decide +kernel
theorem dX12_works_102 : decode cX12_works 102 = .ok (.aload_n 0, 1) := by decide +kernel
theorem dX12_works_103 : decode cX12_works 103 = .ok (.iload_n 2, 1) := by decide +kernel
theorem dX12_works_104 : decode cX12_works 104 = .ok (.iload_n 3, 1) := by decide +kernel
theorem dX12_works_105 : decode cX12_works 105 = .ok (.invokevirtual 106, 3) := by decide +kernel
theorem dX12_works_108 : decode cX12_works 108 = .ok (.iadd, 1) := by decide +kernel
theorem dX12_works_109 : decode cX12_works 109 = .ok (.aload_n 0, 1) := by decide +kernel
theorem dX12_works_110 : decode cX12_works 110 = .ok (.getfield 34, 3) := by decide +kernel
theorem dX12_works_113 : decode cX12_works 113 = .ok (.iload_n 3, 1) := by decide +kernel
theorem dX12_works_114 : decode cX12_works 114 = .ok (.iaload, 1) := by decide +kernel
theorem dX12_works_115 : decode cX12_works 115 = .ok (.if_icmp .ge 24, 3) := by decide +kernel
theorem dX12_works_118 : decode cX12_works 118 = .ok (.aload_n 0, 1) := by decide +kernel
theorem dX12_works_119 : decode cX12_works 119 = .ok (.getfield 34, 3) := by decide +kernel
theorem dX12_works_122 : decode cX12_works 122 = .ok (.iload_n 3, 1) := by decide +kernel
theorem dX12_works_123 : decode cX12_works 123 = .ok (.aload_n 0, 1) := by decide +kernel
theorem dX12_works_124 : decode cX12_works 124 = .ok (.getfield 34, 3) := by decide +kernel
theorem dX12_works_127 : decode cX12_works 127 = .ok (.iload_n 2, 1) := by decide +kernel
theorem dX12_works_128 : decode cX12_works 128 = .ok (.iaload, 1) := by decide +kernel
theorem dX12_works_129 : decode cX12_works 129 = .ok (.aload_n 0, 1) := by decide +kernel
theorem dX12_works_130 : decode cX12_works 130 = .ok (.iload_n 2, 1) := by decide +kernel
theorem dX12_works_131 : decode cX12_works 131 = .ok (.iload_n 3, 1) := by decide +kernel
theorem dX12_works_132 : decode cX12_works 132 = .ok (.invokevirtual 106, 3) := by decide +kernel
theorem dX12_works_135 : decode cX12_works 135 = .ok (.iadd, 1) := by decide +kernel
theorem dX12_works_136 : decode cX12_works 136 = .ok (.iastore, 1) := by decide +kernel
theorem dX12_works_137 : decode cX12_works 137 = .ok (.iconst 1, 1) := by decide +kernel
theorem dX12_works_138 : decode cX12_works 138 = .ok (.istore_n 1, 1) := by decide +kernel
theorem dX12_works_139 : decode cX12_works 139 = .ok (.iinc 3 1, 3) := by decide +kernel
theorem dX12_works_142 : decode cX12_works 142 = .ok (.goto (-91), 3) := by decide +kernel
theorem dX12_works_145 : decode cX12_works 145 = .ok (.iinc 2 1, 3) := by decide +kernel
theorem dX12_works_148 : decode cX12_works 148 = .ok (.goto (-105), 3) := by decide +kernel
theorem dX12_works_151 : decode cX12_works 151 = .ok (.goto (-116), 3) := by decide +kernel
theorem dX12_works_154 : decode cX12_works 154 = .ok (.return_, 1) := by decide +kernel
theorem hd_Mo_works_94 : y_Mo_works_94.cls ≠ "java/lang/invoke/MethodHandle" ∧ y_Mo_works_94.cls ≠ "java/lang/invoke/VarHandle" ∧ (parseMethodDescriptor y_Mo_works_94.desc).map (fun d => d.parameters.length) = some 0 := by decide +kernel
def b_Mo_works_94_2  (y1 : Int32 × Mem) : Option ((Int32 × Mem) ⊕ (Mem)) :=
  if decide (y1.1 < 48) then ((f_Mo_isOnLine_94 y1.1 y1.2).bind fun q3 => jv_ ((if q3 then 0 else (-1)) : Int32) fun u6 => if inb y1.1 48 then jv_ (wI y1.2 103 y1.1.toNatClampNeg u6) fun M8 => some (.inl (y1.1 + 1, M8)) else none) else (some (.inr y1.2))
def b_Mo_works_94_51 (y12 : Int32 × Int32 × Mem) (y14 : Int32 × Int32 × Mem) : Option ((Int32 × Int32 × Mem) ⊕ (Int32 × Mem)) :=
  if decide (y14.2.1 < 48) then (if inb y12.2.1 48 then if decide ((y14.2.2.1 103 y12.2.1.toNatClampNeg) = (-1)) then (some (.inl (y14.1, y14.2.1 + 1, y14.2.2))) else ((f_Mo_areBeside y12.2.1 y14.2.1).bind fun q18 => if q18 then ((f_Mo_costOf_94 y12.2.1 y14.2.1 y14.2.2).bind fun q20 => if decide (q20 = (-5)) then (some (.inl (y14.1, y14.2.1 + 1, y14.2.2))) else (if inb y14.2.1 48 then if decide ((y14.2.2.1 103 y14.2.1.toNatClampNeg) = (-1)) then (if inb y12.2.1 48 then (f_Mo_costOf_94 y12.2.1 y14.2.1 y14.2.2).bind fun q33 => if inb y14.2.1 48 then jv_ (wI y14.2.2 103 y14.2.1.toNatClampNeg ((y14.2.2.1 103 y12.2.1.toNatClampNeg) + q33)) fun M35 => some (.inl (1, y14.2.1 + 1, M35)) else none else none) else (if inb y12.2.1 48 then (f_Mo_costOf_94 y12.2.1 y14.2.1 y14.2.2).bind fun q25 => if inb y14.2.1 48 then if decide (((y14.2.2.1 103 y12.2.1.toNatClampNeg) + q25) < (y14.2.2.1 103 y14.2.1.toNatClampNeg)) then (if inb y12.2.1 48 then (f_Mo_costOf_94 y12.2.1 y14.2.1 y14.2.2).bind fun q29 => if inb y14.2.1 48 then jv_ (wI y14.2.2 103 y14.2.1.toNatClampNeg ((y14.2.2.1 103 y12.2.1.toNatClampNeg) + q29)) fun M31 => some (.inl (1, y14.2.1 + 1, M31)) else none else none) else (some (.inl (y14.1, y14.2.1 + 1, y14.2.2))) else none else none) else none)) else (some (.inl (y14.1, y14.2.1 + 1, y14.2.2)))) else none) else (some (.inr (y14.1, y14.2.2)))
def b_Mo_works_94_43  (y12 : Int32 × Int32 × Mem) : Option ((Int32 × Int32 × Mem) ⊕ (Int32 × Mem)) :=
  if decide (y12.2.1 < 48) then ((itr (b_Mo_works_94_51 y12) FU (y12.1, 0, y12.2.2)).bind fun q36 => some (.inl (q36.1, y12.2.1 + 1, q36.2))) else (some (.inr (y12.1, y12.2.2)))
def b_Mo_works_94_35  (y10 : Int32 × Mem) : Option ((Int32 × Mem) ⊕ (Mem)) :=
  if decide (y10.1 = 0) then (some (.inr y10.2)) else ((itr (b_Mo_works_94_43) FU (0, 0, y10.2)).bind fun q37 => some (.inl (q37.1, q37.2)))
def f_Mo_works_94  (M0 : Mem) : Option (Mem) :=
  (itr (b_Mo_works_94_2) FU (0, M0)).bind fun q9 => (itr (b_Mo_works_94_35) FU (1, q9)).bind fun q38 => some q38
set_option maxHeartbeats 4000000 in
set_option maxRecDepth 20000 in
theorem C_Mo_works_94 {D : va_G} {ad adK adV : Nat → Nat} {cI cJ : ClassId} {l : Launch}  (M0 : Mem) (o : Mem) (h : f_Mo_works_94  M0 = some o) : Ct D ad adK adV cI cJ l y_Mo_works_94 cX12_works 4 none 2 44 [.ref (ad 94)] M0 none o := by
  refine x_start (lv := [(0, .ref (ad 94))]) (own := "CurrentFarmsModel") rfl (by decide) (Nat.le_of_ble_eq_true rfl) rfl ?_
  intro p e s m args below meth c Q hQ B
  unfold f_Mo_works_94 at h
  refine x_iconst (v := 0) (pc := 0) B dX12_works_0 rfl ?_
  refine x_istore_n (lv' := [(1, .int 0), (0, .ref (ad 94))]) (pc := 1) B dX12_works_1 rfl (by decide) rfl ?_
  refine x_pick (lv' := [(0, .ref (ad 94)), (1, .int 0)]) [1, 0] rfl ?_
  obtain ⟨q9, hq9, h⟩ := bnd h
  refine x_loop (Head := fun (y1 : Int32 × Mem) => XX D ad cI cJ p l e (Rm 2 44) s m args below meth c Q 4 y1.2 2 [(0, .ref (ad 94)), (1, .int y1.1)] []) (Ex := fun (q9 : Mem) => XX D ad cI cJ p l e (Rm 2 44) s m args below meth c Q 4 q9 33 [(0, .ref (ad 94))] []) (fun y1 r h hback hexit => ?_) FU _ q9 hq9 ?_
  · unfold b_Mo_works_94_2 at h
    refine x_iload_n (pc := 2) B 1 dX12_works_2 rfl rfl ?_
    refine x_bipush (v := 48) (pc := 3) B dX12_works_3 rfl ?_
    refine x_icmp_ge (tgt := 33) (pc := 5) B dX12_works_5 rfl (fun hc2 => ?_) (fun hc2 => ?_)
    · have h := iff_ hc2 h
      refine x_pick (lv' := [(0, .ref (ad 94))]) [0] rfl ?_
      have z := hexit y1.2 (Option.some.inj h).symm
      exact z
    · have h := ift hc2 h
      refine x_aload_n (pc := 8) B 0 dX12_works_8 rfl rfl ?_
      refine x_get (T := TX12) (pc := 9) B 13 oi_94 rfl uw_12 (by decide) rfl tw_1312 rfl dX12_works_9 ?_
      refine x_iload_n (pc := 12) B 1 dX12_works_12 rfl rfl ?_
      refine x_aload_n (pc := 13) B 0 dX12_works_13 rfl rfl ?_
      refine x_iload_n (pc := 14) B 1 dX12_works_14 rfl rfl ?_
      obtain ⟨q3, hq3, h⟩ := bnd h
      refine x_callV (rest := [.int y1.1, .ref (ad 103)]) (st' := [.int (bI q3), .int y1.1, .ref (ad 103)]) (pc := 15) B oi_94 rfl (C_Mo_isOnLine_94 y1.1 y1.2 _ hq3) tw_1410 tw_1407 tw_1409 tw_43 tw_111 hd_Mo_isOnLine_94 ⟨Nat.le_of_ble_eq_true rfl, Nat.le_of_ble_eq_true rfl⟩ rfl rfl (Nat.le_of_ble_eq_true rfl) rfl dX12_works_15 ?_
      refine jv_k h (fun (u6 : Int32) => XX D ad cI cJ p l e (Rm 2 44) s m args below meth c Q 4 y1.2 26 [(0, .ref (ad 94)), (1, .int y1.1)] [.int u6, .int y1.1, .ref (ad 103)]) (fun u6 h => ?_) (fun JJ => ?_)
      · obtain ⟨hk7, h⟩ := ifn h
        refine x_iast (pc := 26) B ai_103 hk7 dX12_works_26 ?_
        refine jv_m (P := fun M8 => XX D ad cI cJ p l e (Rm 2 44) s m args below meth c Q 4 M8 27 [(0, .ref (ad 94)), (1, .int y1.1)] []) h (fun M8 h => ?_)
        refine x_iinc (k := 1) (v := y1.1 + 1) (lv' := [(1, .int (y1.1 + 1)), (0, .ref (ad 94))]) (pc := 27) B dX12_works_27 rfl rfl (by decide) rfl ?_
        refine x_goto (tgt := 2) (pc := 30) B dX12_works_30 rfl ?_
        refine x_pick (lv' := [(0, .ref (ad 94)), (1, .int (y1.1 + 1))]) [1, 0] rfl ?_
        have z := hback (y1.1 + 1, M8) (Option.some.inj h).symm
        exact z
      · refine x_if_eq_b (tgt := 25) (pc := 18) B dX12_works_18 rfl (fun hc4 => ?_) (fun hc4 => ?_)
        · refine x_iconst (v := (-1)) (pc := 25) B dX12_works_25 rfl ?_
          have z := JJ (-1) ((zif_f hc4).trans rfl)
          exact z
        · refine x_iconst (v := 0) (pc := 21) B dX12_works_21 rfl ?_
          refine x_goto (tgt := 26) (pc := 22) B dX12_works_22 rfl ?_
          have z := JJ 0 ((zif_t hc4).trans rfl)
          exact z
  · refine x_iconst (v := 1) (pc := 33) B dX12_works_33 rfl ?_
    refine x_istore_n (lv' := [(1, .int 1), (0, .ref (ad 94))]) (pc := 34) B dX12_works_34 rfl (by decide) rfl ?_
    refine x_pick (lv' := [(0, .ref (ad 94)), (1, .int 1)]) [1, 0] rfl ?_
    obtain ⟨q38, hq38, h⟩ := bnd h
    refine x_loop (Head := fun (y10 : Int32 × Mem) => XX D ad cI cJ p l e (Rm 2 44) s m args below meth c Q 4 y10.2 35 [(0, .ref (ad 94)), (1, .int y10.1)] []) (Ex := fun (q38 : Mem) => XX D ad cI cJ p l e (Rm 2 44) s m args below meth c Q 4 q38 154 [] []) (fun y10 r h hback hexit => ?_) FU _ q38 hq38 ?_
    · unfold b_Mo_works_94_35 at h
      refine x_iload_n (pc := 35) B 1 dX12_works_35 rfl rfl ?_
      refine x_if_eq (tgt := 154) (pc := 36) B dX12_works_36 rfl (fun hc11 => ?_) (fun hc11 => ?_)
      · have h := ift hc11 h
        refine x_pick (lv' := []) [] rfl ?_
        have z := hexit y10.2 (Option.some.inj h).symm
        exact z
      · have h := iff_ hc11 h
        refine x_iconst (v := 0) (pc := 39) B dX12_works_39 rfl ?_
        refine x_istore_n (lv' := [(1, .int 0), (0, .ref (ad 94))]) (pc := 40) B dX12_works_40 rfl (by decide) rfl ?_
        refine x_iconst (v := 0) (pc := 41) B dX12_works_41 rfl ?_
        refine x_istore_n (lv' := [(2, .int 0), (1, .int 0), (0, .ref (ad 94))]) (pc := 42) B dX12_works_42 rfl (by decide) rfl ?_
        refine x_pick (lv' := [(0, .ref (ad 94)), (1, .int 0), (2, .int 0)]) [2, 1, 0] rfl ?_
        obtain ⟨q37, hq37, h⟩ := bnd h
        refine x_loop (Head := fun (y12 : Int32 × Int32 × Mem) => XX D ad cI cJ p l e (Rm 2 44) s m args below meth c Q 4 y12.2.2 43 [(0, .ref (ad 94)), (1, .int y12.1), (2, .int y12.2.1)] []) (Ex := fun (q37 : Int32 × Mem) => XX D ad cI cJ p l e (Rm 2 44) s m args below meth c Q 4 q37.2 151 [(0, .ref (ad 94)), (1, .int q37.1)] []) (fun y12 r h hback hexit => ?_) FU _ q37 hq37 ?_
        · unfold b_Mo_works_94_43 at h
          refine x_iload_n (pc := 43) B 2 dX12_works_43 rfl rfl ?_
          refine x_bipush (v := 48) (pc := 44) B dX12_works_44 rfl ?_
          refine x_icmp_ge (tgt := 151) (pc := 46) B dX12_works_46 rfl (fun hc13 => ?_) (fun hc13 => ?_)
          · have h := iff_ hc13 h
            refine x_pick (lv' := [(0, .ref (ad 94)), (1, .int y12.1)]) [0, 1] rfl ?_
            have z := hexit (y12.1, y12.2.2) (Option.some.inj h).symm
            exact z
          · have h := ift hc13 h
            refine x_iconst (v := 0) (pc := 49) B dX12_works_49 rfl ?_
            refine x_istore_n (lv' := [(3, .int 0), (0, .ref (ad 94)), (1, .int y12.1), (2, .int y12.2.1)]) (pc := 50) B dX12_works_50 rfl (by decide) rfl ?_
            refine x_pick (lv' := [(0, .ref (ad 94)), (1, .int y12.1), (2, .int y12.2.1), (3, .int 0)]) [1, 2, 3, 0] rfl ?_
            obtain ⟨q36, hq36, h⟩ := bnd h
            refine x_loop (Head := fun (y14 : Int32 × Int32 × Mem) => XX D ad cI cJ p l e (Rm 2 44) s m args below meth c Q 4 y14.2.2 51 [(0, .ref (ad 94)), (1, .int y14.1), (2, .int y12.2.1), (3, .int y14.2.1)] []) (Ex := fun (q36 : Int32 × Mem) => XX D ad cI cJ p l e (Rm 2 44) s m args below meth c Q 4 q36.2 145 [(0, .ref (ad 94)), (1, .int q36.1), (2, .int y12.2.1)] []) (fun y14 r h hback hexit => ?_) FU _ q36 hq36 ?_
            · unfold b_Mo_works_94_51 at h
              refine x_iload_n (pc := 51) B 3 dX12_works_51 rfl rfl ?_
              refine x_bipush (v := 48) (pc := 52) B dX12_works_52 rfl ?_
              refine x_icmp_ge (tgt := 145) (pc := 54) B dX12_works_54 rfl (fun hc15 => ?_) (fun hc15 => ?_)
              · have h := iff_ hc15 h
                refine x_pick (lv' := [(0, .ref (ad 94)), (1, .int y14.1), (2, .int y12.2.1)]) [0, 1, 2] rfl ?_
                have z := hexit (y14.1, y14.2.2) (Option.some.inj h).symm
                exact z
              · have h := ift hc15 h
                refine x_aload_n (pc := 57) B 0 dX12_works_57 rfl rfl ?_
                refine x_get (T := TX12) (pc := 58) B 13 oi_94 rfl uw_12 (by decide) rfl tw_1312 rfl dX12_works_58 ?_
                refine x_iload_n (pc := 61) B 2 dX12_works_61 rfl rfl ?_
                obtain ⟨hk16, h⟩ := ifn h
                refine x_iald (pc := 62) B ai_103 hk16 dX12_works_62 ?_
                refine x_iconst (v := (-1)) (pc := 63) B dX12_works_63 rfl ?_
                refine x_icmp_eq (tgt := 139) (pc := 64) B dX12_works_64 rfl (fun hc17 => ?_) (fun hc17 => ?_)
                · have h := ift hc17 h
                  refine x_iinc (k := 3) (v := y14.2.1 + 1) (lv' := [(3, .int (y14.2.1 + 1)), (0, .ref (ad 94)), (1, .int y14.1), (2, .int y12.2.1)]) (pc := 139) B dX12_works_139 rfl rfl (by decide) rfl ?_
                  refine x_goto (tgt := 51) (pc := 142) B dX12_works_142 rfl ?_
                  refine x_pick (lv' := [(0, .ref (ad 94)), (1, .int y14.1), (2, .int y12.2.1), (3, .int (y14.2.1 + 1))]) [1, 2, 3, 0] rfl ?_
                  have z := hback (y14.1, y14.2.1 + 1, y14.2.2) (Option.some.inj h).symm
                  exact z
                · have h := iff_ hc17 h
                  refine x_iload_n (pc := 67) B 2 dX12_works_67 rfl rfl ?_
                  refine x_iload_n (pc := 68) B 3 dX12_works_68 rfl rfl ?_
                  obtain ⟨q18, hq18, h⟩ := bnd h
                  refine x_callS (rest := []) (st' := [.int (bI q18)]) (pc := 69) B (C_Mo_areBeside y12.2.1 y14.2.1 y14.2.2 _ hq18) tw_1417 tw_1415 tw_1416 tw_111 hd_Mo_areBeside ⟨Nat.le_of_ble_eq_true rfl, Nat.le_of_ble_eq_true rfl⟩ rfl rfl (Nat.le_of_ble_eq_true rfl) rfl dX12_works_69 ?_
                  refine x_if_eq_b (tgt := 139) (pc := 72) B dX12_works_72 rfl (fun hc19 => ?_) (fun hc19 => ?_)
                  · have h := iff_ hc19 h
                    refine x_iinc (k := 3) (v := y14.2.1 + 1) (lv' := [(3, .int (y14.2.1 + 1)), (0, .ref (ad 94)), (1, .int y14.1), (2, .int y12.2.1)]) (pc := 139) B dX12_works_139 rfl rfl (by decide) rfl ?_
                    refine x_goto (tgt := 51) (pc := 142) B dX12_works_142 rfl ?_
                    refine x_pick (lv' := [(0, .ref (ad 94)), (1, .int y14.1), (2, .int y12.2.1), (3, .int (y14.2.1 + 1))]) [1, 2, 3, 0] rfl ?_
                    have z := hback (y14.1, y14.2.1 + 1, y14.2.2) (Option.some.inj h).symm
                    exact z
                  · have h := ift hc19 h
                    refine x_aload_n (pc := 75) B 0 dX12_works_75 rfl rfl ?_
                    refine x_iload_n (pc := 76) B 2 dX12_works_76 rfl rfl ?_
                    refine x_iload_n (pc := 77) B 3 dX12_works_77 rfl rfl ?_
                    obtain ⟨q20, hq20, h⟩ := bnd h
                    refine x_callV (rest := []) (st' := [.int q20]) (pc := 78) B oi_94 rfl (C_Mo_costOf_94 y12.2.1 y14.2.1 y14.2.2 _ hq20) tw_1421 tw_1418 tw_1420 tw_44 tw_111 hd_Mo_costOf_94 ⟨Nat.le_of_ble_eq_true rfl, Nat.le_of_ble_eq_true rfl⟩ rfl rfl (Nat.le_of_ble_eq_true rfl) rfl dX12_works_78 ?_
                    refine x_bipush (v := (-5)) (pc := 81) B dX12_works_81 rfl ?_
                    refine x_icmp_eq (tgt := 139) (pc := 83) B dX12_works_83 rfl (fun hc21 => ?_) (fun hc21 => ?_)
                    · have h := ift hc21 h
                      refine x_iinc (k := 3) (v := y14.2.1 + 1) (lv' := [(3, .int (y14.2.1 + 1)), (0, .ref (ad 94)), (1, .int y14.1), (2, .int y12.2.1)]) (pc := 139) B dX12_works_139 rfl rfl (by decide) rfl ?_
                      refine x_goto (tgt := 51) (pc := 142) B dX12_works_142 rfl ?_
                      refine x_pick (lv' := [(0, .ref (ad 94)), (1, .int y14.1), (2, .int y12.2.1), (3, .int (y14.2.1 + 1))]) [1, 2, 3, 0] rfl ?_
                      have z := hback (y14.1, y14.2.1 + 1, y14.2.2) (Option.some.inj h).symm
                      exact z
                    · have h := iff_ hc21 h
                      refine x_aload_n (pc := 86) B 0 dX12_works_86 rfl rfl ?_
                      refine x_get (T := TX12) (pc := 87) B 13 oi_94 rfl uw_12 (by decide) rfl tw_1312 rfl dX12_works_87 ?_
                      refine x_iload_n (pc := 90) B 3 dX12_works_90 rfl rfl ?_
                      obtain ⟨hk22, h⟩ := ifn h
                      refine x_iald (pc := 91) B ai_103 hk22 dX12_works_91 ?_
                      refine x_iconst (v := (-1)) (pc := 92) B dX12_works_92 rfl ?_
                      refine x_icmp_eq (tgt := 118) (pc := 93) B dX12_works_93 rfl (fun hc23 => ?_) (fun hc23 => ?_)
                      · have h := ift hc23 h
                        refine x_aload_n (pc := 118) B 0 dX12_works_118 rfl rfl ?_
                        refine x_get (T := TX12) (pc := 119) B 13 oi_94 rfl uw_12 (by decide) rfl tw_1312 rfl dX12_works_119 ?_
                        refine x_iload_n (pc := 122) B 3 dX12_works_122 rfl rfl ?_
                        refine x_aload_n (pc := 123) B 0 dX12_works_123 rfl rfl ?_
                        refine x_get (T := TX12) (pc := 124) B 13 oi_94 rfl uw_12 (by decide) rfl tw_1312 rfl dX12_works_124 ?_
                        refine x_iload_n (pc := 127) B 2 dX12_works_127 rfl rfl ?_
                        obtain ⟨hk32, h⟩ := ifn h
                        refine x_iald (pc := 128) B ai_103 hk32 dX12_works_128 ?_
                        refine x_aload_n (pc := 129) B 0 dX12_works_129 rfl rfl ?_
                        refine x_iload_n (pc := 130) B 2 dX12_works_130 rfl rfl ?_
                        refine x_iload_n (pc := 131) B 3 dX12_works_131 rfl rfl ?_
                        obtain ⟨q33, hq33, h⟩ := bnd h
                        refine x_callV (rest := [.int (y14.2.2.1 103 y12.2.1.toNatClampNeg), .int y14.2.1, .ref (ad 103)]) (st' := [.int q33, .int (y14.2.2.1 103 y12.2.1.toNatClampNeg), .int y14.2.1, .ref (ad 103)]) (pc := 132) B oi_94 rfl (C_Mo_costOf_94 y12.2.1 y14.2.1 y14.2.2 _ hq33) tw_1421 tw_1418 tw_1420 tw_44 tw_111 hd_Mo_costOf_94 ⟨Nat.le_of_ble_eq_true rfl, Nat.le_of_ble_eq_true rfl⟩ rfl rfl (Nat.le_of_ble_eq_true rfl) rfl dX12_works_132 ?_
                        refine x_iadd (pc := 135) B dX12_works_135 ?_
                        obtain ⟨hk34, h⟩ := ifn h
                        refine x_iast (pc := 136) B ai_103 hk34 dX12_works_136 ?_
                        refine jv_m (P := fun M35 => XX D ad cI cJ p l e (Rm 2 44) s m args below meth c Q 4 M35 137 [(0, .ref (ad 94)), (1, .int y14.1), (2, .int y12.2.1), (3, .int y14.2.1)] []) h (fun M35 h => ?_)
                        refine x_iconst (v := 1) (pc := 137) B dX12_works_137 rfl ?_
                        refine x_istore_n (lv' := [(1, .int 1), (0, .ref (ad 94)), (2, .int y12.2.1), (3, .int y14.2.1)]) (pc := 138) B dX12_works_138 rfl (by decide) rfl ?_
                        refine x_iinc (k := 3) (v := y14.2.1 + 1) (lv' := [(3, .int (y14.2.1 + 1)), (1, .int 1), (0, .ref (ad 94)), (2, .int y12.2.1)]) (pc := 139) B dX12_works_139 rfl rfl (by decide) rfl ?_
                        refine x_goto (tgt := 51) (pc := 142) B dX12_works_142 rfl ?_
                        refine x_pick (lv' := [(0, .ref (ad 94)), (1, .int 1), (2, .int y12.2.1), (3, .int (y14.2.1 + 1))]) [2, 1, 3, 0] rfl ?_
                        have z := hback (1, y14.2.1 + 1, M35) (Option.some.inj h).symm
                        exact z
                      · have h := iff_ hc23 h
                        refine x_aload_n (pc := 96) B 0 dX12_works_96 rfl rfl ?_
                        refine x_get (T := TX12) (pc := 97) B 13 oi_94 rfl uw_12 (by decide) rfl tw_1312 rfl dX12_works_97 ?_
                        refine x_iload_n (pc := 100) B 2 dX12_works_100 rfl rfl ?_
                        obtain ⟨hk24, h⟩ := ifn h
                        refine x_iald (pc := 101) B ai_103 hk24 dX12_works_101 ?_
                        refine x_aload_n (pc := 102) B 0 dX12_works_102 rfl rfl ?_
                        refine x_iload_n (pc := 103) B 2 dX12_works_103 rfl rfl ?_
                        refine x_iload_n (pc := 104) B 3 dX12_works_104 rfl rfl ?_
                        obtain ⟨q25, hq25, h⟩ := bnd h
                        refine x_callV (rest := [.int (y14.2.2.1 103 y12.2.1.toNatClampNeg)]) (st' := [.int q25, .int (y14.2.2.1 103 y12.2.1.toNatClampNeg)]) (pc := 105) B oi_94 rfl (C_Mo_costOf_94 y12.2.1 y14.2.1 y14.2.2 _ hq25) tw_1421 tw_1418 tw_1420 tw_44 tw_111 hd_Mo_costOf_94 ⟨Nat.le_of_ble_eq_true rfl, Nat.le_of_ble_eq_true rfl⟩ rfl rfl (Nat.le_of_ble_eq_true rfl) rfl dX12_works_105 ?_
                        refine x_iadd (pc := 108) B dX12_works_108 ?_
                        refine x_aload_n (pc := 109) B 0 dX12_works_109 rfl rfl ?_
                        refine x_get (T := TX12) (pc := 110) B 13 oi_94 rfl uw_12 (by decide) rfl tw_1312 rfl dX12_works_110 ?_
                        refine x_iload_n (pc := 113) B 3 dX12_works_113 rfl rfl ?_
                        obtain ⟨hk26, h⟩ := ifn h
                        refine x_iald (pc := 114) B ai_103 hk26 dX12_works_114 ?_
                        refine x_icmp_ge (tgt := 139) (pc := 115) B dX12_works_115 rfl (fun hc27 => ?_) (fun hc27 => ?_)
                        · have h := iff_ hc27 h
                          refine x_iinc (k := 3) (v := y14.2.1 + 1) (lv' := [(3, .int (y14.2.1 + 1)), (0, .ref (ad 94)), (1, .int y14.1), (2, .int y12.2.1)]) (pc := 139) B dX12_works_139 rfl rfl (by decide) rfl ?_
                          refine x_goto (tgt := 51) (pc := 142) B dX12_works_142 rfl ?_
                          refine x_pick (lv' := [(0, .ref (ad 94)), (1, .int y14.1), (2, .int y12.2.1), (3, .int (y14.2.1 + 1))]) [1, 2, 3, 0] rfl ?_
                          have z := hback (y14.1, y14.2.1 + 1, y14.2.2) (Option.some.inj h).symm
                          exact z
                        · have h := ift hc27 h
                          refine x_aload_n (pc := 118) B 0 dX12_works_118 rfl rfl ?_
                          refine x_get (T := TX12) (pc := 119) B 13 oi_94 rfl uw_12 (by decide) rfl tw_1312 rfl dX12_works_119 ?_
                          refine x_iload_n (pc := 122) B 3 dX12_works_122 rfl rfl ?_
                          refine x_aload_n (pc := 123) B 0 dX12_works_123 rfl rfl ?_
                          refine x_get (T := TX12) (pc := 124) B 13 oi_94 rfl uw_12 (by decide) rfl tw_1312 rfl dX12_works_124 ?_
                          refine x_iload_n (pc := 127) B 2 dX12_works_127 rfl rfl ?_
                          obtain ⟨hk28, h⟩ := ifn h
                          refine x_iald (pc := 128) B ai_103 hk28 dX12_works_128 ?_
                          refine x_aload_n (pc := 129) B 0 dX12_works_129 rfl rfl ?_
                          refine x_iload_n (pc := 130) B 2 dX12_works_130 rfl rfl ?_
                          refine x_iload_n (pc := 131) B 3 dX12_works_131 rfl rfl ?_
                          obtain ⟨q29, hq29, h⟩ := bnd h
                          refine x_callV (rest := [.int (y14.2.2.1 103 y12.2.1.toNatClampNeg), .int y14.2.1, .ref (ad 103)]) (st' := [.int q29, .int (y14.2.2.1 103 y12.2.1.toNatClampNeg), .int y14.2.1, .ref (ad 103)]) (pc := 132) B oi_94 rfl (C_Mo_costOf_94 y12.2.1 y14.2.1 y14.2.2 _ hq29) tw_1421 tw_1418 tw_1420 tw_44 tw_111 hd_Mo_costOf_94 ⟨Nat.le_of_ble_eq_true rfl, Nat.le_of_ble_eq_true rfl⟩ rfl rfl (Nat.le_of_ble_eq_true rfl) rfl dX12_works_132 ?_
                          refine x_iadd (pc := 135) B dX12_works_135 ?_
                          obtain ⟨hk30, h⟩ := ifn h
                          refine x_iast (pc := 136) B ai_103 hk30 dX12_works_136 ?_
                          refine jv_m (P := fun M31 => XX D ad cI cJ p l e (Rm 2 44) s m args below meth c Q 4 M31 137 [(0, .ref (ad 94)), (1, .int y14.1), (2, .int y12.2.1), (3, .int y14.2.1)] []) h (fun M31 h => ?_)
                          refine x_iconst (v := 1) (pc := 137) B dX12_works_137 rfl ?_
                          refine x_istore_n (lv' := [(1, .int 1), (0, .ref (ad 94)), (2, .int y12.2.1), (3, .int y14.2.1)]) (pc := 138) B dX12_works_138 rfl (by decide) rfl ?_
                          refine x_iinc (k := 3) (v := y14.2.1 + 1) (lv' := [(3, .int (y14.2.1 + 1)), (1, .int 1), (0, .ref (ad 94)), (2, .int y12.2.1)]) (pc := 139) B dX12_works_139 rfl rfl (by decide) rfl ?_
                          refine x_goto (tgt := 51) (pc := 142) B dX12_works_142 rfl ?_
                          refine x_pick (lv' := [(0, .ref (ad 94)), (1, .int 1), (2, .int y12.2.1), (3, .int (y14.2.1 + 1))]) [2, 1, 3, 0] rfl ?_
                          have z := hback (1, y14.2.1 + 1, M31) (Option.some.inj h).symm
                          exact z
            · refine x_iinc (k := 2) (v := y12.2.1 + 1) (lv' := [(2, .int (y12.2.1 + 1)), (0, .ref (ad 94)), (1, .int q36.1)]) (pc := 145) B dX12_works_145 rfl rfl (by decide) rfl ?_
              refine x_goto (tgt := 43) (pc := 148) B dX12_works_148 rfl ?_
              refine x_pick (lv' := [(0, .ref (ad 94)), (1, .int q36.1), (2, .int (y12.2.1 + 1))]) [1, 2, 0] rfl ?_
              have z := hback (q36.1, y12.2.1 + 1, q36.2) (Option.some.inj h).symm
              exact z
        · refine x_goto (tgt := 35) (pc := 151) B dX12_works_151 rfl ?_
          have z := hback (q37.1, q37.2) (Option.some.inj h).symm
          exact z
    · obtain rfl := Option.some.inj h
      exact x_vret (pc := 154) B hQ dX12_works_154
