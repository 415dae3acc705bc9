-- CurrentFarms$Rules.usual(II)I []
abbrev y_Rules_usual : MethodName := ⟨"CurrentFarms$Rules", "usual", "(II)I"⟩
abbrev cX7_usual : ByteArray := prog_9_method_5_code
theorem dX7_usual_0 : decode cX7_usual 0 = .ok (.iload_n 0, 1) := by decide +kernel
theorem dX7_usual_1 : decode cX7_usual 1 = .ok (.tableswitch 42 0 3 #[31, 33, 37, 39], 31) := by decide +kernel
theorem dX7_usual_32 : decode cX7_usual 32 = .ok (.iconst 3, 1) := by decide +kernel
theorem dX7_usual_33 : decode cX7_usual 33 = .ok (.ireturn, 1) := by decide +kernel
theorem dX7_usual_34 : decode cX7_usual 34 = .ok (.iconst 2, 1) := by decide +kernel
theorem dX7_usual_35 : decode cX7_usual 35 = .ok (.iload_n 1, 1) := by decide +kernel
theorem dX7_usual_36 : decode cX7_usual 36 = .ok (.imul, 1) := by decide +kernel
theorem dX7_usual_37 : decode cX7_usual 37 = .ok (.ireturn, 1) := by decide +kernel
theorem dX7_usual_38 : decode cX7_usual 38 = .ok (.iconst 5, 1) := by decide +kernel
theorem dX7_usual_39 : decode cX7_usual 39 = .ok (.ireturn, 1) := by decide +kernel
theorem dX7_usual_40 : decode cX7_usual 40 = .ok (.bipush 10, 2) := by decide +kernel
theorem dX7_usual_42 : decode cX7_usual 42 = .ok (.ireturn, 1) := by decide +kernel
theorem dX7_usual_43 : decode cX7_usual 43 = .ok (.iconst 0, 1) := by decide +kernel
theorem dX7_usual_44 : decode cX7_usual 44 = .ok (.ireturn, 1) := by decide +kernel
theorem hd_Rules_usual : y_Rules_usual.cls ≠ "java/lang/invoke/MethodHandle" ∧ y_Rules_usual.cls ≠ "java/lang/invoke/VarHandle" ∧ (parseMethodDescriptor y_Rules_usual.desc).map (fun d => d.parameters.length) = some 2 := by decide +kernel
def f_Rules_usual (a0 : Int32) (a1 : Int32) : Option (Int32) :=
  if decide (a0 = 0) then (some 3) else (if decide (a0 = 1) then (some (2 * a1)) else (if decide (a0 = 2) then (some 5) else (if decide (a0 = 3) then (some 10) else (some 0))))
set_option maxHeartbeats 4000000 in
set_option maxRecDepth 20000 in
theorem C_Rules_usual {D : va_G} {ad adK adV : Nat → Nat} {cI cJ : ClassId} {l : Launch} (a0 : Int32) (a1 : Int32) (M0 : Mem) (o : Int32) (h : f_Rules_usual a0 a1 = some o) : Ct D ad adK adV cI cJ l y_Rules_usual cX7_usual 2 (some .int) 0 0 [.int a0, .int a1] M0 (some (.int o)) M0 := by
  refine x_start (lv := [(0, .int a0), (1, .int a1)]) (own := "CurrentFarms$Rules") rfl (by decide) (Nat.le_of_ble_eq_true rfl) rfl ?_
  intro p e s m args below meth c Q hQ B
  unfold f_Rules_usual at h
  refine x_iload_n (pc := 0) B 0 dX7_usual_0 rfl rfl ?_
  rcases bcase (decide (a0 = 0)) with hc1 | hc1
  · have h := ift hc1 h
    refine x_tableIn (cv := 0) (tgt := 32) (pc := 1) B dX7_usual_1 (of_decide_eq_true hc1) (by decide) (by decide) rfl rfl ?_
    refine x_iconst (v := 3) (pc := 32) B dX7_usual_32 rfl ?_
    obtain rfl := Option.some.inj h
    exact x_iret (pc := 33) B hQ dX7_usual_33
  · have h := iff_ hc1 h
    rcases bcase (decide (a0 = 1)) with hc2 | hc2
    · have h := ift hc2 h
      refine x_tableIn (cv := 1) (tgt := 34) (pc := 1) B dX7_usual_1 (of_decide_eq_true hc2) (by decide) (by decide) rfl rfl ?_
      refine x_iconst (v := 2) (pc := 34) B dX7_usual_34 rfl ?_
      refine x_iload_n (pc := 35) B 1 dX7_usual_35 rfl rfl ?_
      refine x_imul (pc := 36) B dX7_usual_36 ?_
      obtain rfl := Option.some.inj h
      exact x_iret (pc := 37) B hQ dX7_usual_37
    · have h := iff_ hc2 h
      rcases bcase (decide (a0 = 2)) with hc3 | hc3
      · have h := ift hc3 h
        refine x_tableIn (cv := 2) (tgt := 38) (pc := 1) B dX7_usual_1 (of_decide_eq_true hc3) (by decide) (by decide) rfl rfl ?_
        refine x_iconst (v := 5) (pc := 38) B dX7_usual_38 rfl ?_
        obtain rfl := Option.some.inj h
        exact x_iret (pc := 39) B hQ dX7_usual_39
      · have h := iff_ hc3 h
        rcases bcase (decide (a0 = 3)) with hc4 | hc4
        · have h := ift hc4 h
          refine x_tableIn (cv := 3) (tgt := 40) (pc := 1) B dX7_usual_1 (of_decide_eq_true hc4) (by decide) (by decide) rfl rfl ?_
          refine x_bipush (v := 10) (pc := 40) B dX7_usual_40 rfl ?_
          obtain rfl := Option.some.inj h
          exact x_iret (pc := 42) B hQ dX7_usual_42
        · have h := iff_ hc4 h
          have e0 : ¬ a0.toInt = 0 := fun q => (of_decide_eq_false hc1) (Int32.toInt_inj.mp (q.trans (by decide : (0 : Int) = (0 : Int32).toInt)))
          have e1 : ¬ a0.toInt = 1 := fun q => (of_decide_eq_false hc2) (Int32.toInt_inj.mp (q.trans (by decide : (1 : Int) = (1 : Int32).toInt)))
          have e2 : ¬ a0.toInt = 2 := fun q => (of_decide_eq_false hc3) (Int32.toInt_inj.mp (q.trans (by decide : (2 : Int) = (2 : Int32).toInt)))
          have e3 : ¬ a0.toInt = 3 := fun q => (of_decide_eq_false hc4) (Int32.toInt_inj.mp (q.trans (by decide : (3 : Int) = (3 : Int32).toInt)))
          refine x_tableOut (tgt := 43) (pc := 1) B dX7_usual_1 (by omega) rfl ?_
          refine x_iconst (v := 0) (pc := 43) B dX7_usual_43 rfl ?_
          obtain rfl := Option.some.inj h
          exact x_iret (pc := 44) B hQ dX7_usual_44
-- CurrentFarms$Rules.worth(II[I)I [14, 80]
abbrev y_Rules_worth_14_80 : MethodName := ⟨"CurrentFarms$Rules", "worth", "(II[I)I"⟩
abbrev cX7_worth : ByteArray := prog_9_method_4_code
theorem dX7_worth_0 : decode cX7_worth 0 = .ok (.iconst (-1), 1) := by decide +kernel
theorem dX7_worth_1 : decode cX7_worth 1 = .ok (.istore 4, 2) := by decide +kernel
theorem dX7_worth_3 : decode cX7_worth 3 = .ok (.iconst (-1), 1) := by decide +kernel
theorem dX7_worth_4 : decode cX7_worth 4 = .ok (.istore 5, 2) := by decide +kernel
theorem dX7_worth_6 : decode cX7_worth 6 = .ok (.iconst 0, 1) := by decide +kernel
theorem dX7_worth_7 : decode cX7_worth 7 = .ok (.istore 6, 2) := by decide +kernel
theorem dX7_worth_9 : decode cX7_worth 9 = .ok (.iload 6, 2) := by decide +kernel
theorem dX7_worth_11 : decode cX7_worth 11 = .ok (.aload_n 0, 1) := by decide +kernel
theorem dX7_worth_12 : decode cX7_worth 12 = .ok (.getfield 47, 3) := by decide +kernel
theorem dX7_worth_15 : decode cX7_worth 15 = .ok (.if_icmp .ge 140, 3) := by decide +kernel
theorem dX7_worth_18 : decode cX7_worth 18 = .ok (.aload_n 0, 1) := by decide +kernel
theorem dX7_worth_19 : decode cX7_worth 19 = .ok (.getfield 21, 3) := by decide +kernel
theorem dX7_worth_22 : decode cX7_worth 22 = .ok (.iload 6, 2) := by decide +kernel
theorem dX7_worth_24 : decode cX7_worth 24 = .ok (.invokestatic 54, 3) := by decide +kernel
theorem dX7_worth_27 : decode cX7_worth 27 = .ok (.istore 7, 2) := by decide +kernel
theorem dX7_worth_29 : decode cX7_worth 29 = .ok (.iload 7, 2) := by decide +kernel
theorem dX7_worth_31 : decode cX7_worth 31 = .ok (.iload_n 2, 1) := by decide +kernel
theorem dX7_worth_32 : decode cX7_worth 32 = .ok (.if_icmp .gt 117, 3) := by decide +kernel
theorem dX7_worth_35 : decode cX7_worth 35 = .ok (.iload 7, 2) := by decide +kernel
theorem dX7_worth_37 : decode cX7_worth 37 = .ok (.iload 5, 2) := by decide +kernel
theorem dX7_worth_39 : decode cX7_worth 39 = .ok (.if_icmp .ge 6, 3) := by decide +kernel
theorem dX7_worth_42 : decode cX7_worth 42 = .ok (.goto 107, 3) := by decide +kernel
theorem dX7_worth_45 : decode cX7_worth 45 = .ok (.iconst 0, 1) := by decide +kernel
theorem dX7_worth_46 : decode cX7_worth 46 = .ok (.istore 8, 2) := by decide +kernel
theorem dX7_worth_48 : decode cX7_worth 48 = .ok (.iload 8, 2) := by decide +kernel
theorem dX7_worth_50 : decode cX7_worth 50 = .ok (.aload_n 0, 1) := by decide +kernel
theorem dX7_worth_51 : decode cX7_worth 51 = .ok (.getfield 18, 3) := by decide +kernel
theorem dX7_worth_54 : decode cX7_worth 54 = .ok (.iload 6, 2) := by decide +kernel
theorem dX7_worth_56 : decode cX7_worth 56 = .ok (.invokestatic 54, 3) := by decide +kernel
theorem dX7_worth_59 : decode cX7_worth 59 = .ok (.if_icmp .ge 90, 3) := by decide +kernel
theorem dX7_worth_62 : decode cX7_worth 62 = .ok (.iload 6, 2) := by decide +kernel
theorem dX7_worth_64 : decode cX7_worth 64 = .ok (.bipush 8, 2) := by decide +kernel
theorem dX7_worth_66 : decode cX7_worth 66 = .ok (.imul, 1) := by decide +kernel
theorem dX7_worth_67 : decode cX7_worth 67 = .ok (.iload 8, 2) := by decide +kernel
theorem dX7_worth_69 : decode cX7_worth 69 = .ok (.iadd, 1) := by decide +kernel
theorem dX7_worth_70 : decode cX7_worth 70 = .ok (.istore 9, 2) := by decide +kernel
theorem dX7_worth_72 : decode cX7_worth 72 = .ok (.aload_n 0, 1) := by decide +kernel
theorem dX7_worth_73 : decode cX7_worth 73 = .ok (.getfield 24, 3) := by decide +kernel
theorem dX7_worth_76 : decode cX7_worth 76 = .ok (.iload 9, 2) := by decide +kernel
theorem dX7_worth_78 : decode cX7_worth 78 = .ok (.invokestatic 54, 3) := by decide +kernel
theorem dX7_worth_81 : decode cX7_worth 81 = .ok (.iload_n 1, 1) := by decide +kernel
theorem dX7_worth_82 : decode cX7_worth 82 = .ok (.if_icmp .ne 61, 3) := by decide +kernel
theorem dX7_worth_85 : decode cX7_worth 85 = .ok (.aload_n 0, 1) := by decide +kernel
theorem dX7_worth_86 : decode cX7_worth 86 = .ok (.getfield 33, 3) := by decide +kernel
theorem dX7_worth_89 : decode cX7_worth 89 = .ok (.iload 9, 2) := by decide +kernel
theorem dX7_worth_91 : decode cX7_worth 91 = .ok (.invokestatic 54, 3) := by decide +kernel
theorem dX7_worth_94 : decode cX7_worth 94 = .ok (.aload_n 0, 1) := by decide +kernel
theorem dX7_worth_95 : decode cX7_worth 95 = .ok (.getfield 30, 3) := by decide +kernel
theorem dX7_worth_98 : decode cX7_worth 98 = .ok (.iload 9, 2) := by decide +kernel
theorem dX7_worth_100 : decode cX7_worth 100 = .ok (.invokestatic 54, 3) := by decide +kernel
theorem dX7_worth_103 : decode cX7_worth 103 = .ok (.if_icmp .le 32, 3) := by decide +kernel
theorem dX7_worth_106 : decode cX7_worth 106 = .ok (.aload_n 0, 1) := by decide +kernel
theorem dX7_worth_107 : decode cX7_worth 107 = .ok (.aload_n 0, 1) := by decide +kernel
theorem dX7_worth_108 : decode cX7_worth 108 = .ok (.getfield 30, 3) := by decide +kernel
theorem dX7_worth_111 : decode cX7_worth 111 = .ok (.iload 9, 2) := by decide +kernel
theorem dX7_worth_113 : decode cX7_worth 113 = .ok (.invokestatic 54, 3) := by decide +kernel
theorem dX7_worth_116 : decode cX7_worth 116 = .ok (.aload_n 0, 1) := by decide +kernel
theorem dX7_worth_117 : decode cX7_worth 117 = .ok (.getfield 33, 3) := by decide +kernel
theorem dX7_worth_120 : decode cX7_worth 120 = .ok (.iload 9, 2) := by decide +kernel
theorem dX7_worth_122 : decode cX7_worth 122 = .ok (.invokestatic 54, 3) := by decide +kernel
theorem dX7_worth_125 : decode cX7_worth 125 = .ok (.aload_n 3, 1) := by decide +kernel
theorem dX7_worth_126 : decode cX7_worth 126 = .ok (.invokevirtual 58, 3) := by decide +kernel
theorem dX7_worth_129 : decode cX7_worth 129 = .ok (.ifCond .le 6, 3) := by decide +kernel
theorem dX7_worth_132 : decode cX7_worth 132 = .ok (.goto 11, 3) := by decide +kernel
theorem dX7_worth_135 : decode cX7_worth 135 = .ok (.iload 9, 2) := by decide +kernel
theorem dX7_worth_137 : decode cX7_worth 137 = .ok (.istore 4, 2) := by decide +kernel
theorem dX7_worth_139 : decode cX7_worth 139 = .ok (.iload 7, 2) := by decide +kernel
theorem dX7_worth_141 : decode cX7_worth 141 = .ok (.istore 5, 2) := by decide +kernel
theorem dX7_worth_143 : decode cX7_worth 143 = .ok (.iinc 8 1, 3) := by decide +kernel
theorem dX7_worth_146 : decode cX7_worth 146 = .ok (.goto (-98), 3) := by decide +kernel
theorem dX7_worth_149 : decode cX7_worth 149 = .ok (.iinc 6 1, 3) := by decide +kernel
theorem dX7_worth_152 : decode cX7_worth 152 = .ok (.goto (-143), 3) := by decide +kernel
theorem dX7_worth_155 : decode cX7_worth 155 = .ok (.aload_n 0, 1) := by decide +kernel
theorem dX7_worth_156 : decode cX7_worth 156 = .ok (.iload 4, 2) := by decide +kernel
theorem dX7_worth_158 : decode cX7_worth 158 = .ok (.ifCond .ge 8, 3) := by decide +kernel
theorem dX7_worth_161 : decode cX7_worth 161 = .ok (.bipush (-5), 2) := by decide +kernel
theorem dX7_worth_163 : decode cX7_worth 163 = .ok (.goto 17, 3) := by decide +kernel
theorem dX7_worth_166 : decode cX7_worth 166 = .ok (.bipush 100, 2) := by decide +kernel
theorem dX7_worth_168 : decode cX7_worth 168 = .ok (.iload 4, 2) := by decide +kernel
theorem dX7_worth_170 : decode cX7_worth 170 = .ok (.bipush 8, 2) := by decide +kernel
theorem dX7_worth_172 : decode cX7_worth 172 = .ok (.idiv, 1) := by decide +kernel
theorem dX7_worth_173 : decode cX7_worth 173 = .ok (.imul, 1) := by decide +kernel
theorem dX7_worth_174 : decode cX7_worth 174 = .ok (.iload 4, 2) := by decide +kernel
theorem dX7_worth_176 : decode cX7_worth 176 = .ok (.bipush 8, 2) := by decide +kernel
theorem dX7_worth_178 : decode cX7_worth 178 = .ok (.irem, 1) := by decide +kernel
theorem dX7_worth_179 : decode cX7_worth 179 = .ok (.iadd, 1) := by decide +kernel
theorem dX7_worth_180 : decode cX7_worth 180 = .ok (.putfield 62, 3) := by decide +kernel
theorem dX7_worth_183 : decode cX7_worth 183 = .ok (.iload 4, 2) := by decide +kernel
theorem dX7_worth_185 : decode cX7_worth 185 = .ok (.ifCond .ge 13, 3) := by decide +kernel
theorem dX7_worth_188 : decode cX7_worth 188 = .ok (.iload_n 1, 1) := by decide +kernel
theorem dX7_worth_189 : decode cX7_worth 189 = .ok (.aload_n 3, 1) := by decide +kernel
theorem dX7_worth_190 : decode cX7_worth 190 = .ok (.iconst 0, 1) := by decide +kernel
theorem dX7_worth_191 : decode cX7_worth 191 = .ok (.invokestatic 54, 3) := by decide +kernel
theorem dX7_worth_194 : decode cX7_worth 194 = .ok (.invokestatic 65, 3) := by decide +kernel
theorem dX7_worth_197 : decode cX7_worth 197 = .ok (.ireturn, 1) := by decide +kernel
theorem dX7_worth_198 : decode cX7_worth 198 = .ok (.iconst 0, 1) := by decide +kernel
theorem dX7_worth_199 : decode cX7_worth 199 = .ok (.ldc 69, 2) := by decide +kernel
theorem dX7_worth_201 : decode cX7_worth 201 = .ok (.aload_n 0, 1) := by decide +kernel
theorem dX7_worth_202 : decode cX7_worth 202 = .ok (.aload_n 0, 1) := by decide +kernel
theorem dX7_worth_203 : decode cX7_worth 203 = .ok (.getfield 27, 3) := by decide +kernel
theorem dX7_worth_206 : decode cX7_worth 206 = .ok (.iload 4, 2) := by decide +kernel
theorem dX7_worth_208 : decode cX7_worth 208 = .ok (.invokestatic 54, 3) := by decide +kernel
theorem dX7_worth_211 : decode cX7_worth 211 = .ok (.aload_n 0, 1) := by decide +kernel
theorem dX7_worth_212 : decode cX7_worth 212 = .ok (.getfield 30, 3) := by decide +kernel
theorem dX7_worth_215 : decode cX7_worth 215 = .ok (.iload 4, 2) := by decide +kernel
theorem dX7_worth_217 : decode cX7_worth 217 = .ok (.invokestatic 54, 3) := by decide +kernel
theorem dX7_worth_220 : decode cX7_worth 220 = .ok (.aload_n 3, 1) := by decide +kernel
theorem dX7_worth_221 : decode cX7_worth 221 = .ok (.invokevirtual 58, 3) := by decide +kernel
theorem dX7_worth_224 : decode cX7_worth 224 = .ok (.invokestatic 70, 3) := by decide +kernel
theorem dX7_worth_227 : decode cX7_worth 227 = .ok (.invokestatic 75, 3) := by decide +kernel
theorem dX7_worth_230 : decode cX7_worth 230 = .ok (.ireturn, 1) := by decide +kernel
theorem hd_Rules_worth_14_80 : y_Rules_worth_14_80.cls ≠ "java/lang/invoke/MethodHandle" ∧ y_Rules_worth_14_80.cls ≠ "java/lang/invoke/VarHandle" ∧ (parseMethodDescriptor y_Rules_worth_14_80.desc).map (fun d => d.parameters.length) = some 3 := by decide +kernel
def b_Rules_worth_14_80_48 (a1 : Int32) (y1 : Int32 × Int32 × Int32 × Mem) (y5 : Int32 × Int32 × Int32 × Mem) : Option ((Int32 × Int32 × Int32 × Mem) ⊕ (Int32 × Int32 × Mem)) :=
  if decide (y5.2.2.1 < (atv (y5.2.2.2.1 17) 9 y1.2.2.1)) then (if decide ((atv (y5.2.2.2.1 19) 72 ((y1.2.2.1 * 8) + y5.2.2.1)) = a1) then (if decide ((atv (y5.2.2.2.1 22) 72 ((y1.2.2.1 * 8) + y5.2.2.1)) ≤ (atv (y5.2.2.2.1 21) 72 ((y1.2.2.1 * 8) + y5.2.2.1))) then (some (.inl ((y1.2.2.1 * 8) + y5.2.2.1, atv (y1.2.2.2.1 18) 9 y1.2.2.1, y5.2.2.1 + 1, y5.2.2.2))) else ((f_Rules_run_14_80 (atv (y5.2.2.2.1 21) 72 ((y1.2.2.1 * 8) + y5.2.2.1)) (atv (y5.2.2.2.1 22) 72 ((y1.2.2.1 * 8) + y5.2.2.1)) y5.2.2.2).bind fun q9 => if decide (q9.1 ≤ 0) then (some (.inl ((y1.2.2.1 * 8) + y5.2.2.1, atv (y1.2.2.2.1 18) 9 y1.2.2.1, y5.2.2.1 + 1, q9.2))) else (some (.inl (y5.1, y5.2.1, y5.2.2.1 + 1, q9.2))))) else (some (.inl (y5.1, y5.2.1, y5.2.2.1 + 1, y5.2.2.2)))) else (some (.inr (y5.1, y5.2.1, y5.2.2.2)))
def b_Rules_worth_14_80_9 (a1 : Int32) (a2 : Int32) (y1 : Int32 × Int32 × Int32 × Mem) : Option ((Int32 × Int32 × Int32 × Mem) ⊕ (Int32 × Mem)) :=
  if decide (y1.2.2.1 < (y1.2.2.2.1 14 9)) then (if decide ((atv (y1.2.2.2.1 18) 9 y1.2.2.1) ≤ a2) then (if decide ((atv (y1.2.2.2.1 18) 9 y1.2.2.1) < y1.2.1) then (some (.inl (y1.1, y1.2.1, y1.2.2.1 + 1, y1.2.2.2))) else ((itr (b_Rules_worth_14_80_48 a1 y1) FU (y1.1, y1.2.1, 0, y1.2.2.2)).bind fun q11 => some (.inl (q11.1, q11.2.1, y1.2.2.1 + 1, q11.2.2)))) else (some (.inl (y1.1, y1.2.1, y1.2.2.1 + 1, y1.2.2.2)))) else (some (.inr (y1.1, y1.2.2.2)))
def f_Rules_worth_14_80 (a1 : Int32) (a2 : Int32) (M0 : Mem) : Option (Int32 × Mem) :=
  (itr (b_Rules_worth_14_80_9 a1 a2) FU ((-1), (-1), 0, M0)).bind fun q12 => jv_ ((if decide (q12.1 < 0) then (-5) else (100 * (q12.1 / 8)) + (q12.1 - q12.1 / 8 * 8)) : Int32) fun u15 => jv_ (wI q12.2 14 11 u15) fun M16 => if decide (q12.1 < 0) then ((f_Rules_usual a1 (atv (M16.1 80) 5 0)).bind fun q18 => some (q18, M16)) else ((f_Rules_run_14_80 (atv (M16.1 20) 72 q12.1) (atv (M16.1 21) 72 q12.1) M16).bind fun q19 => some (jmax 0 (jmin 99999 q19.1), q19.2))
set_option maxHeartbeats 4000000 in
set_option maxRecDepth 20000 in
theorem C_Rules_worth_14_80 {D : va_G} {ad adK adV : Nat → Nat} {cI cJ : ClassId} {l : Launch} (a1 : Int32) (a2 : Int32) (M0 : Mem) (o : Int32 × Mem) (h : f_Rules_worth_14_80 a1 a2 M0 = some o) : Ct D ad adK adV cI cJ l y_Rules_worth_14_80 cX7_worth 10 (some .int) 3 73 [.ref (ad 14), .int a1, .int a2, .ref (ad 80)] M0 (some (.int o.1)) o.2 := by
  refine x_start (lv := [(0, .ref (ad 14)), (1, .int a1), (2, .int a2), (3, .ref (ad 80))]) (own := "CurrentFarms$Rules") rfl (by decide) (Nat.le_of_ble_eq_true rfl) rfl ?_
  intro p e s m args below meth c Q hQ B
  unfold f_Rules_worth_14_80 at h
  refine x_iconst (v := (-1)) (pc := 0) B dX7_worth_0 rfl ?_
  refine x_istore (lv' := [(4, .int (-1)), (0, .ref (ad 14)), (1, .int a1), (2, .int a2), (3, .ref (ad 80))]) (pc := 1) B dX7_worth_1 (by decide) rfl ?_
  refine x_iconst (v := (-1)) (pc := 3) B dX7_worth_3 rfl ?_
  refine x_istore (lv' := [(5, .int (-1)), (4, .int (-1)), (0, .ref (ad 14)), (1, .int a1), (2, .int a2), (3, .ref (ad 80))]) (pc := 4) B dX7_worth_4 (by decide) rfl ?_
  refine x_iconst (v := 0) (pc := 6) B dX7_worth_6 rfl ?_
  refine x_istore (lv' := [(6, .int 0), (5, .int (-1)), (4, .int (-1)), (0, .ref (ad 14)), (1, .int a1), (2, .int a2), (3, .ref (ad 80))]) (pc := 7) B dX7_worth_7 (by decide) rfl ?_
  refine x_pick (lv' := [(0, .ref (ad 14)), (1, .int a1), (2, .int a2), (3, .ref (ad 80)), (4, .int (-1)), (5, .int (-1)), (6, .int 0)]) [3, 4, 5, 6, 2, 1, 0] rfl ?_
  obtain ⟨q12, hq12, h⟩ := bnd h
  refine x_loop (Head := fun (y1 : Int32 × Int32 × Int32 × Mem) => XX D ad cI cJ p l e (Rm 3 73) s m args below meth c Q 10 y1.2.2.2 9 [(0, .ref (ad 14)), (1, .int a1), (2, .int a2), (3, .ref (ad 80)), (4, .int y1.1), (5, .int y1.2.1), (6, .int y1.2.2.1)] []) (Ex := fun (q12 : Int32 × Mem) => XX D ad cI cJ p l e (Rm 3 73) s m args below meth c Q 10 q12.2 155 [(0, .ref (ad 14)), (1, .int a1), (3, .ref (ad 80)), (4, .int q12.1)] []) (fun y1 r h hback hexit => ?_) FU _ q12 hq12 ?_
  · unfold b_Rules_worth_14_80_9 at h
    refine x_iload (pc := 9) B 6 dX7_worth_9 rfl ?_
    refine x_aload_n (pc := 11) B 0 dX7_worth_11 rfl rfl ?_
    refine x_get (T := TX7) (pc := 12) B 9 oi_14 rfl uw_7 (by decide) rfl tw_224 rfl dX7_worth_12 ?_
    refine x_icmp_ge (tgt := 155) (pc := 15) B dX7_worth_15 rfl (fun hc2 => ?_) (fun hc2 => ?_)
    · have h := iff_ hc2 h
      refine x_pick (lv' := [(0, .ref (ad 14)), (1, .int a1), (3, .ref (ad 80)), (4, .int y1.1)]) [0, 1, 3, 4] rfl ?_
      have z := hexit (y1.1, y1.2.2.2) (Option.some.inj h).symm
      exact z
    · have h := ift hc2 h
      refine x_aload_n (pc := 18) B 0 dX7_worth_18 rfl rfl ?_
      refine x_get (T := TX7) (pc := 19) B 4 oi_14 rfl uw_7 (by decide) rfl tw_213 rfl dX7_worth_19 ?_
      refine x_iload (pc := 22) B 6 dX7_worth_22 rfl ?_
      refine x_callSN (rest := []) (st' := [.int (atv (y1.2.2.2.1 18) 9 y1.2.2.1)]) (pc := 24) B (T_CF_at 18 9 y1.2.2.1 ai_18 (by decide) y1.2.2.2) tw_575 tw_742 tw_574 tw_98 hd_CF_at ⟨Nat.le_of_ble_eq_true rfl, Nat.le_of_ble_eq_true rfl⟩ rfl rfl (Nat.le_of_ble_eq_true rfl) rfl dX7_worth_24 ?_
      refine x_istore (lv' := [(7, .int (atv (y1.2.2.2.1 18) 9 y1.2.2.1)), (0, .ref (ad 14)), (1, .int a1), (2, .int a2), (3, .ref (ad 80)), (4, .int y1.1), (5, .int y1.2.1), (6, .int y1.2.2.1)]) (pc := 27) B dX7_worth_27 (by decide) rfl ?_
      refine x_iload (pc := 29) B 0 dX7_worth_29 rfl ?_
      refine x_iload_n (pc := 31) B 3 dX7_worth_31 rfl rfl ?_
      refine x_icmp_gt (tgt := 149) (pc := 32) B dX7_worth_32 rfl (fun hc3 => ?_) (fun hc3 => ?_)
      · have h := iff_ hc3 h
        refine x_iinc (k := 7) (v := y1.2.2.1 + 1) (lv' := [(6, .int (y1.2.2.1 + 1)), (7, .int (atv (y1.2.2.2.1 18) 9 y1.2.2.1)), (0, .ref (ad 14)), (1, .int a1), (2, .int a2), (3, .ref (ad 80)), (4, .int y1.1), (5, .int y1.2.1)]) (pc := 149) B dX7_worth_149 rfl rfl (by decide) rfl ?_
        refine x_goto (tgt := 9) (pc := 152) B dX7_worth_152 rfl ?_
        refine x_pick (lv' := [(0, .ref (ad 14)), (1, .int a1), (2, .int a2), (3, .ref (ad 80)), (4, .int y1.1), (5, .int y1.2.1), (6, .int (y1.2.2.1 + 1))]) [2, 3, 4, 5, 6, 7, 0] rfl ?_
        have z := hback (y1.1, y1.2.1, y1.2.2.1 + 1, y1.2.2.2) (Option.some.inj h).symm
        exact z
      · have h := ift hc3 h
        refine x_iload (pc := 35) B 0 dX7_worth_35 rfl ?_
        refine x_iload (pc := 37) B 6 dX7_worth_37 rfl ?_
        refine x_icmp_ge (tgt := 45) (pc := 39) B dX7_worth_39 rfl (fun hc4 => ?_) (fun hc4 => ?_)
        · have h := iff_ hc4 h
          refine x_iconst (v := 0) (pc := 45) B dX7_worth_45 rfl ?_
          refine x_istore (lv' := [(8, .int 0), (7, .int (atv (y1.2.2.2.1 18) 9 y1.2.2.1)), (0, .ref (ad 14)), (1, .int a1), (2, .int a2), (3, .ref (ad 80)), (4, .int y1.1), (5, .int y1.2.1), (6, .int y1.2.2.1)]) (pc := 46) B dX7_worth_46 (by decide) rfl ?_
          refine x_pick (lv' := [(0, .ref (ad 14)), (1, .int a1), (2, .int a2), (3, .ref (ad 80)), (4, .int y1.1), (5, .int y1.2.1), (6, .int y1.2.2.1), (7, .int (atv (y1.2.2.2.1 18) 9 y1.2.2.1)), (8, .int 0)]) [2, 3, 4, 5, 6, 7, 8, 1, 0] rfl ?_
          obtain ⟨q11, hq11, h⟩ := bnd h
          refine x_loop (Head := fun (y5 : Int32 × Int32 × Int32 × Mem) => XX D ad cI cJ p l e (Rm 3 73) s m args below meth c Q 10 y5.2.2.2 48 [(0, .ref (ad 14)), (1, .int a1), (2, .int a2), (3, .ref (ad 80)), (4, .int y5.1), (5, .int y5.2.1), (6, .int y1.2.2.1), (7, .int (atv (y1.2.2.2.1 18) 9 y1.2.2.1)), (8, .int y5.2.2.1)] []) (Ex := fun (q11 : Int32 × Int32 × Mem) => XX D ad cI cJ p l e (Rm 3 73) s m args below meth c Q 10 q11.2.2 149 [(0, .ref (ad 14)), (1, .int a1), (2, .int a2), (3, .ref (ad 80)), (4, .int q11.1), (5, .int q11.2.1), (6, .int y1.2.2.1)] []) (fun y5 r h hback hexit => ?_) FU _ q11 hq11 ?_
          · unfold b_Rules_worth_14_80_48 at h
            refine x_iload (pc := 48) B 8 dX7_worth_48 rfl ?_
            refine x_aload_n (pc := 50) B 0 dX7_worth_50 rfl rfl ?_
            refine x_get (T := TX7) (pc := 51) B 3 oi_14 rfl uw_7 (by decide) rfl tw_211 rfl dX7_worth_51 ?_
            refine x_iload (pc := 54) B 6 dX7_worth_54 rfl ?_
            refine x_callSN (rest := [.int y5.2.2.1]) (st' := [.int (atv (y5.2.2.2.1 17) 9 y1.2.2.1), .int y5.2.2.1]) (pc := 56) B (T_CF_at 17 9 y1.2.2.1 ai_17 (by decide) y5.2.2.2) tw_575 tw_742 tw_574 tw_98 hd_CF_at ⟨Nat.le_of_ble_eq_true rfl, Nat.le_of_ble_eq_true rfl⟩ rfl rfl (Nat.le_of_ble_eq_true rfl) rfl dX7_worth_56 ?_
            refine x_icmp_ge (tgt := 149) (pc := 59) B dX7_worth_59 rfl (fun hc6 => ?_) (fun hc6 => ?_)
            · have h := iff_ hc6 h
              refine x_pick (lv' := [(0, .ref (ad 14)), (1, .int a1), (2, .int a2), (3, .ref (ad 80)), (4, .int y5.1), (5, .int y5.2.1), (6, .int y1.2.2.1)]) [0, 1, 2, 3, 4, 5, 6] rfl ?_
              have z := hexit (y5.1, y5.2.1, y5.2.2.2) (Option.some.inj h).symm
              exact z
            · have h := ift hc6 h
              refine x_iload (pc := 62) B 6 dX7_worth_62 rfl ?_
              refine x_bipush (v := 8) (pc := 64) B dX7_worth_64 rfl ?_
              refine x_imul (pc := 66) B dX7_worth_66 ?_
              refine x_iload (pc := 67) B 8 dX7_worth_67 rfl ?_
              refine x_iadd (pc := 69) B dX7_worth_69 ?_
              refine x_istore (lv' := [(9, .int ((y1.2.2.1 * 8) + y5.2.2.1)), (0, .ref (ad 14)), (1, .int a1), (2, .int a2), (3, .ref (ad 80)), (4, .int y5.1), (5, .int y5.2.1), (6, .int y1.2.2.1), (7, .int (atv (y1.2.2.2.1 18) 9 y1.2.2.1)), (8, .int y5.2.2.1)]) (pc := 70) B dX7_worth_70 (by decide) rfl ?_
              refine x_aload_n (pc := 72) B 1 dX7_worth_72 rfl rfl ?_
              refine x_get (T := TX7) (pc := 73) B 5 oi_14 rfl uw_7 (by decide) rfl tw_215 rfl dX7_worth_73 ?_
              refine x_iload (pc := 76) B 0 dX7_worth_76 rfl ?_
              refine x_callSN (rest := []) (st' := [.int (atv (y5.2.2.2.1 19) 72 ((y1.2.2.1 * 8) + y5.2.2.1))]) (pc := 78) B (T_CF_at 19 72 ((y1.2.2.1 * 8) + y5.2.2.1) ai_19 (by decide) y5.2.2.2) tw_575 tw_742 tw_574 tw_98 hd_CF_at ⟨Nat.le_of_ble_eq_true rfl, Nat.le_of_ble_eq_true rfl⟩ rfl rfl (Nat.le_of_ble_eq_true rfl) rfl dX7_worth_78 ?_
              refine x_iload_n (pc := 81) B 2 dX7_worth_81 rfl rfl ?_
              refine x_icmp_ne (tgt := 143) (pc := 82) B dX7_worth_82 rfl (fun hc7 => ?_) (fun hc7 => ?_)
              · have h := iff_ hc7 h
                refine x_iinc (k := 9) (v := y5.2.2.1 + 1) (lv' := [(8, .int (y5.2.2.1 + 1)), (9, .int ((y1.2.2.1 * 8) + y5.2.2.1)), (0, .ref (ad 14)), (1, .int a1), (2, .int a2), (3, .ref (ad 80)), (4, .int y5.1), (5, .int y5.2.1), (6, .int y1.2.2.1), (7, .int (atv (y1.2.2.2.1 18) 9 y1.2.2.1))]) (pc := 143) B dX7_worth_143 rfl rfl (by decide) rfl ?_
                refine x_goto (tgt := 48) (pc := 146) B dX7_worth_146 rfl ?_
                refine x_pick (lv' := [(0, .ref (ad 14)), (1, .int a1), (2, .int a2), (3, .ref (ad 80)), (4, .int y5.1), (5, .int y5.2.1), (6, .int y1.2.2.1), (7, .int (atv (y1.2.2.2.1 18) 9 y1.2.2.1)), (8, .int (y5.2.2.1 + 1))]) [2, 3, 4, 5, 6, 7, 8, 9, 0] rfl ?_
                have z := hback (y5.1, y5.2.1, y5.2.2.1 + 1, y5.2.2.2) (Option.some.inj h).symm
                exact z
              · have h := ift hc7 h
                refine x_aload_n (pc := 85) B 1 dX7_worth_85 rfl rfl ?_
                refine x_get (T := TX7) (pc := 86) B 8 oi_14 rfl uw_7 (by decide) rfl tw_221 rfl dX7_worth_86 ?_
                refine x_iload (pc := 89) B 0 dX7_worth_89 rfl ?_
                refine x_callSN (rest := []) (st' := [.int (atv (y5.2.2.2.1 22) 72 ((y1.2.2.1 * 8) + y5.2.2.1))]) (pc := 91) B (T_CF_at 22 72 ((y1.2.2.1 * 8) + y5.2.2.1) ai_22 (by decide) y5.2.2.2) tw_575 tw_742 tw_574 tw_98 hd_CF_at ⟨Nat.le_of_ble_eq_true rfl, Nat.le_of_ble_eq_true rfl⟩ rfl rfl (Nat.le_of_ble_eq_true rfl) rfl dX7_worth_91 ?_
                refine x_aload_n (pc := 94) B 1 dX7_worth_94 rfl rfl ?_
                refine x_get (T := TX7) (pc := 95) B 7 oi_14 rfl uw_7 (by decide) rfl tw_219 rfl dX7_worth_95 ?_
                refine x_iload (pc := 98) B 0 dX7_worth_98 rfl ?_
                refine x_callSN (rest := [.int (atv (y5.2.2.2.1 22) 72 ((y1.2.2.1 * 8) + y5.2.2.1))]) (st' := [.int (atv (y5.2.2.2.1 21) 72 ((y1.2.2.1 * 8) + y5.2.2.1)), .int (atv (y5.2.2.2.1 22) 72 ((y1.2.2.1 * 8) + y5.2.2.1))]) (pc := 100) B (T_CF_at 21 72 ((y1.2.2.1 * 8) + y5.2.2.1) ai_21 (by decide) y5.2.2.2) tw_575 tw_742 tw_574 tw_98 hd_CF_at ⟨Nat.le_of_ble_eq_true rfl, Nat.le_of_ble_eq_true rfl⟩ rfl rfl (Nat.le_of_ble_eq_true rfl) rfl dX7_worth_100 ?_
                refine x_icmp_le (tgt := 135) (pc := 103) B dX7_worth_103 rfl (fun hc8 => ?_) (fun hc8 => ?_)
                · have h := ift hc8 h
                  refine x_iload (pc := 135) B 0 dX7_worth_135 rfl ?_
                  refine x_istore (lv' := [(4, .int ((y1.2.2.1 * 8) + y5.2.2.1)), (9, .int ((y1.2.2.1 * 8) + y5.2.2.1)), (0, .ref (ad 14)), (1, .int a1), (2, .int a2), (3, .ref (ad 80)), (5, .int y5.2.1), (6, .int y1.2.2.1), (7, .int (atv (y1.2.2.2.1 18) 9 y1.2.2.1)), (8, .int y5.2.2.1)]) (pc := 137) B dX7_worth_137 (by decide) rfl ?_
                  refine x_iload (pc := 139) B 8 dX7_worth_139 rfl ?_
                  refine x_istore (lv' := [(5, .int (atv (y1.2.2.2.1 18) 9 y1.2.2.1)), (4, .int ((y1.2.2.1 * 8) + y5.2.2.1)), (9, .int ((y1.2.2.1 * 8) + y5.2.2.1)), (0, .ref (ad 14)), (1, .int a1), (2, .int a2), (3, .ref (ad 80)), (6, .int y1.2.2.1), (7, .int (atv (y1.2.2.2.1 18) 9 y1.2.2.1)), (8, .int y5.2.2.1)]) (pc := 141) B dX7_worth_141 (by decide) rfl ?_
                  refine x_iinc (k := 9) (v := y5.2.2.1 + 1) (lv' := [(8, .int (y5.2.2.1 + 1)), (5, .int (atv (y1.2.2.2.1 18) 9 y1.2.2.1)), (4, .int ((y1.2.2.1 * 8) + y5.2.2.1)), (9, .int ((y1.2.2.1 * 8) + y5.2.2.1)), (0, .ref (ad 14)), (1, .int a1), (2, .int a2), (3, .ref (ad 80)), (6, .int y1.2.2.1), (7, .int (atv (y1.2.2.2.1 18) 9 y1.2.2.1))]) (pc := 143) B dX7_worth_143 rfl rfl (by decide) rfl ?_
                  refine x_goto (tgt := 48) (pc := 146) B dX7_worth_146 rfl ?_
                  refine x_pick (lv' := [(0, .ref (ad 14)), (1, .int a1), (2, .int a2), (3, .ref (ad 80)), (4, .int ((y1.2.2.1 * 8) + y5.2.2.1)), (5, .int (atv (y1.2.2.2.1 18) 9 y1.2.2.1)), (6, .int y1.2.2.1), (7, .int (atv (y1.2.2.2.1 18) 9 y1.2.2.1)), (8, .int (y5.2.2.1 + 1))]) [4, 5, 6, 7, 2, 1, 8, 9, 0] rfl ?_
                  have z := hback ((y1.2.2.1 * 8) + y5.2.2.1, atv (y1.2.2.2.1 18) 9 y1.2.2.1, y5.2.2.1 + 1, y5.2.2.2) (Option.some.inj h).symm
                  exact z
                · have h := iff_ hc8 h
                  refine x_aload_n (pc := 106) B 1 dX7_worth_106 rfl rfl ?_
                  refine x_aload_n (pc := 107) B 1 dX7_worth_107 rfl rfl ?_
                  refine x_get (T := TX7) (pc := 108) B 7 oi_14 rfl uw_7 (by decide) rfl tw_219 rfl dX7_worth_108 ?_
                  refine x_iload (pc := 111) B 0 dX7_worth_111 rfl ?_
                  refine x_callSN (rest := [.ref (ad 14)]) (st' := [.int (atv (y5.2.2.2.1 21) 72 ((y1.2.2.1 * 8) + y5.2.2.1)), .ref (ad 14)]) (pc := 113) B (T_CF_at 21 72 ((y1.2.2.1 * 8) + y5.2.2.1) ai_21 (by decide) y5.2.2.2) tw_575 tw_742 tw_574 tw_98 hd_CF_at ⟨Nat.le_of_ble_eq_true rfl, Nat.le_of_ble_eq_true rfl⟩ rfl rfl (Nat.le_of_ble_eq_true rfl) rfl dX7_worth_113 ?_
                  refine x_aload_n (pc := 116) B 1 dX7_worth_116 rfl rfl ?_
                  refine x_get (T := TX7) (pc := 117) B 8 oi_14 rfl uw_7 (by decide) rfl tw_221 rfl dX7_worth_117 ?_
                  refine x_iload (pc := 120) B 0 dX7_worth_120 rfl ?_
                  refine x_callSN (rest := [.int (atv (y5.2.2.2.1 21) 72 ((y1.2.2.1 * 8) + y5.2.2.1)), .ref (ad 14)]) (st' := [.int (atv (y5.2.2.2.1 22) 72 ((y1.2.2.1 * 8) + y5.2.2.1)), .int (atv (y5.2.2.2.1 21) 72 ((y1.2.2.1 * 8) + y5.2.2.1)), .ref (ad 14)]) (pc := 122) B (T_CF_at 22 72 ((y1.2.2.1 * 8) + y5.2.2.1) ai_22 (by decide) y5.2.2.2) tw_575 tw_742 tw_574 tw_98 hd_CF_at ⟨Nat.le_of_ble_eq_true rfl, Nat.le_of_ble_eq_true rfl⟩ rfl rfl (Nat.le_of_ble_eq_true rfl) rfl dX7_worth_122 ?_
                  refine x_aload_n (pc := 125) B 4 dX7_worth_125 rfl rfl ?_
                  obtain ⟨q9, hq9, h⟩ := bnd h
                  refine x_callV (rest := []) (st' := [.int q9.1]) (pc := 126) B oi_14 rfl (C_Rules_run_14_80 (atv (y5.2.2.2.1 21) 72 ((y1.2.2.1 * 8) + y5.2.2.1)) (atv (y5.2.2.2.1 22) 72 ((y1.2.2.1 * 8) + y5.2.2.1)) y5.2.2.2 _ hq9) tw_746 tw_743 tw_745 tw_12 tw_102 hd_Rules_run_14_80 ⟨Nat.le_of_ble_eq_true rfl, Nat.le_of_ble_eq_true rfl⟩ rfl rfl (Nat.le_of_ble_eq_true rfl) rfl dX7_worth_126 ?_
                  refine x_if_le (tgt := 135) (pc := 129) B dX7_worth_129 rfl (fun hc10 => ?_) (fun hc10 => ?_)
                  · have h := ift hc10 h
                    refine x_iload (pc := 135) B 0 dX7_worth_135 rfl ?_
                    refine x_istore (lv' := [(4, .int ((y1.2.2.1 * 8) + y5.2.2.1)), (9, .int ((y1.2.2.1 * 8) + y5.2.2.1)), (0, .ref (ad 14)), (1, .int a1), (2, .int a2), (3, .ref (ad 80)), (5, .int y5.2.1), (6, .int y1.2.2.1), (7, .int (atv (y1.2.2.2.1 18) 9 y1.2.2.1)), (8, .int y5.2.2.1)]) (pc := 137) B dX7_worth_137 (by decide) rfl ?_
                    refine x_iload (pc := 139) B 8 dX7_worth_139 rfl ?_
                    refine x_istore (lv' := [(5, .int (atv (y1.2.2.2.1 18) 9 y1.2.2.1)), (4, .int ((y1.2.2.1 * 8) + y5.2.2.1)), (9, .int ((y1.2.2.1 * 8) + y5.2.2.1)), (0, .ref (ad 14)), (1, .int a1), (2, .int a2), (3, .ref (ad 80)), (6, .int y1.2.2.1), (7, .int (atv (y1.2.2.2.1 18) 9 y1.2.2.1)), (8, .int y5.2.2.1)]) (pc := 141) B dX7_worth_141 (by decide) rfl ?_
                    refine x_iinc (k := 9) (v := y5.2.2.1 + 1) (lv' := [(8, .int (y5.2.2.1 + 1)), (5, .int (atv (y1.2.2.2.1 18) 9 y1.2.2.1)), (4, .int ((y1.2.2.1 * 8) + y5.2.2.1)), (9, .int ((y1.2.2.1 * 8) + y5.2.2.1)), (0, .ref (ad 14)), (1, .int a1), (2, .int a2), (3, .ref (ad 80)), (6, .int y1.2.2.1), (7, .int (atv (y1.2.2.2.1 18) 9 y1.2.2.1))]) (pc := 143) B dX7_worth_143 rfl rfl (by decide) rfl ?_
                    refine x_goto (tgt := 48) (pc := 146) B dX7_worth_146 rfl ?_
                    refine x_pick (lv' := [(0, .ref (ad 14)), (1, .int a1), (2, .int a2), (3, .ref (ad 80)), (4, .int ((y1.2.2.1 * 8) + y5.2.2.1)), (5, .int (atv (y1.2.2.2.1 18) 9 y1.2.2.1)), (6, .int y1.2.2.1), (7, .int (atv (y1.2.2.2.1 18) 9 y1.2.2.1)), (8, .int (y5.2.2.1 + 1))]) [4, 5, 6, 7, 2, 1, 8, 9, 0] rfl ?_
                    have z := hback ((y1.2.2.1 * 8) + y5.2.2.1, atv (y1.2.2.2.1 18) 9 y1.2.2.1, y5.2.2.1 + 1, q9.2) (Option.some.inj h).symm
                    exact z
                  · have h := iff_ hc10 h
                    refine x_goto (tgt := 143) (pc := 132) B dX7_worth_132 rfl ?_
                    refine x_iinc (k := 9) (v := y5.2.2.1 + 1) (lv' := [(8, .int (y5.2.2.1 + 1)), (9, .int ((y1.2.2.1 * 8) + y5.2.2.1)), (0, .ref (ad 14)), (1, .int a1), (2, .int a2), (3, .ref (ad 80)), (4, .int y5.1), (5, .int y5.2.1), (6, .int y1.2.2.1), (7, .int (atv (y1.2.2.2.1 18) 9 y1.2.2.1))]) (pc := 143) B dX7_worth_143 rfl rfl (by decide) rfl ?_
                    refine x_goto (tgt := 48) (pc := 146) B dX7_worth_146 rfl ?_
                    refine x_pick (lv' := [(0, .ref (ad 14)), (1, .int a1), (2, .int a2), (3, .ref (ad 80)), (4, .int y5.1), (5, .int y5.2.1), (6, .int y1.2.2.1), (7, .int (atv (y1.2.2.2.1 18) 9 y1.2.2.1)), (8, .int (y5.2.2.1 + 1))]) [2, 3, 4, 5, 6, 7, 8, 9, 0] rfl ?_
                    have z := hback (y5.1, y5.2.1, y5.2.2.1 + 1, q9.2) (Option.some.inj h).symm
                    exact z
          · refine x_iinc (k := 6) (v := y1.2.2.1 + 1) (lv' := [(6, .int (y1.2.2.1 + 1)), (0, .ref (ad 14)), (1, .int a1), (2, .int a2), (3, .ref (ad 80)), (4, .int q11.1), (5, .int q11.2.1)]) (pc := 149) B dX7_worth_149 rfl rfl (by decide) rfl ?_
            refine x_goto (tgt := 9) (pc := 152) B dX7_worth_152 rfl ?_
            refine x_pick (lv' := [(0, .ref (ad 14)), (1, .int a1), (2, .int a2), (3, .ref (ad 80)), (4, .int q11.1), (5, .int q11.2.1), (6, .int (y1.2.2.1 + 1))]) [1, 2, 3, 4, 5, 6, 0] rfl ?_
            have z := hback (q11.1, q11.2.1, y1.2.2.1 + 1, q11.2.2) (Option.some.inj h).symm
            exact z
        · have h := ift hc4 h
          refine x_goto (tgt := 149) (pc := 42) B dX7_worth_42 rfl ?_
          refine x_iinc (k := 7) (v := y1.2.2.1 + 1) (lv' := [(6, .int (y1.2.2.1 + 1)), (7, .int (atv (y1.2.2.2.1 18) 9 y1.2.2.1)), (0, .ref (ad 14)), (1, .int a1), (2, .int a2), (3, .ref (ad 80)), (4, .int y1.1), (5, .int y1.2.1)]) (pc := 149) B dX7_worth_149 rfl rfl (by decide) rfl ?_
          refine x_goto (tgt := 9) (pc := 152) B dX7_worth_152 rfl ?_
          refine x_pick (lv' := [(0, .ref (ad 14)), (1, .int a1), (2, .int a2), (3, .ref (ad 80)), (4, .int y1.1), (5, .int y1.2.1), (6, .int (y1.2.2.1 + 1))]) [2, 3, 4, 5, 6, 7, 0] rfl ?_
          have z := hback (y1.1, y1.2.1, y1.2.2.1 + 1, y1.2.2.2) (Option.some.inj h).symm
          exact z
  · refine x_aload_n (pc := 155) B 0 dX7_worth_155 rfl rfl ?_
    refine x_iload (pc := 156) B 3 dX7_worth_156 rfl ?_
    refine jv_k h (fun (u15 : Int32) => XX D ad cI cJ p l e (Rm 3 73) s m args below meth c Q 10 q12.2 180 [(0, .ref (ad 14)), (1, .int a1), (3, .ref (ad 80)), (4, .int q12.1)] [.int u15, .ref (ad 14)]) (fun u15 h => ?_) (fun JJ => ?_)
    · refine x_put (T := TX7) (pc := 180) B 11 oi_14 of_14_11 rfl uw_7 tyX7_ok nmX7 (by decide) rfl tw_227 rfl rfl rfl (Nat.le_of_ble_eq_true rfl) dX7_worth_180 ?_
      refine jv_m (P := fun M16 => XX D ad cI cJ p l e (Rm 3 73) s m args below meth c Q 10 M16 183 [(0, .ref (ad 14)), (1, .int a1), (3, .ref (ad 80)), (4, .int q12.1)] []) h (fun M16 h => ?_)
      refine x_iload (pc := 183) B 3 dX7_worth_183 rfl ?_
      refine x_if_ge (tgt := 198) (pc := 185) B dX7_worth_185 rfl (fun hc17 => ?_) (fun hc17 => ?_)
      · have h := iff_ hc17 h
        refine x_iconst (v := 0) (pc := 198) B dX7_worth_198 rfl ?_
        refine x_ldc (v := 99999) (pc := 199) B tw_763 dX7_worth_199 ?_
        refine x_aload_n (pc := 201) B 0 dX7_worth_201 rfl rfl ?_
        refine x_aload_n (pc := 202) B 0 dX7_worth_202 rfl rfl ?_
        refine x_get (T := TX7) (pc := 203) B 6 oi_14 rfl uw_7 (by decide) rfl tw_217 rfl dX7_worth_203 ?_
        refine x_iload (pc := 206) B 3 dX7_worth_206 rfl ?_
        refine x_callSN (rest := [.ref (ad 14), .int 99999, .int 0]) (st' := [.int (atv (M16.1 20) 72 q12.1), .ref (ad 14), .int 99999, .int 0]) (pc := 208) B (T_CF_at 20 72 q12.1 ai_20 (by decide) M16) tw_575 tw_742 tw_574 tw_98 hd_CF_at ⟨Nat.le_of_ble_eq_true rfl, Nat.le_of_ble_eq_true rfl⟩ rfl rfl (Nat.le_of_ble_eq_true rfl) rfl dX7_worth_208 ?_
        refine x_aload_n (pc := 211) B 0 dX7_worth_211 rfl rfl ?_
        refine x_get (T := TX7) (pc := 212) B 7 oi_14 rfl uw_7 (by decide) rfl tw_219 rfl dX7_worth_212 ?_
        refine x_iload (pc := 215) B 3 dX7_worth_215 rfl ?_
        refine x_callSN (rest := [.int (atv (M16.1 20) 72 q12.1), .ref (ad 14), .int 99999, .int 0]) (st' := [.int (atv (M16.1 21) 72 q12.1), .int (atv (M16.1 20) 72 q12.1), .ref (ad 14), .int 99999, .int 0]) (pc := 217) B (T_CF_at 21 72 q12.1 ai_21 (by decide) M16) tw_575 tw_742 tw_574 tw_98 hd_CF_at ⟨Nat.le_of_ble_eq_true rfl, Nat.le_of_ble_eq_true rfl⟩ rfl rfl (Nat.le_of_ble_eq_true rfl) rfl dX7_worth_217 ?_
        refine x_aload_n (pc := 220) B 2 dX7_worth_220 rfl rfl ?_
        obtain ⟨q19, hq19, h⟩ := bnd h
        refine x_callV (rest := [.int 99999, .int 0]) (st' := [.int q19.1, .int 99999, .int 0]) (pc := 221) B oi_14 rfl (C_Rules_run_14_80 (atv (M16.1 20) 72 q12.1) (atv (M16.1 21) 72 q12.1) M16 _ hq19) tw_746 tw_743 tw_745 tw_12 tw_102 hd_Rules_run_14_80 ⟨Nat.le_of_ble_eq_true rfl, Nat.le_of_ble_eq_true rfl⟩ rfl rfl (Nat.le_of_ble_eq_true rfl) rfl dX7_worth_221 ?_
        refine x_mmin (pc := 224) B tw_752 tw_753 tw_112 tw_754 (by decide) (Nat.le_of_ble_eq_true rfl) dX7_worth_224 ?_
        refine x_mmax (pc := 227) B tw_751 tw_608 tw_112 tw_609 (by decide) (Nat.le_of_ble_eq_true rfl) dX7_worth_227 ?_
        obtain rfl := Option.some.inj h
        exact x_iret (pc := 230) B hQ dX7_worth_230
      · have h := ift hc17 h
        refine x_iload_n (pc := 188) B 1 dX7_worth_188 rfl rfl ?_
        refine x_aload_n (pc := 189) B 2 dX7_worth_189 rfl rfl ?_
        refine x_iconst (v := 0) (pc := 190) B dX7_worth_190 rfl ?_
        refine x_callSN (rest := [.int a1]) (st' := [.int (atv (M16.1 80) 5 0), .int a1]) (pc := 191) B (T_CF_at 80 5 0 ai_80 (by decide) M16) tw_575 tw_742 tw_574 tw_98 hd_CF_at ⟨Nat.le_of_ble_eq_true rfl, Nat.le_of_ble_eq_true rfl⟩ rfl rfl (Nat.le_of_ble_eq_true rfl) rfl dX7_worth_191 ?_
        obtain ⟨q18, hq18, h⟩ := bnd h
        refine x_callS (rest := []) (st' := [.int q18]) (pc := 194) B (C_Rules_usual a1 (atv (M16.1 80) 5 0) M16 _ hq18) tw_762 tw_760 tw_761 tw_102 hd_Rules_usual ⟨Nat.le_of_ble_eq_true rfl, Nat.le_of_ble_eq_true rfl⟩ rfl rfl (Nat.le_of_ble_eq_true rfl) rfl dX7_worth_194 ?_
        obtain rfl := Option.some.inj h
        exact x_iret (pc := 197) B hQ dX7_worth_197
    · refine x_if_ge (tgt := 166) (pc := 158) B dX7_worth_158 rfl (fun hc13 => ?_) (fun hc13 => ?_)
      · refine x_bipush (v := 100) (pc := 166) B dX7_worth_166 rfl ?_
        refine x_iload (pc := 168) B 3 dX7_worth_168 rfl ?_
        refine x_bipush (v := 8) (pc := 170) B dX7_worth_170 rfl ?_
        refine x_idiv (pc := 172) B dX7_worth_172 (by decide) ?_
        refine x_imul (pc := 173) B dX7_worth_173 ?_
        refine x_iload (pc := 174) B 3 dX7_worth_174 rfl ?_
        refine x_bipush (v := 8) (pc := 176) B dX7_worth_176 rfl ?_
        refine x_irem (pc := 178) B dX7_worth_178 (by decide) ?_
        refine x_iadd (pc := 179) B dX7_worth_179 ?_
        have z := JJ ((100 * (q12.1 / 8)) + (q12.1 - q12.1 / 8 * 8)) ((zif_f hc13).trans rfl)
        exact z
      · refine x_bipush (v := (-5)) (pc := 161) B dX7_worth_161 rfl ?_
        refine x_goto (tgt := 180) (pc := 163) B dX7_worth_163 rfl ?_
        have z := JJ (-5) ((zif_t hc13).trans rfl)
        exact z
-- CurrentFarms$Coins.paidOf(II)I [36]
abbrev y_Coins_paidOf_36 : MethodName := ⟨"CurrentFarms$Coins", "paidOf", "(II)I"⟩
abbrev cX3_paidOf : ByteArray := prog_5_method_4_code
theorem dX3_paidOf_0 : decode cX3_paidOf 0 = .ok (.aload_n 0, 1) := by decide +kernel
theorem dX3_paidOf_1 : decode cX3_paidOf 1 = .ok (.getfield 15, 3) := by decide +kernel
theorem dX3_paidOf_4 : decode cX3_paidOf 4 = .ok (.iload_n 1, 1) := by decide +kernel
theorem dX3_paidOf_5 : decode cX3_paidOf 5 = .ok (.iload_n 2, 1) := by decide +kernel
theorem dX3_paidOf_6 : decode cX3_paidOf 6 = .ok (.invokestatic 44, 3) := by decide +kernel
theorem dX3_paidOf_9 : decode cX3_paidOf 9 = .ok (.invokestatic 48, 3) := by decide +kernel
theorem dX3_paidOf_12 : decode cX3_paidOf 12 = .ok (.ireturn, 1) := by decide +kernel
theorem hd_Coins_paidOf_36 : y_Coins_paidOf_36.cls ≠ "java/lang/invoke/MethodHandle" ∧ y_Coins_paidOf_36.cls ≠ "java/lang/invoke/VarHandle" ∧ (parseMethodDescriptor y_Coins_paidOf_36.desc).map (fun d => d.parameters.length) = some 2 := by decide +kernel
def f_Coins_paidOf_36 (a1 : Int32) (a2 : Int32) (M0 : Mem) : Option (Int32) :=
  some (atv (M0.1 38) 1210 (slt a1 a2))
set_option maxHeartbeats 4000000 in
set_option maxRecDepth 20000 in
theorem C_Coins_paidOf_36 {D : va_G} {ad adK adV : Nat → Nat} {cI cJ : ClassId} {l : Launch} (a1 : Int32) (a2 : Int32) (M0 : Mem) (o : Int32) (h : f_Coins_paidOf_36 a1 a2 M0 = some o) : Ct D ad adK adV cI cJ l y_Coins_paidOf_36 cX3_paidOf 3 (some .int) 1 22 [.ref (ad 36), .int a1, .int a2] M0 (some (.int o)) M0 := by
  refine x_start (lv := [(0, .ref (ad 36)), (1, .int a1), (2, .int a2)]) (own := "CurrentFarms$Coins") rfl (by decide) (Nat.le_of_ble_eq_true rfl) rfl ?_
  intro p e s m args below meth c Q hQ B
  unfold f_Coins_paidOf_36 at h
  refine x_aload_n (pc := 0) B 0 dX3_paidOf_0 rfl rfl ?_
  refine x_get (T := TX3) (pc := 1) B 1 oi_36 rfl uw_3 (by decide) rfl tw_335 rfl dX3_paidOf_1 ?_
  refine x_iload_n (pc := 4) B 1 dX3_paidOf_4 rfl rfl ?_
  refine x_iload_n (pc := 5) B 2 dX3_paidOf_5 rfl rfl ?_
  refine x_callSN (rest := [.ref (ad 38)]) (st' := [.int (slt a1 a2), .ref (ad 38)]) (pc := 6) B (T_CF_slot a1 a2 M0) tw_728 tw_726 tw_727 tw_98 hd_CF_slot ⟨Nat.le_of_ble_eq_true rfl, Nat.le_of_ble_eq_true rfl⟩ rfl rfl (Nat.le_of_ble_eq_true rfl) rfl dX3_paidOf_6 ?_
  refine x_callSN (rest := []) (st' := [.int (atv (M0.1 38) 1210 (slt a1 a2))]) (pc := 9) B (T_CF_at 38 1210 (slt a1 a2) ai_38 (by decide) M0) tw_575 tw_729 tw_574 tw_98 hd_CF_at ⟨Nat.le_of_ble_eq_true rfl, Nat.le_of_ble_eq_true rfl⟩ rfl rfl (Nat.le_of_ble_eq_true rfl) rfl dX3_paidOf_9 ?_
  obtain rfl := Option.some.inj h
  exact x_iret (pc := 12) B hQ dX3_paidOf_12
-- CurrentFarms$Account.walk(II)V [79]
abbrev y_Account_walk_79 : MethodName := ⟨"CurrentFarms$Account", "walk", "(II)V"⟩
abbrev cX0_walk : ByteArray := prog_2_method_2_code
theorem dX0_walk_0 : decode cX0_walk 0 = .ok (.aload_n 0, 1) := by decide +kernel
theorem dX0_walk_1 : decode cX0_walk 1 = .ok (.invokevirtual 19, 3) := by decide +kernel
theorem dX0_walk_4 : decode cX0_walk 4 = .ok (.aload_n 0, 1) := by decide +kernel
theorem dX0_walk_5 : decode cX0_walk 5 = .ok (.getfield 9, 3) := by decide +kernel
theorem dX0_walk_8 : decode cX0_walk 8 = .ok (.iconst 1, 1) := by decide +kernel
theorem dX0_walk_9 : decode cX0_walk 9 = .ok (.aload_n 0, 1) := by decide +kernel
theorem dX0_walk_10 : decode cX0_walk 10 = .ok (.getfield 15, 3) := by decide +kernel
theorem dX0_walk_13 : decode cX0_walk 13 = .ok (.getfield 22, 3) := by decide +kernel
theorem dX0_walk_16 : decode cX0_walk 16 = .ok (.getfield 28, 3) := by decide +kernel
theorem dX0_walk_19 : decode cX0_walk 19 = .ok (.iload_n 1, 1) := by decide +kernel
theorem dX0_walk_20 : decode cX0_walk 20 = .ok (.invokestatic 33, 3) := by decide +kernel
theorem dX0_walk_23 : decode cX0_walk 23 = .ok (.invokestatic 37, 3) := by decide +kernel
theorem dX0_walk_26 : decode cX0_walk 26 = .ok (.aload_n 0, 1) := by decide +kernel
theorem dX0_walk_27 : decode cX0_walk 27 = .ok (.getfield 9, 3) := by decide +kernel
theorem dX0_walk_30 : decode cX0_walk 30 = .ok (.iconst 4, 1) := by decide +kernel
theorem dX0_walk_31 : decode cX0_walk 31 = .ok (.aload_n 0, 1) := by decide +kernel
theorem dX0_walk_32 : decode cX0_walk 32 = .ok (.getfield 15, 3) := by decide +kernel
theorem dX0_walk_35 : decode cX0_walk 35 = .ok (.getfield 41, 3) := by decide +kernel
theorem dX0_walk_38 : decode cX0_walk 38 = .ok (.aload_n 0, 1) := by decide +kernel
theorem dX0_walk_39 : decode cX0_walk 39 = .ok (.getfield 15, 3) := by decide +kernel
theorem dX0_walk_42 : decode cX0_walk 42 = .ok (.getfield 22, 3) := by decide +kernel
theorem dX0_walk_45 : decode cX0_walk 45 = .ok (.iload_n 1, 1) := by decide +kernel
theorem dX0_walk_46 : decode cX0_walk 46 = .ok (.invokevirtual 45, 3) := by decide +kernel
theorem dX0_walk_49 : decode cX0_walk 49 = .ok (.invokevirtual 49, 3) := by decide +kernel
theorem dX0_walk_52 : decode cX0_walk 52 = .ok (.invokestatic 37, 3) := by decide +kernel
theorem dX0_walk_55 : decode cX0_walk 55 = .ok (.iconst 0, 1) := by decide +kernel
theorem dX0_walk_56 : decode cX0_walk 56 = .ok (.istore_n 3, 1) := by decide +kernel
theorem dX0_walk_57 : decode cX0_walk 57 = .ok (.iload_n 3, 1) := by decide +kernel
theorem dX0_walk_58 : decode cX0_walk 58 = .ok (.iload_n 2, 1) := by decide +kernel
theorem dX0_walk_59 : decode cX0_walk 59 = .ok (.if_icmp .gt 244, 3) := by decide +kernel
theorem dX0_walk_62 : decode cX0_walk 62 = .ok (.iload_n 3, 1) := by decide +kernel
theorem dX0_walk_63 : decode cX0_walk 63 = .ok (.bipush 121, 2) := by decide +kernel
theorem dX0_walk_65 : decode cX0_walk 65 = .ok (.if_icmp .ge 238, 3) := by decide +kernel
theorem dX0_walk_68 : decode cX0_walk 68 = .ok (.aload_n 0, 1) := by decide +kernel
theorem dX0_walk_69 : decode cX0_walk 69 = .ok (.getfield 15, 3) := by decide +kernel
theorem dX0_walk_72 : decode cX0_walk 72 = .ok (.getfield 54, 3) := by decide +kernel
theorem dX0_walk_75 : decode cX0_walk 75 = .ok (.iload_n 1, 1) := by decide +kernel
theorem dX0_walk_76 : decode cX0_walk 76 = .ok (.iload_n 3, 1) := by decide +kernel
theorem dX0_walk_77 : decode cX0_walk 77 = .ok (.iconst (-1), 1) := by decide +kernel
theorem dX0_walk_78 : decode cX0_walk 78 = .ok (.invokevirtual 58, 3) := by decide +kernel
theorem dX0_walk_81 : decode cX0_walk 81 = .ok (.istore 4, 2) := by decide +kernel
theorem dX0_walk_83 : decode cX0_walk 83 = .ok (.iload 4, 2) := by decide +kernel
theorem dX0_walk_85 : decode cX0_walk 85 = .ok (.iconst 3, 1) := by decide +kernel
theorem dX0_walk_86 : decode cX0_walk 86 = .ok (.if_icmp .ne 7, 3) := by decide +kernel
theorem dX0_walk_89 : decode cX0_walk 89 = .ok (.iconst 1, 1) := by decide +kernel
theorem dX0_walk_90 : decode cX0_walk 90 = .ok (.goto 4, 3) := by decide +kernel
theorem dX0_walk_93 : decode cX0_walk 93 = .ok (.iconst 0, 1) := by decide +kernel
theorem dX0_walk_94 : decode cX0_walk 94 = .ok (.istore 5, 2) := by decide +kernel
theorem dX0_walk_96 : decode cX0_walk 96 = .ok (.aload_n 0, 1) := by decide +kernel
theorem dX0_walk_97 : decode cX0_walk 97 = .ok (.iload 5, 2) := by decide +kernel
theorem dX0_walk_99 : decode cX0_walk 99 = .ok (.ifCond .eq 23, 3) := by decide +kernel
theorem dX0_walk_102 : decode cX0_walk 102 = .ok (.aload_n 0, 1) := by decide +kernel
theorem dX0_walk_103 : decode cX0_walk 103 = .ok (.aload_n 0, 1) := by decide +kernel
theorem dX0_walk_104 : decode cX0_walk 104 = .ok (.getfield 15, 3) := by decide +kernel
theorem dX0_walk_107 : decode cX0_walk 107 = .ok (.getfield 64, 3) := by decide +kernel
theorem dX0_walk_110 : decode cX0_walk 110 = .ok (.iload_n 1, 1) := by decide +kernel
theorem dX0_walk_111 : decode cX0_walk 111 = .ok (.iload_n 3, 1) := by decide +kernel
theorem dX0_walk_112 : decode cX0_walk 112 = .ok (.invokevirtual 68, 3) := by decide +kernel
theorem dX0_walk_115 : decode cX0_walk 115 = .ok (.iload_n 3, 1) := by decide +kernel
theorem dX0_walk_116 : decode cX0_walk 116 = .ok (.invokevirtual 74, 3) := by decide +kernel
theorem dX0_walk_119 : decode cX0_walk 119 = .ok (.goto 4, 3) := by decide +kernel
theorem dX0_walk_122 : decode cX0_walk 122 = .ok (.iconst 0, 1) := by decide +kernel
theorem dX0_walk_123 : decode cX0_walk 123 = .ok (.putfield 77, 3) := by decide +kernel
theorem dX0_walk_126 : decode cX0_walk 126 = .ok (.aload_n 0, 1) := by decide +kernel
theorem dX0_walk_127 : decode cX0_walk 127 = .ok (.getfield 9, 3) := by decide +kernel
theorem dX0_walk_130 : decode cX0_walk 130 = .ok (.iconst 0, 1) := by decide +kernel
theorem dX0_walk_131 : decode cX0_walk 131 = .ok (.aload_n 0, 1) := by decide +kernel
theorem dX0_walk_132 : decode cX0_walk 132 = .ok (.getfield 77, 3) := by decide +kernel
theorem dX0_walk_135 : decode cX0_walk 135 = .ok (.invokestatic 37, 3) := by decide +kernel
theorem dX0_walk_138 : decode cX0_walk 138 = .ok (.aload_n 0, 1) := by decide +kernel
theorem dX0_walk_139 : decode cX0_walk 139 = .ok (.getfield 9, 3) := by decide +kernel
theorem dX0_walk_142 : decode cX0_walk 142 = .ok (.iconst 2, 1) := by decide +kernel
theorem dX0_walk_143 : decode cX0_walk 143 = .ok (.iload 4, 2) := by decide +kernel
theorem dX0_walk_145 : decode cX0_walk 145 = .ok (.invokestatic 37, 3) := by decide +kernel
theorem dX0_walk_148 : decode cX0_walk 148 = .ok (.aload_n 0, 1) := by decide +kernel
theorem dX0_walk_149 : decode cX0_walk 149 = .ok (.getfield 9, 3) := by decide +kernel
theorem dX0_walk_152 : decode cX0_walk 152 = .ok (.iconst 3, 1) := by decide +kernel
theorem dX0_walk_153 : decode cX0_walk 153 = .ok (.aload_n 0, 1) := by decide +kernel
theorem dX0_walk_154 : decode cX0_walk 154 = .ok (.getfield 81, 3) := by decide +kernel
theorem dX0_walk_157 : decode cX0_walk 157 = .ok (.invokestatic 37, 3) := by decide +kernel
theorem dX0_walk_160 : decode cX0_walk 160 = .ok (.aload_n 0, 1) := by decide +kernel
theorem dX0_walk_161 : decode cX0_walk 161 = .ok (.iload 5, 2) := by decide +kernel
theorem dX0_walk_163 : decode cX0_walk 163 = .ok (.ifCond .eq 39, 3) := by decide +kernel
theorem dX0_walk_166 : decode cX0_walk 166 = .ok (.aload_n 0, 1) := by decide +kernel
theorem dX0_walk_167 : decode cX0_walk 167 = .ok (.getfield 15, 3) := by decide +kernel
theorem dX0_walk_170 : decode cX0_walk 170 = .ok (.getfield 84, 3) := by decide +kernel
theorem dX0_walk_173 : decode cX0_walk 173 = .ok (.iconst 1, 1) := by decide +kernel
theorem dX0_walk_174 : decode cX0_walk 174 = .ok (.iload_n 3, 1) := by decide +kernel
theorem dX0_walk_175 : decode cX0_walk 175 = .ok (.aload_n 0, 1) := by decide +kernel
theorem dX0_walk_176 : decode cX0_walk 176 = .ok (.getfield 9, 3) := by decide +kernel
theorem dX0_walk_179 : decode cX0_walk 179 = .ok (.invokevirtual 88, 3) := by decide +kernel
theorem dX0_walk_182 : decode cX0_walk 182 = .ok (.aload_n 0, 1) := by decide +kernel
theorem dX0_walk_183 : decode cX0_walk 183 = .ok (.getfield 15, 3) := by decide +kernel
theorem dX0_walk_186 : decode cX0_walk 186 = .ok (.getfield 84, 3) := by decide +kernel
theorem dX0_walk_189 : decode cX0_walk 189 = .ok (.iconst 2, 1) := by decide +kernel
theorem dX0_walk_190 : decode cX0_walk 190 = .ok (.iload_n 3, 1) := by decide +kernel
theorem dX0_walk_191 : decode cX0_walk 191 = .ok (.aload_n 0, 1) := by decide +kernel
theorem dX0_walk_192 : decode cX0_walk 192 = .ok (.getfield 9, 3) := by decide +kernel
theorem dX0_walk_195 : decode cX0_walk 195 = .ok (.invokevirtual 88, 3) := by decide +kernel
theorem dX0_walk_198 : decode cX0_walk 198 = .ok (.iadd, 1) := by decide +kernel
theorem dX0_walk_199 : decode cX0_walk 199 = .ok (.goto 4, 3) := by decide +kernel
theorem dX0_walk_202 : decode cX0_walk 202 = .ok (.iconst 0, 1) := by decide +kernel
theorem dX0_walk_203 : decode cX0_walk 203 = .ok (.putfield 94, 3) := by decide +kernel
theorem dX0_walk_206 : decode cX0_walk 206 = .ok (.aload_n 0, 1) := by decide +kernel
theorem dX0_walk_207 : decode cX0_walk 207 = .ok (.getfield 81, 3) := by decide +kernel
theorem dX0_walk_210 : decode cX0_walk 210 = .ok (.i2l, 1) := by decide +kernel
theorem dX0_walk_211 : decode cX0_walk 211 = .ok (.aload_n 0, 1) := by decide +kernel
theorem dX0_walk_212 : decode cX0_walk 212 = .ok (.getfield 94, 3) := by decide +kernel
theorem dX0_walk_215 : decode cX0_walk 215 = .ok (.i2l, 1) := by decide +kernel
theorem dX0_walk_216 : decode cX0_walk 216 = .ok (.ladd, 1) := by decide +kernel
theorem dX0_walk_217 : decode cX0_walk 217 = .ok (.aload_n 0, 1) := by decide +kernel
theorem dX0_walk_218 : decode cX0_walk 218 = .ok (.getfield 15, 3) := by decide +kernel
theorem dX0_walk_221 : decode cX0_walk 221 = .ok (.getfield 64, 3) := by decide +kernel
theorem dX0_walk_224 : decode cX0_walk 224 = .ok (.iload_n 1, 1) := by decide +kernel
theorem dX0_walk_225 : decode cX0_walk 225 = .ok (.iload_n 3, 1) := by decide +kernel
theorem dX0_walk_226 : decode cX0_walk 226 = .ok (.invokevirtual 97, 3) := by decide +kernel
theorem dX0_walk_229 : decode cX0_walk 229 = .ok (.i2l, 1) := by decide +kernel
theorem dX0_walk_230 : decode cX0_walk 230 = .ok (.lsub, 1) := by decide +kernel
theorem dX0_walk_231 : decode cX0_walk 231 = .ok (.lstore 6, 2) := by decide +kernel
theorem dX0_walk_233 : decode cX0_walk 233 = .ok (.aload_n 0, 1) := by decide +kernel
theorem dX0_walk_234 : decode cX0_walk 234 = .ok (.getfield 9, 3) := by decide +kernel
theorem dX0_walk_237 : decode cX0_walk 237 = .ok (.iconst 0, 1) := by decide +kernel
theorem dX0_walk_238 : decode cX0_walk 238 = .ok (.iconst 0, 1) := by decide +kernel
theorem dX0_walk_239 : decode cX0_walk 239 = .ok (.invokestatic 37, 3) := by decide +kernel
theorem dX0_walk_242 : decode cX0_walk 242 = .ok (.lload 6, 2) := by decide +kernel
theorem dX0_walk_244 : decode cX0_walk 244 = .ok (.lconst 0, 1) := by decide +kernel
theorem dX0_walk_245 : decode cX0_walk 245 = .ok (.lcmp, 1) := by decide +kernel
theorem dX0_walk_246 : decode cX0_walk 246 = .ok (.ifCond .le 32, 3) := by decide +kernel
theorem dX0_walk_249 : decode cX0_walk 249 = .ok (.lload 6, 2) := by decide +kernel
theorem dX0_walk_251 : decode cX0_walk 251 = .ok (.lload 6, 2) := by decide +kernel
theorem dX0_walk_253 : decode cX0_walk 253 = .ok (.aload_n 0, 1) := by decide +kernel
theorem dX0_walk_254 : decode cX0_walk 254 = .ok (.getfield 15, 3) := by decide +kernel
theorem dX0_walk_257 : decode cX0_walk 257 = .ok (.getfield 84, 3) := by decide +kernel
theorem dX0_walk_260 : decode cX0_walk 260 = .ok (.iconst 3, 1) := by decide +kernel
theorem dX0_walk_261 : decode cX0_walk 261 = .ok (.iload_n 3, 1) := by decide +kernel
theorem dX0_walk_262 : decode cX0_walk 262 = .ok (.aload_n 0, 1) := by decide +kernel
theorem dX0_walk_263 : decode cX0_walk 263 = .ok (.getfield 9, 3) := by decide +kernel
theorem dX0_walk_266 : decode cX0_walk 266 = .ok (.invokevirtual 88, 3) := by decide +kernel
theorem dX0_walk_269 : decode cX0_walk 269 = .ok (.i2l, 1) := by decide +kernel
theorem dX0_walk_270 : decode cX0_walk 270 = .ok (.lmul, 1) := by decide +kernel
theorem dX0_walk_271 : decode cX0_walk 271 = .ok (.ldc2_w 100, 3) := by decide +kernel
theorem dX0_walk_274 : decode cX0_walk 274 = .ok (.ldiv, 1) := by decide +kernel
theorem dX0_walk_275 : decode cX0_walk 275 = .ok (.ladd, 1) := by decide +kernel
theorem dX0_walk_276 : decode cX0_walk 276 = .ok (.lstore 6, 2) := by decide +kernel
theorem dX0_walk_278 : decode cX0_walk 278 = .ok (.aload_n 0, 1) := by decide +kernel
theorem dX0_walk_279 : decode cX0_walk 279 = .ok (.ldc2_w 102, 3) := by decide +kernel
theorem dX0_walk_282 : decode cX0_walk 282 = .ok (.ldc2_w 104, 3) := by decide +kernel
theorem dX0_walk_285 : decode cX0_walk 285 = .ok (.lload 6, 2) := by decide +kernel
theorem dX0_walk_287 : decode cX0_walk 287 = .ok (.invokestatic 106, 3) := by decide +kernel
theorem dX0_walk_290 : decode cX0_walk 290 = .ok (.invokestatic 112, 3) := by decide +kernel
theorem dX0_walk_293 : decode cX0_walk 293 = .ok (.l2i, 1) := by decide +kernel
theorem dX0_walk_294 : decode cX0_walk 294 = .ok (.putfield 81, 3) := by decide +kernel
theorem dX0_walk_297 : decode cX0_walk 297 = .ok (.iinc 3 1, 3) := by decide +kernel
theorem dX0_walk_300 : decode cX0_walk 300 = .ok (.goto (-243), 3) := by decide +kernel
theorem dX0_walk_303 : decode cX0_walk 303 = .ok (.return_, 1) := by decide +kernel
theorem hd_Account_walk_79 : y_Account_walk_79.cls ≠ "java/lang/invoke/MethodHandle" ∧ y_Account_walk_79.cls ≠ "java/lang/invoke/VarHandle" ∧ (parseMethodDescriptor y_Account_walk_79.desc).map (fun d => d.parameters.length) = some 2 := by decide +kernel
def b_Account_walk_79_57 (a1 : Int32) (a2 : Int32) (y6 : Int32 × Mem) : Option ((Int32 × Mem) ⊕ (Mem)) :=
  if decide (y6.1 ≤ a2) then (if decide (y6.1 < 121) then ((f_Book_kindIn_7 a1 y6.1 (-1) y6.2).bind fun q9 => jv_ ((decide (q9.1 = 3)) : Bool) fun u12 => jn_ (fun (u16 : Int32 × Mem) => jv_ (wI u16.2 79 2 u16.1) fun M17 => jv_ (putv M17 80 5 0 (M17.1 79 2)) fun M18 => jv_ (putv M18 80 5 2 q9.1) fun M19 => jv_ (putv M19 80 5 3 (M19.1 79 4)) fun M20 => jn_ (fun (u24 : Int32 × Mem) => jv_ (wI u24.2 79 3 u24.1) fun M25 => (f_Coins_paidOf_36 a1 y6.1 M25).bind fun q26 => jv_ ((((M25.1 79 4).toInt64) + ((M25.1 79 3).toInt64)) - q26.toInt64 : Int64) fun x27 => jv_ (putv M25 80 5 0 0) fun M28 => jn_ (fun (u32 : Int64 × Mem) => jv_ (wI u32.2 79 4 ((jmaxL ((-1000000000) : Int64) (jminL (1000000000 : Int64) u32.1)).toInt32)) fun M33 => some (.inl (y6.1 + 1, M33))) fun k34 => if decide ((lg_cmp x27 0) ≤ 0) then (k34 (x27, M28)) else ((f_Rules_worth_14_80 3 y6.1 M28).bind fun q35 => k34 (x27 + ((x27 * q35.1.toInt64) / 100), q35.2))) fun k36 => if u12 then ((f_Rules_worth_14_80 1 y6.1 M20).bind fun q37 => (f_Rules_worth_14_80 2 y6.1 q37.2).bind fun q38 => k36 (q37.1 + q38.1, q38.2)) else (k36 (0, M20))) fun k39 => if u12 then ((f_Coins_readOf_36 a1 y6.1 q9.2).bind fun q40 => (f_Account_metered_79 q40 y6.1 q9.2).bind fun q41 => k39 (q41.1, q41.2)) else (k39 (0, q9.2))) else (some (.inr y6.2))) else (some (.inr y6.2))
def f_Account_walk_79 (a1 : Int32) (a2 : Int32) (M0 : Mem) : Option (Mem) :=
  (f_Account_startMeter_79 M0).bind fun q1 => jv_ (putv q1 80 5 1 (atv (q1.1 6) 10 a1)) fun M2 => (f_Land_cellOf_2 a1 M2).bind fun q3 => (f_Line_climb_24 q3 M2).bind fun q4 => jv_ (putv q4.2 80 5 4 q4.1) fun M5 => (itr (b_Account_walk_79_57 a1 a2) FU (0, M5)).bind fun q42 => some q42
set_option maxHeartbeats 4000000 in
set_option maxRecDepth 20000 in
theorem C_Account_walk_79 {D : va_G} {ad adK adV : Nat → Nat} {cI cJ : ClassId} {l : Launch} (a1 : Int32) (a2 : Int32) (M0 : Mem) (o : Mem) (h : f_Account_walk_79 a1 a2 M0 = some o) : Ct D ad adK adV cI cJ l y_Account_walk_79 cX0_walk 8 none 4 102 [.ref (ad 79), .int a1, .int a2] M0 none o := by
  refine x_start (lv := [(0, .ref (ad 79)), (1, .int a1), (2, .int a2)]) (own := "CurrentFarms$Account") rfl (by decide) (Nat.le_of_ble_eq_true rfl) rfl ?_
  intro p e s m args below meth c Q hQ B
  unfold f_Account_walk_79 at h
  refine x_aload_n (pc := 0) B 0 dX0_walk_0 rfl rfl ?_
  obtain ⟨q1, hq1, h⟩ := bnd h
  refine x_callV (rest := []) (st' := []) (pc := 1) B oi_79 rfl (C_Account_startMeter_79  M0 _ hq1) tw_711 tw_708 tw_710 tw_10 tw_108 hd_Account_startMeter_79 ⟨Nat.le_of_ble_eq_true rfl, Nat.le_of_ble_eq_true rfl⟩ rfl rfl (Nat.le_of_ble_eq_true rfl) rfl dX0_walk_1 ?_
  refine x_aload_n (pc := 4) B 0 dX0_walk_4 rfl rfl ?_
  refine x_get (T := TX0) (pc := 5) B 1 oi_79 rfl uw_0 (by decide) rfl tw_429 rfl dX0_walk_5 ?_
  refine x_iconst (v := 1) (pc := 8) B dX0_walk_8 rfl ?_
  refine x_aload_n (pc := 9) B 0 dX0_walk_9 rfl rfl ?_
  refine x_get (T := TX0) (pc := 10) B 0 oi_79 rfl uw_0 (by decide) rfl tw_428 rfl dX0_walk_10 ?_
  refine x_get (T := TX8) (pc := 13) B 0 oi_1 rfl uw_8 (by decide) rfl tw_360 rfl dX0_walk_13 ?_
  refine x_get (T := TX4) (pc := 16) B 3 oi_2 rfl uw_4 (by decide) rfl tw_146 rfl dX0_walk_16 ?_
  refine x_iload_n (pc := 19) B 1 dX0_walk_19 rfl rfl ?_
  refine x_callSN (rest := [.int 1, .ref (ad 80)]) (st' := [.int (atv (q1.1 6) 10 a1), .int 1, .ref (ad 80)]) (pc := 20) B (T_CF_at 6 10 a1 ai_6 (by decide) q1) tw_575 tw_712 tw_574 tw_98 hd_CF_at ⟨Nat.le_of_ble_eq_true rfl, Nat.le_of_ble_eq_true rfl⟩ rfl rfl (Nat.le_of_ble_eq_true rfl) rfl dX0_walk_20 ?_
  refine x_callSN (rest := []) (st' := []) (pc := 23) B (T_CF_put 80 5 1 (atv (q1.1 6) 10 a1) ai_80 (by decide) q1) tw_588 tw_713 tw_587 tw_98 hd_CF_put ⟨Nat.le_of_ble_eq_true rfl, Nat.le_of_ble_eq_true rfl⟩ rfl rfl (Nat.le_of_ble_eq_true rfl) rfl dX0_walk_23 ?_
  refine jv_m (P := fun M2 => XX D ad cI cJ p l e (Rm 4 102) s m args below meth c Q 8 M2 26 [(0, .ref (ad 79)), (1, .int a1), (2, .int a2)] []) h (fun M2 h => ?_)
  refine x_aload_n (pc := 26) B 0 dX0_walk_26 rfl rfl ?_
  refine x_get (T := TX0) (pc := 27) B 1 oi_79 rfl uw_0 (by decide) rfl tw_429 rfl dX0_walk_27 ?_
  refine x_iconst (v := 4) (pc := 30) B dX0_walk_30 rfl ?_
  refine x_aload_n (pc := 31) B 0 dX0_walk_31 rfl rfl ?_
  refine x_get (T := TX0) (pc := 32) B 0 oi_79 rfl uw_0 (by decide) rfl tw_428 rfl dX0_walk_32 ?_
  refine x_get (T := TX8) (pc := 35) B 3 oi_1 rfl uw_8 (by decide) rfl tw_372 rfl dX0_walk_35 ?_
  refine x_aload_n (pc := 38) B 0 dX0_walk_38 rfl rfl ?_
  refine x_get (T := TX0) (pc := 39) B 0 oi_79 rfl uw_0 (by decide) rfl tw_428 rfl dX0_walk_39 ?_
  refine x_get (T := TX8) (pc := 42) B 0 oi_1 rfl uw_8 (by decide) rfl tw_360 rfl dX0_walk_42 ?_
  refine x_iload_n (pc := 45) B 1 dX0_walk_45 rfl rfl ?_
  obtain ⟨q3, hq3, h⟩ := bnd h
  refine x_callV (rest := [.ref (ad 24), .int 4, .ref (ad 80)]) (st' := [.int q3, .ref (ad 24), .int 4, .ref (ad 80)]) (pc := 46) B oi_2 rfl (C_Land_cellOf_2 a1 M2 _ hq3) tw_583 tw_714 tw_581 tw_582 tw_100 hd_Land_cellOf_2 ⟨Nat.le_of_ble_eq_true rfl, Nat.le_of_ble_eq_true rfl⟩ rfl rfl (Nat.le_of_ble_eq_true rfl) rfl dX0_walk_46 ?_
  obtain ⟨q4, hq4, h⟩ := bnd h
  refine x_callV (rest := [.int 4, .ref (ad 80)]) (st' := [.int q4.1, .int 4, .ref (ad 80)]) (pc := 49) B oi_24 rfl (C_Line_climb_24 q3 M2 _ hq4) tw_718 tw_715 tw_716 tw_717 tw_103 hd_Line_climb_24 ⟨Nat.le_of_ble_eq_true rfl, Nat.le_of_ble_eq_true rfl⟩ rfl rfl (Nat.le_of_ble_eq_true rfl) rfl dX0_walk_49 ?_
  refine x_callSN (rest := []) (st' := []) (pc := 52) B (T_CF_put 80 5 4 q4.1 ai_80 (by decide) q4.2) tw_588 tw_713 tw_587 tw_98 hd_CF_put ⟨Nat.le_of_ble_eq_true rfl, Nat.le_of_ble_eq_true rfl⟩ rfl rfl (Nat.le_of_ble_eq_true rfl) rfl dX0_walk_52 ?_
  refine jv_m (P := fun M5 => XX D ad cI cJ p l e (Rm 4 102) s m args below meth c Q 8 M5 55 [(0, .ref (ad 79)), (1, .int a1), (2, .int a2)] []) h (fun M5 h => ?_)
  refine x_iconst (v := 0) (pc := 55) B dX0_walk_55 rfl ?_
  refine x_istore_n (lv' := [(3, .int 0), (0, .ref (ad 79)), (1, .int a1), (2, .int a2)]) (pc := 56) B dX0_walk_56 rfl (by decide) rfl ?_
  refine x_pick (lv' := [(0, .ref (ad 79)), (1, .int a1), (2, .int a2), (3, .int 0)]) [1, 2, 3, 0] rfl ?_
  obtain ⟨q42, hq42, h⟩ := bnd h
  refine x_loop (Head := fun (y6 : Int32 × Mem) => XX D ad cI cJ p l e (Rm 4 102) s m args below meth c Q 8 y6.2 57 [(0, .ref (ad 79)), (1, .int a1), (2, .int a2), (3, .int y6.1)] []) (Ex := fun (q42 : Mem) => XX D ad cI cJ p l e (Rm 4 102) s m args below meth c Q 8 q42 303 [] []) (fun y6 r h hback hexit => ?_) FU _ q42 hq42 ?_
  · unfold b_Account_walk_79_57 at h
    refine x_iload_n (pc := 57) B 3 dX0_walk_57 rfl rfl ?_
    refine x_iload_n (pc := 58) B 2 dX0_walk_58 rfl rfl ?_
    refine x_icmp_gt (tgt := 303) (pc := 59) B dX0_walk_59 rfl (fun hc7 => ?_) (fun hc7 => ?_)
    · have h := iff_ hc7 h
      refine x_pick (lv' := []) [] rfl ?_
      have z := hexit y6.2 (Option.some.inj h).symm
      exact z
    · have h := ift hc7 h
      refine x_iload_n (pc := 62) B 3 dX0_walk_62 rfl rfl ?_
      refine x_bipush (v := 121) (pc := 63) B dX0_walk_63 rfl ?_
      refine x_icmp_ge (tgt := 303) (pc := 65) B dX0_walk_65 rfl (fun hc8 => ?_) (fun hc8 => ?_)
      · have h := iff_ hc8 h
        refine x_pick (lv' := []) [] rfl ?_
        have z := hexit y6.2 (Option.some.inj h).symm
        exact z
      · have h := ift hc8 h
        refine x_aload_n (pc := 68) B 0 dX0_walk_68 rfl rfl ?_
        refine x_get (T := TX0) (pc := 69) B 0 oi_79 rfl uw_0 (by decide) rfl tw_428 rfl dX0_walk_69 ?_
        refine x_get (T := TX8) (pc := 72) B 1 oi_1 rfl uw_8 (by decide) rfl tw_365 rfl dX0_walk_72 ?_
        refine x_iload_n (pc := 75) B 1 dX0_walk_75 rfl rfl ?_
        refine x_iload_n (pc := 76) B 3 dX0_walk_76 rfl rfl ?_
        refine x_iconst (v := (-1)) (pc := 77) B dX0_walk_77 rfl ?_
        obtain ⟨q9, hq9, h⟩ := bnd h
        refine x_callV (rest := []) (st' := [.int q9.1]) (pc := 78) B oi_7 rfl (C_Book_kindIn_7 a1 y6.1 (-1) y6.2 _ hq9) tw_673 tw_721 tw_671 tw_672 tw_101 hd_Book_kindIn_7 ⟨Nat.le_of_ble_eq_true rfl, Nat.le_of_ble_eq_true rfl⟩ rfl rfl (Nat.le_of_ble_eq_true rfl) rfl dX0_walk_78 ?_
        refine x_istore (lv' := [(4, .int q9.1), (0, .ref (ad 79)), (1, .int a1), (2, .int a2), (3, .int y6.1)]) (pc := 81) B dX0_walk_81 (by decide) rfl ?_
        refine x_iload (pc := 83) B 0 dX0_walk_83 rfl ?_
        refine x_iconst (v := 3) (pc := 85) B dX0_walk_85 rfl ?_
        refine jv_k h (fun (u12 : Bool) => XX D ad cI cJ p l e (Rm 4 102) s m args below meth c Q 8 q9.2 94 [(0, .ref (ad 79)), (1, .int a1), (2, .int a2), (3, .int y6.1), (4, .int q9.1)] [.int (bI u12)]) (fun u12 h => ?_) (fun JJ => ?_)
        · refine x_istore (lv' := [(5, .int (bI u12)), (0, .ref (ad 79)), (1, .int a1), (2, .int a2), (3, .int y6.1), (4, .int q9.1)]) (pc := 94) B dX0_walk_94 (by decide) rfl ?_
          refine x_aload_n (pc := 96) B 1 dX0_walk_96 rfl rfl ?_
          refine x_iload (pc := 97) B 0 dX0_walk_97 rfl ?_
          refine jn_k h (fun (u16 : Int32 × Mem) => XX D ad cI cJ p l e (Rm 4 102) s m args below meth c Q 8 u16.2 123 [(0, .ref (ad 79)), (1, .int a1), (2, .int a2), (3, .int y6.1), (4, .int q9.1), (5, .int (bI u12))] [.int u16.1, .ref (ad 79)]) (fun u16 h => ?_) (fun k39 h JJ => ?_)
          · refine x_put (T := TX0) (pc := 123) B 2 oi_79 of_79_2 rfl uw_0 tyX0_ok nmX0 (by decide) rfl tw_430 rfl rfl rfl (Nat.le_of_ble_eq_true rfl) dX0_walk_123 ?_
            refine jv_m (P := fun M17 => XX D ad cI cJ p l e (Rm 4 102) s m args below meth c Q 8 M17 126 [(0, .ref (ad 79)), (1, .int a1), (2, .int a2), (3, .int y6.1), (4, .int q9.1), (5, .int (bI u12))] []) h (fun M17 h => ?_)
            refine x_aload_n (pc := 126) B 0 dX0_walk_126 rfl rfl ?_
            refine x_get (T := TX0) (pc := 127) B 1 oi_79 rfl uw_0 (by decide) rfl tw_429 rfl dX0_walk_127 ?_
            refine x_iconst (v := 0) (pc := 130) B dX0_walk_130 rfl ?_
            refine x_aload_n (pc := 131) B 0 dX0_walk_131 rfl rfl ?_
            refine x_get (T := TX0) (pc := 132) B 2 oi_79 rfl uw_0 (by decide) rfl tw_430 rfl dX0_walk_132 ?_
            refine x_callSN (rest := []) (st' := []) (pc := 135) B (T_CF_put 80 5 0 (M17.1 79 2) ai_80 (by decide) M17) tw_588 tw_713 tw_587 tw_98 hd_CF_put ⟨Nat.le_of_ble_eq_true rfl, Nat.le_of_ble_eq_true rfl⟩ rfl rfl (Nat.le_of_ble_eq_true rfl) rfl dX0_walk_135 ?_
            refine jv_m (P := fun M18 => XX D ad cI cJ p l e (Rm 4 102) s m args below meth c Q 8 M18 138 [(0, .ref (ad 79)), (1, .int a1), (2, .int a2), (3, .int y6.1), (4, .int q9.1), (5, .int (bI u12))] []) h (fun M18 h => ?_)
            refine x_aload_n (pc := 138) B 0 dX0_walk_138 rfl rfl ?_
            refine x_get (T := TX0) (pc := 139) B 1 oi_79 rfl uw_0 (by decide) rfl tw_429 rfl dX0_walk_139 ?_
            refine x_iconst (v := 2) (pc := 142) B dX0_walk_142 rfl ?_
            refine x_iload (pc := 143) B 4 dX0_walk_143 rfl ?_
            refine x_callSN (rest := []) (st' := []) (pc := 145) B (T_CF_put 80 5 2 q9.1 ai_80 (by decide) M18) tw_588 tw_713 tw_587 tw_98 hd_CF_put ⟨Nat.le_of_ble_eq_true rfl, Nat.le_of_ble_eq_true rfl⟩ rfl rfl (Nat.le_of_ble_eq_true rfl) rfl dX0_walk_145 ?_
            refine jv_m (P := fun M19 => XX D ad cI cJ p l e (Rm 4 102) s m args below meth c Q 8 M19 148 [(0, .ref (ad 79)), (1, .int a1), (2, .int a2), (3, .int y6.1), (4, .int q9.1), (5, .int (bI u12))] []) h (fun M19 h => ?_)
            refine x_aload_n (pc := 148) B 0 dX0_walk_148 rfl rfl ?_
            refine x_get (T := TX0) (pc := 149) B 1 oi_79 rfl uw_0 (by decide) rfl tw_429 rfl dX0_walk_149 ?_
            refine x_iconst (v := 3) (pc := 152) B dX0_walk_152 rfl ?_
            refine x_aload_n (pc := 153) B 0 dX0_walk_153 rfl rfl ?_
            refine x_get (T := TX0) (pc := 154) B 4 oi_79 rfl uw_0 (by decide) rfl tw_434 rfl dX0_walk_154 ?_
            refine x_callSN (rest := []) (st' := []) (pc := 157) B (T_CF_put 80 5 3 (M19.1 79 4) ai_80 (by decide) M19) tw_588 tw_713 tw_587 tw_98 hd_CF_put ⟨Nat.le_of_ble_eq_true rfl, Nat.le_of_ble_eq_true rfl⟩ rfl rfl (Nat.le_of_ble_eq_true rfl) rfl dX0_walk_157 ?_
            refine jv_m (P := fun M20 => XX D ad cI cJ p l e (Rm 4 102) s m args below meth c Q 8 M20 160 [(0, .ref (ad 79)), (1, .int a1), (2, .int a2), (3, .int y6.1), (4, .int q9.1), (5, .int (bI u12))] []) h (fun M20 h => ?_)
            refine x_aload_n (pc := 160) B 0 dX0_walk_160 rfl rfl ?_
            refine x_iload (pc := 161) B 5 dX0_walk_161 rfl ?_
            refine jn_k h (fun (u24 : Int32 × Mem) => XX D ad cI cJ p l e (Rm 4 102) s m args below meth c Q 8 u24.2 203 [(0, .ref (ad 79)), (1, .int a1), (2, .int a2), (3, .int y6.1)] [.int u24.1, .ref (ad 79)]) (fun u24 h => ?_) (fun k36 h JJ => ?_)
            · refine x_put (T := TX0) (pc := 203) B 3 oi_79 of_79_3 rfl uw_0 tyX0_ok nmX0 (by decide) rfl tw_432 rfl rfl rfl (Nat.le_of_ble_eq_true rfl) dX0_walk_203 ?_
              refine jv_m (P := fun M25 => XX D ad cI cJ p l e (Rm 4 102) s m args below meth c Q 8 M25 206 [(0, .ref (ad 79)), (1, .int a1), (2, .int a2), (3, .int y6.1)] []) h (fun M25 h => ?_)
              refine x_aload_n (pc := 206) B 0 dX0_walk_206 rfl rfl ?_
              refine x_get (T := TX0) (pc := 207) B 4 oi_79 rfl uw_0 (by decide) rfl tw_434 rfl dX0_walk_207 ?_
              refine x_i2l (pc := 210) B dX0_walk_210 ?_
              refine x_aload_n (pc := 211) B 0 dX0_walk_211 rfl rfl ?_
              refine x_get (T := TX0) (pc := 212) B 3 oi_79 rfl uw_0 (by decide) rfl tw_432 rfl dX0_walk_212 ?_
              refine x_i2l (pc := 215) B dX0_walk_215 ?_
              refine x_ladd (pc := 216) B dX0_walk_216 ?_
              refine x_aload_n (pc := 217) B 0 dX0_walk_217 rfl rfl ?_
              refine x_get (T := TX0) (pc := 218) B 0 oi_79 rfl uw_0 (by decide) rfl tw_428 rfl dX0_walk_218 ?_
              refine x_get (T := TX8) (pc := 221) B 5 oi_1 rfl uw_8 (by decide) rfl tw_379 rfl dX0_walk_221 ?_
              refine x_iload_n (pc := 224) B 1 dX0_walk_224 rfl rfl ?_
              refine x_iload_n (pc := 225) B 3 dX0_walk_225 rfl rfl ?_
              obtain ⟨q26, hq26, h⟩ := bnd h
              refine x_callV (rest := [.long (((M25.1 79 4).toInt64) + ((M25.1 79 3).toInt64))]) (st' := [.int q26, .long (((M25.1 79 4).toInt64) + ((M25.1 79 3).toInt64))]) (pc := 226) B oi_36 rfl (C_Coins_paidOf_36 a1 y6.1 M25 _ hq26) tw_767 tw_764 tw_765 tw_766 tw_106 hd_Coins_paidOf_36 ⟨Nat.le_of_ble_eq_true rfl, Nat.le_of_ble_eq_true rfl⟩ rfl rfl (Nat.le_of_ble_eq_true rfl) rfl dX0_walk_226 ?_
              refine x_i2l (pc := 229) B dX0_walk_229 ?_
              refine x_lsub (pc := 230) B dX0_walk_230 ?_
              refine jv_m (P := fun (x27 : Int64) => XX D ad cI cJ p l e (Rm 4 102) s m args below meth c Q 8 M25 231 [(0, .ref (ad 79)), (1, .int a1), (2, .int a2), (3, .int y6.1)] [.long x27]) h (fun x27 h => ?_)
              refine x_lstore (lv' := [(6, .long x27), (0, .ref (ad 79)), (1, .int a1), (2, .int a2), (3, .int y6.1)]) (pc := 231) B dX0_walk_231 (by decide) rfl ?_
              refine x_aload_n (pc := 233) B 1 dX0_walk_233 rfl rfl ?_
              refine x_get (T := TX0) (pc := 234) B 1 oi_79 rfl uw_0 (by decide) rfl tw_429 rfl dX0_walk_234 ?_
              refine x_iconst (v := 0) (pc := 237) B dX0_walk_237 rfl ?_
              refine x_iconst (v := 0) (pc := 238) B dX0_walk_238 rfl ?_
              refine x_callSN (rest := []) (st' := []) (pc := 239) B (T_CF_put 80 5 0 0 ai_80 (by decide) M25) tw_588 tw_713 tw_587 tw_98 hd_CF_put ⟨Nat.le_of_ble_eq_true rfl, Nat.le_of_ble_eq_true rfl⟩ rfl rfl (Nat.le_of_ble_eq_true rfl) rfl dX0_walk_239 ?_
              refine jv_m (P := fun M28 => XX D ad cI cJ p l e (Rm 4 102) s m args below meth c Q 8 M28 242 [(6, .long x27), (0, .ref (ad 79)), (1, .int a1), (2, .int a2), (3, .int y6.1)] []) h (fun M28 h => ?_)
              refine x_lload (pc := 242) B 0 dX0_walk_242 rfl ?_
              refine x_lconst (v := 0) (pc := 244) B dX0_walk_244 rfl ?_
              refine x_lcmp (pc := 245) B dX0_walk_245 ?_
              refine jn_k h (fun (u32 : Int64 × Mem) => XX D ad cI cJ p l e (Rm 4 102) s m args below meth c Q 8 u32.2 278 [(0, .ref (ad 79)), (1, .int a1), (2, .int a2), (3, .int y6.1), (6, .long u32.1)] []) (fun u32 h => ?_) (fun k34 h JJ => ?_)
              · refine x_aload_n (pc := 278) B 0 dX0_walk_278 rfl rfl ?_
                refine x_ldc2 (v := (-1000000000)) (pc := 279) B tw_769 dX0_walk_279 ?_
                refine x_ldc2 (v := 1000000000) (pc := 282) B tw_770 dX0_walk_282 ?_
                refine x_lload (pc := 285) B 4 dX0_walk_285 rfl ?_
                refine x_mmin_long (pc := 287) B tw_771 tw_772 tw_112 tw_773 (by decide) (Nat.le_of_ble_eq_true rfl) dX0_walk_287 ?_
                refine x_mmax_long (pc := 290) B tw_774 tw_775 tw_112 tw_776 (by decide) (Nat.le_of_ble_eq_true rfl) dX0_walk_290 ?_
                refine x_l2i (pc := 293) B dX0_walk_293 ?_
                refine x_put (T := TX0) (pc := 294) B 4 oi_79 of_79_4 rfl uw_0 tyX0_ok nmX0 (by decide) rfl tw_434 rfl rfl rfl (Nat.le_of_ble_eq_true rfl) dX0_walk_294 ?_
                refine jv_m (P := fun M33 => XX D ad cI cJ p l e (Rm 4 102) s m args below meth c Q 8 M33 297 [(0, .ref (ad 79)), (1, .int a1), (2, .int a2), (3, .int y6.1), (6, .long u32.1)] []) h (fun M33 h => ?_)
                refine x_iinc (k := 3) (v := y6.1 + 1) (lv' := [(3, .int (y6.1 + 1)), (0, .ref (ad 79)), (1, .int a1), (2, .int a2), (6, .long u32.1)]) (pc := 297) B dX0_walk_297 rfl rfl (by decide) rfl ?_
                refine x_goto (tgt := 57) (pc := 300) B dX0_walk_300 rfl ?_
                refine x_pick (lv' := [(0, .ref (ad 79)), (1, .int a1), (2, .int a2), (3, .int (y6.1 + 1))]) [1, 2, 3, 0] rfl ?_
                have z := hback (y6.1 + 1, M33) (Option.some.inj h).symm
                exact z
              · refine x_if_le (tgt := 278) (pc := 246) B dX0_walk_246 rfl (fun hc29 => ?_) (fun hc29 => ?_)
                · have h := ift hc29 h
                  refine x_pick (lv' := [(0, .ref (ad 79)), (1, .int a1), (2, .int a2), (3, .int y6.1), (6, .long x27)]) [1, 2, 3, 4, 0] rfl ?_
                  have z := JJ (x27, M28) h
                  exact z
                · have h := iff_ hc29 h
                  refine x_lload (pc := 249) B 0 dX0_walk_249 rfl ?_
                  refine x_lload (pc := 251) B 0 dX0_walk_251 rfl ?_
                  refine x_aload_n (pc := 253) B 1 dX0_walk_253 rfl rfl ?_
                  refine x_get (T := TX0) (pc := 254) B 0 oi_79 rfl uw_0 (by decide) rfl tw_428 rfl dX0_walk_254 ?_
                  refine x_get (T := TX8) (pc := 257) B 2 oi_1 rfl uw_8 (by decide) rfl tw_370 rfl dX0_walk_257 ?_
                  refine x_iconst (v := 3) (pc := 260) B dX0_walk_260 rfl ?_
                  refine x_iload_n (pc := 261) B 4 dX0_walk_261 rfl rfl ?_
                  refine x_aload_n (pc := 262) B 1 dX0_walk_262 rfl rfl ?_
                  refine x_get (T := TX0) (pc := 263) B 1 oi_79 rfl uw_0 (by decide) rfl tw_429 rfl dX0_walk_263 ?_
                  obtain ⟨q35, hq35, h⟩ := bnd h
                  refine x_callV (rest := [.long x27, .long x27]) (st' := [.int q35.1, .long x27, .long x27]) (pc := 266) B oi_14 rfl (C_Rules_worth_14_80 3 y6.1 M28 _ hq35) tw_741 tw_738 tw_739 tw_740 tw_102 hd_Rules_worth_14_80 ⟨Nat.le_of_ble_eq_true rfl, Nat.le_of_ble_eq_true rfl⟩ rfl rfl (Nat.le_of_ble_eq_true rfl) rfl dX0_walk_266 ?_
                  refine x_i2l (pc := 269) B dX0_walk_269 ?_
                  refine x_lmul (pc := 270) B dX0_walk_270 ?_
                  refine x_ldc2 (v := 100) (pc := 271) B tw_768 dX0_walk_271 ?_
                  refine x_ldiv (pc := 274) B dX0_walk_274 (by decide) ?_
                  refine x_ladd (pc := 275) B dX0_walk_275 ?_
                  refine x_lstore (lv' := [(6, .long (x27 + ((x27 * q35.1.toInt64) / 100))), (0, .ref (ad 79)), (1, .int a1), (2, .int a2), (3, .int y6.1)]) (pc := 276) B dX0_walk_276 (by decide) rfl ?_
                  refine x_pick (lv' := [(0, .ref (ad 79)), (1, .int a1), (2, .int a2), (3, .int y6.1), (6, .long (x27 + ((x27 * q35.1.toInt64) / 100)))]) [1, 2, 3, 4, 0] rfl ?_
                  have z := JJ (x27 + ((x27 * q35.1.toInt64) / 100), q35.2) h
                  exact z
            · refine x_if_eq_b (tgt := 202) (pc := 163) B dX0_walk_163 rfl (fun hc21 => ?_) (fun hc21 => ?_)
              · have h := iff_ hc21 h
                refine x_iconst (v := 0) (pc := 202) B dX0_walk_202 rfl ?_
                refine x_pick (lv' := [(0, .ref (ad 79)), (1, .int a1), (2, .int a2), (3, .int y6.1)]) [0, 1, 2, 3] rfl ?_
                have z := JJ (0, M20) h
                exact z
              · have h := ift hc21 h
                refine x_aload_n (pc := 166) B 0 dX0_walk_166 rfl rfl ?_
                refine x_get (T := TX0) (pc := 167) B 0 oi_79 rfl uw_0 (by decide) rfl tw_428 rfl dX0_walk_167 ?_
                refine x_get (T := TX8) (pc := 170) B 2 oi_1 rfl uw_8 (by decide) rfl tw_370 rfl dX0_walk_170 ?_
                refine x_iconst (v := 1) (pc := 173) B dX0_walk_173 rfl ?_
                refine x_iload_n (pc := 174) B 3 dX0_walk_174 rfl rfl ?_
                refine x_aload_n (pc := 175) B 0 dX0_walk_175 rfl rfl ?_
                refine x_get (T := TX0) (pc := 176) B 1 oi_79 rfl uw_0 (by decide) rfl tw_429 rfl dX0_walk_176 ?_
                obtain ⟨q37, hq37, h⟩ := bnd h
                refine x_callV (rest := [.ref (ad 79)]) (st' := [.int q37.1, .ref (ad 79)]) (pc := 179) B oi_14 rfl (C_Rules_worth_14_80 1 y6.1 M20 _ hq37) tw_741 tw_738 tw_739 tw_740 tw_102 hd_Rules_worth_14_80 ⟨Nat.le_of_ble_eq_true rfl, Nat.le_of_ble_eq_true rfl⟩ rfl rfl (Nat.le_of_ble_eq_true rfl) rfl dX0_walk_179 ?_
                refine x_aload_n (pc := 182) B 0 dX0_walk_182 rfl rfl ?_
                refine x_get (T := TX0) (pc := 183) B 0 oi_79 rfl uw_0 (by decide) rfl tw_428 rfl dX0_walk_183 ?_
                refine x_get (T := TX8) (pc := 186) B 2 oi_1 rfl uw_8 (by decide) rfl tw_370 rfl dX0_walk_186 ?_
                refine x_iconst (v := 2) (pc := 189) B dX0_walk_189 rfl ?_
                refine x_iload_n (pc := 190) B 3 dX0_walk_190 rfl rfl ?_
                refine x_aload_n (pc := 191) B 0 dX0_walk_191 rfl rfl ?_
                refine x_get (T := TX0) (pc := 192) B 1 oi_79 rfl uw_0 (by decide) rfl tw_429 rfl dX0_walk_192 ?_
                obtain ⟨q38, hq38, h⟩ := bnd h
                refine x_callV (rest := [.int q37.1, .ref (ad 79)]) (st' := [.int q38.1, .int q37.1, .ref (ad 79)]) (pc := 195) B oi_14 rfl (C_Rules_worth_14_80 2 y6.1 q37.2 _ hq38) tw_741 tw_738 tw_739 tw_740 tw_102 hd_Rules_worth_14_80 ⟨Nat.le_of_ble_eq_true rfl, Nat.le_of_ble_eq_true rfl⟩ rfl rfl (Nat.le_of_ble_eq_true rfl) rfl dX0_walk_195 ?_
                refine x_iadd (pc := 198) B dX0_walk_198 ?_
                refine x_goto (tgt := 203) (pc := 199) B dX0_walk_199 rfl ?_
                refine x_pick (lv' := [(0, .ref (ad 79)), (1, .int a1), (2, .int a2), (3, .int y6.1)]) [0, 1, 2, 3] rfl ?_
                have z := JJ (q37.1 + q38.1, q38.2) h
                exact z
          · refine x_if_eq_b (tgt := 122) (pc := 99) B dX0_walk_99 rfl (fun hc13 => ?_) (fun hc13 => ?_)
            · have h := iff_ hc13 h
              refine x_iconst (v := 0) (pc := 122) B dX0_walk_122 rfl ?_
              refine x_pick (lv' := [(0, .ref (ad 79)), (1, .int a1), (2, .int a2), (3, .int y6.1), (4, .int q9.1), (5, .int (bI u12))]) [1, 2, 3, 4, 5, 0] rfl ?_
              have z := JJ (0, q9.2) h
              exact z
            · have h := ift hc13 h
              refine x_aload_n (pc := 102) B 1 dX0_walk_102 rfl rfl ?_
              refine x_aload_n (pc := 103) B 1 dX0_walk_103 rfl rfl ?_
              refine x_get (T := TX0) (pc := 104) B 0 oi_79 rfl uw_0 (by decide) rfl tw_428 rfl dX0_walk_104 ?_
              refine x_get (T := TX8) (pc := 107) B 5 oi_1 rfl uw_8 (by decide) rfl tw_379 rfl dX0_walk_107 ?_
              refine x_iload_n (pc := 110) B 2 dX0_walk_110 rfl rfl ?_
              refine x_iload_n (pc := 111) B 4 dX0_walk_111 rfl rfl ?_
              obtain ⟨q40, hq40, h⟩ := bnd h
              refine x_callV (rest := [.ref (ad 79), .ref (ad 79)]) (st' := [.int q40, .ref (ad 79), .ref (ad 79)]) (pc := 112) B oi_36 rfl (C_Coins_readOf_36 a1 y6.1 q9.2 _ hq40) tw_725 tw_722 tw_723 tw_724 tw_106 hd_Coins_readOf_36 ⟨Nat.le_of_ble_eq_true rfl, Nat.le_of_ble_eq_true rfl⟩ rfl rfl (Nat.le_of_ble_eq_true rfl) rfl dX0_walk_112 ?_
              refine x_iload_n (pc := 115) B 4 dX0_walk_115 rfl rfl ?_
              obtain ⟨q41, hq41, h⟩ := bnd h
              refine x_callV (rest := [.ref (ad 79)]) (st' := [.int q41.1, .ref (ad 79)]) (pc := 116) B oi_79 rfl (C_Account_metered_79 q40 y6.1 q9.2 _ hq41) tw_733 tw_730 tw_732 tw_11 tw_108 hd_Account_metered_79 ⟨Nat.le_of_ble_eq_true rfl, Nat.le_of_ble_eq_true rfl⟩ rfl rfl (Nat.le_of_ble_eq_true rfl) rfl dX0_walk_116 ?_
              refine x_goto (tgt := 123) (pc := 119) B dX0_walk_119 rfl ?_
              refine x_pick (lv' := [(0, .ref (ad 79)), (1, .int a1), (2, .int a2), (3, .int y6.1), (4, .int q9.1), (5, .int (bI u12))]) [1, 2, 3, 4, 5, 0] rfl ?_
              have z := JJ (q41.1, q41.2) h
              exact z
        · refine x_icmp_ne (tgt := 93) (pc := 86) B dX0_walk_86 rfl (fun hc10 => ?_) (fun hc10 => ?_)
          · refine x_iconst (v := 0) (pc := 93) B dX0_walk_93 rfl ?_
            refine x_pick (lv' := [(0, .ref (ad 79)), (1, .int a1), (2, .int a2), (3, .int y6.1), (4, .int q9.1)]) [1, 2, 3, 4, 0] rfl ?_
            have z := JJ false hc10
            exact z
          · refine x_iconst (v := 1) (pc := 89) B dX0_walk_89 rfl ?_
            refine x_goto (tgt := 94) (pc := 90) B dX0_walk_90 rfl ?_
            refine x_pick (lv' := [(0, .ref (ad 79)), (1, .int a1), (2, .int a2), (3, .int y6.1), (4, .int q9.1)]) [1, 2, 3, 4, 0] rfl ?_
            have z := JJ true hc10
            exact z
  · obtain rfl := Option.some.inj h
    exact x_vret (pc := 303) B hQ dX0_walk_303
-- CurrentFarms.owing(III)I [0]
abbrev y_CF_owing_0 : MethodName := ⟨"CurrentFarms", "owing", "(III)I"⟩
abbrev cX11_owing : ByteArray := prog_1_method_50_code
theorem dX11_owing_0 : decode cX11_owing 0 = .ok (.iload_n 3, 1) := by decide +kernel
theorem dX11_owing_1 : decode cX11_owing 1 = .ok (.iconst 3, 1) := by decide +kernel
theorem dX11_owing_2 : decode cX11_owing 2 = .ok (.if_icmp .eq 5, 3) := by decide +kernel
theorem dX11_owing_5 : decode cX11_owing 5 = .ok (.iload_n 3, 1) := by decide +kernel
theorem dX11_owing_6 : decode cX11_owing 6 = .ok (.ireturn, 1) := by decide +kernel
theorem dX11_owing_7 : decode cX11_owing 7 = .ok (.aload_n 0, 1) := by decide +kernel
theorem dX11_owing_8 : decode cX11_owing 8 = .ok (.getfield 37, 3) := by decide +kernel
theorem dX11_owing_11 : decode cX11_owing 11 = .ok (.iload_n 1, 1) := by decide +kernel
theorem dX11_owing_12 : decode cX11_owing 12 = .ok (.iload_n 2, 1) := by decide +kernel
theorem dX11_owing_13 : decode cX11_owing 13 = .ok (.invokevirtual 286, 3) := by decide +kernel
theorem dX11_owing_16 : decode cX11_owing 16 = .ok (.aload_n 0, 1) := by decide +kernel
theorem dX11_owing_17 : decode cX11_owing 17 = .ok (.getfield 37, 3) := by decide +kernel
theorem dX11_owing_20 : decode cX11_owing 20 = .ok (.getfield 301, 3) := by decide +kernel
theorem dX11_owing_23 : decode cX11_owing 23 = .ok (.ifCond .le 7, 3) := by decide +kernel
theorem dX11_owing_26 : decode cX11_owing 26 = .ok (.iconst 4, 1) := by decide +kernel
theorem dX11_owing_27 : decode cX11_owing 27 = .ok (.goto 4, 3) := by decide +kernel
theorem dX11_owing_30 : decode cX11_owing 30 = .ok (.iconst 3, 1) := by decide +kernel
theorem dX11_owing_31 : decode cX11_owing 31 = .ok (.ireturn, 1) := by decide +kernel
theorem hd_CF_owing_0 : y_CF_owing_0.cls ≠ "java/lang/invoke/MethodHandle" ∧ y_CF_owing_0.cls ≠ "java/lang/invoke/VarHandle" ∧ (parseMethodDescriptor y_CF_owing_0.desc).map (fun d => d.parameters.length) = some 3 := by decide +kernel
def f_CF_owing_0 (a1 : Int32) (a2 : Int32) (a3 : Int32) (M0 : Mem) : Option (Int32 × Mem) :=
  if decide (a3 = 3) then ((f_Account_walk_79 a1 a2 M0).bind fun q2 => if decide ((q2.1 79 4) ≤ 0) then (some (3, q2)) else (some (4, q2))) else (some (a3, M0))
set_option maxHeartbeats 4000000 in
set_option maxRecDepth 20000 in
theorem C_CF_owing_0 {D : va_G} {ad adK adV : Nat → Nat} {cI cJ : ClassId} {l : Launch} (a1 : Int32) (a2 : Int32) (a3 : Int32) (M0 : Mem) (o : Int32 × Mem) (h : f_CF_owing_0 a1 a2 a3 M0 = some o) : Ct D ad adK adV cI cJ l y_CF_owing_0 cX11_owing 4 (some .int) 5 129 [.ref (ad 0), .int a1, .int a2, .int a3] M0 (some (.int o.1)) o.2 := by
  refine x_start (lv := [(0, .ref (ad 0)), (1, .int a1), (2, .int a2), (3, .int a3)]) (own := "CurrentFarms") rfl (by decide) (Nat.le_of_ble_eq_true rfl) rfl ?_
  intro p e s m args below meth c Q hQ B
  unfold f_CF_owing_0 at h
  refine x_iload_n (pc := 0) B 3 dX11_owing_0 rfl rfl ?_
  refine x_iconst (v := 3) (pc := 1) B dX11_owing_1 rfl ?_
  refine x_icmp_eq (tgt := 7) (pc := 2) B dX11_owing_2 rfl (fun hc1 => ?_) (fun hc1 => ?_)
  · have h := ift hc1 h
    refine x_aload_n (pc := 7) B 0 dX11_owing_7 rfl rfl ?_
    refine x_get (T := TX11) (pc := 8) B 4 oi_0 rfl uw_11 (by decide) rfl tw_529 rfl dX11_owing_8 ?_
    refine x_iload_n (pc := 11) B 1 dX11_owing_11 rfl rfl ?_
    refine x_iload_n (pc := 12) B 2 dX11_owing_12 rfl rfl ?_
    obtain ⟨q2, hq2, h⟩ := bnd h
    refine x_callV (rest := []) (st' := []) (pc := 13) B oi_79 rfl (C_Account_walk_79 a1 a2 M0 _ hq2) tw_707 tw_704 tw_705 tw_706 tw_108 hd_Account_walk_79 ⟨Nat.le_of_ble_eq_true rfl, Nat.le_of_ble_eq_true rfl⟩ rfl rfl (Nat.le_of_ble_eq_true rfl) rfl dX11_owing_13 ?_
    refine x_aload_n (pc := 16) B 0 dX11_owing_16 rfl rfl ?_
    refine x_get (T := TX11) (pc := 17) B 4 oi_0 rfl uw_11 (by decide) rfl tw_529 rfl dX11_owing_17 ?_
    refine x_get (T := TX0) (pc := 20) B 4 oi_79 rfl uw_0 (by decide) rfl tw_435 rfl dX11_owing_20 ?_
    refine x_if_le (tgt := 30) (pc := 23) B dX11_owing_23 rfl (fun hc3 => ?_) (fun hc3 => ?_)
    · have h := ift hc3 h
      refine x_iconst (v := 3) (pc := 30) B dX11_owing_30 rfl ?_
      obtain rfl := Option.some.inj h
      exact x_iret (pc := 31) B hQ dX11_owing_31
    · have h := iff_ hc3 h
      refine x_iconst (v := 4) (pc := 26) B dX11_owing_26 rfl ?_
      refine x_goto (tgt := 31) (pc := 27) B dX11_owing_27 rfl ?_
      obtain rfl := Option.some.inj h
      exact x_iret (pc := 31) B hQ dX11_owing_31
  · have h := iff_ hc1 h
    refine x_iload_n (pc := 5) B 3 dX11_owing_5 rfl rfl ?_
    obtain rfl := Option.some.inj h
    exact x_iret (pc := 6) B hQ dX11_owing_6
-- CurrentFarms.as(III)I [0]
abbrev y_CF_as_0 : MethodName := ⟨"CurrentFarms", "as", "(III)I"⟩
abbrev cX11_as : ByteArray := prog_1_method_9_code
theorem dX11_as_0 : decode cX11_as 0 = .ok (.aload_n 0, 1) := by decide +kernel
theorem dX11_as_1 : decode cX11_as 1 = .ok (.iload_n 1, 1) := by decide +kernel
theorem dX11_as_2 : decode cX11_as 2 = .ok (.invokevirtual 126, 3) := by decide +kernel
theorem dX11_as_5 : decode cX11_as 5 = .ok (.ifCond .eq 11, 3) := by decide +kernel
theorem dX11_as_8 : decode cX11_as 8 = .ok (.aload_n 0, 1) := by decide +kernel
theorem dX11_as_9 : decode cX11_as 9 = .ok (.iload_n 3, 1) := by decide +kernel
theorem dX11_as_10 : decode cX11_as 10 = .ok (.invokevirtual 150, 3) := by decide +kernel
theorem dX11_as_13 : decode cX11_as 13 = .ok (.ifCond .ne 5, 3) := by decide +kernel
theorem dX11_as_16 : decode cX11_as 16 = .ok (.iconst (-1), 1) := by decide +kernel
theorem dX11_as_17 : decode cX11_as 17 = .ok (.ireturn, 1) := by decide +kernel
theorem dX11_as_18 : decode cX11_as 18 = .ok (.iload_n 2, 1) := by decide +kernel
theorem dX11_as_19 : decode cX11_as 19 = .ok (.iconst 0, 1) := by decide +kernel
theorem dX11_as_20 : decode cX11_as 20 = .ok (.bipush 120, 2) := by decide +kernel
theorem dX11_as_22 : decode cX11_as 22 = .ok (.invokestatic 72, 3) := by decide +kernel
theorem dX11_as_25 : decode cX11_as 25 = .ok (.ifCond .ne 6, 3) := by decide +kernel
theorem dX11_as_28 : decode cX11_as 28 = .ok (.bipush (-2), 2) := by decide +kernel
theorem dX11_as_30 : decode cX11_as 30 = .ok (.ireturn, 1) := by decide +kernel
theorem dX11_as_31 : decode cX11_as 31 = .ok (.aload_n 0, 1) := by decide +kernel
theorem dX11_as_32 : decode cX11_as 32 = .ok (.iload_n 1, 1) := by decide +kernel
theorem dX11_as_33 : decode cX11_as 33 = .ok (.iload_n 2, 1) := by decide +kernel
theorem dX11_as_34 : decode cX11_as 34 = .ok (.aload_n 0, 1) := by decide +kernel
theorem dX11_as_35 : decode cX11_as 35 = .ok (.getfield 12, 3) := by decide +kernel
theorem dX11_as_38 : decode cX11_as 38 = .ok (.getfield 132, 3) := by decide +kernel
theorem dX11_as_41 : decode cX11_as 41 = .ok (.iload_n 1, 1) := by decide +kernel
theorem dX11_as_42 : decode cX11_as 42 = .ok (.iload_n 2, 1) := by decide +kernel
theorem dX11_as_43 : decode cX11_as 43 = .ok (.iload_n 3, 1) := by decide +kernel
theorem dX11_as_44 : decode cX11_as 44 = .ok (.invokevirtual 153, 3) := by decide +kernel
theorem dX11_as_47 : decode cX11_as 47 = .ok (.invokevirtual 157, 3) := by decide +kernel
theorem dX11_as_50 : decode cX11_as 50 = .ok (.ireturn, 1) := by decide +kernel
theorem hd_CF_as_0 : y_CF_as_0.cls ≠ "java/lang/invoke/MethodHandle" ∧ y_CF_as_0.cls ≠ "java/lang/invoke/VarHandle" ∧ (parseMethodDescriptor y_CF_as_0.desc).map (fun d => d.parameters.length) = some 3 := by decide +kernel
def f_CF_as_0 (a1 : Int32) (a2 : Int32) (a3 : Int32) (M0 : Mem) : Option (Int32 × Mem) :=
  (f_CF_isFarm_0 a1 M0).bind fun q1 => if q1 then ((f_CF_isBefore_0 a3 M0).bind fun q3 => if q3 then (if wthn a2 0 120 then ((f_Book_kindIn_7 a1 a2 a3 M0).bind fun q6 => (f_CF_owing_0 a1 a2 q6.1 q6.2).bind fun q7 => some (q7.1, q7.2)) else (some ((-2), M0))) else (some ((-1), M0))) else (some ((-1), M0))
set_option maxHeartbeats 4000000 in
set_option maxRecDepth 20000 in
theorem C_CF_as_0 {D : va_G} {ad adK adV : Nat → Nat} {cI cJ : ClassId} {l : Launch} (a1 : Int32) (a2 : Int32) (a3 : Int32) (M0 : Mem) (o : Int32 × Mem) (h : f_CF_as_0 a1 a2 a3 M0 = some o) : Ct D ad adK adV cI cJ l y_CF_as_0 cX11_as 4 (some .int) 6 152 [.ref (ad 0), .int a1, .int a2, .int a3] M0 (some (.int o.1)) o.2 := by
  refine x_start (lv := [(0, .ref (ad 0)), (1, .int a1), (2, .int a2), (3, .int a3)]) (own := "CurrentFarms") rfl (by decide) (Nat.le_of_ble_eq_true rfl) rfl ?_
  intro p e s m args below meth c Q hQ B
  unfold f_CF_as_0 at h
  refine x_aload_n (pc := 0) B 0 dX11_as_0 rfl rfl ?_
  refine x_iload_n (pc := 1) B 1 dX11_as_1 rfl rfl ?_
  obtain ⟨q1, hq1, h⟩ := bnd h
  refine x_callV (rest := []) (st' := [.int (bI q1)]) (pc := 2) B oi_0 rfl (C_CF_isFarm_0 a1 M0 _ hq1) tw_638 tw_635 tw_637 tw_2 tw_98 hd_CF_isFarm_0 ⟨Nat.le_of_ble_eq_true rfl, Nat.le_of_ble_eq_true rfl⟩ rfl rfl (Nat.le_of_ble_eq_true rfl) rfl dX11_as_2 ?_
  refine x_if_eq_b (tgt := 16) (pc := 5) B dX11_as_5 rfl (fun hc2 => ?_) (fun hc2 => ?_)
  · have h := iff_ hc2 h
    refine x_iconst (v := (-1)) (pc := 16) B dX11_as_16 rfl ?_
    obtain rfl := Option.some.inj h
    exact x_iret (pc := 17) B hQ dX11_as_17
  · have h := ift hc2 h
    refine x_aload_n (pc := 8) B 0 dX11_as_8 rfl rfl ?_
    refine x_iload_n (pc := 9) B 3 dX11_as_9 rfl rfl ?_
    obtain ⟨q3, hq3, h⟩ := bnd h
    refine x_callV (rest := []) (st' := [.int (bI q3)]) (pc := 10) B oi_0 rfl (C_CF_isBefore_0 a3 M0 _ hq3) tw_669 tw_666 tw_668 tw_4 tw_98 hd_CF_isBefore_0 ⟨Nat.le_of_ble_eq_true rfl, Nat.le_of_ble_eq_true rfl⟩ rfl rfl (Nat.le_of_ble_eq_true rfl) rfl dX11_as_10 ?_
    refine x_if_ne_b (tgt := 18) (pc := 13) B dX11_as_13 rfl (fun hc4 => ?_) (fun hc4 => ?_)
    · have h := ift hc4 h
      refine x_iload_n (pc := 18) B 2 dX11_as_18 rfl rfl ?_
      refine x_iconst (v := 0) (pc := 19) B dX11_as_19 rfl ?_
      refine x_bipush (v := 120) (pc := 20) B dX11_as_20 rfl ?_
      refine x_callS (rest := []) (st' := [.int (bI (wthn a2 0 120))]) (pc := 22) B (T_CF_within a2 0 120 M0) tw_559 tw_557 tw_558 tw_98 hd_CF_within ⟨Nat.le_of_ble_eq_true rfl, Nat.le_of_ble_eq_true rfl⟩ rfl rfl (Nat.le_of_ble_eq_true rfl) rfl dX11_as_22 ?_
      refine x_if_ne_b (tgt := 31) (pc := 25) B dX11_as_25 rfl (fun hc5 => ?_) (fun hc5 => ?_)
      · have h := ift hc5 h
        refine x_aload_n (pc := 31) B 0 dX11_as_31 rfl rfl ?_
        refine x_iload_n (pc := 32) B 1 dX11_as_32 rfl rfl ?_
        refine x_iload_n (pc := 33) B 2 dX11_as_33 rfl rfl ?_
        refine x_aload_n (pc := 34) B 0 dX11_as_34 rfl rfl ?_
        refine x_get (T := TX11) (pc := 35) B 0 oi_0 rfl uw_11 (by decide) rfl tw_525 rfl dX11_as_35 ?_
        refine x_get (T := TX8) (pc := 38) B 1 oi_1 rfl uw_8 (by decide) rfl tw_367 rfl dX11_as_38 ?_
        refine x_iload_n (pc := 41) B 1 dX11_as_41 rfl rfl ?_
        refine x_iload_n (pc := 42) B 2 dX11_as_42 rfl rfl ?_
        refine x_iload_n (pc := 43) B 3 dX11_as_43 rfl rfl ?_
        obtain ⟨q6, hq6, h⟩ := bnd h
        refine x_callV (rest := [.int a2, .int a1, .ref (ad 0)]) (st' := [.int q6.1, .int a2, .int a1, .ref (ad 0)]) (pc := 44) B oi_7 rfl (C_Book_kindIn_7 a1 a2 a3 M0 _ hq6) tw_673 tw_670 tw_671 tw_672 tw_101 hd_Book_kindIn_7 ⟨Nat.le_of_ble_eq_true rfl, Nat.le_of_ble_eq_true rfl⟩ rfl rfl (Nat.le_of_ble_eq_true rfl) rfl dX11_as_44 ?_
        obtain ⟨q7, hq7, h⟩ := bnd h
        refine x_callV (rest := []) (st' := [.int q7.1]) (pc := 47) B oi_0 rfl (C_CF_owing_0 a1 a2 q6.1 q6.2 _ hq7) tw_703 tw_700 tw_702 tw_9 tw_98 hd_CF_owing_0 ⟨Nat.le_of_ble_eq_true rfl, Nat.le_of_ble_eq_true rfl⟩ rfl rfl (Nat.le_of_ble_eq_true rfl) rfl dX11_as_47 ?_
        obtain rfl := Option.some.inj h
        exact x_iret (pc := 50) B hQ dX11_as_50
      · have h := iff_ hc5 h
        refine x_bipush (v := (-2)) (pc := 28) B dX11_as_28 rfl ?_
        obtain rfl := Option.some.inj h
        exact x_iret (pc := 30) B hQ dX11_as_30
    · have h := iff_ hc4 h
      refine x_iconst (v := (-1)) (pc := 16) B dX11_as_16 rfl ?_
      obtain rfl := Option.some.inj h
      exact x_iret (pc := 17) B hQ dX11_as_17
-- CurrentFarms.isUnder(II)Z []
abbrev y_CF_isUnder : MethodName := ⟨"CurrentFarms", "isUnder", "(II)Z"⟩
abbrev cX11_isUnder : ByteArray := prog_1_method_65_code
theorem dX11_isUnder_0 : decode cX11_isUnder 0 = .ok (.iload_n 1, 1) := by decide +kernel
theorem dX11_isUnder_1 : decode cX11_isUnder 1 = .ok (.ifCond .eq 8, 3) := by decide +kernel
theorem dX11_isUnder_4 : decode cX11_isUnder 4 = .ok (.iload_n 0, 1) := by decide +kernel
theorem dX11_isUnder_5 : decode cX11_isUnder 5 = .ok (.iload_n 1, 1) := by decide +kernel
theorem dX11_isUnder_6 : decode cX11_isUnder 6 = .ok (.if_icmp .ne 5, 3) := by decide +kernel
theorem dX11_isUnder_9 : decode cX11_isUnder 9 = .ok (.iconst 1, 1) := by decide +kernel
theorem dX11_isUnder_10 : decode cX11_isUnder 10 = .ok (.ireturn, 1) := by decide +kernel
theorem dX11_isUnder_11 : decode cX11_isUnder 11 = .ok (.iload_n 1, 1) := by decide +kernel
theorem dX11_isUnder_12 : decode cX11_isUnder 12 = .ok (.iconst 1, 1) := by decide +kernel
theorem dX11_isUnder_13 : decode cX11_isUnder 13 = .ok (.if_icmp .ne 12, 3) := by decide +kernel
theorem dX11_isUnder_16 : decode cX11_isUnder 16 = .ok (.iload_n 0, 1) := by decide +kernel
theorem dX11_isUnder_17 : decode cX11_isUnder 17 = .ok (.iconst 3, 1) := by decide +kernel
theorem dX11_isUnder_18 : decode cX11_isUnder 18 = .ok (.if_icmp .ne 7, 3) := by decide +kernel
theorem dX11_isUnder_21 : decode cX11_isUnder 21 = .ok (.iconst 1, 1) := by decide +kernel
theorem dX11_isUnder_22 : decode cX11_isUnder 22 = .ok (.goto 4, 3) := by decide +kernel
theorem dX11_isUnder_25 : decode cX11_isUnder 25 = .ok (.iconst 0, 1) := by decide +kernel
theorem dX11_isUnder_26 : decode cX11_isUnder 26 = .ok (.ireturn, 1) := by decide +kernel
theorem hd_CF_isUnder : y_CF_isUnder.cls ≠ "java/lang/invoke/MethodHandle" ∧ y_CF_isUnder.cls ≠ "java/lang/invoke/VarHandle" ∧ (parseMethodDescriptor y_CF_isUnder.desc).map (fun d => d.parameters.length) = some 2 := by decide +kernel
def f_CF_isUnder (a0 : Int32) (a1 : Int32) : Option (Bool) :=
  if decide (a1 = 0) then (some true) else (if decide (a0 = a1) then (some true) else (if decide (a1 = 1) then (if decide (a0 = 3) then (some true) else (some false)) else (some false)))
set_option maxHeartbeats 4000000 in
set_option maxRecDepth 20000 in
theorem C_CF_isUnder {D : va_G} {ad adK adV : Nat → Nat} {cI cJ : ClassId} {l : Launch} (a0 : Int32) (a1 : Int32) (M0 : Mem) (o : Bool) (h : f_CF_isUnder a0 a1 = some o) : Ct D ad adK adV cI cJ l y_CF_isUnder cX11_isUnder 2 (some .boolean) 0 0 [.int a0, .int a1] M0 (some (.int (bI o))) M0 := by
  refine x_start (lv := [(0, .int a0), (1, .int a1)]) (own := "CurrentFarms") rfl (by decide) (Nat.le_of_ble_eq_true rfl) rfl ?_
  intro p e s m args below meth c Q hQ B
  unfold f_CF_isUnder at h
  refine x_iload_n (pc := 0) B 1 dX11_isUnder_0 rfl rfl ?_
  refine x_if_eq (tgt := 9) (pc := 1) B dX11_isUnder_1 rfl (fun hc1 => ?_) (fun hc1 => ?_)
  · have h := ift hc1 h
    refine x_iconst (v := 1) (pc := 9) B dX11_isUnder_9 rfl ?_
    obtain rfl := Option.some.inj h
    exact x_zret (v := true) (pc := 10) B hQ dX11_isUnder_10
  · have h := iff_ hc1 h
    refine x_iload_n (pc := 4) B 0 dX11_isUnder_4 rfl rfl ?_
    refine x_iload_n (pc := 5) B 1 dX11_isUnder_5 rfl rfl ?_
    refine x_icmp_ne (tgt := 11) (pc := 6) B dX11_isUnder_6 rfl (fun hc2 => ?_) (fun hc2 => ?_)
    · have h := iff_ hc2 h
      refine x_iload_n (pc := 11) B 1 dX11_isUnder_11 rfl rfl ?_
      refine x_iconst (v := 1) (pc := 12) B dX11_isUnder_12 rfl ?_
      refine x_icmp_ne (tgt := 25) (pc := 13) B dX11_isUnder_13 rfl (fun hc3 => ?_) (fun hc3 => ?_)
      · have h := iff_ hc3 h
        refine x_iconst (v := 0) (pc := 25) B dX11_isUnder_25 rfl ?_
        obtain rfl := Option.some.inj h
        exact x_zret (v := false) (pc := 26) B hQ dX11_isUnder_26
      · have h := ift hc3 h
        refine x_iload_n (pc := 16) B 0 dX11_isUnder_16 rfl rfl ?_
        refine x_iconst (v := 3) (pc := 17) B dX11_isUnder_17 rfl ?_
        refine x_icmp_ne (tgt := 25) (pc := 18) B dX11_isUnder_18 rfl (fun hc4 => ?_) (fun hc4 => ?_)
        · have h := iff_ hc4 h
          refine x_iconst (v := 0) (pc := 25) B dX11_isUnder_25 rfl ?_
          obtain rfl := Option.some.inj h
          exact x_zret (v := false) (pc := 26) B hQ dX11_isUnder_26
        · have h := ift hc4 h
          refine x_iconst (v := 1) (pc := 21) B dX11_isUnder_21 rfl ?_
          refine x_goto (tgt := 26) (pc := 22) B dX11_isUnder_22 rfl ?_
          obtain rfl := Option.some.inj h
          exact x_zret (v := true) (pc := 26) B hQ dX11_isUnder_26
    · have h := ift hc2 h
      refine x_iconst (v := 1) (pc := 9) B dX11_isUnder_9 rfl ?_
      obtain rfl := Option.some.inj h
      exact x_zret (v := true) (pc := 10) B hQ dX11_isUnder_10
-- CurrentFarms.many(III)I [0]
abbrev y_CF_many_0 : MethodName := ⟨"CurrentFarms", "many", "(III)I"⟩
abbrev cX11_many : ByteArray := prog_1_method_10_code
theorem dX11_many_0 : decode cX11_many 0 = .ok (.iload_n 1, 1) := by decide +kernel
theorem dX11_many_1 : decode cX11_many 1 = .ok (.iconst 0, 1) := by decide +kernel
theorem dX11_many_2 : decode cX11_many 2 = .ok (.iconst 5, 1) := by decide +kernel
theorem dX11_many_3 : decode cX11_many 3 = .ok (.invokestatic 72, 3) := by decide +kernel
theorem dX11_many_6 : decode cX11_many 6 = .ok (.ifCond .eq 11, 3) := by decide +kernel
theorem dX11_many_9 : decode cX11_many 9 = .ok (.aload_n 0, 1) := by decide +kernel
theorem dX11_many_10 : decode cX11_many 10 = .ok (.iload_n 3, 1) := by decide +kernel
theorem dX11_many_11 : decode cX11_many 11 = .ok (.invokevirtual 150, 3) := by decide +kernel
theorem dX11_many_14 : decode cX11_many 14 = .ok (.ifCond .ne 5, 3) := by decide +kernel
theorem dX11_many_17 : decode cX11_many 17 = .ok (.iconst (-1), 1) := by decide +kernel
theorem dX11_many_18 : decode cX11_many 18 = .ok (.ireturn, 1) := by decide +kernel
theorem dX11_many_19 : decode cX11_many 19 = .ok (.iload_n 2, 1) := by decide +kernel
theorem dX11_many_20 : decode cX11_many 20 = .ok (.iconst 0, 1) := by decide +kernel
theorem dX11_many_21 : decode cX11_many 21 = .ok (.bipush 120, 2) := by decide +kernel
theorem dX11_many_23 : decode cX11_many 23 = .ok (.invokestatic 72, 3) := by decide +kernel
theorem dX11_many_26 : decode cX11_many 26 = .ok (.ifCond .ne 6, 3) := by decide +kernel
theorem dX11_many_29 : decode cX11_many 29 = .ok (.bipush (-2), 2) := by decide +kernel
theorem dX11_many_31 : decode cX11_many 31 = .ok (.ireturn, 1) := by decide +kernel
theorem dX11_many_32 : decode cX11_many 32 = .ok (.iconst 0, 1) := by decide +kernel
theorem dX11_many_33 : decode cX11_many 33 = .ok (.istore 4, 2) := by decide +kernel
theorem dX11_many_35 : decode cX11_many 35 = .ok (.iconst 0, 1) := by decide +kernel
theorem dX11_many_36 : decode cX11_many 36 = .ok (.istore 5, 2) := by decide +kernel
theorem dX11_many_38 : decode cX11_many 38 = .ok (.iload 5, 2) := by decide +kernel
theorem dX11_many_40 : decode cX11_many 40 = .ok (.aload_n 0, 1) := by decide +kernel
theorem dX11_many_41 : decode cX11_many 41 = .ok (.getfield 12, 3) := by decide +kernel
theorem dX11_many_44 : decode cX11_many 44 = .ok (.getfield 43, 3) := by decide +kernel
theorem dX11_many_47 : decode cX11_many 47 = .ok (.getfield 117, 3) := by decide +kernel
theorem dX11_many_50 : decode cX11_many 50 = .ok (.if_icmp .ge 53, 3) := by decide +kernel
theorem dX11_many_53 : decode cX11_many 53 = .ok (.aload_n 0, 1) := by decide +kernel
theorem dX11_many_54 : decode cX11_many 54 = .ok (.getfield 12, 3) := by decide +kernel
theorem dX11_many_57 : decode cX11_many 57 = .ok (.getfield 132, 3) := by decide +kernel
theorem dX11_many_60 : decode cX11_many 60 = .ok (.iload 5, 2) := by decide +kernel
theorem dX11_many_62 : decode cX11_many 62 = .ok (.iload_n 2, 1) := by decide +kernel
theorem dX11_many_63 : decode cX11_many 63 = .ok (.iload_n 3, 1) := by decide +kernel
theorem dX11_many_64 : decode cX11_many 64 = .ok (.invokevirtual 153, 3) := by decide +kernel
theorem dX11_many_67 : decode cX11_many 67 = .ok (.istore 6, 2) := by decide +kernel
theorem dX11_many_69 : decode cX11_many 69 = .ok (.iload_n 1, 1) := by decide +kernel
theorem dX11_many_70 : decode cX11_many 70 = .ok (.iconst 4, 1) := by decide +kernel
theorem dX11_many_71 : decode cX11_many 71 = .ok (.if_icmp .ne 14, 3) := by decide +kernel
theorem dX11_many_74 : decode cX11_many 74 = .ok (.aload_n 0, 1) := by decide +kernel
theorem dX11_many_75 : decode cX11_many 75 = .ok (.iload 5, 2) := by decide +kernel
theorem dX11_many_77 : decode cX11_many 77 = .ok (.iload_n 2, 1) := by decide +kernel
theorem dX11_many_78 : decode cX11_many 78 = .ok (.iload 6, 2) := by decide +kernel
theorem dX11_many_80 : decode cX11_many 80 = .ok (.invokevirtual 157, 3) := by decide +kernel
theorem dX11_many_83 : decode cX11_many 83 = .ok (.istore 6, 2) := by decide +kernel
theorem dX11_many_85 : decode cX11_many 85 = .ok (.iload 6, 2) := by decide +kernel
theorem dX11_many_87 : decode cX11_many 87 = .ok (.iload_n 1, 1) := by decide +kernel
theorem dX11_many_88 : decode cX11_many 88 = .ok (.invokestatic 160, 3) := by decide +kernel
theorem dX11_many_91 : decode cX11_many 91 = .ok (.ifCond .eq 6, 3) := by decide +kernel
theorem dX11_many_94 : decode cX11_many 94 = .ok (.iinc 4 1, 3) := by decide +kernel
theorem dX11_many_97 : decode cX11_many 97 = .ok (.iinc 5 1, 3) := by decide +kernel
theorem dX11_many_100 : decode cX11_many 100 = .ok (.goto (-62), 3) := by decide +kernel
theorem dX11_many_103 : decode cX11_many 103 = .ok (.iload 4, 2) := by decide +kernel
theorem dX11_many_105 : decode cX11_many 105 = .ok (.ireturn, 1) := by decide +kernel
theorem hd_CF_many_0 : y_CF_many_0.cls ≠ "java/lang/invoke/MethodHandle" ∧ y_CF_many_0.cls ≠ "java/lang/invoke/VarHandle" ∧ (parseMethodDescriptor y_CF_many_0.desc).map (fun d => d.parameters.length) = some 3 := by decide +kernel
def b_CF_many_0_38 (a1 : Int32) (a2 : Int32) (a3 : Int32) (y5 : Int32 × Int32 × Mem) : Option ((Int32 × Int32 × Mem) ⊕ (Int32 × Mem)) :=
  if decide (y5.2.1 < (y5.2.2.1 2 4)) then ((f_Book_kindIn_7 y5.2.1 a2 a3 y5.2.2).bind fun q7 => jn_ (fun (u11 : Int32 × Mem) => (f_CF_isUnder u11.1 a1).bind fun q12 => if q12 then (some (.inl (y5.1 + 1, y5.2.1 + 1, u11.2))) else (some (.inl (y5.1, y5.2.1 + 1, u11.2)))) fun k14 => if decide (a1 = 4) then ((f_CF_owing_0 y5.2.1 a2 q7.1 q7.2).bind fun q15 => k14 (q15.1, q15.2)) else (k14 (q7.1, q7.2))) else (some (.inr (y5.1, y5.2.2)))
def f_CF_many_0 (a1 : Int32) (a2 : Int32) (a3 : Int32) (M0 : Mem) : Option (Int32 × Mem) :=
  if wthn a1 0 5 then ((f_CF_isBefore_0 a3 M0).bind fun q2 => if q2 then (if wthn a2 0 120 then ((itr (b_CF_many_0_38 a1 a2 a3) FU (0, 0, M0)).bind fun q16 => some (q16.1, q16.2)) else (some ((-2), M0))) else (some ((-1), M0))) else (some ((-1), M0))
set_option maxHeartbeats 4000000 in
set_option maxRecDepth 20000 in
theorem C_CF_many_0 {D : va_G} {ad adK adV : Nat → Nat} {cI cJ : ClassId} {l : Launch} (a1 : Int32) (a2 : Int32) (a3 : Int32) (M0 : Mem) (o : Int32 × Mem) (h : f_CF_many_0 a1 a2 a3 M0 = some o) : Ct D ad adK adV cI cJ l y_CF_many_0 cX11_many 7 (some .int) 6 152 [.ref (ad 0), .int a1, .int a2, .int a3] M0 (some (.int o.1)) o.2 := by
  refine x_start (lv := [(0, .ref (ad 0)), (1, .int a1), (2, .int a2), (3, .int a3)]) (own := "CurrentFarms") rfl (by decide) (Nat.le_of_ble_eq_true rfl) rfl ?_
  intro p e s m args below meth c Q hQ B
  unfold f_CF_many_0 at h
  refine x_iload_n (pc := 0) B 1 dX11_many_0 rfl rfl ?_
  refine x_iconst (v := 0) (pc := 1) B dX11_many_1 rfl ?_
  refine x_iconst (v := 5) (pc := 2) B dX11_many_2 rfl ?_
  refine x_callS (rest := []) (st' := [.int (bI (wthn a1 0 5))]) (pc := 3) B (T_CF_within a1 0 5 M0) tw_559 tw_557 tw_558 tw_98 hd_CF_within ⟨Nat.le_of_ble_eq_true rfl, Nat.le_of_ble_eq_true rfl⟩ rfl rfl (Nat.le_of_ble_eq_true rfl) rfl dX11_many_3 ?_
  refine x_if_eq_b (tgt := 17) (pc := 6) B dX11_many_6 rfl (fun hc1 => ?_) (fun hc1 => ?_)
  · have h := iff_ hc1 h
    refine x_iconst (v := (-1)) (pc := 17) B dX11_many_17 rfl ?_
    obtain rfl := Option.some.inj h
    exact x_iret (pc := 18) B hQ dX11_many_18
  · have h := ift hc1 h
    refine x_aload_n (pc := 9) B 0 dX11_many_9 rfl rfl ?_
    refine x_iload_n (pc := 10) B 3 dX11_many_10 rfl rfl ?_
    obtain ⟨q2, hq2, h⟩ := bnd h
    refine x_callV (rest := []) (st' := [.int (bI q2)]) (pc := 11) B oi_0 rfl (C_CF_isBefore_0 a3 M0 _ hq2) tw_669 tw_666 tw_668 tw_4 tw_98 hd_CF_isBefore_0 ⟨Nat.le_of_ble_eq_true rfl, Nat.le_of_ble_eq_true rfl⟩ rfl rfl (Nat.le_of_ble_eq_true rfl) rfl dX11_many_11 ?_
    refine x_if_ne_b (tgt := 19) (pc := 14) B dX11_many_14 rfl (fun hc3 => ?_) (fun hc3 => ?_)
    · have h := ift hc3 h
      refine x_iload_n (pc := 19) B 2 dX11_many_19 rfl rfl ?_
      refine x_iconst (v := 0) (pc := 20) B dX11_many_20 rfl ?_
      refine x_bipush (v := 120) (pc := 21) B dX11_many_21 rfl ?_
      refine x_callS (rest := []) (st' := [.int (bI (wthn a2 0 120))]) (pc := 23) B (T_CF_within a2 0 120 M0) tw_559 tw_557 tw_558 tw_98 hd_CF_within ⟨Nat.le_of_ble_eq_true rfl, Nat.le_of_ble_eq_true rfl⟩ rfl rfl (Nat.le_of_ble_eq_true rfl) rfl dX11_many_23 ?_
      refine x_if_ne_b (tgt := 32) (pc := 26) B dX11_many_26 rfl (fun hc4 => ?_) (fun hc4 => ?_)
      · have h := ift hc4 h
        refine x_iconst (v := 0) (pc := 32) B dX11_many_32 rfl ?_
        refine x_istore (lv' := [(4, .int 0), (0, .ref (ad 0)), (1, .int a1), (2, .int a2), (3, .int a3)]) (pc := 33) B dX11_many_33 (by decide) rfl ?_
        refine x_iconst (v := 0) (pc := 35) B dX11_many_35 rfl ?_
        refine x_istore (lv' := [(5, .int 0), (4, .int 0), (0, .ref (ad 0)), (1, .int a1), (2, .int a2), (3, .int a3)]) (pc := 36) B dX11_many_36 (by decide) rfl ?_
        refine x_pick (lv' := [(0, .ref (ad 0)), (1, .int a1), (2, .int a2), (3, .int a3), (4, .int 0), (5, .int 0)]) [2, 3, 4, 5, 1, 0] rfl ?_
        obtain ⟨q16, hq16, h⟩ := bnd h
        refine x_loop (Head := fun (y5 : Int32 × Int32 × Mem) => XX D ad cI cJ p l e (Rm 6 152) s m args below meth c Q 7 y5.2.2 38 [(0, .ref (ad 0)), (1, .int a1), (2, .int a2), (3, .int a3), (4, .int y5.1), (5, .int y5.2.1)] []) (Ex := fun (q16 : Int32 × Mem) => XX D ad cI cJ p l e (Rm 6 152) s m args below meth c Q 7 q16.2 103 [(4, .int q16.1)] []) (fun y5 r h hback hexit => ?_) FU _ q16 hq16 ?_
        · unfold b_CF_many_0_38 at h
          refine x_iload (pc := 38) B 5 dX11_many_38 rfl ?_
          refine x_aload_n (pc := 40) B 0 dX11_many_40 rfl rfl ?_
          refine x_get (T := TX11) (pc := 41) B 0 oi_0 rfl uw_11 (by decide) rfl tw_525 rfl dX11_many_41 ?_
          refine x_get (T := TX8) (pc := 44) B 0 oi_1 rfl uw_8 (by decide) rfl tw_359 rfl dX11_many_44 ?_
          refine x_get (T := TX4) (pc := 47) B 4 oi_2 rfl uw_4 (by decide) rfl tw_151 rfl dX11_many_47 ?_
          refine x_icmp_ge (tgt := 103) (pc := 50) B dX11_many_50 rfl (fun hc6 => ?_) (fun hc6 => ?_)
          · have h := iff_ hc6 h
            refine x_pick (lv' := [(4, .int y5.1)]) [4] rfl ?_
            have z := hexit (y5.1, y5.2.2) (Option.some.inj h).symm
            exact z
          · have h := ift hc6 h
            refine x_aload_n (pc := 53) B 0 dX11_many_53 rfl rfl ?_
            refine x_get (T := TX11) (pc := 54) B 0 oi_0 rfl uw_11 (by decide) rfl tw_525 rfl dX11_many_54 ?_
            refine x_get (T := TX8) (pc := 57) B 1 oi_1 rfl uw_8 (by decide) rfl tw_367 rfl dX11_many_57 ?_
            refine x_iload (pc := 60) B 5 dX11_many_60 rfl ?_
            refine x_iload_n (pc := 62) B 2 dX11_many_62 rfl rfl ?_
            refine x_iload_n (pc := 63) B 3 dX11_many_63 rfl rfl ?_
            obtain ⟨q7, hq7, h⟩ := bnd h
            refine x_callV (rest := []) (st' := [.int q7.1]) (pc := 64) B oi_7 rfl (C_Book_kindIn_7 y5.2.1 a2 a3 y5.2.2 _ hq7) tw_673 tw_670 tw_671 tw_672 tw_101 hd_Book_kindIn_7 ⟨Nat.le_of_ble_eq_true rfl, Nat.le_of_ble_eq_true rfl⟩ rfl rfl (Nat.le_of_ble_eq_true rfl) rfl dX11_many_64 ?_
            refine x_istore (lv' := [(6, .int q7.1), (0, .ref (ad 0)), (1, .int a1), (2, .int a2), (3, .int a3), (4, .int y5.1), (5, .int y5.2.1)]) (pc := 67) B dX11_many_67 (by decide) rfl ?_
            refine x_iload_n (pc := 69) B 2 dX11_many_69 rfl rfl ?_
            refine x_iconst (v := 4) (pc := 70) B dX11_many_70 rfl ?_
            refine jn_k h (fun (u11 : Int32 × Mem) => XX D ad cI cJ p l e (Rm 6 152) s m args below meth c Q 7 u11.2 85 [(0, .ref (ad 0)), (1, .int a1), (2, .int a2), (3, .int a3), (4, .int y5.1), (5, .int y5.2.1), (6, .int u11.1)] []) (fun u11 h => ?_) (fun k14 h JJ => ?_)
            · refine x_iload (pc := 85) B 6 dX11_many_85 rfl ?_
              refine x_iload_n (pc := 87) B 1 dX11_many_87 rfl rfl ?_
              obtain ⟨q12, hq12, h⟩ := bnd h
              refine x_callS (rest := []) (st' := [.int (bI q12)]) (pc := 88) B (C_CF_isUnder u11.1 a1 u11.2 _ hq12) tw_783 tw_781 tw_782 tw_98 hd_CF_isUnder ⟨Nat.le_of_ble_eq_true rfl, Nat.le_of_ble_eq_true rfl⟩ rfl rfl (Nat.le_of_ble_eq_true rfl) rfl dX11_many_88 ?_
              refine x_if_eq_b (tgt := 97) (pc := 91) B dX11_many_91 rfl (fun hc13 => ?_) (fun hc13 => ?_)
              · have h := iff_ hc13 h
                refine x_iinc (k := 5) (v := y5.2.1 + 1) (lv' := [(5, .int (y5.2.1 + 1)), (0, .ref (ad 0)), (1, .int a1), (2, .int a2), (3, .int a3), (4, .int y5.1), (6, .int u11.1)]) (pc := 97) B dX11_many_97 rfl rfl (by decide) rfl ?_
                refine x_goto (tgt := 38) (pc := 100) B dX11_many_100 rfl ?_
                refine x_pick (lv' := [(0, .ref (ad 0)), (1, .int a1), (2, .int a2), (3, .int a3), (4, .int y5.1), (5, .int (y5.2.1 + 1))]) [1, 2, 3, 4, 5, 0] rfl ?_
                have z := hback (y5.1, y5.2.1 + 1, u11.2) (Option.some.inj h).symm
                exact z
              · have h := ift hc13 h
                refine x_iinc (k := 4) (v := y5.1 + 1) (lv' := [(4, .int (y5.1 + 1)), (0, .ref (ad 0)), (1, .int a1), (2, .int a2), (3, .int a3), (5, .int y5.2.1), (6, .int u11.1)]) (pc := 94) B dX11_many_94 rfl rfl (by decide) rfl ?_
                refine x_iinc (k := 5) (v := y5.2.1 + 1) (lv' := [(5, .int (y5.2.1 + 1)), (4, .int (y5.1 + 1)), (0, .ref (ad 0)), (1, .int a1), (2, .int a2), (3, .int a3), (6, .int u11.1)]) (pc := 97) B dX11_many_97 rfl rfl (by decide) rfl ?_
                refine x_goto (tgt := 38) (pc := 100) B dX11_many_100 rfl ?_
                refine x_pick (lv' := [(0, .ref (ad 0)), (1, .int a1), (2, .int a2), (3, .int a3), (4, .int (y5.1 + 1)), (5, .int (y5.2.1 + 1))]) [2, 3, 4, 5, 1, 0] rfl ?_
                have z := hback (y5.1 + 1, y5.2.1 + 1, u11.2) (Option.some.inj h).symm
                exact z
            · refine x_icmp_ne (tgt := 85) (pc := 71) B dX11_many_71 rfl (fun hc8 => ?_) (fun hc8 => ?_)
              · have h := iff_ hc8 h
                refine x_pick (lv' := [(0, .ref (ad 0)), (1, .int a1), (2, .int a2), (3, .int a3), (4, .int y5.1), (5, .int y5.2.1), (6, .int q7.1)]) [1, 2, 3, 4, 5, 6, 0] rfl ?_
                have z := JJ (q7.1, q7.2) h
                exact z
              · have h := ift hc8 h
                refine x_aload_n (pc := 74) B 1 dX11_many_74 rfl rfl ?_
                refine x_iload (pc := 75) B 6 dX11_many_75 rfl ?_
                refine x_iload_n (pc := 77) B 3 dX11_many_77 rfl rfl ?_
                refine x_iload (pc := 78) B 0 dX11_many_78 rfl ?_
                obtain ⟨q15, hq15, h⟩ := bnd h
                refine x_callV (rest := []) (st' := [.int q15.1]) (pc := 80) B oi_0 rfl (C_CF_owing_0 y5.2.1 a2 q7.1 q7.2 _ hq15) tw_703 tw_700 tw_702 tw_9 tw_98 hd_CF_owing_0 ⟨Nat.le_of_ble_eq_true rfl, Nat.le_of_ble_eq_true rfl⟩ rfl rfl (Nat.le_of_ble_eq_true rfl) rfl dX11_many_80 ?_
                refine x_istore (lv' := [(6, .int q15.1), (0, .ref (ad 0)), (1, .int a1), (2, .int a2), (3, .int a3), (4, .int y5.1), (5, .int y5.2.1)]) (pc := 83) B dX11_many_83 (by decide) rfl ?_
                refine x_pick (lv' := [(0, .ref (ad 0)), (1, .int a1), (2, .int a2), (3, .int a3), (4, .int y5.1), (5, .int y5.2.1), (6, .int q15.1)]) [1, 2, 3, 4, 5, 6, 0] rfl ?_
                have z := JJ (q15.1, q15.2) h
                exact z
        · refine x_iload (pc := 103) B 0 dX11_many_103 rfl ?_
          obtain rfl := Option.some.inj h
          exact x_iret (pc := 105) B hQ dX11_many_105
      · have h := iff_ hc4 h
        refine x_bipush (v := (-2)) (pc := 29) B dX11_many_29 rfl ?_
        obtain rfl := Option.some.inj h
        exact x_iret (pc := 31) B hQ dX11_many_31
    · have h := iff_ hc3 h
      refine x_iconst (v := (-1)) (pc := 17) B dX11_many_17 rfl ?_
      obtain rfl := Option.some.inj h
      exact x_iret (pc := 18) B hQ dX11_many_18
-- CurrentFarms$Book.membersIn(III)I [7]
abbrev y_Book_membersIn_7 : MethodName := ⟨"CurrentFarms$Book", "membersIn", "(III)I"⟩
abbrev cX1_membersIn : ByteArray := prog_3_method_9_code
theorem dX1_membersIn_0 : decode cX1_membersIn 0 = .ok (.aload_n 0, 1) := by decide +kernel
theorem dX1_membersIn_1 : decode cX1_membersIn 1 = .ok (.iload_n 1, 1) := by decide +kernel
theorem dX1_membersIn_2 : decode cX1_membersIn 2 = .ok (.iconst (-1), 1) := by decide +kernel
theorem dX1_membersIn_3 : decode cX1_membersIn 3 = .ok (.invokevirtual 56, 3) := by decide +kernel
theorem dX1_membersIn_6 : decode cX1_membersIn 6 = .ok (.aload_n 0, 1) := by decide +kernel
theorem dX1_membersIn_7 : decode cX1_membersIn 7 = .ok (.iload_n 2, 1) := by decide +kernel
theorem dX1_membersIn_8 : decode cX1_membersIn 8 = .ok (.iload_n 3, 1) := by decide +kernel
theorem dX1_membersIn_9 : decode cX1_membersIn 9 = .ok (.invokevirtual 64, 3) := by decide +kernel
theorem dX1_membersIn_12 : decode cX1_membersIn 12 = .ok (.ireturn, 1) := by decide +kernel
theorem hd_Book_membersIn_7 : y_Book_membersIn_7.cls ≠ "java/lang/invoke/MethodHandle" ∧ y_Book_membersIn_7.cls ≠ "java/lang/invoke/VarHandle" ∧ (parseMethodDescriptor y_Book_membersIn_7.desc).map (fun d => d.parameters.length) = some 3 := by decide +kernel
def f_Book_membersIn_7 (a1 : Int32) (a2 : Int32) (a3 : Int32) (M0 : Mem) : Option (Int32 × Mem) :=
  (f_Book_look_7 a1 (-1) M0).bind fun q1 => (f_Book_members_7 a2 a3 q1).bind fun q2 => some (q2, q1)
set_option maxHeartbeats 4000000 in
set_option maxRecDepth 20000 in
theorem C_Book_membersIn_7 {D : va_G} {ad adK adV : Nat → Nat} {cI cJ : ClassId} {l : Launch} (a1 : Int32) (a2 : Int32) (a3 : Int32) (M0 : Mem) (o : Int32 × Mem) (h : f_Book_membersIn_7 a1 a2 a3 M0 = some o) : Ct D ad adK adV cI cJ l y_Book_membersIn_7 cX1_membersIn 4 (some .int) 3 71 [.ref (ad 7), .int a1, .int a2, .int a3] M0 (some (.int o.1)) o.2 := by
  refine x_start (lv := [(0, .ref (ad 7)), (1, .int a1), (2, .int a2), (3, .int a3)]) (own := "CurrentFarms$Book") rfl (by decide) (Nat.le_of_ble_eq_true rfl) rfl ?_
  intro p e s m args below meth c Q hQ B
  unfold f_Book_membersIn_7 at h
  refine x_aload_n (pc := 0) B 0 dX1_membersIn_0 rfl rfl ?_
  refine x_iload_n (pc := 1) B 1 dX1_membersIn_1 rfl rfl ?_
  refine x_iconst (v := (-1)) (pc := 2) B dX1_membersIn_2 rfl ?_
  obtain ⟨q1, hq1, h⟩ := bnd h
  refine x_callV (rest := []) (st' := []) (pc := 3) B oi_7 rfl (C_Book_look_7 a1 (-1) M0 _ hq1) tw_677 tw_674 tw_676 tw_5 tw_101 hd_Book_look_7 ⟨Nat.le_of_ble_eq_true rfl, Nat.le_of_ble_eq_true rfl⟩ rfl rfl (Nat.le_of_ble_eq_true rfl) rfl dX1_membersIn_3 ?_
  refine x_aload_n (pc := 6) B 0 dX1_membersIn_6 rfl rfl ?_
  refine x_iload_n (pc := 7) B 2 dX1_membersIn_7 rfl rfl ?_
  refine x_iload_n (pc := 8) B 3 dX1_membersIn_8 rfl rfl ?_
  obtain ⟨q2, hq2, h⟩ := bnd h
  refine x_callV (rest := []) (st' := [.int q2]) (pc := 9) B oi_7 rfl (C_Book_members_7 a2 a3 q1 _ hq2) tw_686 tw_683 tw_685 tw_7 tw_101 hd_Book_members_7 ⟨Nat.le_of_ble_eq_true rfl, Nat.le_of_ble_eq_true rfl⟩ rfl rfl (Nat.le_of_ble_eq_true rfl) rfl dX1_membersIn_9 ?_
  obtain rfl := Option.some.inj h
  exact x_iret (pc := 12) B hQ dX1_membersIn_12
-- CurrentFarms.tip(I)I [0]
abbrev y_CF_tip_0 : MethodName := ⟨"CurrentFarms", "tip", "(I)I"⟩
abbrev cX11_tip : ByteArray := prog_1_method_11_code
theorem dX11_tip_0 : decode cX11_tip 0 = .ok (.aload_n 0, 1) := by decide +kernel
theorem dX11_tip_1 : decode cX11_tip 1 = .ok (.iload_n 1, 1) := by decide +kernel
theorem dX11_tip_2 : decode cX11_tip 2 = .ok (.invokevirtual 126, 3) := by decide +kernel
theorem dX11_tip_5 : decode cX11_tip 5 = .ok (.ifCond .ne 5, 3) := by decide +kernel
theorem dX11_tip_8 : decode cX11_tip 8 = .ok (.iconst (-1), 1) := by decide +kernel
theorem dX11_tip_9 : decode cX11_tip 9 = .ok (.ireturn, 1) := by decide +kernel
theorem dX11_tip_10 : decode cX11_tip 10 = .ok (.aload_n 0, 1) := by decide +kernel
theorem dX11_tip_11 : decode cX11_tip 11 = .ok (.getfield 12, 3) := by decide +kernel
theorem dX11_tip_14 : decode cX11_tip 14 = .ok (.getfield 132, 3) := by decide +kernel
theorem dX11_tip_17 : decode cX11_tip 17 = .ok (.aload_n 0, 1) := by decide +kernel
theorem dX11_tip_18 : decode cX11_tip 18 = .ok (.getfield 12, 3) := by decide +kernel
theorem dX11_tip_21 : decode cX11_tip 21 = .ok (.getfield 123, 3) := by decide +kernel
theorem dX11_tip_24 : decode cX11_tip 24 = .ok (.iconst 0, 1) := by decide +kernel
theorem dX11_tip_25 : decode cX11_tip 25 = .ok (.iconst 0, 1) := by decide +kernel
theorem dX11_tip_26 : decode cX11_tip 26 = .ok (.invokevirtual 163, 3) := by decide +kernel
theorem dX11_tip_29 : decode cX11_tip 29 = .ok (.istore_n 2, 1) := by decide +kernel
theorem dX11_tip_30 : decode cX11_tip 30 = .ok (.aload_n 0, 1) := by decide +kernel
theorem dX11_tip_31 : decode cX11_tip 31 = .ok (.getfield 12, 3) := by decide +kernel
theorem dX11_tip_34 : decode cX11_tip 34 = .ok (.getfield 132, 3) := by decide +kernel
theorem dX11_tip_37 : decode cX11_tip 37 = .ok (.aload_n 0, 1) := by decide +kernel
theorem dX11_tip_38 : decode cX11_tip 38 = .ok (.getfield 12, 3) := by decide +kernel
theorem dX11_tip_41 : decode cX11_tip 41 = .ok (.getfield 123, 3) := by decide +kernel
theorem dX11_tip_44 : decode cX11_tip 44 = .ok (.iconst 1, 1) := by decide +kernel
theorem dX11_tip_45 : decode cX11_tip 45 = .ok (.iload_n 1, 1) := by decide +kernel
theorem dX11_tip_46 : decode cX11_tip 46 = .ok (.ishl, 1) := by decide +kernel
theorem dX11_tip_47 : decode cX11_tip 47 = .ok (.iconst 0, 1) := by decide +kernel
theorem dX11_tip_48 : decode cX11_tip 48 = .ok (.invokevirtual 163, 3) := by decide +kernel
theorem dX11_tip_51 : decode cX11_tip 51 = .ok (.istore_n 3, 1) := by decide +kernel
theorem dX11_tip_52 : decode cX11_tip 52 = .ok (.iload_n 3, 1) := by decide +kernel
theorem dX11_tip_53 : decode cX11_tip 53 = .ok (.invokestatic 166, 3) := by decide +kernel
theorem dX11_tip_56 : decode cX11_tip 56 = .ok (.iload_n 2, 1) := by decide +kernel
theorem dX11_tip_57 : decode cX11_tip 57 = .ok (.invokestatic 166, 3) := by decide +kernel
theorem dX11_tip_60 : decode cX11_tip 60 = .ok (.isub, 1) := by decide +kernel
theorem dX11_tip_61 : decode cX11_tip 61 = .ok (.ireturn, 1) := by decide +kernel
theorem hd_CF_tip_0 : y_CF_tip_0.cls ≠ "java/lang/invoke/MethodHandle" ∧ y_CF_tip_0.cls ≠ "java/lang/invoke/VarHandle" ∧ (parseMethodDescriptor y_CF_tip_0.desc).map (fun d => d.parameters.length) = some 1 := by decide +kernel
def f_CF_tip_0 (a1 : Int32) (M0 : Mem) : Option (Int32 × Mem) :=
  (f_CF_isFarm_0 a1 M0).bind fun q1 => if q1 then ((f_Book_membersIn_7 (M0.1 1 6) 0 0 M0).bind fun q3 => (f_Book_membersIn_7 (q3.2.1 1 6) (1 <<< (a1 &&& 31)) 0 q3.2).bind fun q4 => some ((bcnt q4.1) - (bcnt q3.1), q4.2)) else (some ((-1), M0))
set_option maxHeartbeats 4000000 in
set_option maxRecDepth 20000 in
theorem C_CF_tip_0 {D : va_G} {ad adK adV : Nat → Nat} {cI cJ : ClassId} {l : Launch} (a1 : Int32) (M0 : Mem) (o : Int32 × Mem) (h : f_CF_tip_0 a1 M0 = some o) : Ct D ad adK adV cI cJ l y_CF_tip_0 cX11_tip 4 (some .int) 4 94 [.ref (ad 0), .int a1] M0 (some (.int o.1)) o.2 := by
  refine x_start (lv := [(0, .ref (ad 0)), (1, .int a1)]) (own := "CurrentFarms") rfl (by decide) (Nat.le_of_ble_eq_true rfl) rfl ?_
  intro p e s m args below meth c Q hQ B
  unfold f_CF_tip_0 at h
  refine x_aload_n (pc := 0) B 0 dX11_tip_0 rfl rfl ?_
  refine x_iload_n (pc := 1) B 1 dX11_tip_1 rfl rfl ?_
  obtain ⟨q1, hq1, h⟩ := bnd h
  refine x_callV (rest := []) (st' := [.int (bI q1)]) (pc := 2) B oi_0 rfl (C_CF_isFarm_0 a1 M0 _ hq1) tw_638 tw_635 tw_637 tw_2 tw_98 hd_CF_isFarm_0 ⟨Nat.le_of_ble_eq_true rfl, Nat.le_of_ble_eq_true rfl⟩ rfl rfl (Nat.le_of_ble_eq_true rfl) rfl dX11_tip_2 ?_
  refine x_if_ne_b (tgt := 10) (pc := 5) B dX11_tip_5 rfl (fun hc2 => ?_) (fun hc2 => ?_)
  · have h := ift hc2 h
    refine x_aload_n (pc := 10) B 0 dX11_tip_10 rfl rfl ?_
    refine x_get (T := TX11) (pc := 11) B 0 oi_0 rfl uw_11 (by decide) rfl tw_525 rfl dX11_tip_11 ?_
    refine x_get (T := TX8) (pc := 14) B 1 oi_1 rfl uw_8 (by decide) rfl tw_367 rfl dX11_tip_14 ?_
    refine x_aload_n (pc := 17) B 0 dX11_tip_17 rfl rfl ?_
    refine x_get (T := TX11) (pc := 18) B 0 oi_0 rfl uw_11 (by decide) rfl tw_525 rfl dX11_tip_18 ?_
    refine x_get (T := TX8) (pc := 21) B 6 oi_1 rfl uw_8 (by decide) rfl tw_384 rfl dX11_tip_21 ?_
    refine x_iconst (v := 0) (pc := 24) B dX11_tip_24 rfl ?_
    refine x_iconst (v := 0) (pc := 25) B dX11_tip_25 rfl ?_
    obtain ⟨q3, hq3, h⟩ := bnd h
    refine x_callV (rest := []) (st' := [.int q3.1]) (pc := 26) B oi_7 rfl (C_Book_membersIn_7 (M0.1 1 6) 0 0 M0 _ hq3) tw_791 tw_788 tw_789 tw_790 tw_101 hd_Book_membersIn_7 ⟨Nat.le_of_ble_eq_true rfl, Nat.le_of_ble_eq_true rfl⟩ rfl rfl (Nat.le_of_ble_eq_true rfl) rfl dX11_tip_26 ?_
    refine x_istore_n (lv' := [(2, .int q3.1), (0, .ref (ad 0)), (1, .int a1)]) (pc := 29) B dX11_tip_29 rfl (by decide) rfl ?_
    refine x_aload_n (pc := 30) B 1 dX11_tip_30 rfl rfl ?_
    refine x_get (T := TX11) (pc := 31) B 0 oi_0 rfl uw_11 (by decide) rfl tw_525 rfl dX11_tip_31 ?_
    refine x_get (T := TX8) (pc := 34) B 1 oi_1 rfl uw_8 (by decide) rfl tw_367 rfl dX11_tip_34 ?_
    refine x_aload_n (pc := 37) B 1 dX11_tip_37 rfl rfl ?_
    refine x_get (T := TX11) (pc := 38) B 0 oi_0 rfl uw_11 (by decide) rfl tw_525 rfl dX11_tip_38 ?_
    refine x_get (T := TX8) (pc := 41) B 6 oi_1 rfl uw_8 (by decide) rfl tw_384 rfl dX11_tip_41 ?_
    refine x_iconst (v := 1) (pc := 44) B dX11_tip_44 rfl ?_
    refine x_iload_n (pc := 45) B 2 dX11_tip_45 rfl rfl ?_
    refine x_ishl (pc := 46) B dX11_tip_46 ?_
    refine x_iconst (v := 0) (pc := 47) B dX11_tip_47 rfl ?_
    obtain ⟨q4, hq4, h⟩ := bnd h
    refine x_callV (rest := []) (st' := [.int q4.1]) (pc := 48) B oi_7 rfl (C_Book_membersIn_7 (q3.2.1 1 6) (1 <<< (a1 &&& 31)) 0 q3.2 _ hq4) tw_791 tw_788 tw_789 tw_790 tw_101 hd_Book_membersIn_7 ⟨Nat.le_of_ble_eq_true rfl, Nat.le_of_ble_eq_true rfl⟩ rfl rfl (Nat.le_of_ble_eq_true rfl) rfl dX11_tip_48 ?_
    refine x_istore_n (lv' := [(3, .int q4.1), (2, .int q3.1), (0, .ref (ad 0)), (1, .int a1)]) (pc := 51) B dX11_tip_51 rfl (by decide) rfl ?_
    refine x_iload_n (pc := 52) B 0 dX11_tip_52 rfl rfl ?_
    refine x_callS (rest := []) (st' := [.int (bcnt q4.1)]) (pc := 53) B (T_bitCount q4.1 q4.2) tw_689 tw_792 tw_688 tw_113 hd_Integer_bitCount_0f7a4 ⟨Nat.le_of_ble_eq_true rfl, Nat.le_of_ble_eq_true rfl⟩ rfl rfl (Nat.le_of_ble_eq_true rfl) rfl dX11_tip_53 ?_
    refine x_iload_n (pc := 56) B 1 dX11_tip_56 rfl rfl ?_
    refine x_callS (rest := [.int (bcnt q4.1)]) (st' := [.int (bcnt q3.1), .int (bcnt q4.1)]) (pc := 57) B (T_bitCount q3.1 q4.2) tw_689 tw_792 tw_688 tw_113 hd_Integer_bitCount_0f7a4 ⟨Nat.le_of_ble_eq_true rfl, Nat.le_of_ble_eq_true rfl⟩ rfl rfl (Nat.le_of_ble_eq_true rfl) rfl dX11_tip_57 ?_
    refine x_isub (pc := 60) B dX11_tip_60 ?_
    obtain rfl := Option.some.inj h
    exact x_iret (pc := 61) B hQ dX11_tip_61
  · have h := iff_ hc2 h
    refine x_iconst (v := (-1)) (pc := 8) B dX11_tip_8 rfl ?_
    obtain rfl := Option.some.inj h
    exact x_iret (pc := 9) B hQ dX11_tip_9
-- CurrentFarms$Rules.append(I)V [14]
abbrev y_Rules_append_14 : MethodName := ⟨"CurrentFarms$Rules", "append", "(I)V"⟩
abbrev cX7_append : ByteArray := prog_9_method_3_code
theorem dX7_append_0 : decode cX7_append 0 = .ok (.aload_n 0, 1) := by decide +kernel
theorem dX7_append_1 : decode cX7_append 1 = .ok (.getfield 9, 3) := by decide +kernel
theorem dX7_append_4 : decode cX7_append 4 = .ok (.aload_n 0, 1) := by decide +kernel
theorem dX7_append_5 : decode cX7_append 5 = .ok (.getfield 43, 3) := by decide +kernel
theorem dX7_append_8 : decode cX7_append 8 = .ok (.iload_n 1, 1) := by decide +kernel
theorem dX7_append_9 : decode cX7_append 9 = .ok (.invokestatic 50, 3) := by decide +kernel
theorem dX7_append_12 : decode cX7_append 12 = .ok (.aload_n 0, 1) := by decide +kernel
theorem dX7_append_13 : decode cX7_append 13 = .ok (.dup, 1) := by decide +kernel
theorem dX7_append_14 : decode cX7_append 14 = .ok (.getfield 43, 3) := by decide +kernel
theorem dX7_append_17 : decode cX7_append 17 = .ok (.iconst 1, 1) := by decide +kernel
theorem dX7_append_18 : decode cX7_append 18 = .ok (.iadd, 1) := by decide +kernel
theorem dX7_append_19 : decode cX7_append 19 = .ok (.putfield 43, 3) := by decide +kernel
theorem dX7_append_22 : decode cX7_append 22 = .ok (.return_, 1) := by decide +kernel
theorem hd_Rules_append_14 : y_Rules_append_14.cls ≠ "java/lang/invoke/MethodHandle" ∧ y_Rules_append_14.cls ≠ "java/lang/invoke/VarHandle" ∧ (parseMethodDescriptor y_Rules_append_14.desc).map (fun d => d.parameters.length) = some 1 := by decide +kernel
def f_Rules_append_14 (a1 : Int32) (M0 : Mem) : Option (Mem) :=
  jv_ (putv M0 15 120 (M0.1 14 1) a1) fun M1 => jv_ (wI M1 14 1 ((M1.1 14 1) + 1)) fun M2 => some M2
set_option maxHeartbeats 4000000 in
set_option maxRecDepth 20000 in
theorem C_Rules_append_14 {D : va_G} {ad adK adV : Nat → Nat} {cI cJ : ClassId} {l : Launch} (a1 : Int32) (M0 : Mem) (o : Mem) (h : f_Rules_append_14 a1 M0 = some o) : Ct D ad adK adV cI cJ l y_Rules_append_14 cX7_append 2 none 1 22 [.ref (ad 14), .int a1] M0 none o := by
  refine x_start (lv := [(0, .ref (ad 14)), (1, .int a1)]) (own := "CurrentFarms$Rules") rfl (by decide) (Nat.le_of_ble_eq_true rfl) rfl ?_
  intro p e s m args below meth c Q hQ B
  unfold f_Rules_append_14 at h
  refine x_aload_n (pc := 0) B 0 dX7_append_0 rfl rfl ?_
  refine x_get (T := TX7) (pc := 1) B 0 oi_14 rfl uw_7 (by decide) rfl tw_204 rfl dX7_append_1 ?_
  refine x_aload_n (pc := 4) B 0 dX7_append_4 rfl rfl ?_
  refine x_get (T := TX7) (pc := 5) B 1 oi_14 rfl uw_7 (by decide) rfl tw_206 rfl dX7_append_5 ?_
  refine x_iload_n (pc := 8) B 1 dX7_append_8 rfl rfl ?_
  refine x_callSN (rest := []) (st' := []) (pc := 9) B (T_CF_put 15 120 (M0.1 14 1) a1 ai_15 (by decide) M0) tw_588 tw_755 tw_587 tw_98 hd_CF_put ⟨Nat.le_of_ble_eq_true rfl, Nat.le_of_ble_eq_true rfl⟩ rfl rfl (Nat.le_of_ble_eq_true rfl) rfl dX7_append_9 ?_
  refine jv_m (P := fun M1 => XX D ad cI cJ p l e (Rm 1 22) s m args below meth c Q 2 M1 12 [(0, .ref (ad 14)), (1, .int a1)] []) h (fun M1 h => ?_)
  refine x_aload_n (pc := 12) B 0 dX7_append_12 rfl rfl ?_
  refine x_dup (pc := 13) B dX7_append_13 rfl ?_
  refine x_get (T := TX7) (pc := 14) B 1 oi_14 rfl uw_7 (by decide) rfl tw_206 rfl dX7_append_14 ?_
  refine x_iconst (v := 1) (pc := 17) B dX7_append_17 rfl ?_
  refine x_iadd (pc := 18) B dX7_append_18 ?_
  refine x_put (T := TX7) (pc := 19) B 1 oi_14 of_14_1 rfl uw_7 tyX7_ok nmX7 (by decide) rfl tw_206 rfl rfl rfl (Nat.le_of_ble_eq_true rfl) dX7_append_19 ?_
  refine jv_m (P := fun M2 => XX D ad cI cJ p l e (Rm 1 22) s m args below meth c Q 2 M2 22 [(0, .ref (ad 14)), (1, .int a1)] []) h (fun M2 h => ?_)
  obtain rfl := Option.some.inj h
  exact x_vret (pc := 22) B hQ dX7_append_22
-- CurrentFarms.feed(JI)I [0]
abbrev y_CF_feed_0 : MethodName := ⟨"CurrentFarms", "feed", "(JI)I"⟩
abbrev cX11_feed : ByteArray := prog_1_method_12_code
theorem dX11_feed_0 : decode cX11_feed 0 = .ok (.iload_n 3, 1) := by decide +kernel
theorem dX11_feed_1 : decode cX11_feed 1 = .ok (.iconst 1, 1) := by decide +kernel
theorem dX11_feed_2 : decode cX11_feed 2 = .ok (.bipush 8, 2) := by decide +kernel
theorem dX11_feed_4 : decode cX11_feed 4 = .ok (.invokestatic 72, 3) := by decide +kernel
theorem dX11_feed_7 : decode cX11_feed 7 = .ok (.ifCond .ne 6, 3) := by decide +kernel
theorem dX11_feed_10 : decode cX11_feed 10 = .ok (.bipush (-2), 2) := by decide +kernel
theorem dX11_feed_12 : decode cX11_feed 12 = .ok (.ireturn, 1) := by decide +kernel
theorem dX11_feed_13 : decode cX11_feed 13 = .ok (.aload_n 0, 1) := by decide +kernel
theorem dX11_feed_14 : decode cX11_feed 14 = .ok (.getfield 12, 3) := by decide +kernel
theorem dX11_feed_17 : decode cX11_feed 17 = .ok (.getfield 21, 3) := by decide +kernel
theorem dX11_feed_20 : decode cX11_feed 20 = .ok (.getfield 171, 3) := by decide +kernel
theorem dX11_feed_23 : decode cX11_feed 23 = .ok (.iload_n 3, 1) := by decide +kernel
theorem dX11_feed_24 : decode cX11_feed 24 = .ok (.iadd, 1) := by decide +kernel
theorem dX11_feed_25 : decode cX11_feed 25 = .ok (.bipush 120, 2) := by decide +kernel
theorem dX11_feed_27 : decode cX11_feed 27 = .ok (.if_icmp .le 6, 3) := by decide +kernel
theorem dX11_feed_30 : decode cX11_feed 30 = .ok (.bipush (-4), 2) := by decide +kernel
theorem dX11_feed_32 : decode cX11_feed 32 = .ok (.ireturn, 1) := by decide +kernel
theorem dX11_feed_33 : decode cX11_feed 33 = .ok (.iload_n 3, 1) := by decide +kernel
theorem dX11_feed_34 : decode cX11_feed 34 = .ok (.iconst 1, 1) := by decide +kernel
theorem dX11_feed_35 : decode cX11_feed 35 = .ok (.isub, 1) := by decide +kernel
theorem dX11_feed_36 : decode cX11_feed 36 = .ok (.istore 4, 2) := by decide +kernel
theorem dX11_feed_38 : decode cX11_feed 38 = .ok (.iload 4, 2) := by decide +kernel
theorem dX11_feed_40 : decode cX11_feed 40 = .ok (.ifCond .lt 31, 3) := by decide +kernel
theorem dX11_feed_43 : decode cX11_feed 43 = .ok (.aload_n 0, 1) := by decide +kernel
theorem dX11_feed_44 : decode cX11_feed 44 = .ok (.getfield 12, 3) := by decide +kernel
theorem dX11_feed_47 : decode cX11_feed 47 = .ok (.getfield 21, 3) := by decide +kernel
theorem dX11_feed_50 : decode cX11_feed 50 = .ok (.lload_n 1, 1) := by decide +kernel
theorem dX11_feed_51 : decode cX11_feed 51 = .ok (.bipush 8, 2) := by decide +kernel
theorem dX11_feed_53 : decode cX11_feed 53 = .ok (.iload 4, 2) := by decide +kernel
theorem dX11_feed_55 : decode cX11_feed 55 = .ok (.imul, 1) := by decide +kernel
theorem dX11_feed_56 : decode cX11_feed 56 = .ok (.lshr, 1) := by decide +kernel
theorem dX11_feed_57 : decode cX11_feed 57 = .ok (.ldc2_w 176, 3) := by decide +kernel
theorem dX11_feed_60 : decode cX11_feed 60 = .ok (.land, 1) := by decide +kernel
theorem dX11_feed_61 : decode cX11_feed 61 = .ok (.l2i, 1) := by decide +kernel
theorem dX11_feed_62 : decode cX11_feed 62 = .ok (.invokevirtual 178, 3) := by decide +kernel
theorem dX11_feed_65 : decode cX11_feed 65 = .ok (.iinc 4 (-1), 3) := by decide +kernel
theorem dX11_feed_68 : decode cX11_feed 68 = .ok (.goto (-30), 3) := by decide +kernel
theorem dX11_feed_71 : decode cX11_feed 71 = .ok (.aload_n 0, 1) := by decide +kernel
theorem dX11_feed_72 : decode cX11_feed 72 = .ok (.getfield 12, 3) := by decide +kernel
theorem dX11_feed_75 : decode cX11_feed 75 = .ok (.getfield 21, 3) := by decide +kernel
theorem dX11_feed_78 : decode cX11_feed 78 = .ok (.getfield 171, 3) := by decide +kernel
theorem dX11_feed_81 : decode cX11_feed 81 = .ok (.ireturn, 1) := by decide +kernel
theorem hd_CF_feed_0 : y_CF_feed_0.cls ≠ "java/lang/invoke/MethodHandle" ∧ y_CF_feed_0.cls ≠ "java/lang/invoke/VarHandle" ∧ (parseMethodDescriptor y_CF_feed_0.desc).map (fun d => d.parameters.length) = some 2 := by decide +kernel
def b_CF_feed_0_38 (a1 : Int64) (y3 : Int32 × Mem) : Option ((Int32 × Mem) ⊕ (Mem)) :=
  if decide (y3.1 < 0) then (some (.inr y3.2)) else ((f_Rules_append_14 (((a1 >>> ((8 * y3.1).toInt64 &&& 63)) &&& 255).toInt32) y3.2).bind fun q5 => some (.inl (y3.1 + (-1), q5)))
def f_CF_feed_0 (a1 : Int64) (a3 : Int32) (M0 : Mem) : Option (Int32 × Mem) :=
  if wthn a3 1 8 then (if decide (((M0.1 14 1) + a3) ≤ 120) then ((itr (b_CF_feed_0_38 a1) FU (a3 - 1, M0)).bind fun q6 => some (q6.1 14 1, q6)) else (some ((-4), M0))) else (some ((-2), M0))
set_option maxHeartbeats 4000000 in
set_option maxRecDepth 20000 in
theorem C_CF_feed_0 {D : va_G} {ad adK adV : Nat → Nat} {cI cJ : ClassId} {l : Launch} (a1 : Int64) (a3 : Int32) (M0 : Mem) (o : Int32 × Mem) (h : f_CF_feed_0 a1 a3 M0 = some o) : Ct D ad adK adV cI cJ l y_CF_feed_0 cX11_feed 5 (some .int) 2 43 [.ref (ad 0), .long a1, .int a3] M0 (some (.int o.1)) o.2 := by
  refine x_start (lv := [(0, .ref (ad 0)), (1, .long a1), (3, .int a3)]) (own := "CurrentFarms") rfl (by decide) (Nat.le_of_ble_eq_true rfl) rfl ?_
  intro p e s m args below meth c Q hQ B
  unfold f_CF_feed_0 at h
  refine x_iload_n (pc := 0) B 2 dX11_feed_0 rfl rfl ?_
  refine x_iconst (v := 1) (pc := 1) B dX11_feed_1 rfl ?_
  refine x_bipush (v := 8) (pc := 2) B dX11_feed_2 rfl ?_
  refine x_callS (rest := []) (st' := [.int (bI (wthn a3 1 8))]) (pc := 4) B (T_CF_within a3 1 8 M0) tw_559 tw_557 tw_558 tw_98 hd_CF_within ⟨Nat.le_of_ble_eq_true rfl, Nat.le_of_ble_eq_true rfl⟩ rfl rfl (Nat.le_of_ble_eq_true rfl) rfl dX11_feed_4 ?_
  refine x_if_ne_b (tgt := 13) (pc := 7) B dX11_feed_7 rfl (fun hc1 => ?_) (fun hc1 => ?_)
  · have h := ift hc1 h
    refine x_aload_n (pc := 13) B 0 dX11_feed_13 rfl rfl ?_
    refine x_get (T := TX11) (pc := 14) B 0 oi_0 rfl uw_11 (by decide) rfl tw_525 rfl dX11_feed_14 ?_
    refine x_get (T := TX8) (pc := 17) B 2 oi_1 rfl uw_8 (by decide) rfl tw_369 rfl dX11_feed_17 ?_
    refine x_get (T := TX7) (pc := 20) B 1 oi_14 rfl uw_7 (by decide) rfl tw_208 rfl dX11_feed_20 ?_
    refine x_iload_n (pc := 23) B 2 dX11_feed_23 rfl rfl ?_
    refine x_iadd (pc := 24) B dX11_feed_24 ?_
    refine x_bipush (v := 120) (pc := 25) B dX11_feed_25 rfl ?_
    refine x_icmp_le (tgt := 33) (pc := 27) B dX11_feed_27 rfl (fun hc2 => ?_) (fun hc2 => ?_)
    · have h := ift hc2 h
      refine x_iload_n (pc := 33) B 2 dX11_feed_33 rfl rfl ?_
      refine x_iconst (v := 1) (pc := 34) B dX11_feed_34 rfl ?_
      refine x_isub (pc := 35) B dX11_feed_35 ?_
      refine x_istore (lv' := [(4, .int (a3 - 1)), (0, .ref (ad 0)), (1, .long a1), (3, .int a3)]) (pc := 36) B dX11_feed_36 (by decide) rfl ?_
      refine x_pick (lv' := [(0, .ref (ad 0)), (1, .long a1), (4, .int (a3 - 1))]) [1, 2, 0] rfl ?_
      obtain ⟨q6, hq6, h⟩ := bnd h
      refine x_loop (Head := fun (y3 : Int32 × Mem) => XX D ad cI cJ p l e (Rm 2 43) s m args below meth c Q 5 y3.2 38 [(0, .ref (ad 0)), (1, .long a1), (4, .int y3.1)] []) (Ex := fun (q6 : Mem) => XX D ad cI cJ p l e (Rm 2 43) s m args below meth c Q 5 q6 71 [(0, .ref (ad 0))] []) (fun y3 r h hback hexit => ?_) FU _ q6 hq6 ?_
      · unfold b_CF_feed_0_38 at h
        refine x_iload (pc := 38) B 2 dX11_feed_38 rfl ?_
        refine x_if_lt (tgt := 71) (pc := 40) B dX11_feed_40 rfl (fun hc4 => ?_) (fun hc4 => ?_)
        · have h := ift hc4 h
          refine x_pick (lv' := [(0, .ref (ad 0))]) [0] rfl ?_
          have z := hexit y3.2 (Option.some.inj h).symm
          exact z
        · have h := iff_ hc4 h
          refine x_aload_n (pc := 43) B 0 dX11_feed_43 rfl rfl ?_
          refine x_get (T := TX11) (pc := 44) B 0 oi_0 rfl uw_11 (by decide) rfl tw_525 rfl dX11_feed_44 ?_
          refine x_get (T := TX8) (pc := 47) B 2 oi_1 rfl uw_8 (by decide) rfl tw_369 rfl dX11_feed_47 ?_
          refine x_lload_n (pc := 50) B 1 dX11_feed_50 rfl rfl ?_
          refine x_bipush (v := 8) (pc := 51) B dX11_feed_51 rfl ?_
          refine x_iload (pc := 53) B 2 dX11_feed_53 rfl ?_
          refine x_imul (pc := 55) B dX11_feed_55 ?_
          refine x_lshr (pc := 56) B dX11_feed_56 ?_
          refine x_ldc2 (v := 255) (pc := 57) B tw_797 dX11_feed_57 ?_
          refine x_land (pc := 60) B dX11_feed_60 ?_
          refine x_l2i (pc := 61) B dX11_feed_61 ?_
          obtain ⟨q5, hq5, h⟩ := bnd h
          refine x_callV (rest := []) (st' := []) (pc := 62) B oi_14 rfl (C_Rules_append_14 (((a1 >>> ((8 * y3.1).toInt64 &&& 63)) &&& 255).toInt32) y3.2 _ hq5) tw_801 tw_798 tw_799 tw_800 tw_102 hd_Rules_append_14 ⟨Nat.le_of_ble_eq_true rfl, Nat.le_of_ble_eq_true rfl⟩ rfl rfl (Nat.le_of_ble_eq_true rfl) rfl dX11_feed_62 ?_
          refine x_iinc (k := 2) (v := y3.1 + (-1)) (lv' := [(4, .int (y3.1 + (-1))), (0, .ref (ad 0)), (1, .long a1)]) (pc := 65) B dX11_feed_65 rfl rfl (by decide) rfl ?_
          refine x_goto (tgt := 38) (pc := 68) B dX11_feed_68 rfl ?_
          refine x_pick (lv' := [(0, .ref (ad 0)), (1, .long a1), (4, .int (y3.1 + (-1)))]) [1, 2, 0] rfl ?_
          have z := hback (y3.1 + (-1), q5) (Option.some.inj h).symm
          exact z
      · refine x_aload_n (pc := 71) B 0 dX11_feed_71 rfl rfl ?_
        refine x_get (T := TX11) (pc := 72) B 0 oi_0 rfl uw_11 (by decide) rfl tw_525 rfl dX11_feed_72 ?_
        refine x_get (T := TX8) (pc := 75) B 2 oi_1 rfl uw_8 (by decide) rfl tw_369 rfl dX11_feed_75 ?_
        refine x_get (T := TX7) (pc := 78) B 1 oi_14 rfl uw_7 (by decide) rfl tw_208 rfl dX11_feed_78 ?_
        obtain rfl := Option.some.inj h
        exact x_iret (pc := 81) B hQ dX11_feed_81
    · have h := iff_ hc2 h
      refine x_bipush (v := (-4)) (pc := 30) B dX11_feed_30 rfl ?_
      obtain rfl := Option.some.inj h
      exact x_iret (pc := 32) B hQ dX11_feed_32
  · have h := iff_ hc1 h
    refine x_bipush (v := (-2)) (pc := 10) B dX11_feed_10 rfl ?_
    obtain rfl := Option.some.inj h
    exact x_iret (pc := 12) B hQ dX11_feed_12
-- CurrentFarms$Reader.textOf(I)Ljava/lang/String; []
abbrev y_Reader_textOf : MethodName := ⟨"CurrentFarms$Reader", "textOf", "(I)Ljava/lang/String;"⟩
abbrev cX6_textOf : ByteArray := prog_8_method_16_code
theorem dX6_textOf_0 : decode cX6_textOf 0 = .ok (.iload_n 0, 1) := by decide +kernel
theorem dX6_textOf_1 : decode cX6_textOf 1 = .ok (.tableswitch 92 0 10 #[59, 62, 65, 68, 71, 74, 77, 80, 83, 86, 89], 59) := by decide +kernel
theorem dX6_textOf_60 : decode cX6_textOf 60 = .ok (.ldc 140, 2) := by decide +kernel
theorem dX6_textOf_62 : decode cX6_textOf 62 = .ok (.areturn, 1) := by decide +kernel
theorem dX6_textOf_63 : decode cX6_textOf 63 = .ok (.ldc 142, 2) := by decide +kernel
theorem dX6_textOf_65 : decode cX6_textOf 65 = .ok (.areturn, 1) := by decide +kernel
theorem dX6_textOf_66 : decode cX6_textOf 66 = .ok (.ldc 144, 2) := by decide +kernel
theorem dX6_textOf_68 : decode cX6_textOf 68 = .ok (.areturn, 1) := by decide +kernel
theorem dX6_textOf_69 : decode cX6_textOf 69 = .ok (.ldc 146, 2) := by decide +kernel
theorem dX6_textOf_71 : decode cX6_textOf 71 = .ok (.areturn, 1) := by decide +kernel
theorem dX6_textOf_72 : decode cX6_textOf 72 = .ok (.ldc 148, 2) := by decide +kernel
theorem dX6_textOf_74 : decode cX6_textOf 74 = .ok (.areturn, 1) := by decide +kernel
theorem dX6_textOf_75 : decode cX6_textOf 75 = .ok (.ldc 150, 2) := by decide +kernel
theorem dX6_textOf_77 : decode cX6_textOf 77 = .ok (.areturn, 1) := by decide +kernel
theorem dX6_textOf_78 : decode cX6_textOf 78 = .ok (.ldc 152, 2) := by decide +kernel
theorem dX6_textOf_80 : decode cX6_textOf 80 = .ok (.areturn, 1) := by decide +kernel
theorem dX6_textOf_81 : decode cX6_textOf 81 = .ok (.ldc 154, 2) := by decide +kernel
theorem dX6_textOf_83 : decode cX6_textOf 83 = .ok (.areturn, 1) := by decide +kernel
theorem dX6_textOf_84 : decode cX6_textOf 84 = .ok (.ldc 156, 2) := by decide +kernel
theorem dX6_textOf_86 : decode cX6_textOf 86 = .ok (.areturn, 1) := by decide +kernel
theorem dX6_textOf_87 : decode cX6_textOf 87 = .ok (.ldc 158, 2) := by decide +kernel
theorem dX6_textOf_89 : decode cX6_textOf 89 = .ok (.areturn, 1) := by decide +kernel
theorem dX6_textOf_90 : decode cX6_textOf 90 = .ok (.ldc 160, 2) := by decide +kernel
theorem dX6_textOf_92 : decode cX6_textOf 92 = .ok (.areturn, 1) := by decide +kernel
theorem dX6_textOf_93 : decode cX6_textOf 93 = .ok (.ldc 162, 2) := by decide +kernel
theorem dX6_textOf_95 : decode cX6_textOf 95 = .ok (.areturn, 1) := by decide +kernel
theorem hd_Reader_textOf : y_Reader_textOf.cls ≠ "java/lang/invoke/MethodHandle" ∧ y_Reader_textOf.cls ≠ "java/lang/invoke/VarHandle" ∧ (parseMethodDescriptor y_Reader_textOf.desc).map (fun d => d.parameters.length) = some 1 := by decide +kernel
def f_Reader_textOf (a0 : Int32) : Option (Nat) :=
  if decide (a0 = 0) then (some 0) else (if decide (a0 = 1) then (some 1) else (if decide (a0 = 2) then (some 2) else (if decide (a0 = 3) then (some 3) else (if decide (a0 = 4) then (some 4) else (if decide (a0 = 5) then (some 5) else (if decide (a0 = 6) then (some 6) else (if decide (a0 = 7) then (some 7) else (if decide (a0 = 8) then (some 8) else (if decide (a0 = 9) then (some 9) else (if decide (a0 = 10) then (some 10) else (some 11)))))))))))
set_option maxHeartbeats 4000000 in
set_option maxRecDepth 20000 in
theorem C_Reader_textOf {D : va_G} {ad adK adV : Nat → Nat} {cI cJ : ClassId} {l : Launch} (a0 : Int32) (M0 : Mem) (o : Nat) (h : f_Reader_textOf a0 = some o) : Ct D ad adK adV cI cJ l y_Reader_textOf cX6_textOf 1 (some (.object "java/lang/String")) 0 0 [.int a0] M0 (some (.ref (adK o))) M0 := by
  refine x_start (lv := [(0, .int a0)]) (own := "CurrentFarms$Reader") rfl (by decide) (Nat.le_of_ble_eq_true rfl) rfl ?_
  intro p e s m args below meth c Q hQ B
  unfold f_Reader_textOf at h
  refine x_iload_n (pc := 0) B 0 dX6_textOf_0 rfl rfl ?_
  rcases bcase (decide (a0 = 0)) with hc1 | hc1
  · have h := ift hc1 h
    refine x_tableIn (cv := 0) (tgt := 60) (pc := 1) B dX6_textOf_1 (of_decide_eq_true hc1) (by decide) (by decide) rfl rfl ?_
    refine x_ldcS (i := 0) (pc := 60) B (by decide) rfl rfl dX6_textOf_60 ?_
    obtain rfl := Option.some.inj h
    exact x_aret (pc := 62) B hQ dX6_textOf_62
  · have h := iff_ hc1 h
    rcases bcase (decide (a0 = 1)) with hc2 | hc2
    · have h := ift hc2 h
      refine x_tableIn (cv := 1) (tgt := 63) (pc := 1) B dX6_textOf_1 (of_decide_eq_true hc2) (by decide) (by decide) rfl rfl ?_
      refine x_ldcS (i := 1) (pc := 63) B (by decide) rfl rfl dX6_textOf_63 ?_
      obtain rfl := Option.some.inj h
      exact x_aret (pc := 65) B hQ dX6_textOf_65
    · have h := iff_ hc2 h
      rcases bcase (decide (a0 = 2)) with hc3 | hc3
      · have h := ift hc3 h
        refine x_tableIn (cv := 2) (tgt := 66) (pc := 1) B dX6_textOf_1 (of_decide_eq_true hc3) (by decide) (by decide) rfl rfl ?_
        refine x_ldcS (i := 2) (pc := 66) B (by decide) rfl rfl dX6_textOf_66 ?_
        obtain rfl := Option.some.inj h
        exact x_aret (pc := 68) B hQ dX6_textOf_68
      · have h := iff_ hc3 h
        rcases bcase (decide (a0 = 3)) with hc4 | hc4
        · have h := ift hc4 h
          refine x_tableIn (cv := 3) (tgt := 69) (pc := 1) B dX6_textOf_1 (of_decide_eq_true hc4) (by decide) (by decide) rfl rfl ?_
          refine x_ldcS (i := 3) (pc := 69) B (by decide) rfl rfl dX6_textOf_69 ?_
          obtain rfl := Option.some.inj h
          exact x_aret (pc := 71) B hQ dX6_textOf_71
        · have h := iff_ hc4 h
          rcases bcase (decide (a0 = 4)) with hc5 | hc5
          · have h := ift hc5 h
            refine x_tableIn (cv := 4) (tgt := 72) (pc := 1) B dX6_textOf_1 (of_decide_eq_true hc5) (by decide) (by decide) rfl rfl ?_
            refine x_ldcS (i := 4) (pc := 72) B (by decide) rfl rfl dX6_textOf_72 ?_
            obtain rfl := Option.some.inj h
            exact x_aret (pc := 74) B hQ dX6_textOf_74
          · have h := iff_ hc5 h
            rcases bcase (decide (a0 = 5)) with hc6 | hc6
            · have h := ift hc6 h
              refine x_tableIn (cv := 5) (tgt := 75) (pc := 1) B dX6_textOf_1 (of_decide_eq_true hc6) (by decide) (by decide) rfl rfl ?_
              refine x_ldcS (i := 5) (pc := 75) B (by decide) rfl rfl dX6_textOf_75 ?_
              obtain rfl := Option.some.inj h
              exact x_aret (pc := 77) B hQ dX6_textOf_77
            · have h := iff_ hc6 h
              rcases bcase (decide (a0 = 6)) with hc7 | hc7
              · have h := ift hc7 h
                refine x_tableIn (cv := 6) (tgt := 78) (pc := 1) B dX6_textOf_1 (of_decide_eq_true hc7) (by decide) (by decide) rfl rfl ?_
                refine x_ldcS (i := 6) (pc := 78) B (by decide) rfl rfl dX6_textOf_78 ?_
                obtain rfl := Option.some.inj h
                exact x_aret (pc := 80) B hQ dX6_textOf_80
              · have h := iff_ hc7 h
                rcases bcase (decide (a0 = 7)) with hc8 | hc8
                · have h := ift hc8 h
                  refine x_tableIn (cv := 7) (tgt := 81) (pc := 1) B dX6_textOf_1 (of_decide_eq_true hc8) (by decide) (by decide) rfl rfl ?_
                  refine x_ldcS (i := 7) (pc := 81) B (by decide) rfl rfl dX6_textOf_81 ?_
                  obtain rfl := Option.some.inj h
                  exact x_aret (pc := 83) B hQ dX6_textOf_83
                · have h := iff_ hc8 h
                  rcases bcase (decide (a0 = 8)) with hc9 | hc9
                  · have h := ift hc9 h
                    refine x_tableIn (cv := 8) (tgt := 84) (pc := 1) B dX6_textOf_1 (of_decide_eq_true hc9) (by decide) (by decide) rfl rfl ?_
                    refine x_ldcS (i := 8) (pc := 84) B (by decide) rfl rfl dX6_textOf_84 ?_
                    obtain rfl := Option.some.inj h
                    exact x_aret (pc := 86) B hQ dX6_textOf_86
                  · have h := iff_ hc9 h
                    rcases bcase (decide (a0 = 9)) with hc10 | hc10
                    · have h := ift hc10 h
                      refine x_tableIn (cv := 9) (tgt := 87) (pc := 1) B dX6_textOf_1 (of_decide_eq_true hc10) (by decide) (by decide) rfl rfl ?_
                      refine x_ldcS (i := 9) (pc := 87) B (by decide) rfl rfl dX6_textOf_87 ?_
                      obtain rfl := Option.some.inj h
                      exact x_aret (pc := 89) B hQ dX6_textOf_89
                    · have h := iff_ hc10 h
                      rcases bcase (decide (a0 = 10)) with hc11 | hc11
                      · have h := ift hc11 h
                        refine x_tableIn (cv := 10) (tgt := 90) (pc := 1) B dX6_textOf_1 (of_decide_eq_true hc11) (by decide) (by decide) rfl rfl ?_
                        refine x_ldcS (i := 10) (pc := 90) B (by decide) rfl rfl dX6_textOf_90 ?_
                        obtain rfl := Option.some.inj h
                        exact x_aret (pc := 92) B hQ dX6_textOf_92
                      · have h := iff_ hc11 h
                        have e0 : ¬ a0.toInt = 0 := fun q => (of_decide_eq_false hc1) (Int32.toInt_inj.mp (q.trans (by decide : (0 : Int) = (0 : Int32).toInt)))
                        have e1 : ¬ a0.toInt = 1 := fun q => (of_decide_eq_false hc2) (Int32.toInt_inj.mp (q.trans (by decide : (1 : Int) = (1 : Int32).toInt)))
                        have e2 : ¬ a0.toInt = 2 := fun q => (of_decide_eq_false hc3) (Int32.toInt_inj.mp (q.trans (by decide : (2 : Int) = (2 : Int32).toInt)))
                        have e3 : ¬ a0.toInt = 3 := fun q => (of_decide_eq_false hc4) (Int32.toInt_inj.mp (q.trans (by decide : (3 : Int) = (3 : Int32).toInt)))
                        have e4 : ¬ a0.toInt = 4 := fun q => (of_decide_eq_false hc5) (Int32.toInt_inj.mp (q.trans (by decide : (4 : Int) = (4 : Int32).toInt)))
                        have e5 : ¬ a0.toInt = 5 := fun q => (of_decide_eq_false hc6) (Int32.toInt_inj.mp (q.trans (by decide : (5 : Int) = (5 : Int32).toInt)))
                        have e6 : ¬ a0.toInt = 6 := fun q => (of_decide_eq_false hc7) (Int32.toInt_inj.mp (q.trans (by decide : (6 : Int) = (6 : Int32).toInt)))
                        have e7 : ¬ a0.toInt = 7 := fun q => (of_decide_eq_false hc8) (Int32.toInt_inj.mp (q.trans (by decide : (7 : Int) = (7 : Int32).toInt)))
                        have e8 : ¬ a0.toInt = 8 := fun q => (of_decide_eq_false hc9) (Int32.toInt_inj.mp (q.trans (by decide : (8 : Int) = (8 : Int32).toInt)))
                        have e9 : ¬ a0.toInt = 9 := fun q => (of_decide_eq_false hc10) (Int32.toInt_inj.mp (q.trans (by decide : (9 : Int) = (9 : Int32).toInt)))
                        have e10 : ¬ a0.toInt = 10 := fun q => (of_decide_eq_false hc11) (Int32.toInt_inj.mp (q.trans (by decide : (10 : Int) = (10 : Int32).toInt)))
                        refine x_tableOut (tgt := 93) (pc := 1) B dX6_textOf_1 (by omega) rfl ?_
                        refine x_ldcS (i := 11) (pc := 93) B (by decide) rfl rfl dX6_textOf_93 ?_
                        obtain rfl := Option.some.inj h
                        exact x_aret (pc := 95) B hQ dX6_textOf_95
-- CurrentFarms$Reader.coming()I [77]
abbrev y_Reader_coming_77 : MethodName := ⟨"CurrentFarms$Reader", "coming", "()I"⟩
abbrev cX6_coming : ByteArray := prog_8_method_13_code
theorem dX6_coming_0 : decode cX6_coming 0 = .ok (.aload_n 0, 1) := by decide +kernel
theorem dX6_coming_1 : decode cX6_coming 1 = .ok (.getfield 32, 3) := by decide +kernel
theorem dX6_coming_4 : decode cX6_coming 4 = .ok (.aload_n 0, 1) := by decide +kernel
theorem dX6_coming_5 : decode cX6_coming 5 = .ok (.getfield 15, 3) := by decide +kernel
theorem dX6_coming_8 : decode cX6_coming 8 = .ok (.getfield 45, 3) := by decide +kernel
theorem dX6_coming_11 : decode cX6_coming 11 = .ok (.if_icmp .ge 20, 3) := by decide +kernel
theorem dX6_coming_14 : decode cX6_coming 14 = .ok (.aload_n 0, 1) := by decide +kernel
theorem dX6_coming_15 : decode cX6_coming 15 = .ok (.getfield 15, 3) := by decide +kernel
theorem dX6_coming_18 : decode cX6_coming 18 = .ok (.getfield 137, 3) := by decide +kernel
theorem dX6_coming_21 : decode cX6_coming 21 = .ok (.aload_n 0, 1) := by decide +kernel
theorem dX6_coming_22 : decode cX6_coming 22 = .ok (.getfield 32, 3) := by decide +kernel
theorem dX6_coming_25 : decode cX6_coming 25 = .ok (.invokestatic 103, 3) := by decide +kernel
theorem dX6_coming_28 : decode cX6_coming 28 = .ok (.goto 4, 3) := by decide +kernel
theorem dX6_coming_31 : decode cX6_coming 31 = .ok (.iconst (-1), 1) := by decide +kernel
theorem dX6_coming_32 : decode cX6_coming 32 = .ok (.ireturn, 1) := by decide +kernel
theorem hd_Reader_coming_77 : y_Reader_coming_77.cls ≠ "java/lang/invoke/MethodHandle" ∧ y_Reader_coming_77.cls ≠ "java/lang/invoke/VarHandle" ∧ (parseMethodDescriptor y_Reader_coming_77.desc).map (fun d => d.parameters.length) = some 0 := by decide +kernel
def f_Reader_coming_77  (M0 : Mem) : Option (Int32) :=
  if decide ((M0.1 77 3) < (M0.1 14 1)) then (some (atv (M0.1 15) 120 (M0.1 77 3))) else (some (-1))
set_option maxHeartbeats 4000000 in
set_option maxRecDepth 20000 in
theorem C_Reader_coming_77 {D : va_G} {ad adK adV : Nat → Nat} {cI cJ : ClassId} {l : Launch}  (M0 : Mem) (o : Int32) (h : f_Reader_coming_77  M0 = some o) : Ct D ad adK adV cI cJ l y_Reader_coming_77 cX6_coming 1 (some .int) 1 21 [.ref (ad 77)] M0 (some (.int o)) M0 := by
  refine x_start (lv := [(0, .ref (ad 77))]) (own := "CurrentFarms$Reader") rfl (by decide) (Nat.le_of_ble_eq_true rfl) rfl ?_
  intro p e s m args below meth c Q hQ B
  unfold f_Reader_coming_77 at h
  refine x_aload_n (pc := 0) B 0 dX6_coming_0 rfl rfl ?_
  refine x_get (T := TX6) (pc := 1) B 3 oi_77 rfl uw_6 (by decide) rfl tw_409 rfl dX6_coming_1 ?_
  refine x_aload_n (pc := 4) B 0 dX6_coming_4 rfl rfl ?_
  refine x_get (T := TX6) (pc := 5) B 0 oi_77 rfl uw_6 (by decide) rfl tw_406 rfl dX6_coming_5 ?_
  refine x_get (T := TX7) (pc := 8) B 1 oi_14 rfl uw_7 (by decide) rfl tw_207 rfl dX6_coming_8 ?_
  refine x_icmp_ge (tgt := 31) (pc := 11) B dX6_coming_11 rfl (fun hc1 => ?_) (fun hc1 => ?_)
  · have h := iff_ hc1 h
    refine x_iconst (v := (-1)) (pc := 31) B dX6_coming_31 rfl ?_
    obtain rfl := Option.some.inj h
    exact x_iret (pc := 32) B hQ dX6_coming_32
  · have h := ift hc1 h
    refine x_aload_n (pc := 14) B 0 dX6_coming_14 rfl rfl ?_
    refine x_get (T := TX6) (pc := 15) B 0 oi_77 rfl uw_6 (by decide) rfl tw_406 rfl dX6_coming_15 ?_
    refine x_get (T := TX7) (pc := 18) B 0 oi_14 rfl uw_7 (by decide) rfl tw_205 rfl dX6_coming_18 ?_
    refine x_aload_n (pc := 21) B 0 dX6_coming_21 rfl rfl ?_
    refine x_get (T := TX6) (pc := 22) B 3 oi_77 rfl uw_6 (by decide) rfl tw_409 rfl dX6_coming_22 ?_
    refine x_callSN (rest := []) (st' := [.int (atv (M0.1 15) 120 (M0.1 77 3))]) (pc := 25) B (T_CF_at 15 120 (M0.1 77 3) ai_15 (by decide) M0) tw_575 tw_842 tw_574 tw_98 hd_CF_at ⟨Nat.le_of_ble_eq_true rfl, Nat.le_of_ble_eq_true rfl⟩ rfl rfl (Nat.le_of_ble_eq_true rfl) rfl dX6_coming_25 ?_
    refine x_goto (tgt := 32) (pc := 28) B dX6_coming_28 rfl ?_
    obtain rfl := Option.some.inj h
    exact x_iret (pc := 32) B hQ dX6_coming_32
-- CurrentFarms$Reader.passes(Ljava/lang/String;)Z [77]
abbrev y_Reader_passes_77 : MethodName := ⟨"CurrentFarms$Reader", "passes", "(Ljava/lang/String;)Z"⟩
abbrev cX6_passes : ByteArray := prog_8_method_12_code
theorem dX6_passes_0 : decode cX6_passes 0 = .ok (.iconst 0, 1) := by decide +kernel
theorem dX6_passes_1 : decode cX6_passes 1 = .ok (.istore_n 2, 1) := by decide +kernel
theorem dX6_passes_2 : decode cX6_passes 2 = .ok (.iload_n 2, 1) := by decide +kernel
theorem dX6_passes_3 : decode cX6_passes 3 = .ok (.aload_n 1, 1) := by decide +kernel
theorem dX6_passes_4 : decode cX6_passes 4 = .ok (.invokevirtual 134, 3) := by decide +kernel
theorem dX6_passes_7 : decode cX6_passes 7 = .ok (.if_icmp .ge 33, 3) := by decide +kernel
theorem dX6_passes_10 : decode cX6_passes 10 = .ok (.aload_n 0, 1) := by decide +kernel
theorem dX6_passes_11 : decode cX6_passes 11 = .ok (.invokevirtual 52, 3) := by decide +kernel
theorem dX6_passes_14 : decode cX6_passes 14 = .ok (.aload_n 1, 1) := by decide +kernel
theorem dX6_passes_15 : decode cX6_passes 15 = .ok (.iload_n 2, 1) := by decide +kernel
theorem dX6_passes_16 : decode cX6_passes 16 = .ok (.invokevirtual 130, 3) := by decide +kernel
theorem dX6_passes_19 : decode cX6_passes 19 = .ok (.if_icmp .eq 5, 3) := by decide +kernel
theorem dX6_passes_22 : decode cX6_passes 22 = .ok (.iconst 0, 1) := by decide +kernel
theorem dX6_passes_23 : decode cX6_passes 23 = .ok (.ireturn, 1) := by decide +kernel
theorem dX6_passes_24 : decode cX6_passes 24 = .ok (.aload_n 0, 1) := by decide +kernel
theorem dX6_passes_25 : decode cX6_passes 25 = .ok (.dup, 1) := by decide +kernel
theorem dX6_passes_26 : decode cX6_passes 26 = .ok (.getfield 32, 3) := by decide +kernel
theorem dX6_passes_29 : decode cX6_passes 29 = .ok (.iconst 1, 1) := by decide +kernel
theorem dX6_passes_30 : decode cX6_passes 30 = .ok (.iadd, 1) := by decide +kernel
theorem dX6_passes_31 : decode cX6_passes 31 = .ok (.putfield 32, 3) := by decide +kernel
theorem dX6_passes_34 : decode cX6_passes 34 = .ok (.iinc 2 1, 3) := by decide +kernel
theorem dX6_passes_37 : decode cX6_passes 37 = .ok (.goto (-35), 3) := by decide +kernel
theorem dX6_passes_40 : decode cX6_passes 40 = .ok (.iconst 1, 1) := by decide +kernel
theorem dX6_passes_41 : decode cX6_passes 41 = .ok (.ireturn, 1) := by decide +kernel
theorem hd_Reader_passes_77 : y_Reader_passes_77.cls ≠ "java/lang/invoke/MethodHandle" ∧ y_Reader_passes_77.cls ≠ "java/lang/invoke/VarHandle" ∧ (parseMethodDescriptor y_Reader_passes_77.desc).map (fun d => d.parameters.length) = some 1 := by decide +kernel
def b_Reader_passes_77_2 (a1 : Nat) (y1 : Int32 × Mem) : Option ((Int32 × Mem) ⊕ ((Mem) ⊕ (Mem))) :=
  if decide (a1 < 26) then if decide (y1.1 < (slen a1)) then ((f_Reader_coming_77 y1.2).bind fun q4 => if decide (a1 < 26) then if inb y1.1 (sr_len.getD a1 0) then if decide (q4 = (schr a1 y1.1)) then (jv_ (wI y1.2 77 3 ((y1.2.1 77 3) + 1)) fun M8 => some (.inl (y1.1 + 1, M8))) else (some (.inr (.inr (y1.2)))) else none else none) else (some (.inr (.inl y1.2))) else none
def f_Reader_passes_77 (a1 : Nat) (M0 : Mem) : Option (Bool × Mem) :=
  (itr (b_Reader_passes_77_2 a1) FU (0, M0)).bind fun q9 => (Sum.elim (fun (y10 : Mem) => some (true, y10)) (fun (y11 : Mem) => some (false, y11))) q9
set_option maxHeartbeats 4000000 in
set_option maxRecDepth 20000 in
theorem C_Reader_passes_77 {D : va_G} {ad adK adV : Nat → Nat} {cI cJ : ClassId} {l : Launch} (a1 : Nat) (M0 : Mem) (o : Bool × Mem) (h : f_Reader_passes_77 a1 M0 = some o) : Ct D ad adK adV cI cJ l y_Reader_passes_77 cX6_passes 3 (some .boolean) 4 85 [.ref (ad 77), .ref (adK a1)] M0 (some (.int (bI o.1))) o.2 := by
  refine x_start (lv := [(0, .ref (ad 77)), (1, .ref (adK a1))]) (own := "CurrentFarms$Reader") rfl (by decide) (Nat.le_of_ble_eq_true rfl) rfl ?_
  intro p e s m args below meth c Q hQ B
  unfold f_Reader_passes_77 at h
  refine x_iconst (v := 0) (pc := 0) B dX6_passes_0 rfl ?_
  refine x_istore_n (lv' := [(2, .int 0), (0, .ref (ad 77)), (1, .ref (adK a1))]) (pc := 1) B dX6_passes_1 rfl (by decide) rfl ?_
  refine x_pick (lv' := [(0, .ref (ad 77)), (1, .ref (adK a1)), (2, .int 0)]) [1, 2, 0] rfl ?_
  obtain ⟨q9, hq9, h⟩ := bnd h
  refine x_loop (Head := fun (y1 : Int32 × Mem) => XX D ad cI cJ p l e (Rm 4 85) s m args below meth c Q 3 y1.2 2 [(0, .ref (ad 77)), (1, .ref (adK a1)), (2, .int y1.1)] []) (Ex := (Sum.elim (fun (y10 : Mem) => XX D ad cI cJ p l e (Rm 4 85) s m args below meth c Q 3 y10 40 [] []) (fun (y11 : Mem) => XX D ad cI cJ p l e (Rm 4 85) s m args below meth c Q 3 y11 22 [] []))) (fun y1 r h hback hexit => ?_) FU _ q9 hq9 ?_
  · unfold b_Reader_passes_77_2 at h
    refine x_iload_n (pc := 2) B 2 dX6_passes_2 rfl rfl ?_
    refine x_aload_n (pc := 3) B 1 dX6_passes_3 rfl rfl ?_
    obtain ⟨hk2, h⟩ := ifn h
    refine x_callVS (rest := [.int y1.1]) (st' := [.int (slen a1), .int y1.1]) (pc := 4) B (of_decide_eq_true hk2) (T_length a1 (of_decide_eq_true hk2) y1.2) tw_890 tw_887 tw_888 tw_889 tw_114 hd_J0_length_8abf5 ⟨Nat.le_of_ble_eq_true rfl, Nat.le_of_ble_eq_true rfl⟩ rfl rfl (Nat.le_of_ble_eq_true rfl) rfl dX6_passes_4 ?_
    refine x_icmp_ge (tgt := 40) (pc := 7) B dX6_passes_7 rfl (fun hc3 => ?_) (fun hc3 => ?_)
    · have h := iff_ hc3 h
      refine x_pick (lv' := []) [] rfl ?_
      have z := hexit (.inl y1.2) (Option.some.inj h).symm
      exact z
    · have h := ift hc3 h
      refine x_aload_n (pc := 10) B 0 dX6_passes_10 rfl rfl ?_
      obtain ⟨q4, hq4, h⟩ := bnd h
      refine x_callV (rest := []) (st' := [.int q4]) (pc := 11) B oi_77 rfl (C_Reader_coming_77  y1.2 _ hq4) tw_841 tw_838 tw_840 tw_16 tw_107 hd_Reader_coming_77 ⟨Nat.le_of_ble_eq_true rfl, Nat.le_of_ble_eq_true rfl⟩ rfl rfl (Nat.le_of_ble_eq_true rfl) rfl dX6_passes_11 ?_
      refine x_aload_n (pc := 14) B 1 dX6_passes_14 rfl rfl ?_
      refine x_iload_n (pc := 15) B 2 dX6_passes_15 rfl rfl ?_
      obtain ⟨hk5, h⟩ := ifn h
      obtain ⟨hk6, h⟩ := ifn h
      refine x_callVS (rest := [.int q4]) (st' := [.int (schr a1 y1.1), .int q4]) (pc := 16) B (of_decide_eq_true hk5) (T_charAt a1 y1.1 (of_decide_eq_true hk5) hk6 y1.2) tw_846 tw_843 tw_844 tw_845 tw_114 hd_J0_charAt_5068e ⟨Nat.le_of_ble_eq_true rfl, Nat.le_of_ble_eq_true rfl⟩ rfl rfl (Nat.le_of_ble_eq_true rfl) rfl dX6_passes_16 ?_
      refine x_icmp_eq (tgt := 24) (pc := 19) B dX6_passes_19 rfl (fun hc7 => ?_) (fun hc7 => ?_)
      · have h := ift hc7 h
        refine x_aload_n (pc := 24) B 0 dX6_passes_24 rfl rfl ?_
        refine x_dup (pc := 25) B dX6_passes_25 rfl ?_
        refine x_get (T := TX6) (pc := 26) B 3 oi_77 rfl uw_6 (by decide) rfl tw_409 rfl dX6_passes_26 ?_
        refine x_iconst (v := 1) (pc := 29) B dX6_passes_29 rfl ?_
        refine x_iadd (pc := 30) B dX6_passes_30 ?_
        refine x_put (T := TX6) (pc := 31) B 3 oi_77 of_77_3 rfl uw_6 tyX6_ok nmX6 (by decide) rfl tw_409 rfl rfl rfl (Nat.le_of_ble_eq_true rfl) dX6_passes_31 ?_
        refine jv_m (P := fun M8 => XX D ad cI cJ p l e (Rm 4 85) s m args below meth c Q 3 M8 34 [(0, .ref (ad 77)), (1, .ref (adK a1)), (2, .int y1.1)] []) h (fun M8 h => ?_)
        refine x_iinc (k := 2) (v := y1.1 + 1) (lv' := [(2, .int (y1.1 + 1)), (0, .ref (ad 77)), (1, .ref (adK a1))]) (pc := 34) B dX6_passes_34 rfl rfl (by decide) rfl ?_
        refine x_goto (tgt := 2) (pc := 37) B dX6_passes_37 rfl ?_
        refine x_pick (lv' := [(0, .ref (ad 77)), (1, .ref (adK a1)), (2, .int (y1.1 + 1))]) [1, 2, 0] rfl ?_
        have z := hback (y1.1 + 1, M8) (Option.some.inj h).symm
        exact z
      · have h := iff_ hc7 h
        refine x_pick (lv' := []) [] rfl ?_
        have z := hexit (.inr (y1.2)) (Option.some.inj h).symm
        exact z
  · rcases q9 with y10 | rest0_11
    · have h := selL h
      refine x_iconst (v := 1) (pc := 40) B dX6_passes_40 rfl ?_
      obtain rfl := Option.some.inj h
      exact x_zret (v := true) (pc := 41) B hQ dX6_passes_41
    · have h := selR h
      obtain ⟨y11, rfl⟩ : ∃ z_, z_ = rest0_11 := ⟨_, rfl⟩
      refine x_iconst (v := 0) (pc := 22) B dX6_passes_22 rfl ?_
      obtain rfl := Option.some.inj h
      exact x_zret (v := false) (pc := 23) B hQ dX6_passes_23
-- CurrentFarms$Reader.oneOf(II)I [77]
abbrev y_Reader_oneOf_77 : MethodName := ⟨"CurrentFarms$Reader", "oneOf", "(II)I"⟩
abbrev cX6_oneOf : ByteArray := prog_8_method_11_code
theorem dX6_oneOf_0 : decode cX6_oneOf 0 = .ok (.iconst 0, 1) := by decide +kernel
theorem dX6_oneOf_1 : decode cX6_oneOf 1 = .ok (.istore_n 3, 1) := by decide +kernel
theorem dX6_oneOf_2 : decode cX6_oneOf 2 = .ok (.iload_n 3, 1) := by decide +kernel
theorem dX6_oneOf_3 : decode cX6_oneOf 3 = .ok (.iload_n 1, 1) := by decide +kernel
theorem dX6_oneOf_4 : decode cX6_oneOf 4 = .ok (.if_icmp .ge 53, 3) := by decide +kernel
theorem dX6_oneOf_7 : decode cX6_oneOf 7 = .ok (.iload_n 2, 1) := by decide +kernel
theorem dX6_oneOf_8 : decode cX6_oneOf 8 = .ok (.iload_n 3, 1) := by decide +kernel
theorem dX6_oneOf_9 : decode cX6_oneOf 9 = .ok (.iadd, 1) := by decide +kernel
theorem dX6_oneOf_10 : decode cX6_oneOf 10 = .ok (.invokestatic 121, 3) := by decide +kernel
theorem dX6_oneOf_13 : decode cX6_oneOf 13 = .ok (.astore 4, 2) := by decide +kernel
theorem dX6_oneOf_15 : decode cX6_oneOf 15 = .ok (.aload 4, 2) := by decide +kernel
theorem dX6_oneOf_17 : decode cX6_oneOf 17 = .ok (.invokevirtual 125, 3) := by decide +kernel
theorem dX6_oneOf_20 : decode cX6_oneOf 20 = .ok (.ifCond .ne 31, 3) := by decide +kernel
theorem dX6_oneOf_23 : decode cX6_oneOf 23 = .ok (.aload_n 0, 1) := by decide +kernel
theorem dX6_oneOf_24 : decode cX6_oneOf 24 = .ok (.invokevirtual 52, 3) := by decide +kernel
theorem dX6_oneOf_27 : decode cX6_oneOf 27 = .ok (.aload 4, 2) := by decide +kernel
theorem dX6_oneOf_29 : decode cX6_oneOf 29 = .ok (.iconst 0, 1) := by decide +kernel
theorem dX6_oneOf_30 : decode cX6_oneOf 30 = .ok (.invokevirtual 130, 3) := by decide +kernel
theorem dX6_oneOf_33 : decode cX6_oneOf 33 = .ok (.if_icmp .ne 18, 3) := by decide +kernel
theorem dX6_oneOf_36 : decode cX6_oneOf 36 = .ok (.aload_n 0, 1) := by decide +kernel
theorem dX6_oneOf_37 : decode cX6_oneOf 37 = .ok (.aload 4, 2) := by decide +kernel
theorem dX6_oneOf_39 : decode cX6_oneOf 39 = .ok (.invokevirtual 62, 3) := by decide +kernel
theorem dX6_oneOf_42 : decode cX6_oneOf 42 = .ok (.ifCond .eq 7, 3) := by decide +kernel
theorem dX6_oneOf_45 : decode cX6_oneOf 45 = .ok (.iload_n 3, 1) := by decide +kernel
theorem dX6_oneOf_46 : decode cX6_oneOf 46 = .ok (.goto 4, 3) := by decide +kernel
theorem dX6_oneOf_49 : decode cX6_oneOf 49 = .ok (.iconst (-1), 1) := by decide +kernel
theorem dX6_oneOf_50 : decode cX6_oneOf 50 = .ok (.ireturn, 1) := by decide +kernel
theorem dX6_oneOf_51 : decode cX6_oneOf 51 = .ok (.iinc 3 1, 3) := by decide +kernel
theorem dX6_oneOf_54 : decode cX6_oneOf 54 = .ok (.goto (-52), 3) := by decide +kernel
theorem dX6_oneOf_57 : decode cX6_oneOf 57 = .ok (.iconst (-1), 1) := by decide +kernel
theorem dX6_oneOf_58 : decode cX6_oneOf 58 = .ok (.ireturn, 1) := by decide +kernel
theorem hd_Reader_oneOf_77 : y_Reader_oneOf_77.cls ≠ "java/lang/invoke/MethodHandle" ∧ y_Reader_oneOf_77.cls ≠ "java/lang/invoke/VarHandle" ∧ (parseMethodDescriptor y_Reader_oneOf_77.desc).map (fun d => d.parameters.length) = some 2 := by decide +kernel
def b_Reader_oneOf_77_2 (a1 : Int32) (a2 : Int32) (M0 : Mem) (y1 : Int32) : Option ((Int32) ⊕ ((Unit) ⊕ (Int32 × Nat))) :=
  if decide (y1 < a1) then ((f_Reader_textOf (a2 + y1)).bind fun q3 => if decide (q3 < 26) then if semp q3 then (some (.inl (y1 + 1))) else ((f_Reader_coming_77 M0).bind fun q6 => if decide (q3 < 26) then if inb 0 (sr_len.getD q3 0) then if decide (q6 = (schr q3 0)) then (some (.inr (.inr ((y1, q3))))) else (some (.inl (y1 + 1))) else none else none) else none) else (some (.inr (.inl ())))
def f_Reader_oneOf_77 (a1 : Int32) (a2 : Int32) (M0 : Mem) : Option (Int32 × Mem) :=
  (itr (b_Reader_oneOf_77_2 a1 a2 M0) FU 0).bind fun q10 => (Sum.elim (fun (y11 : Unit) => some ((-1), M0)) (fun (y12 : Int32 × Nat) => (f_Reader_passes_77 y12.2 M0).bind fun q13 => if q13.1 then (some (y12.1, q13.2)) else (some ((-1), q13.2)))) q10
set_option maxHeartbeats 4000000 in
set_option maxRecDepth 20000 in
theorem C_Reader_oneOf_77 {D : va_G} {ad adK adV : Nat → Nat} {cI cJ : ClassId} {l : Launch} (a1 : Int32) (a2 : Int32) (M0 : Mem) (o : Int32 × Mem) (h : f_Reader_oneOf_77 a1 a2 M0 = some o) : Ct D ad adK adV cI cJ l y_Reader_oneOf_77 cX6_oneOf 5 (some .int) 5 107 [.ref (ad 77), .int a1, .int a2] M0 (some (.int o.1)) o.2 := by
  refine x_start (lv := [(0, .ref (ad 77)), (1, .int a1), (2, .int a2)]) (own := "CurrentFarms$Reader") rfl (by decide) (Nat.le_of_ble_eq_true rfl) rfl ?_
  intro p e s m args below meth c Q hQ B
  unfold f_Reader_oneOf_77 at h
  refine x_iconst (v := 0) (pc := 0) B dX6_oneOf_0 rfl ?_
  refine x_istore_n (lv' := [(3, .int 0), (0, .ref (ad 77)), (1, .int a1), (2, .int a2)]) (pc := 1) B dX6_oneOf_1 rfl (by decide) rfl ?_
  refine x_pick (lv' := [(0, .ref (ad 77)), (1, .int a1), (2, .int a2), (3, .int 0)]) [1, 2, 3, 0] rfl ?_
  obtain ⟨q10, hq10, h⟩ := bnd h
  refine x_loop (Head := fun (y1 : Int32) => XX D ad cI cJ p l e (Rm 5 107) s m args below meth c Q 5 M0 2 [(0, .ref (ad 77)), (1, .int a1), (2, .int a2), (3, .int y1)] []) (Ex := (Sum.elim (fun (y11 : Unit) => XX D ad cI cJ p l e (Rm 5 107) s m args below meth c Q 5 M0 57 [] []) (fun (y12 : Int32 × Nat) => XX D ad cI cJ p l e (Rm 5 107) s m args below meth c Q 5 M0 36 [(0, .ref (ad 77)), (3, .int y12.1), (4, .ref (adK y12.2))] []))) (fun y1 r h hback hexit => ?_) FU _ q10 hq10 ?_
  · unfold b_Reader_oneOf_77_2 at h
    refine x_iload_n (pc := 2) B 3 dX6_oneOf_2 rfl rfl ?_
    refine x_iload_n (pc := 3) B 1 dX6_oneOf_3 rfl rfl ?_
    refine x_icmp_ge (tgt := 57) (pc := 4) B dX6_oneOf_4 rfl (fun hc2 => ?_) (fun hc2 => ?_)
    · have h := iff_ hc2 h
      refine x_pick (lv' := []) [] rfl ?_
      have z := hexit (.inl ()) (Option.some.inj h).symm
      exact z
    · have h := ift hc2 h
      refine x_iload_n (pc := 7) B 2 dX6_oneOf_7 rfl rfl ?_
      refine x_iload_n (pc := 8) B 3 dX6_oneOf_8 rfl rfl ?_
      refine x_iadd (pc := 9) B dX6_oneOf_9 ?_
      obtain ⟨q3, hq3, h⟩ := bnd h
      refine x_callS (rest := []) (st' := [.ref (adK q3)]) (pc := 10) B (C_Reader_textOf (a2 + y1) M0 _ hq3) tw_821 tw_819 tw_820 tw_107 hd_Reader_textOf ⟨Nat.le_of_ble_eq_true rfl, Nat.le_of_ble_eq_true rfl⟩ rfl rfl (Nat.le_of_ble_eq_true rfl) rfl dX6_oneOf_10 ?_
      refine x_astore (lv' := [(4, .ref (adK q3)), (0, .ref (ad 77)), (1, .int a1), (2, .int a2), (3, .int y1)]) (pc := 13) B dX6_oneOf_13 (by decide) rfl ?_
      refine x_aload (pc := 15) B 0 dX6_oneOf_15 rfl ?_
      obtain ⟨hk4, h⟩ := ifn h
      refine x_callVS (rest := []) (st' := [.int (bI (semp q3))]) (pc := 17) B (of_decide_eq_true hk4) (T_isEmpty q3 (of_decide_eq_true hk4) M0) tw_837 tw_834 tw_835 tw_836 tw_114 hd_J0_isEmpty_aae02 ⟨Nat.le_of_ble_eq_true rfl, Nat.le_of_ble_eq_true rfl⟩ rfl rfl (Nat.le_of_ble_eq_true rfl) rfl dX6_oneOf_17 ?_
      refine x_if_ne_b (tgt := 51) (pc := 20) B dX6_oneOf_20 rfl (fun hc5 => ?_) (fun hc5 => ?_)
      · have h := ift hc5 h
        refine x_iinc (k := 4) (v := y1 + 1) (lv' := [(3, .int (y1 + 1)), (4, .ref (adK q3)), (0, .ref (ad 77)), (1, .int a1), (2, .int a2)]) (pc := 51) B dX6_oneOf_51 rfl rfl (by decide) rfl ?_
        refine x_goto (tgt := 2) (pc := 54) B dX6_oneOf_54 rfl ?_
        refine x_pick (lv' := [(0, .ref (ad 77)), (1, .int a1), (2, .int a2), (3, .int (y1 + 1))]) [2, 3, 4, 0] rfl ?_
        have z := hback (y1 + 1) (Option.some.inj h).symm
        exact z
      · have h := iff_ hc5 h
        refine x_aload_n (pc := 23) B 1 dX6_oneOf_23 rfl rfl ?_
        obtain ⟨q6, hq6, h⟩ := bnd h
        refine x_callV (rest := []) (st' := [.int q6]) (pc := 24) B oi_77 rfl (C_Reader_coming_77  M0 _ hq6) tw_841 tw_838 tw_840 tw_16 tw_107 hd_Reader_coming_77 ⟨Nat.le_of_ble_eq_true rfl, Nat.le_of_ble_eq_true rfl⟩ rfl rfl (Nat.le_of_ble_eq_true rfl) rfl dX6_oneOf_24 ?_
        refine x_aload (pc := 27) B 0 dX6_oneOf_27 rfl ?_
        refine x_iconst (v := 0) (pc := 29) B dX6_oneOf_29 rfl ?_
        obtain ⟨hk7, h⟩ := ifn h
        obtain ⟨hk8, h⟩ := ifn h
        refine x_callVS (rest := [.int q6]) (st' := [.int (schr q3 0), .int q6]) (pc := 30) B (of_decide_eq_true hk7) (T_charAt q3 0 (of_decide_eq_true hk7) hk8 M0) tw_846 tw_843 tw_844 tw_845 tw_114 hd_J0_charAt_5068e ⟨Nat.le_of_ble_eq_true rfl, Nat.le_of_ble_eq_true rfl⟩ rfl rfl (Nat.le_of_ble_eq_true rfl) rfl dX6_oneOf_30 ?_
        refine x_icmp_ne (tgt := 51) (pc := 33) B dX6_oneOf_33 rfl (fun hc9 => ?_) (fun hc9 => ?_)
        · have h := iff_ hc9 h
          refine x_iinc (k := 4) (v := y1 + 1) (lv' := [(3, .int (y1 + 1)), (4, .ref (adK q3)), (0, .ref (ad 77)), (1, .int a1), (2, .int a2)]) (pc := 51) B dX6_oneOf_51 rfl rfl (by decide) rfl ?_
          refine x_goto (tgt := 2) (pc := 54) B dX6_oneOf_54 rfl ?_
          refine x_pick (lv' := [(0, .ref (ad 77)), (1, .int a1), (2, .int a2), (3, .int (y1 + 1))]) [2, 3, 4, 0] rfl ?_
          have z := hback (y1 + 1) (Option.some.inj h).symm
          exact z
        · have h := ift hc9 h
          refine x_pick (lv' := [(0, .ref (ad 77)), (3, .int y1), (4, .ref (adK q3))]) [1, 4, 0] rfl ?_
          have z := hexit (.inr ((y1, q3))) (Option.some.inj h).symm
          exact z
  · rcases q10 with y11 | rest0_14
    · have h := selL h
      refine x_iconst (v := (-1)) (pc := 57) B dX6_oneOf_57 rfl ?_
      obtain rfl := Option.some.inj h
      exact x_iret (pc := 58) B hQ dX6_oneOf_58
    · have h := selR h
      obtain ⟨y12, rfl⟩ : ∃ z_, z_ = rest0_14 := ⟨_, rfl⟩
      refine x_aload_n (pc := 36) B 0 dX6_oneOf_36 rfl rfl ?_
      refine x_aload (pc := 37) B 2 dX6_oneOf_37 rfl ?_
      obtain ⟨q13, hq13, h⟩ := bnd h
      refine x_callV (rest := []) (st' := [.int (bI q13.1)]) (pc := 39) B oi_77 rfl (C_Reader_passes_77 y12.2 M0 _ hq13) tw_886 tw_883 tw_885 tw_17 tw_107 hd_Reader_passes_77 ⟨Nat.le_of_ble_eq_true rfl, Nat.le_of_ble_eq_true rfl⟩ rfl rfl (Nat.le_of_ble_eq_true rfl) rfl dX6_oneOf_39 ?_
      refine x_if_eq_b (tgt := 49) (pc := 42) B dX6_oneOf_42 rfl (fun hc14 => ?_) (fun hc14 => ?_)
      · have h := iff_ hc14 h
        refine x_iconst (v := (-1)) (pc := 49) B dX6_oneOf_49 rfl ?_
        obtain rfl := Option.some.inj h
        exact x_iret (pc := 50) B hQ dX6_oneOf_50
      · have h := ift hc14 h
        refine x_iload_n (pc := 45) B 1 dX6_oneOf_45 rfl rfl ?_
        refine x_goto (tgt := 50) (pc := 46) B dX6_oneOf_46 rfl ?_
        obtain rfl := Option.some.inj h
        exact x_iret (pc := 50) B hQ dX6_oneOf_50
-- CurrentFarms$Reader.await(I)V [77]
abbrev y_Reader_await_77 : MethodName := ⟨"CurrentFarms$Reader", "await", "(I)V"⟩
abbrev cX6_await : ByteArray := prog_8_method_7_code
theorem dX6_await_0 : decode cX6_await 0 = .ok (.aload_n 0, 1) := by decide +kernel
theorem dX6_await_1 : decode cX6_await 1 = .ok (.getfield 9, 3) := by decide +kernel
theorem dX6_await_4 : decode cX6_await 4 = .ok (.aload_n 0, 1) := by decide +kernel
theorem dX6_await_5 : decode cX6_await 5 = .ok (.getfield 84, 3) := by decide +kernel
theorem dX6_await_8 : decode cX6_await 8 = .ok (.iload_n 1, 1) := by decide +kernel
theorem dX6_await_9 : decode cX6_await 9 = .ok (.invokestatic 28, 3) := by decide +kernel
theorem dX6_await_12 : decode cX6_await 12 = .ok (.aload_n 0, 1) := by decide +kernel
theorem dX6_await_13 : decode cX6_await 13 = .ok (.dup, 1) := by decide +kernel
theorem dX6_await_14 : decode cX6_await 14 = .ok (.getfield 84, 3) := by decide +kernel
theorem dX6_await_17 : decode cX6_await 17 = .ok (.iconst 1, 1) := by decide +kernel
theorem dX6_await_18 : decode cX6_await 18 = .ok (.iadd, 1) := by decide +kernel
theorem dX6_await_19 : decode cX6_await 19 = .ok (.putfield 84, 3) := by decide +kernel
theorem dX6_await_22 : decode cX6_await 22 = .ok (.aload_n 0, 1) := by decide +kernel
theorem dX6_await_23 : decode cX6_await 23 = .ok (.dup, 1) := by decide +kernel
theorem dX6_await_24 : decode cX6_await 24 = .ok (.getfield 32, 3) := by decide +kernel
theorem dX6_await_27 : decode cX6_await 27 = .ok (.iconst 1, 1) := by decide +kernel
theorem dX6_await_28 : decode cX6_await 28 = .ok (.iadd, 1) := by decide +kernel
theorem dX6_await_29 : decode cX6_await 29 = .ok (.putfield 32, 3) := by decide +kernel
theorem dX6_await_32 : decode cX6_await 32 = .ok (.return_, 1) := by decide +kernel
theorem hd_Reader_await_77 : y_Reader_await_77.cls ≠ "java/lang/invoke/MethodHandle" ∧ y_Reader_await_77.cls ≠ "java/lang/invoke/VarHandle" ∧ (parseMethodDescriptor y_Reader_await_77.desc).map (fun d => d.parameters.length) = some 1 := by decide +kernel
def f_Reader_await_77 (a1 : Int32) (M0 : Mem) : Option (Mem) :=
  jv_ (putv M0 78 120 (M0.1 77 2) a1) fun M1 => jv_ (wI M1 77 2 ((M1.1 77 2) + 1)) fun M2 => jv_ (wI M2 77 3 ((M2.1 77 3) + 1)) fun M3 => some M3
set_option maxHeartbeats 4000000 in
set_option maxRecDepth 20000 in
theorem C_Reader_await_77 {D : va_G} {ad adK adV : Nat → Nat} {cI cJ : ClassId} {l : Launch} (a1 : Int32) (M0 : Mem) (o : Mem) (h : f_Reader_await_77 a1 M0 = some o) : Ct D ad adK adV cI cJ l y_Reader_await_77 cX6_await 2 none 1 22 [.ref (ad 77), .int a1] M0 none o := by
  refine x_start (lv := [(0, .ref (ad 77)), (1, .int a1)]) (own := "CurrentFarms$Reader") rfl (by decide) (Nat.le_of_ble_eq_true rfl) rfl ?_
  intro p e s m args below meth c Q hQ B
  unfold f_Reader_await_77 at h
  refine x_aload_n (pc := 0) B 0 dX6_await_0 rfl rfl ?_
  refine x_get (T := TX6) (pc := 1) B 1 oi_77 rfl uw_6 (by decide) rfl tw_407 rfl dX6_await_1 ?_
  refine x_aload_n (pc := 4) B 0 dX6_await_4 rfl rfl ?_
  refine x_get (T := TX6) (pc := 5) B 2 oi_77 rfl uw_6 (by decide) rfl tw_408 rfl dX6_await_5 ?_
  refine x_iload_n (pc := 8) B 1 dX6_await_8 rfl rfl ?_
  refine x_callSN (rest := []) (st' := []) (pc := 9) B (T_CF_put 78 120 (M0.1 77 2) a1 ai_78 (by decide) M0) tw_588 tw_810 tw_587 tw_98 hd_CF_put ⟨Nat.le_of_ble_eq_true rfl, Nat.le_of_ble_eq_true rfl⟩ rfl rfl (Nat.le_of_ble_eq_true rfl) rfl dX6_await_9 ?_
  refine jv_m (P := fun M1 => XX D ad cI cJ p l e (Rm 1 22) s m args below meth c Q 2 M1 12 [(0, .ref (ad 77)), (1, .int a1)] []) h (fun M1 h => ?_)
  refine x_aload_n (pc := 12) B 0 dX6_await_12 rfl rfl ?_
  refine x_dup (pc := 13) B dX6_await_13 rfl ?_
  refine x_get (T := TX6) (pc := 14) B 2 oi_77 rfl uw_6 (by decide) rfl tw_408 rfl dX6_await_14 ?_
  refine x_iconst (v := 1) (pc := 17) B dX6_await_17 rfl ?_
  refine x_iadd (pc := 18) B dX6_await_18 ?_
  refine x_put (T := TX6) (pc := 19) B 2 oi_77 of_77_2 rfl uw_6 tyX6_ok nmX6 (by decide) rfl tw_408 rfl rfl rfl (Nat.le_of_ble_eq_true rfl) dX6_await_19 ?_
  refine jv_m (P := fun M2 => XX D ad cI cJ p l e (Rm 1 22) s m args below meth c Q 2 M2 22 [(0, .ref (ad 77)), (1, .int a1)] []) h (fun M2 h => ?_)
  refine x_aload_n (pc := 22) B 0 dX6_await_22 rfl rfl ?_
  refine x_dup (pc := 23) B dX6_await_23 rfl ?_
  refine x_get (T := TX6) (pc := 24) B 3 oi_77 rfl uw_6 (by decide) rfl tw_409 rfl dX6_await_24 ?_
  refine x_iconst (v := 1) (pc := 27) B dX6_await_27 rfl ?_
  refine x_iadd (pc := 28) B dX6_await_28 ?_
  refine x_put (T := TX6) (pc := 29) B 3 oi_77 of_77_3 rfl uw_6 tyX6_ok nmX6 (by decide) rfl tw_409 rfl rfl rfl (Nat.le_of_ble_eq_true rfl) dX6_await_29 ?_
  refine jv_m (P := fun M3 => XX D ad cI cJ p l e (Rm 1 22) s m args below meth c Q 2 M3 32 [(0, .ref (ad 77)), (1, .int a1)] []) h (fun M3 h => ?_)
  obtain rfl := Option.some.inj h
  exact x_vret (pc := 32) B hQ dX6_await_32
-- CurrentFarms$Reader.emit(I)V [77]
abbrev y_Reader_emit_77 : MethodName := ⟨"CurrentFarms$Reader", "emit", "(I)V"⟩
abbrev cX6_emit : ByteArray := prog_8_method_9_code
theorem dX6_emit_0 : decode cX6_emit 0 = .ok (.aload_n 0, 1) := by decide +kernel
theorem dX6_emit_1 : decode cX6_emit 1 = .ok (.getfield 15, 3) := by decide +kernel
theorem dX6_emit_4 : decode cX6_emit 4 = .ok (.getfield 114, 3) := by decide +kernel
theorem dX6_emit_7 : decode cX6_emit 7 = .ok (.aload_n 0, 1) := by decide +kernel
theorem dX6_emit_8 : decode cX6_emit 8 = .ok (.getfield 35, 3) := by decide +kernel
theorem dX6_emit_11 : decode cX6_emit 11 = .ok (.iload_n 1, 1) := by decide +kernel
theorem dX6_emit_12 : decode cX6_emit 12 = .ok (.invokestatic 28, 3) := by decide +kernel
theorem dX6_emit_15 : decode cX6_emit 15 = .ok (.aload_n 0, 1) := by decide +kernel
theorem dX6_emit_16 : decode cX6_emit 16 = .ok (.dup, 1) := by decide +kernel
theorem dX6_emit_17 : decode cX6_emit 17 = .ok (.getfield 35, 3) := by decide +kernel
theorem dX6_emit_20 : decode cX6_emit 20 = .ok (.iconst 1, 1) := by decide +kernel
theorem dX6_emit_21 : decode cX6_emit 21 = .ok (.iadd, 1) := by decide +kernel
theorem dX6_emit_22 : decode cX6_emit 22 = .ok (.putfield 35, 3) := by decide +kernel
theorem dX6_emit_25 : decode cX6_emit 25 = .ok (.return_, 1) := by decide +kernel
theorem hd_Reader_emit_77 : y_Reader_emit_77.cls ≠ "java/lang/invoke/MethodHandle" ∧ y_Reader_emit_77.cls ≠ "java/lang/invoke/VarHandle" ∧ (parseMethodDescriptor y_Reader_emit_77.desc).map (fun d => d.parameters.length) = some 1 := by decide +kernel
def f_Reader_emit_77 (a1 : Int32) (M0 : Mem) : Option (Mem) :=
  jv_ (putv M0 16 1080 (M0.1 77 4) a1) fun M1 => jv_ (wI M1 77 4 ((M1.1 77 4) + 1)) fun M2 => some M2
set_option maxHeartbeats 4000000 in
set_option maxRecDepth 20000 in
theorem C_Reader_emit_77 {D : va_G} {ad adK adV : Nat → Nat} {cI cJ : ClassId} {l : Launch} (a1 : Int32) (M0 : Mem) (o : Mem) (h : f_Reader_emit_77 a1 M0 = some o) : Ct D ad adK adV cI cJ l y_Reader_emit_77 cX6_emit 2 none 1 22 [.ref (ad 77), .int a1] M0 none o := by
  refine x_start (lv := [(0, .ref (ad 77)), (1, .int a1)]) (own := "CurrentFarms$Reader") rfl (by decide) (Nat.le_of_ble_eq_true rfl) rfl ?_
  intro p e s m args below meth c Q hQ B
  unfold f_Reader_emit_77 at h
  refine x_aload_n (pc := 0) B 0 dX6_emit_0 rfl rfl ?_
  refine x_get (T := TX6) (pc := 1) B 0 oi_77 rfl uw_6 (by decide) rfl tw_406 rfl dX6_emit_1 ?_
  refine x_get (T := TX7) (pc := 4) B 2 oi_14 rfl uw_7 (by decide) rfl tw_210 rfl dX6_emit_4 ?_
  refine x_aload_n (pc := 7) B 0 dX6_emit_7 rfl rfl ?_
  refine x_get (T := TX6) (pc := 8) B 4 oi_77 rfl uw_6 (by decide) rfl tw_410 rfl dX6_emit_8 ?_
  refine x_iload_n (pc := 11) B 1 dX6_emit_11 rfl rfl ?_
  refine x_callSN (rest := []) (st' := []) (pc := 12) B (T_CF_put 16 1080 (M0.1 77 4) a1 ai_16 (by decide) M0) tw_588 tw_810 tw_587 tw_98 hd_CF_put ⟨Nat.le_of_ble_eq_true rfl, Nat.le_of_ble_eq_true rfl⟩ rfl rfl (Nat.le_of_ble_eq_true rfl) rfl dX6_emit_12 ?_
  refine jv_m (P := fun M1 => XX D ad cI cJ p l e (Rm 1 22) s m args below meth c Q 2 M1 15 [(0, .ref (ad 77)), (1, .int a1)] []) h (fun M1 h => ?_)
  refine x_aload_n (pc := 15) B 0 dX6_emit_15 rfl rfl ?_
  refine x_dup (pc := 16) B dX6_emit_16 rfl ?_
  refine x_get (T := TX6) (pc := 17) B 4 oi_77 rfl uw_6 (by decide) rfl tw_410 rfl dX6_emit_17 ?_
  refine x_iconst (v := 1) (pc := 20) B dX6_emit_20 rfl ?_
  refine x_iadd (pc := 21) B dX6_emit_21 ?_
  refine x_put (T := TX6) (pc := 22) B 4 oi_77 of_77_4 rfl uw_6 tyX6_ok nmX6 (by decide) rfl tw_410 rfl rfl rfl (Nat.le_of_ble_eq_true rfl) dX6_emit_22 ?_
  refine jv_m (P := fun M2 => XX D ad cI cJ p l e (Rm 1 22) s m args below meth c Q 2 M2 25 [(0, .ref (ad 77)), (1, .int a1)] []) h (fun M2 h => ?_)
  obtain rfl := Option.some.inj h
  exact x_vret (pc := 25) B hQ dX6_emit_25
-- CurrentFarms$Reader.number(I)Z [77]
abbrev y_Reader_number_77 : MethodName := ⟨"CurrentFarms$Reader", "number", "(I)Z"⟩
abbrev cX6_number : ByteArray := prog_8_method_10_code
theorem dX6_number_0 : decode cX6_number 0 = .ok (.iload_n 1, 1) := by decide +kernel
theorem dX6_number_1 : decode cX6_number 1 = .ok (.bipush 48, 2) := by decide +kernel
theorem dX6_number_3 : decode cX6_number 3 = .ok (.bipush 57, 2) := by decide +kernel
theorem dX6_number_5 : decode cX6_number 5 = .ok (.invokestatic 117, 3) := by decide +kernel
theorem dX6_number_8 : decode cX6_number 8 = .ok (.ifCond .ne 5, 3) := by decide +kernel
theorem dX6_number_11 : decode cX6_number 11 = .ok (.iconst 0, 1) := by decide +kernel
theorem dX6_number_12 : decode cX6_number 12 = .ok (.ireturn, 1) := by decide +kernel
theorem dX6_number_13 : decode cX6_number 13 = .ok (.iload_n 1, 1) := by decide +kernel
theorem dX6_number_14 : decode cX6_number 14 = .ok (.bipush 48, 2) := by decide +kernel
theorem dX6_number_16 : decode cX6_number 16 = .ok (.isub, 1) := by decide +kernel
theorem dX6_number_17 : decode cX6_number 17 = .ok (.istore_n 2, 1) := by decide +kernel
theorem dX6_number_18 : decode cX6_number 18 = .ok (.aload_n 0, 1) := by decide +kernel
theorem dX6_number_19 : decode cX6_number 19 = .ok (.dup, 1) := by decide +kernel
theorem dX6_number_20 : decode cX6_number 20 = .ok (.getfield 32, 3) := by decide +kernel
theorem dX6_number_23 : decode cX6_number 23 = .ok (.iconst 1, 1) := by decide +kernel
theorem dX6_number_24 : decode cX6_number 24 = .ok (.iadd, 1) := by decide +kernel
theorem dX6_number_25 : decode cX6_number 25 = .ok (.putfield 32, 3) := by decide +kernel
theorem dX6_number_28 : decode cX6_number 28 = .ok (.iconst 1, 1) := by decide +kernel
theorem dX6_number_29 : decode cX6_number 29 = .ok (.istore_n 3, 1) := by decide +kernel
theorem dX6_number_30 : decode cX6_number 30 = .ok (.iload_n 3, 1) := by decide +kernel
theorem dX6_number_31 : decode cX6_number 31 = .ok (.iconst 4, 1) := by decide +kernel
theorem dX6_number_32 : decode cX6_number 32 = .ok (.if_icmp .ge 50, 3) := by decide +kernel
theorem dX6_number_35 : decode cX6_number 35 = .ok (.iload_n 2, 1) := by decide +kernel
theorem dX6_number_36 : decode cX6_number 36 = .ok (.ifCond .le 46, 3) := by decide +kernel
theorem dX6_number_39 : decode cX6_number 39 = .ok (.aload_n 0, 1) := by decide +kernel
theorem dX6_number_40 : decode cX6_number 40 = .ok (.invokevirtual 52, 3) := by decide +kernel
theorem dX6_number_43 : decode cX6_number 43 = .ok (.bipush 48, 2) := by decide +kernel
theorem dX6_number_45 : decode cX6_number 45 = .ok (.bipush 57, 2) := by decide +kernel
theorem dX6_number_47 : decode cX6_number 47 = .ok (.invokestatic 117, 3) := by decide +kernel
theorem dX6_number_50 : decode cX6_number 50 = .ok (.ifCond .eq 32, 3) := by decide +kernel
theorem dX6_number_53 : decode cX6_number 53 = .ok (.bipush 10, 2) := by decide +kernel
theorem dX6_number_55 : decode cX6_number 55 = .ok (.iload_n 2, 1) := by decide +kernel
theorem dX6_number_56 : decode cX6_number 56 = .ok (.imul, 1) := by decide +kernel
theorem dX6_number_57 : decode cX6_number 57 = .ok (.aload_n 0, 1) := by decide +kernel
theorem dX6_number_58 : decode cX6_number 58 = .ok (.invokevirtual 52, 3) := by decide +kernel
theorem dX6_number_61 : decode cX6_number 61 = .ok (.iadd, 1) := by decide +kernel
theorem dX6_number_62 : decode cX6_number 62 = .ok (.bipush 48, 2) := by decide +kernel
theorem dX6_number_64 : decode cX6_number 64 = .ok (.isub, 1) := by decide +kernel
theorem dX6_number_65 : decode cX6_number 65 = .ok (.istore_n 2, 1) := by decide +kernel
theorem dX6_number_66 : decode cX6_number 66 = .ok (.aload_n 0, 1) := by decide +kernel
theorem dX6_number_67 : decode cX6_number 67 = .ok (.dup, 1) := by decide +kernel
theorem dX6_number_68 : decode cX6_number 68 = .ok (.getfield 32, 3) := by decide +kernel
theorem dX6_number_71 : decode cX6_number 71 = .ok (.iconst 1, 1) := by decide +kernel
theorem dX6_number_72 : decode cX6_number 72 = .ok (.iadd, 1) := by decide +kernel
theorem dX6_number_73 : decode cX6_number 73 = .ok (.putfield 32, 3) := by decide +kernel
theorem dX6_number_76 : decode cX6_number 76 = .ok (.iinc 3 1, 3) := by decide +kernel
theorem dX6_number_79 : decode cX6_number 79 = .ok (.goto (-49), 3) := by decide +kernel
theorem dX6_number_82 : decode cX6_number 82 = .ok (.aload_n 0, 1) := by decide +kernel
theorem dX6_number_83 : decode cX6_number 83 = .ok (.iload_n 2, 1) := by decide +kernel
theorem dX6_number_84 : decode cX6_number 84 = .ok (.invokevirtual 94, 3) := by decide +kernel
theorem dX6_number_87 : decode cX6_number 87 = .ok (.iconst 1, 1) := by decide +kernel
theorem dX6_number_88 : decode cX6_number 88 = .ok (.ireturn, 1) := by decide +kernel
theorem hd_Reader_number_77 : y_Reader_number_77.cls ≠ "java/lang/invoke/MethodHandle" ∧ y_Reader_number_77.cls ≠ "java/lang/invoke/VarHandle" ∧ (parseMethodDescriptor y_Reader_number_77.desc).map (fun d => d.parameters.length) = some 1 := by decide +kernel
def b_Reader_number_77_30  (y3 : Int32 × Int32 × Mem) : Option ((Int32 × Int32 × Mem) ⊕ (Int32 × Mem)) :=
  if decide (y3.2.1 < 4) then (if decide (y3.1 ≤ 0) then (some (.inr (y3.1, y3.2.2))) else ((f_Reader_coming_77 y3.2.2).bind fun q6 => if wthn q6 48 57 then ((f_Reader_coming_77 y3.2.2).bind fun q8 => jv_ (wI y3.2.2 77 3 ((y3.2.2.1 77 3) + 1)) fun M9 => some (.inl (((10 * y3.1) + q8) - 48, y3.2.1 + 1, M9))) else (some (.inr (y3.1, y3.2.2))))) else (some (.inr (y3.1, y3.2.2)))
def f_Reader_number_77 (a1 : Int32) (M0 : Mem) : Option (Bool × Mem) :=
  if wthn a1 48 57 then (jv_ (wI M0 77 3 ((M0.1 77 3) + 1)) fun M2 => (itr (b_Reader_number_77_30) FU (a1 - 48, 1, M2)).bind fun q10 => (f_Reader_emit_77 q10.1 q10.2).bind fun q11 => some (true, q11)) else (some (false, M0))
set_option maxHeartbeats 4000000 in
set_option maxRecDepth 20000 in
theorem C_Reader_number_77 {D : va_G} {ad adK adV : Nat → Nat} {cI cJ : ClassId} {l : Launch} (a1 : Int32) (M0 : Mem) (o : Bool × Mem) (h : f_Reader_number_77 a1 M0 = some o) : Ct D ad adK adV cI cJ l y_Reader_number_77 cX6_number 4 (some .boolean) 2 43 [.ref (ad 77), .int a1] M0 (some (.int (bI o.1))) o.2 := by
  refine x_start (lv := [(0, .ref (ad 77)), (1, .int a1)]) (own := "CurrentFarms$Reader") rfl (by decide) (Nat.le_of_ble_eq_true rfl) rfl ?_
  intro p e s m args below meth c Q hQ B
  unfold f_Reader_number_77 at h
  refine x_iload_n (pc := 0) B 1 dX6_number_0 rfl rfl ?_
  refine x_bipush (v := 48) (pc := 1) B dX6_number_1 rfl ?_
  refine x_bipush (v := 57) (pc := 3) B dX6_number_3 rfl ?_
  refine x_callSN (rest := []) (st' := [.int (bI (wthn a1 48 57))]) (pc := 5) B (T_CF_within a1 48 57 M0) tw_559 tw_908 tw_558 tw_98 hd_CF_within ⟨Nat.le_of_ble_eq_true rfl, Nat.le_of_ble_eq_true rfl⟩ rfl rfl (Nat.le_of_ble_eq_true rfl) rfl dX6_number_5 ?_
  refine x_if_ne_b (tgt := 13) (pc := 8) B dX6_number_8 rfl (fun hc1 => ?_) (fun hc1 => ?_)
  · have h := ift hc1 h
    refine x_iload_n (pc := 13) B 1 dX6_number_13 rfl rfl ?_
    refine x_bipush (v := 48) (pc := 14) B dX6_number_14 rfl ?_
    refine x_isub (pc := 16) B dX6_number_16 ?_
    refine x_istore_n (lv' := [(2, .int (a1 - 48)), (0, .ref (ad 77)), (1, .int a1)]) (pc := 17) B dX6_number_17 rfl (by decide) rfl ?_
    refine x_aload_n (pc := 18) B 1 dX6_number_18 rfl rfl ?_
    refine x_dup (pc := 19) B dX6_number_19 rfl ?_
    refine x_get (T := TX6) (pc := 20) B 3 oi_77 rfl uw_6 (by decide) rfl tw_409 rfl dX6_number_20 ?_
    refine x_iconst (v := 1) (pc := 23) B dX6_number_23 rfl ?_
    refine x_iadd (pc := 24) B dX6_number_24 ?_
    refine x_put (T := TX6) (pc := 25) B 3 oi_77 of_77_3 rfl uw_6 tyX6_ok nmX6 (by decide) rfl tw_409 rfl rfl rfl (Nat.le_of_ble_eq_true rfl) dX6_number_25 ?_
    refine jv_m (P := fun M2 => XX D ad cI cJ p l e (Rm 2 43) s m args below meth c Q 4 M2 28 [(2, .int (a1 - 48)), (0, .ref (ad 77)), (1, .int a1)] []) h (fun M2 h => ?_)
    refine x_iconst (v := 1) (pc := 28) B dX6_number_28 rfl ?_
    refine x_istore_n (lv' := [(3, .int 1), (2, .int (a1 - 48)), (0, .ref (ad 77)), (1, .int a1)]) (pc := 29) B dX6_number_29 rfl (by decide) rfl ?_
    refine x_pick (lv' := [(0, .ref (ad 77)), (2, .int (a1 - 48)), (3, .int 1)]) [2, 1, 0] rfl ?_
    obtain ⟨q10, hq10, h⟩ := bnd h
    refine x_loop (Head := fun (y3 : Int32 × Int32 × Mem) => XX D ad cI cJ p l e (Rm 2 43) s m args below meth c Q 4 y3.2.2 30 [(0, .ref (ad 77)), (2, .int y3.1), (3, .int y3.2.1)] []) (Ex := fun (q10 : Int32 × Mem) => XX D ad cI cJ p l e (Rm 2 43) s m args below meth c Q 4 q10.2 82 [(0, .ref (ad 77)), (2, .int q10.1)] []) (fun y3 r h hback hexit => ?_) FU _ q10 hq10 ?_
    · unfold b_Reader_number_77_30 at h
      refine x_iload_n (pc := 30) B 2 dX6_number_30 rfl rfl ?_
      refine x_iconst (v := 4) (pc := 31) B dX6_number_31 rfl ?_
      refine x_icmp_ge (tgt := 82) (pc := 32) B dX6_number_32 rfl (fun hc4 => ?_) (fun hc4 => ?_)
      · have h := iff_ hc4 h
        refine x_pick (lv' := [(0, .ref (ad 77)), (2, .int y3.1)]) [0, 1] rfl ?_
        have z := hexit (y3.1, y3.2.2) (Option.some.inj h).symm
        exact z
      · have h := ift hc4 h
        refine x_iload_n (pc := 35) B 1 dX6_number_35 rfl rfl ?_
        refine x_if_le (tgt := 82) (pc := 36) B dX6_number_36 rfl (fun hc5 => ?_) (fun hc5 => ?_)
        · have h := ift hc5 h
          refine x_pick (lv' := [(0, .ref (ad 77)), (2, .int y3.1)]) [0, 1] rfl ?_
          have z := hexit (y3.1, y3.2.2) (Option.some.inj h).symm
          exact z
        · have h := iff_ hc5 h
          refine x_aload_n (pc := 39) B 0 dX6_number_39 rfl rfl ?_
          obtain ⟨q6, hq6, h⟩ := bnd h
          refine x_callV (rest := []) (st' := [.int q6]) (pc := 40) B oi_77 rfl (C_Reader_coming_77  y3.2.2 _ hq6) tw_841 tw_838 tw_840 tw_16 tw_107 hd_Reader_coming_77 ⟨Nat.le_of_ble_eq_true rfl, Nat.le_of_ble_eq_true rfl⟩ rfl rfl (Nat.le_of_ble_eq_true rfl) rfl dX6_number_40 ?_
          refine x_bipush (v := 48) (pc := 43) B dX6_number_43 rfl ?_
          refine x_bipush (v := 57) (pc := 45) B dX6_number_45 rfl ?_
          refine x_callSN (rest := []) (st' := [.int (bI (wthn q6 48 57))]) (pc := 47) B (T_CF_within q6 48 57 y3.2.2) tw_559 tw_908 tw_558 tw_98 hd_CF_within ⟨Nat.le_of_ble_eq_true rfl, Nat.le_of_ble_eq_true rfl⟩ rfl rfl (Nat.le_of_ble_eq_true rfl) rfl dX6_number_47 ?_
          refine x_if_eq_b (tgt := 82) (pc := 50) B dX6_number_50 rfl (fun hc7 => ?_) (fun hc7 => ?_)
          · have h := iff_ hc7 h
            refine x_pick (lv' := [(0, .ref (ad 77)), (2, .int y3.1)]) [0, 1] rfl ?_
            have z := hexit (y3.1, y3.2.2) (Option.some.inj h).symm
            exact z
          · have h := ift hc7 h
            refine x_bipush (v := 10) (pc := 53) B dX6_number_53 rfl ?_
            refine x_iload_n (pc := 55) B 1 dX6_number_55 rfl rfl ?_
            refine x_imul (pc := 56) B dX6_number_56 ?_
            refine x_aload_n (pc := 57) B 0 dX6_number_57 rfl rfl ?_
            obtain ⟨q8, hq8, h⟩ := bnd h
            refine x_callV (rest := [.int (10 * y3.1)]) (st' := [.int q8, .int (10 * y3.1)]) (pc := 58) B oi_77 rfl (C_Reader_coming_77  y3.2.2 _ hq8) tw_841 tw_838 tw_840 tw_16 tw_107 hd_Reader_coming_77 ⟨Nat.le_of_ble_eq_true rfl, Nat.le_of_ble_eq_true rfl⟩ rfl rfl (Nat.le_of_ble_eq_true rfl) rfl dX6_number_58 ?_
            refine x_iadd (pc := 61) B dX6_number_61 ?_
            refine x_bipush (v := 48) (pc := 62) B dX6_number_62 rfl ?_
            refine x_isub (pc := 64) B dX6_number_64 ?_
            refine x_istore_n (lv' := [(2, .int (((10 * y3.1) + q8) - 48)), (0, .ref (ad 77)), (3, .int y3.2.1)]) (pc := 65) B dX6_number_65 rfl (by decide) rfl ?_
            refine x_aload_n (pc := 66) B 1 dX6_number_66 rfl rfl ?_
            refine x_dup (pc := 67) B dX6_number_67 rfl ?_
            refine x_get (T := TX6) (pc := 68) B 3 oi_77 rfl uw_6 (by decide) rfl tw_409 rfl dX6_number_68 ?_
            refine x_iconst (v := 1) (pc := 71) B dX6_number_71 rfl ?_
            refine x_iadd (pc := 72) B dX6_number_72 ?_
            refine x_put (T := TX6) (pc := 73) B 3 oi_77 of_77_3 rfl uw_6 tyX6_ok nmX6 (by decide) rfl tw_409 rfl rfl rfl (Nat.le_of_ble_eq_true rfl) dX6_number_73 ?_
            refine jv_m (P := fun M9 => XX D ad cI cJ p l e (Rm 2 43) s m args below meth c Q 4 M9 76 [(2, .int (((10 * y3.1) + q8) - 48)), (0, .ref (ad 77)), (3, .int y3.2.1)] []) h (fun M9 h => ?_)
            refine x_iinc (k := 2) (v := y3.2.1 + 1) (lv' := [(3, .int (y3.2.1 + 1)), (2, .int (((10 * y3.1) + q8) - 48)), (0, .ref (ad 77))]) (pc := 76) B dX6_number_76 rfl rfl (by decide) rfl ?_
            refine x_goto (tgt := 30) (pc := 79) B dX6_number_79 rfl ?_
            refine x_pick (lv' := [(0, .ref (ad 77)), (2, .int (((10 * y3.1) + q8) - 48)), (3, .int (y3.2.1 + 1))]) [2, 1, 0] rfl ?_
            have z := hback (((10 * y3.1) + q8) - 48, y3.2.1 + 1, M9) (Option.some.inj h).symm
            exact z
    · refine x_aload_n (pc := 82) B 0 dX6_number_82 rfl rfl ?_
      refine x_iload_n (pc := 83) B 1 dX6_number_83 rfl rfl ?_
      obtain ⟨q11, hq11, h⟩ := bnd h
      refine x_callV (rest := []) (st' := []) (pc := 84) B oi_77 rfl (C_Reader_emit_77 q10.1 q10.2 _ hq11) tw_912 tw_909 tw_911 tw_21 tw_107 hd_Reader_emit_77 ⟨Nat.le_of_ble_eq_true rfl, Nat.le_of_ble_eq_true rfl⟩ rfl rfl (Nat.le_of_ble_eq_true rfl) rfl dX6_number_84 ?_
      refine x_iconst (v := 1) (pc := 87) B dX6_number_87 rfl ?_
      obtain rfl := Option.some.inj h
      exact x_zret (v := true) (pc := 88) B hQ dX6_number_88
  · have h := iff_ hc1 h
    refine x_iconst (v := 0) (pc := 11) B dX6_number_11 rfl ?_
    obtain rfl := Option.some.inj h
    exact x_zret (v := false) (pc := 12) B hQ dX6_number_12
-- CurrentFarms$Reader.rank(I)I []
abbrev y_Reader_rank : MethodName := ⟨"CurrentFarms$Reader", "rank", "(I)I"⟩
abbrev cX6_rank : ByteArray := prog_8_method_14_code
theorem dX6_rank_0 : decode cX6_rank 0 = .ok (.iload_n 0, 1) := by decide +kernel
theorem dX6_rank_1 : decode cX6_rank 1 = .ok (.bipush 43, 2) := by decide +kernel
theorem dX6_rank_3 : decode cX6_rank 3 = .ok (.if_icmp .eq 9, 3) := by decide +kernel
theorem dX6_rank_6 : decode cX6_rank 6 = .ok (.iload_n 0, 1) := by decide +kernel
theorem dX6_rank_7 : decode cX6_rank 7 = .ok (.bipush 45, 2) := by decide +kernel
theorem dX6_rank_9 : decode cX6_rank 9 = .ok (.if_icmp .ne 5, 3) := by decide +kernel
theorem dX6_rank_12 : decode cX6_rank 12 = .ok (.iconst 1, 1) := by decide +kernel
theorem dX6_rank_13 : decode cX6_rank 13 = .ok (.ireturn, 1) := by decide +kernel
theorem dX6_rank_14 : decode cX6_rank 14 = .ok (.iload_n 0, 1) := by decide +kernel
theorem dX6_rank_15 : decode cX6_rank 15 = .ok (.bipush 42, 2) := by decide +kernel
theorem dX6_rank_17 : decode cX6_rank 17 = .ok (.if_icmp .eq 9, 3) := by decide +kernel
theorem dX6_rank_20 : decode cX6_rank 20 = .ok (.iload_n 0, 1) := by decide +kernel
theorem dX6_rank_21 : decode cX6_rank 21 = .ok (.bipush 47, 2) := by decide +kernel
theorem dX6_rank_23 : decode cX6_rank 23 = .ok (.if_icmp .ne 7, 3) := by decide +kernel
theorem dX6_rank_26 : decode cX6_rank 26 = .ok (.iconst 2, 1) := by decide +kernel
theorem dX6_rank_27 : decode cX6_rank 27 = .ok (.goto 4, 3) := by decide +kernel
theorem dX6_rank_30 : decode cX6_rank 30 = .ok (.iconst 0, 1) := by decide +kernel
theorem dX6_rank_31 : decode cX6_rank 31 = .ok (.ireturn, 1) := by decide +kernel
theorem hd_Reader_rank : y_Reader_rank.cls ≠ "java/lang/invoke/MethodHandle" ∧ y_Reader_rank.cls ≠ "java/lang/invoke/VarHandle" ∧ (parseMethodDescriptor y_Reader_rank.desc).map (fun d => d.parameters.length) = some 1 := by decide +kernel
def f_Reader_rank (a0 : Int32) : Option (Int32) :=
  if decide (a0 = 43) then (some 1) else (if decide (a0 = 45) then (some 1) else (if decide (a0 = 42) then (some 2) else (if decide (a0 = 47) then (some 2) else (some 0))))
set_option maxHeartbeats 4000000 in
set_option maxRecDepth 20000 in
theorem C_Reader_rank {D : va_G} {ad adK adV : Nat → Nat} {cI cJ : ClassId} {l : Launch} (a0 : Int32) (M0 : Mem) (o : Int32) (h : f_Reader_rank a0 = some o) : Ct D ad adK adV cI cJ l y_Reader_rank cX6_rank 1 (some .int) 0 0 [.int a0] M0 (some (.int o)) M0 := by
  refine x_start (lv := [(0, .int a0)]) (own := "CurrentFarms$Reader") rfl (by decide) (Nat.le_of_ble_eq_true rfl) rfl ?_
  intro p e s m args below meth c Q hQ B
  unfold f_Reader_rank at h
  refine x_iload_n (pc := 0) B 0 dX6_rank_0 rfl rfl ?_
  refine x_bipush (v := 43) (pc := 1) B dX6_rank_1 rfl ?_
  refine x_icmp_eq (tgt := 12) (pc := 3) B dX6_rank_3 rfl (fun hc1 => ?_) (fun hc1 => ?_)
  · have h := ift hc1 h
    refine x_iconst (v := 1) (pc := 12) B dX6_rank_12 rfl ?_
    obtain rfl := Option.some.inj h
    exact x_iret (pc := 13) B hQ dX6_rank_13
  · have h := iff_ hc1 h
    refine x_iload_n (pc := 6) B 0 dX6_rank_6 rfl rfl ?_
    refine x_bipush (v := 45) (pc := 7) B dX6_rank_7 rfl ?_
    refine x_icmp_ne (tgt := 14) (pc := 9) B dX6_rank_9 rfl (fun hc2 => ?_) (fun hc2 => ?_)
    · have h := iff_ hc2 h
      refine x_iload_n (pc := 14) B 0 dX6_rank_14 rfl rfl ?_
      refine x_bipush (v := 42) (pc := 15) B dX6_rank_15 rfl ?_
      refine x_icmp_eq (tgt := 26) (pc := 17) B dX6_rank_17 rfl (fun hc3 => ?_) (fun hc3 => ?_)
      · have h := ift hc3 h
        refine x_iconst (v := 2) (pc := 26) B dX6_rank_26 rfl ?_
        refine x_goto (tgt := 31) (pc := 27) B dX6_rank_27 rfl ?_
        obtain rfl := Option.some.inj h
        exact x_iret (pc := 31) B hQ dX6_rank_31
      · have h := iff_ hc3 h
        refine x_iload_n (pc := 20) B 0 dX6_rank_20 rfl rfl ?_
        refine x_bipush (v := 47) (pc := 21) B dX6_rank_21 rfl ?_
        refine x_icmp_ne (tgt := 30) (pc := 23) B dX6_rank_23 rfl (fun hc4 => ?_) (fun hc4 => ?_)
        · have h := iff_ hc4 h
          refine x_iconst (v := 0) (pc := 30) B dX6_rank_30 rfl ?_
          obtain rfl := Option.some.inj h
          exact x_iret (pc := 31) B hQ dX6_rank_31
        · have h := ift hc4 h
          refine x_iconst (v := 2) (pc := 26) B dX6_rank_26 rfl ?_
          refine x_goto (tgt := 31) (pc := 27) B dX6_rank_27 rfl ?_
          obtain rfl := Option.some.inj h
          exact x_iret (pc := 31) B hQ dX6_rank_31
    · have h := ift hc2 h
      refine x_iconst (v := 1) (pc := 12) B dX6_rank_12 rfl ?_
      obtain rfl := Option.some.inj h
      exact x_iret (pc := 13) B hQ dX6_rank_13
-- CurrentFarms$Reader.codeOf(I)I []
abbrev y_Reader_codeOf : MethodName := ⟨"CurrentFarms$Reader", "codeOf", "(I)I"⟩
abbrev cX6_codeOf : ByteArray := prog_8_method_15_code
theorem dX6_codeOf_0 : decode cX6_codeOf 0 = .ok (.iload_n 0, 1) := by decide +kernel
theorem dX6_codeOf_1 : decode cX6_codeOf 1 = .ok (.bipush 43, 2) := by decide +kernel
theorem dX6_codeOf_3 : decode cX6_codeOf 3 = .ok (.if_icmp .ne 6, 3) := by decide +kernel
theorem dX6_codeOf_6 : decode cX6_codeOf 6 = .ok (.bipush (-6), 2) := by decide +kernel
theorem dX6_codeOf_8 : decode cX6_codeOf 8 = .ok (.ireturn, 1) := by decide +kernel
theorem dX6_codeOf_9 : decode cX6_codeOf 9 = .ok (.iload_n 0, 1) := by decide +kernel
theorem dX6_codeOf_10 : decode cX6_codeOf 10 = .ok (.bipush 45, 2) := by decide +kernel
theorem dX6_codeOf_12 : decode cX6_codeOf 12 = .ok (.if_icmp .ne 6, 3) := by decide +kernel
theorem dX6_codeOf_15 : decode cX6_codeOf 15 = .ok (.bipush (-7), 2) := by decide +kernel
theorem dX6_codeOf_17 : decode cX6_codeOf 17 = .ok (.ireturn, 1) := by decide +kernel
theorem dX6_codeOf_18 : decode cX6_codeOf 18 = .ok (.iload_n 0, 1) := by decide +kernel
theorem dX6_codeOf_19 : decode cX6_codeOf 19 = .ok (.bipush 42, 2) := by decide +kernel
theorem dX6_codeOf_21 : decode cX6_codeOf 21 = .ok (.if_icmp .ne 8, 3) := by decide +kernel
theorem dX6_codeOf_24 : decode cX6_codeOf 24 = .ok (.bipush (-8), 2) := by decide +kernel
theorem dX6_codeOf_26 : decode cX6_codeOf 26 = .ok (.goto 5, 3) := by decide +kernel
theorem dX6_codeOf_29 : decode cX6_codeOf 29 = .ok (.bipush (-9), 2) := by decide +kernel
theorem dX6_codeOf_31 : decode cX6_codeOf 31 = .ok (.ireturn, 1) := by decide +kernel
theorem hd_Reader_codeOf : y_Reader_codeOf.cls ≠ "java/lang/invoke/MethodHandle" ∧ y_Reader_codeOf.cls ≠ "java/lang/invoke/VarHandle" ∧ (parseMethodDescriptor y_Reader_codeOf.desc).map (fun d => d.parameters.length) = some 1 := by decide +kernel
def f_Reader_codeOf (a0 : Int32) : Option (Int32) :=
  if decide (a0 = 43) then (some (-6)) else (if decide (a0 = 45) then (some (-7)) else (if decide (a0 = 42) then (some (-8)) else (some (-9))))
set_option maxHeartbeats 4000000 in
set_option maxRecDepth 20000 in
theorem C_Reader_codeOf {D : va_G} {ad adK adV : Nat → Nat} {cI cJ : ClassId} {l : Launch} (a0 : Int32) (M0 : Mem) (o : Int32) (h : f_Reader_codeOf a0 = some o) : Ct D ad adK adV cI cJ l y_Reader_codeOf cX6_codeOf 1 (some .int) 0 0 [.int a0] M0 (some (.int o)) M0 := by
  refine x_start (lv := [(0, .int a0)]) (own := "CurrentFarms$Reader") rfl (by decide) (Nat.le_of_ble_eq_true rfl) rfl ?_
  intro p e s m args below meth c Q hQ B
  unfold f_Reader_codeOf at h
  refine x_iload_n (pc := 0) B 0 dX6_codeOf_0 rfl rfl ?_
  refine x_bipush (v := 43) (pc := 1) B dX6_codeOf_1 rfl ?_
  refine x_icmp_ne (tgt := 9) (pc := 3) B dX6_codeOf_3 rfl (fun hc1 => ?_) (fun hc1 => ?_)
  · have h := iff_ hc1 h
    refine x_iload_n (pc := 9) B 0 dX6_codeOf_9 rfl rfl ?_
    refine x_bipush (v := 45) (pc := 10) B dX6_codeOf_10 rfl ?_
    refine x_icmp_ne (tgt := 18) (pc := 12) B dX6_codeOf_12 rfl (fun hc2 => ?_) (fun hc2 => ?_)
    · have h := iff_ hc2 h
      refine x_iload_n (pc := 18) B 0 dX6_codeOf_18 rfl rfl ?_
      refine x_bipush (v := 42) (pc := 19) B dX6_codeOf_19 rfl ?_
      refine x_icmp_ne (tgt := 29) (pc := 21) B dX6_codeOf_21 rfl (fun hc3 => ?_) (fun hc3 => ?_)
      · have h := iff_ hc3 h
        refine x_bipush (v := (-9)) (pc := 29) B dX6_codeOf_29 rfl ?_
        obtain rfl := Option.some.inj h
        exact x_iret (pc := 31) B hQ dX6_codeOf_31
      · have h := ift hc3 h
        refine x_bipush (v := (-8)) (pc := 24) B dX6_codeOf_24 rfl ?_
        refine x_goto (tgt := 31) (pc := 26) B dX6_codeOf_26 rfl ?_
        obtain rfl := Option.some.inj h
        exact x_iret (pc := 31) B hQ dX6_codeOf_31
    · have h := ift hc2 h
      refine x_bipush (v := (-7)) (pc := 15) B dX6_codeOf_15 rfl ?_
      obtain rfl := Option.some.inj h
      exact x_iret (pc := 17) B hQ dX6_codeOf_17
  · have h := ift hc1 h
    refine x_bipush (v := (-6)) (pc := 6) B dX6_codeOf_6 rfl ?_
    obtain rfl := Option.some.inj h
    exact x_iret (pc := 8) B hQ dX6_codeOf_8
-- CurrentFarms$Reader.unload(I)V [77]
abbrev y_Reader_unload_77 : MethodName := ⟨"CurrentFarms$Reader", "unload", "(I)V"⟩
abbrev cX6_unload : ByteArray := prog_8_method_8_code
theorem dX6_unload_0 : decode cX6_unload 0 = .ok (.aload_n 0, 1) := by decide +kernel
theorem dX6_unload_1 : decode cX6_unload 1 = .ok (.getfield 84, 3) := by decide +kernel
theorem dX6_unload_4 : decode cX6_unload 4 = .ok (.iconst 1, 1) := by decide +kernel
theorem dX6_unload_5 : decode cX6_unload 5 = .ok (.isub, 1) := by decide +kernel
theorem dX6_unload_6 : decode cX6_unload 6 = .ok (.istore_n 2, 1) := by decide +kernel
theorem dX6_unload_7 : decode cX6_unload 7 = .ok (.iload_n 2, 1) := by decide +kernel
theorem dX6_unload_8 : decode cX6_unload 8 = .ok (.ifCond .lt 49, 3) := by decide +kernel
theorem dX6_unload_11 : decode cX6_unload 11 = .ok (.aload_n 0, 1) := by decide +kernel
theorem dX6_unload_12 : decode cX6_unload 12 = .ok (.getfield 9, 3) := by decide +kernel
theorem dX6_unload_15 : decode cX6_unload 15 = .ok (.iload_n 2, 1) := by decide +kernel
theorem dX6_unload_16 : decode cX6_unload 16 = .ok (.invokestatic 103, 3) := by decide +kernel
theorem dX6_unload_19 : decode cX6_unload 19 = .ok (.invokestatic 97, 3) := by decide +kernel
theorem dX6_unload_22 : decode cX6_unload 22 = .ok (.iload_n 1, 1) := by decide +kernel
theorem dX6_unload_23 : decode cX6_unload 23 = .ok (.if_icmp .lt 34, 3) := by decide +kernel
theorem dX6_unload_26 : decode cX6_unload 26 = .ok (.aload_n 0, 1) := by decide +kernel
theorem dX6_unload_27 : decode cX6_unload 27 = .ok (.aload_n 0, 1) := by decide +kernel
theorem dX6_unload_28 : decode cX6_unload 28 = .ok (.getfield 9, 3) := by decide +kernel
theorem dX6_unload_31 : decode cX6_unload 31 = .ok (.iload_n 2, 1) := by decide +kernel
theorem dX6_unload_32 : decode cX6_unload 32 = .ok (.invokestatic 103, 3) := by decide +kernel
theorem dX6_unload_35 : decode cX6_unload 35 = .ok (.invokestatic 111, 3) := by decide +kernel
theorem dX6_unload_38 : decode cX6_unload 38 = .ok (.invokevirtual 94, 3) := by decide +kernel
theorem dX6_unload_41 : decode cX6_unload 41 = .ok (.aload_n 0, 1) := by decide +kernel
theorem dX6_unload_42 : decode cX6_unload 42 = .ok (.dup, 1) := by decide +kernel
theorem dX6_unload_43 : decode cX6_unload 43 = .ok (.getfield 84, 3) := by decide +kernel
theorem dX6_unload_46 : decode cX6_unload 46 = .ok (.iconst 1, 1) := by decide +kernel
theorem dX6_unload_47 : decode cX6_unload 47 = .ok (.isub, 1) := by decide +kernel
theorem dX6_unload_48 : decode cX6_unload 48 = .ok (.putfield 84, 3) := by decide +kernel
theorem dX6_unload_51 : decode cX6_unload 51 = .ok (.iinc 2 (-1), 3) := by decide +kernel
theorem dX6_unload_54 : decode cX6_unload 54 = .ok (.goto (-47), 3) := by decide +kernel
theorem dX6_unload_57 : decode cX6_unload 57 = .ok (.return_, 1) := by decide +kernel
theorem hd_Reader_unload_77 : y_Reader_unload_77.cls ≠ "java/lang/invoke/MethodHandle" ∧ y_Reader_unload_77.cls ≠ "java/lang/invoke/VarHandle" ∧ (parseMethodDescriptor y_Reader_unload_77.desc).map (fun d => d.parameters.length) = some 1 := by decide +kernel
def b_Reader_unload_77_7 (a1 : Int32) (y1 : Int32 × Mem) : Option ((Int32 × Mem) ⊕ (Mem)) :=
  if decide (y1.1 < 0) then (some (.inr y1.2)) else ((f_Reader_rank (atv (y1.2.1 78) 120 y1.1)).bind fun q3 => if decide (q3 < a1) then (some (.inr y1.2)) else ((f_Reader_codeOf (atv (y1.2.1 78) 120 y1.1)).bind fun q5 => (f_Reader_emit_77 q5 y1.2).bind fun q6 => jv_ (wI q6 77 2 ((q6.1 77 2) - 1)) fun M7 => some (.inl (y1.1 + (-1), M7))))
def f_Reader_unload_77 (a1 : Int32) (M0 : Mem) : Option (Mem) :=
  (itr (b_Reader_unload_77_7 a1) FU ((M0.1 77 2) - 1, M0)).bind fun q8 => some q8
set_option maxHeartbeats 4000000 in
set_option maxRecDepth 20000 in
theorem C_Reader_unload_77 {D : va_G} {ad adK adV : Nat → Nat} {cI cJ : ClassId} {l : Launch} (a1 : Int32) (M0 : Mem) (o : Mem) (h : f_Reader_unload_77 a1 M0 = some o) : Ct D ad adK adV cI cJ l y_Reader_unload_77 cX6_unload 3 none 2 43 [.ref (ad 77), .int a1] M0 none o := by
  refine x_start (lv := [(0, .ref (ad 77)), (1, .int a1)]) (own := "CurrentFarms$Reader") rfl (by decide) (Nat.le_of_ble_eq_true rfl) rfl ?_
  intro p e s m args below meth c Q hQ B
  unfold f_Reader_unload_77 at h
  refine x_aload_n (pc := 0) B 0 dX6_unload_0 rfl rfl ?_
  refine x_get (T := TX6) (pc := 1) B 2 oi_77 rfl uw_6 (by decide) rfl tw_408 rfl dX6_unload_1 ?_
  refine x_iconst (v := 1) (pc := 4) B dX6_unload_4 rfl ?_
  refine x_isub (pc := 5) B dX6_unload_5 ?_
  refine x_istore_n (lv' := [(2, .int ((M0.1 77 2) - 1)), (0, .ref (ad 77)), (1, .int a1)]) (pc := 6) B dX6_unload_6 rfl (by decide) rfl ?_
  refine x_pick (lv' := [(0, .ref (ad 77)), (1, .int a1), (2, .int ((M0.1 77 2) - 1))]) [1, 2, 0] rfl ?_
  obtain ⟨q8, hq8, h⟩ := bnd h
  refine x_loop (Head := fun (y1 : Int32 × Mem) => XX D ad cI cJ p l e (Rm 2 43) s m args below meth c Q 3 y1.2 7 [(0, .ref (ad 77)), (1, .int a1), (2, .int y1.1)] []) (Ex := fun (q8 : Mem) => XX D ad cI cJ p l e (Rm 2 43) s m args below meth c Q 3 q8 57 [] []) (fun y1 r h hback hexit => ?_) FU _ q8 hq8 ?_
  · unfold b_Reader_unload_77_7 at h
    refine x_iload_n (pc := 7) B 2 dX6_unload_7 rfl rfl ?_
    refine x_if_lt (tgt := 57) (pc := 8) B dX6_unload_8 rfl (fun hc2 => ?_) (fun hc2 => ?_)
    · have h := ift hc2 h
      refine x_pick (lv' := []) [] rfl ?_
      have z := hexit y1.2 (Option.some.inj h).symm
      exact z
    · have h := iff_ hc2 h
      refine x_aload_n (pc := 11) B 0 dX6_unload_11 rfl rfl ?_
      refine x_get (T := TX6) (pc := 12) B 1 oi_77 rfl uw_6 (by decide) rfl tw_407 rfl dX6_unload_12 ?_
      refine x_iload_n (pc := 15) B 2 dX6_unload_15 rfl rfl ?_
      refine x_callSN (rest := []) (st' := [.int (atv (y1.2.1 78) 120 y1.1)]) (pc := 16) B (T_CF_at 78 120 y1.1 ai_78 (by decide) y1.2) tw_575 tw_842 tw_574 tw_98 hd_CF_at ⟨Nat.le_of_ble_eq_true rfl, Nat.le_of_ble_eq_true rfl⟩ rfl rfl (Nat.le_of_ble_eq_true rfl) rfl dX6_unload_16 ?_
      obtain ⟨q3, hq3, h⟩ := bnd h
      refine x_callS (rest := []) (st' := [.int q3]) (pc := 19) B (C_Reader_rank (atv (y1.2.1 78) 120 y1.1) y1.2 _ hq3) tw_915 tw_913 tw_914 tw_107 hd_Reader_rank ⟨Nat.le_of_ble_eq_true rfl, Nat.le_of_ble_eq_true rfl⟩ rfl rfl (Nat.le_of_ble_eq_true rfl) rfl dX6_unload_19 ?_
      refine x_iload_n (pc := 22) B 1 dX6_unload_22 rfl rfl ?_
      refine x_icmp_lt (tgt := 57) (pc := 23) B dX6_unload_23 rfl (fun hc4 => ?_) (fun hc4 => ?_)
      · have h := ift hc4 h
        refine x_pick (lv' := []) [] rfl ?_
        have z := hexit y1.2 (Option.some.inj h).symm
        exact z
      · have h := iff_ hc4 h
        refine x_aload_n (pc := 26) B 0 dX6_unload_26 rfl rfl ?_
        refine x_aload_n (pc := 27) B 0 dX6_unload_27 rfl rfl ?_
        refine x_get (T := TX6) (pc := 28) B 1 oi_77 rfl uw_6 (by decide) rfl tw_407 rfl dX6_unload_28 ?_
        refine x_iload_n (pc := 31) B 2 dX6_unload_31 rfl rfl ?_
        refine x_callSN (rest := [.ref (ad 77)]) (st' := [.int (atv (y1.2.1 78) 120 y1.1), .ref (ad 77)]) (pc := 32) B (T_CF_at 78 120 y1.1 ai_78 (by decide) y1.2) tw_575 tw_842 tw_574 tw_98 hd_CF_at ⟨Nat.le_of_ble_eq_true rfl, Nat.le_of_ble_eq_true rfl⟩ rfl rfl (Nat.le_of_ble_eq_true rfl) rfl dX6_unload_32 ?_
        obtain ⟨q5, hq5, h⟩ := bnd h
        refine x_callS (rest := [.ref (ad 77)]) (st' := [.int q5, .ref (ad 77)]) (pc := 35) B (C_Reader_codeOf (atv (y1.2.1 78) 120 y1.1) y1.2 _ hq5) tw_922 tw_920 tw_921 tw_107 hd_Reader_codeOf ⟨Nat.le_of_ble_eq_true rfl, Nat.le_of_ble_eq_true rfl⟩ rfl rfl (Nat.le_of_ble_eq_true rfl) rfl dX6_unload_35 ?_
        obtain ⟨q6, hq6, h⟩ := bnd h
        refine x_callV (rest := []) (st' := []) (pc := 38) B oi_77 rfl (C_Reader_emit_77 q5 y1.2 _ hq6) tw_912 tw_909 tw_911 tw_21 tw_107 hd_Reader_emit_77 ⟨Nat.le_of_ble_eq_true rfl, Nat.le_of_ble_eq_true rfl⟩ rfl rfl (Nat.le_of_ble_eq_true rfl) rfl dX6_unload_38 ?_
        refine x_aload_n (pc := 41) B 0 dX6_unload_41 rfl rfl ?_
        refine x_dup (pc := 42) B dX6_unload_42 rfl ?_
        refine x_get (T := TX6) (pc := 43) B 2 oi_77 rfl uw_6 (by decide) rfl tw_408 rfl dX6_unload_43 ?_
        refine x_iconst (v := 1) (pc := 46) B dX6_unload_46 rfl ?_
        refine x_isub (pc := 47) B dX6_unload_47 ?_
        refine x_put (T := TX6) (pc := 48) B 2 oi_77 of_77_2 rfl uw_6 tyX6_ok nmX6 (by decide) rfl tw_408 rfl rfl rfl (Nat.le_of_ble_eq_true rfl) dX6_unload_48 ?_
        refine jv_m (P := fun M7 => XX D ad cI cJ p l e (Rm 2 43) s m args below meth c Q 3 M7 51 [(0, .ref (ad 77)), (1, .int a1), (2, .int y1.1)] []) h (fun M7 h => ?_)
        refine x_iinc (k := 2) (v := y1.1 + (-1)) (lv' := [(2, .int (y1.1 + (-1))), (0, .ref (ad 77)), (1, .int a1)]) (pc := 51) B dX6_unload_51 rfl rfl (by decide) rfl ?_
        refine x_goto (tgt := 7) (pc := 54) B dX6_unload_54 rfl ?_
        refine x_pick (lv' := [(0, .ref (ad 77)), (1, .int a1), (2, .int (y1.1 + (-1)))]) [1, 2, 0] rfl ?_
        have z := hback (y1.1 + (-1), M7) (Option.some.inj h).symm
        exact z
  · obtain rfl := Option.some.inj h
    exact x_vret (pc := 57) B hQ dX6_unload_57
-- CurrentFarms$Reader.goesOn(II)Z [77]
abbrev y_Reader_goesOn_77 : MethodName := ⟨"CurrentFarms$Reader", "goesOn", "(II)Z"⟩
abbrev cX6_goesOn : ByteArray := prog_8_method_6_code
theorem dX6_goesOn_0 : decode cX6_goesOn 0 = .ok (.iload_n 2, 1) := by decide +kernel
theorem dX6_goesOn_1 : decode cX6_goesOn 1 = .ok (.bipush 41, 2) := by decide +kernel
theorem dX6_goesOn_3 : decode cX6_goesOn 3 = .ok (.if_icmp .ne 9, 3) := by decide +kernel
theorem dX6_goesOn_6 : decode cX6_goesOn 6 = .ok (.iload_n 1, 1) := by decide +kernel
theorem dX6_goesOn_7 : decode cX6_goesOn 7 = .ok (.bipush 40, 2) := by decide +kernel
theorem dX6_goesOn_9 : decode cX6_goesOn 9 = .ok (.if_icmp .eq 16, 3) := by decide +kernel
theorem dX6_goesOn_12 : decode cX6_goesOn 12 = .ok (.iload_n 2, 1) := by decide +kernel
theorem dX6_goesOn_13 : decode cX6_goesOn 13 = .ok (.bipush 93, 2) := by decide +kernel
theorem dX6_goesOn_15 : decode cX6_goesOn 15 = .ok (.if_icmp .ne 14, 3) := by decide +kernel
theorem dX6_goesOn_18 : decode cX6_goesOn 18 = .ok (.iload_n 1, 1) := by decide +kernel
theorem dX6_goesOn_19 : decode cX6_goesOn 19 = .ok (.sipush 256, 3) := by decide +kernel
theorem dX6_goesOn_22 : decode cX6_goesOn 22 = .ok (.if_icmp .le 7, 3) := by decide +kernel
theorem dX6_goesOn_25 : decode cX6_goesOn 25 = .ok (.iconst 1, 1) := by decide +kernel
theorem dX6_goesOn_26 : decode cX6_goesOn 26 = .ok (.goto 4, 3) := by decide +kernel
theorem dX6_goesOn_29 : decode cX6_goesOn 29 = .ok (.iconst 0, 1) := by decide +kernel
theorem dX6_goesOn_30 : decode cX6_goesOn 30 = .ok (.istore_n 3, 1) := by decide +kernel
theorem dX6_goesOn_31 : decode cX6_goesOn 31 = .ok (.iload_n 2, 1) := by decide +kernel
theorem dX6_goesOn_32 : decode cX6_goesOn 32 = .ok (.bipush 58, 2) := by decide +kernel
theorem dX6_goesOn_34 : decode cX6_goesOn 34 = .ok (.if_icmp .ne 10, 3) := by decide +kernel
theorem dX6_goesOn_37 : decode cX6_goesOn 37 = .ok (.iload_n 1, 1) := by decide +kernel
theorem dX6_goesOn_38 : decode cX6_goesOn 38 = .ok (.sipush 256, 3) := by decide +kernel
theorem dX6_goesOn_41 : decode cX6_goesOn 41 = .ok (.if_icmp .eq 23, 3) := by decide +kernel
theorem dX6_goesOn_44 : decode cX6_goesOn 44 = .ok (.iload_n 2, 1) := by decide +kernel
theorem dX6_goesOn_45 : decode cX6_goesOn 45 = .ok (.bipush 44, 2) := by decide +kernel
theorem dX6_goesOn_47 : decode cX6_goesOn 47 = .ok (.if_icmp .ne 21, 3) := by decide +kernel
theorem dX6_goesOn_50 : decode cX6_goesOn 50 = .ok (.iload_n 1, 1) := by decide +kernel
theorem dX6_goesOn_51 : decode cX6_goesOn 51 = .ok (.sipush 256, 3) := by decide +kernel
theorem dX6_goesOn_54 : decode cX6_goesOn 54 = .ok (.if_icmp .le 14, 3) := by decide +kernel
theorem dX6_goesOn_57 : decode cX6_goesOn 57 = .ok (.iload_n 1, 1) := by decide +kernel
theorem dX6_goesOn_58 : decode cX6_goesOn 58 = .ok (.sipush 260, 3) := by decide +kernel
theorem dX6_goesOn_61 : decode cX6_goesOn 61 = .ok (.if_icmp .ge 7, 3) := by decide +kernel
theorem dX6_goesOn_64 : decode cX6_goesOn 64 = .ok (.iconst 1, 1) := by decide +kernel
theorem dX6_goesOn_65 : decode cX6_goesOn 65 = .ok (.goto 4, 3) := by decide +kernel
theorem dX6_goesOn_68 : decode cX6_goesOn 68 = .ok (.iconst 0, 1) := by decide +kernel
theorem dX6_goesOn_69 : decode cX6_goesOn 69 = .ok (.istore 4, 2) := by decide +kernel
theorem dX6_goesOn_71 : decode cX6_goesOn 71 = .ok (.iload_n 3, 1) := by decide +kernel
theorem dX6_goesOn_72 : decode cX6_goesOn 72 = .ok (.ifCond .ne 10, 3) := by decide +kernel
theorem dX6_goesOn_75 : decode cX6_goesOn 75 = .ok (.iload 4, 2) := by decide +kernel
theorem dX6_goesOn_77 : decode cX6_goesOn 77 = .ok (.ifCond .ne 5, 3) := by decide +kernel
theorem dX6_goesOn_80 : decode cX6_goesOn 80 = .ok (.iconst 0, 1) := by decide +kernel
theorem dX6_goesOn_81 : decode cX6_goesOn 81 = .ok (.ireturn, 1) := by decide +kernel
theorem dX6_goesOn_82 : decode cX6_goesOn 82 = .ok (.aload_n 0, 1) := by decide +kernel
theorem dX6_goesOn_83 : decode cX6_goesOn 83 = .ok (.dup, 1) := by decide +kernel
theorem dX6_goesOn_84 : decode cX6_goesOn 84 = .ok (.getfield 84, 3) := by decide +kernel
theorem dX6_goesOn_87 : decode cX6_goesOn 87 = .ok (.iconst 1, 1) := by decide +kernel
theorem dX6_goesOn_88 : decode cX6_goesOn 88 = .ok (.isub, 1) := by decide +kernel
theorem dX6_goesOn_89 : decode cX6_goesOn 89 = .ok (.putfield 84, 3) := by decide +kernel
theorem dX6_goesOn_92 : decode cX6_goesOn 92 = .ok (.iload_n 2, 1) := by decide +kernel
theorem dX6_goesOn_93 : decode cX6_goesOn 93 = .ok (.bipush 93, 2) := by decide +kernel
theorem dX6_goesOn_95 : decode cX6_goesOn 95 = .ok (.if_icmp .ne 15, 3) := by decide +kernel
theorem dX6_goesOn_98 : decode cX6_goesOn 98 = .ok (.aload_n 0, 1) := by decide +kernel
theorem dX6_goesOn_99 : decode cX6_goesOn 99 = .ok (.bipush (-10), 2) := by decide +kernel
theorem dX6_goesOn_101 : decode cX6_goesOn 101 = .ok (.iload_n 1, 1) := by decide +kernel
theorem dX6_goesOn_102 : decode cX6_goesOn 102 = .ok (.sipush 256, 3) := by decide +kernel
theorem dX6_goesOn_105 : decode cX6_goesOn 105 = .ok (.isub, 1) := by decide +kernel
theorem dX6_goesOn_106 : decode cX6_goesOn 106 = .ok (.isub, 1) := by decide +kernel
theorem dX6_goesOn_107 : decode cX6_goesOn 107 = .ok (.invokevirtual 94, 3) := by decide +kernel
theorem dX6_goesOn_110 : decode cX6_goesOn 110 = .ok (.iload 4, 2) := by decide +kernel
theorem dX6_goesOn_112 : decode cX6_goesOn 112 = .ok (.ifCond .eq 13, 3) := by decide +kernel
theorem dX6_goesOn_115 : decode cX6_goesOn 115 = .ok (.aload_n 0, 1) := by decide +kernel
theorem dX6_goesOn_116 : decode cX6_goesOn 116 = .ok (.iload_n 1, 1) := by decide +kernel
theorem dX6_goesOn_117 : decode cX6_goesOn 117 = .ok (.iconst 1, 1) := by decide +kernel
theorem dX6_goesOn_118 : decode cX6_goesOn 118 = .ok (.iadd, 1) := by decide +kernel
theorem dX6_goesOn_119 : decode cX6_goesOn 119 = .ok (.invokevirtual 87, 3) := by decide +kernel
theorem dX6_goesOn_122 : decode cX6_goesOn 122 = .ok (.goto 13, 3) := by decide +kernel
theorem dX6_goesOn_125 : decode cX6_goesOn 125 = .ok (.aload_n 0, 1) := by decide +kernel
theorem dX6_goesOn_126 : decode cX6_goesOn 126 = .ok (.dup, 1) := by decide +kernel
theorem dX6_goesOn_127 : decode cX6_goesOn 127 = .ok (.getfield 32, 3) := by decide +kernel
theorem dX6_goesOn_130 : decode cX6_goesOn 130 = .ok (.iconst 1, 1) := by decide +kernel
theorem dX6_goesOn_131 : decode cX6_goesOn 131 = .ok (.iadd, 1) := by decide +kernel
theorem dX6_goesOn_132 : decode cX6_goesOn 132 = .ok (.putfield 32, 3) := by decide +kernel
theorem dX6_goesOn_135 : decode cX6_goesOn 135 = .ok (.iconst 1, 1) := by decide +kernel
theorem dX6_goesOn_136 : decode cX6_goesOn 136 = .ok (.ireturn, 1) := by decide +kernel
theorem hd_Reader_goesOn_77 : y_Reader_goesOn_77.cls ≠ "java/lang/invoke/MethodHandle" ∧ y_Reader_goesOn_77.cls ≠ "java/lang/invoke/VarHandle" ∧ (parseMethodDescriptor y_Reader_goesOn_77.desc).map (fun d => d.parameters.length) = some 2 := by decide +kernel
def f_Reader_goesOn_77 (a1 : Int32) (a2 : Int32) (M0 : Mem) : Option (Bool × Mem) :=
  jv_ ((if (decide (a2 = 41)) then ((decide (a1 = 40)) || ((decide (a2 = 93)) && (!(decide (a1 ≤ 256))))) else ((decide (a2 = 93)) && (!(decide (a1 ≤ 256))))) : Bool) fun u3 => jv_ ((if (decide (a2 = 58)) then ((decide (a1 = 256)) || ((decide (a2 = 44)) && (!(decide (a1 ≤ 256)) && (decide (a1 < 260))))) else ((decide (a2 = 44)) && (!(decide (a1 ≤ 256)) && (decide (a1 < 260))))) : Bool) fun u6 => jn_ (fun (u8 : Unit) => jv_ (wI M0 77 2 ((M0.1 77 2) - 1)) fun M9 => jn_ (fun (u12 : Mem) => if u6 then ((f_Reader_await_77 (a1 + 1) u12).bind fun q14 => some (true, q14)) else (jv_ (wI u12 77 3 ((u12.1 77 3) + 1)) fun M15 => some (true, M15))) fun k16 => if decide (a2 = 93) then ((f_Reader_emit_77 ((-10) - (a1 - 256)) M9).bind fun q17 => k16 q17) else (k16 M9)) fun k18 => if u3 then (k18 ()) else (if u6 then (k18 ()) else (some (false, M0)))
set_option maxHeartbeats 4000000 in
set_option maxRecDepth 20000 in
theorem C_Reader_goesOn_77 {D : va_G} {ad adK adV : Nat → Nat} {cI cJ : ClassId} {l : Launch} (a1 : Int32) (a2 : Int32) (M0 : Mem) (o : Bool × Mem) (h : f_Reader_goesOn_77 a1 a2 M0 = some o) : Ct D ad adK adV cI cJ l y_Reader_goesOn_77 cX6_goesOn 5 (some .boolean) 2 43 [.ref (ad 77), .int a1, .int a2] M0 (some (.int (bI o.1))) o.2 := by
  refine x_start (lv := [(0, .ref (ad 77)), (1, .int a1), (2, .int a2)]) (own := "CurrentFarms$Reader") rfl (by decide) (Nat.le_of_ble_eq_true rfl) rfl ?_
  intro p e s m args below meth c Q hQ B
  unfold f_Reader_goesOn_77 at h
  refine x_iload_n (pc := 0) B 2 dX6_goesOn_0 rfl rfl ?_
  refine x_bipush (v := 41) (pc := 1) B dX6_goesOn_1 rfl ?_
  refine jv_k h (fun (u3 : Bool) => XX D ad cI cJ p l e (Rm 2 43) s m args below meth c Q 5 M0 30 [(0, .ref (ad 77)), (1, .int a1), (2, .int a2)] [.int (bI u3)]) (fun u3 h => ?_) (fun JJ => ?_)
  · refine x_istore_n (lv' := [(3, .int (bI u3)), (0, .ref (ad 77)), (1, .int a1), (2, .int a2)]) (pc := 30) B dX6_goesOn_30 rfl (by decide) rfl ?_
    refine x_iload_n (pc := 31) B 3 dX6_goesOn_31 rfl rfl ?_
    refine x_bipush (v := 58) (pc := 32) B dX6_goesOn_32 rfl ?_
    refine jv_k h (fun (u6 : Bool) => XX D ad cI cJ p l e (Rm 2 43) s m args below meth c Q 5 M0 69 [(0, .ref (ad 77)), (1, .int a1), (2, .int a2), (3, .int (bI u3))] [.int (bI u6)]) (fun u6 h => ?_) (fun JJ => ?_)
    · refine x_istore (lv' := [(4, .int (bI u6)), (0, .ref (ad 77)), (1, .int a1), (2, .int a2), (3, .int (bI u3))]) (pc := 69) B dX6_goesOn_69 (by decide) rfl ?_
      refine x_iload_n (pc := 71) B 4 dX6_goesOn_71 rfl rfl ?_
      refine jn_k h (fun (u8 : Unit) => XX D ad cI cJ p l e (Rm 2 43) s m args below meth c Q 5 M0 82 [(0, .ref (ad 77)), (1, .int a1), (2, .int a2), (4, .int (bI u6))] []) (fun u8 h => ?_) (fun k18 h JJ => ?_)
      · refine x_aload_n (pc := 82) B 0 dX6_goesOn_82 rfl rfl ?_
        refine x_dup (pc := 83) B dX6_goesOn_83 rfl ?_
        refine x_get (T := TX6) (pc := 84) B 2 oi_77 rfl uw_6 (by decide) rfl tw_408 rfl dX6_goesOn_84 ?_
        refine x_iconst (v := 1) (pc := 87) B dX6_goesOn_87 rfl ?_
        refine x_isub (pc := 88) B dX6_goesOn_88 ?_
        refine x_put (T := TX6) (pc := 89) B 2 oi_77 of_77_2 rfl uw_6 tyX6_ok nmX6 (by decide) rfl tw_408 rfl rfl rfl (Nat.le_of_ble_eq_true rfl) dX6_goesOn_89 ?_
        refine jv_m (P := fun M9 => XX D ad cI cJ p l e (Rm 2 43) s m args below meth c Q 5 M9 92 [(0, .ref (ad 77)), (1, .int a1), (2, .int a2), (4, .int (bI u6))] []) h (fun M9 h => ?_)
        refine x_iload_n (pc := 92) B 2 dX6_goesOn_92 rfl rfl ?_
        refine x_bipush (v := 93) (pc := 93) B dX6_goesOn_93 rfl ?_
        refine jn_k h (fun (u12 : Mem) => XX D ad cI cJ p l e (Rm 2 43) s m args below meth c Q 5 u12 110 [(0, .ref (ad 77)), (1, .int a1), (4, .int (bI u6))] []) (fun u12 h => ?_) (fun k16 h JJ => ?_)
        · refine x_iload (pc := 110) B 2 dX6_goesOn_110 rfl ?_
          refine x_if_eq_b (tgt := 125) (pc := 112) B dX6_goesOn_112 rfl (fun hc13 => ?_) (fun hc13 => ?_)
          · have h := iff_ hc13 h
            refine x_aload_n (pc := 125) B 0 dX6_goesOn_125 rfl rfl ?_
            refine x_dup (pc := 126) B dX6_goesOn_126 rfl ?_
            refine x_get (T := TX6) (pc := 127) B 3 oi_77 rfl uw_6 (by decide) rfl tw_409 rfl dX6_goesOn_127 ?_
            refine x_iconst (v := 1) (pc := 130) B dX6_goesOn_130 rfl ?_
            refine x_iadd (pc := 131) B dX6_goesOn_131 ?_
            refine x_put (T := TX6) (pc := 132) B 3 oi_77 of_77_3 rfl uw_6 tyX6_ok nmX6 (by decide) rfl tw_409 rfl rfl rfl (Nat.le_of_ble_eq_true rfl) dX6_goesOn_132 ?_
            refine jv_m (P := fun M15 => XX D ad cI cJ p l e (Rm 2 43) s m args below meth c Q 5 M15 135 [(0, .ref (ad 77)), (1, .int a1), (4, .int (bI u6))] []) h (fun M15 h => ?_)
            refine x_iconst (v := 1) (pc := 135) B dX6_goesOn_135 rfl ?_
            obtain rfl := Option.some.inj h
            exact x_zret (v := true) (pc := 136) B hQ dX6_goesOn_136
          · have h := ift hc13 h
            refine x_aload_n (pc := 115) B 0 dX6_goesOn_115 rfl rfl ?_
            refine x_iload_n (pc := 116) B 1 dX6_goesOn_116 rfl rfl ?_
            refine x_iconst (v := 1) (pc := 117) B dX6_goesOn_117 rfl ?_
            refine x_iadd (pc := 118) B dX6_goesOn_118 ?_
            obtain ⟨q14, hq14, h⟩ := bnd h
            refine x_callV (rest := []) (st' := []) (pc := 119) B oi_77 rfl (C_Reader_await_77 (a1 + 1) u12 _ hq14) tw_903 tw_900 tw_902 tw_19 tw_107 hd_Reader_await_77 ⟨Nat.le_of_ble_eq_true rfl, Nat.le_of_ble_eq_true rfl⟩ rfl rfl (Nat.le_of_ble_eq_true rfl) rfl dX6_goesOn_119 ?_
            refine x_goto (tgt := 135) (pc := 122) B dX6_goesOn_122 rfl ?_
            refine x_iconst (v := 1) (pc := 135) B dX6_goesOn_135 rfl ?_
            obtain rfl := Option.some.inj h
            exact x_zret (v := true) (pc := 136) B hQ dX6_goesOn_136
        · refine x_icmp_ne (tgt := 110) (pc := 95) B dX6_goesOn_95 rfl (fun hc10 => ?_) (fun hc10 => ?_)
          · have h := iff_ hc10 h
            refine x_pick (lv' := [(0, .ref (ad 77)), (1, .int a1), (4, .int (bI u6))]) [0, 1, 3] rfl ?_
            have z := JJ M9 h
            exact z
          · have h := ift hc10 h
            refine x_aload_n (pc := 98) B 0 dX6_goesOn_98 rfl rfl ?_
            refine x_bipush (v := (-10)) (pc := 99) B dX6_goesOn_99 rfl ?_
            refine x_iload_n (pc := 101) B 1 dX6_goesOn_101 rfl rfl ?_
            refine x_sipush (v := 256) (pc := 102) B dX6_goesOn_102 rfl ?_
            refine x_isub (pc := 105) B dX6_goesOn_105 ?_
            refine x_isub (pc := 106) B dX6_goesOn_106 ?_
            obtain ⟨q17, hq17, h⟩ := bnd h
            refine x_callV (rest := []) (st' := []) (pc := 107) B oi_77 rfl (C_Reader_emit_77 ((-10) - (a1 - 256)) M9 _ hq17) tw_912 tw_909 tw_911 tw_21 tw_107 hd_Reader_emit_77 ⟨Nat.le_of_ble_eq_true rfl, Nat.le_of_ble_eq_true rfl⟩ rfl rfl (Nat.le_of_ble_eq_true rfl) rfl dX6_goesOn_107 ?_
            refine x_pick (lv' := [(0, .ref (ad 77)), (1, .int a1), (4, .int (bI u6))]) [0, 1, 3] rfl ?_
            have z := JJ q17 h
            exact z
      · refine x_if_ne_b (tgt := 82) (pc := 72) B dX6_goesOn_72 rfl (fun hc7 => ?_) (fun hc7 => ?_)
        · have h := ift hc7 h
          refine x_pick (lv' := [(0, .ref (ad 77)), (1, .int a1), (2, .int a2), (4, .int (bI u6))]) [1, 2, 3, 0] rfl ?_
          have z := JJ () h
          exact z
        · have h := iff_ hc7 h
          refine x_iload (pc := 75) B 0 dX6_goesOn_75 rfl ?_
          refine x_if_ne_b (tgt := 82) (pc := 77) B dX6_goesOn_77 rfl (fun hc19 => ?_) (fun hc19 => ?_)
          · have h := ift hc19 h
            refine x_pick (lv' := [(0, .ref (ad 77)), (1, .int a1), (2, .int a2), (4, .int (bI u6))]) [1, 2, 3, 0] rfl ?_
            have z := JJ () h
            exact z
          · have h := iff_ hc19 h
            refine x_iconst (v := 0) (pc := 80) B dX6_goesOn_80 rfl ?_
            obtain rfl := Option.some.inj h
            exact x_zret (v := false) (pc := 81) B hQ dX6_goesOn_81
    · refine x_icmp_ne (tgt := 44) (pc := 34) B dX6_goesOn_34 rfl (fun hc4 => ?_) (fun hc4 => ?_)
      · refine x_iload_n (pc := 44) B 3 dX6_goesOn_44 rfl rfl ?_
        refine x_bipush (v := 44) (pc := 45) B dX6_goesOn_45 rfl ?_
        refine x_icmp_ne (tgt := 68) (pc := 47) B dX6_goesOn_47 rfl (fun hc24 => ?_) (fun hc24 => ?_)
        · refine x_iconst (v := 0) (pc := 68) B dX6_goesOn_68 rfl ?_
          refine x_pick (lv' := [(0, .ref (ad 77)), (1, .int a1), (2, .int a2), (3, .int (bI u3))]) [1, 2, 3, 0] rfl ?_
          have z := JJ false ((zif_f hc4).trans (zand_f hc24))
          exact z
        · refine x_iload_n (pc := 50) B 2 dX6_goesOn_50 rfl rfl ?_
          refine x_sipush (v := 256) (pc := 51) B dX6_goesOn_51 rfl ?_
          refine x_icmp_le (tgt := 68) (pc := 54) B dX6_goesOn_54 rfl (fun hc25 => ?_) (fun hc25 => ?_)
          · refine x_iconst (v := 0) (pc := 68) B dX6_goesOn_68 rfl ?_
            refine x_pick (lv' := [(0, .ref (ad 77)), (1, .int a1), (2, .int a2), (3, .int (bI u3))]) [1, 2, 3, 0] rfl ?_
            have z := JJ false ((zif_f hc4).trans ((zand_t hc24).trans (znand_t hc25)))
            exact z
          · refine x_iload_n (pc := 57) B 2 dX6_goesOn_57 rfl rfl ?_
            refine x_sipush (v := 260) (pc := 58) B dX6_goesOn_58 rfl ?_
            refine x_icmp_ge (tgt := 68) (pc := 61) B dX6_goesOn_61 rfl (fun hc26 => ?_) (fun hc26 => ?_)
            · refine x_iconst (v := 0) (pc := 68) B dX6_goesOn_68 rfl ?_
              refine x_pick (lv' := [(0, .ref (ad 77)), (1, .int a1), (2, .int a2), (3, .int (bI u3))]) [1, 2, 3, 0] rfl ?_
              have z := JJ false ((zif_f hc4).trans ((zand_t hc24).trans ((znand_f hc25).trans hc26)))
              exact z
            · refine x_iconst (v := 1) (pc := 64) B dX6_goesOn_64 rfl ?_
              refine x_goto (tgt := 69) (pc := 65) B dX6_goesOn_65 rfl ?_
              refine x_pick (lv' := [(0, .ref (ad 77)), (1, .int a1), (2, .int a2), (3, .int (bI u3))]) [1, 2, 3, 0] rfl ?_
              have z := JJ true ((zif_f hc4).trans ((zand_t hc24).trans ((znand_f hc25).trans hc26)))
              exact z
      · refine x_iload_n (pc := 37) B 2 dX6_goesOn_37 rfl rfl ?_
        refine x_sipush (v := 256) (pc := 38) B dX6_goesOn_38 rfl ?_
        refine x_icmp_eq (tgt := 64) (pc := 41) B dX6_goesOn_41 rfl (fun hc20 => ?_) (fun hc20 => ?_)
        · refine x_iconst (v := 1) (pc := 64) B dX6_goesOn_64 rfl ?_
          refine x_goto (tgt := 69) (pc := 65) B dX6_goesOn_65 rfl ?_
          refine x_pick (lv' := [(0, .ref (ad 77)), (1, .int a1), (2, .int a2), (3, .int (bI u3))]) [1, 2, 3, 0] rfl ?_
          have z := JJ true ((zif_t hc4).trans (zor_t hc20))
          exact z
        · refine x_iload_n (pc := 44) B 3 dX6_goesOn_44 rfl rfl ?_
          refine x_bipush (v := 44) (pc := 45) B dX6_goesOn_45 rfl ?_
          refine x_icmp_ne (tgt := 68) (pc := 47) B dX6_goesOn_47 rfl (fun hc21 => ?_) (fun hc21 => ?_)
          · refine x_iconst (v := 0) (pc := 68) B dX6_goesOn_68 rfl ?_
            refine x_pick (lv' := [(0, .ref (ad 77)), (1, .int a1), (2, .int a2), (3, .int (bI u3))]) [1, 2, 3, 0] rfl ?_
            have z := JJ false ((zif_t hc4).trans ((zor_f hc20).trans (zand_f hc21)))
            exact z
          · refine x_iload_n (pc := 50) B 2 dX6_goesOn_50 rfl rfl ?_
            refine x_sipush (v := 256) (pc := 51) B dX6_goesOn_51 rfl ?_
            refine x_icmp_le (tgt := 68) (pc := 54) B dX6_goesOn_54 rfl (fun hc22 => ?_) (fun hc22 => ?_)
            · refine x_iconst (v := 0) (pc := 68) B dX6_goesOn_68 rfl ?_
              refine x_pick (lv' := [(0, .ref (ad 77)), (1, .int a1), (2, .int a2), (3, .int (bI u3))]) [1, 2, 3, 0] rfl ?_
              have z := JJ false ((zif_t hc4).trans ((zor_f hc20).trans ((zand_t hc21).trans (znand_t hc22))))
              exact z
            · refine x_iload_n (pc := 57) B 2 dX6_goesOn_57 rfl rfl ?_
              refine x_sipush (v := 260) (pc := 58) B dX6_goesOn_58 rfl ?_
              refine x_icmp_ge (tgt := 68) (pc := 61) B dX6_goesOn_61 rfl (fun hc23 => ?_) (fun hc23 => ?_)
              · refine x_iconst (v := 0) (pc := 68) B dX6_goesOn_68 rfl ?_
                refine x_pick (lv' := [(0, .ref (ad 77)), (1, .int a1), (2, .int a2), (3, .int (bI u3))]) [1, 2, 3, 0] rfl ?_
                have z := JJ false ((zif_t hc4).trans ((zor_f hc20).trans ((zand_t hc21).trans ((znand_f hc22).trans hc23))))
                exact z
              · refine x_iconst (v := 1) (pc := 64) B dX6_goesOn_64 rfl ?_
                refine x_goto (tgt := 69) (pc := 65) B dX6_goesOn_65 rfl ?_
                refine x_pick (lv' := [(0, .ref (ad 77)), (1, .int a1), (2, .int a2), (3, .int (bI u3))]) [1, 2, 3, 0] rfl ?_
                have z := JJ true ((zif_t hc4).trans ((zor_f hc20).trans ((zand_t hc21).trans ((znand_f hc22).trans hc23))))
                exact z
  · refine x_icmp_ne (tgt := 12) (pc := 3) B dX6_goesOn_3 rfl (fun hc1 => ?_) (fun hc1 => ?_)
    · refine x_iload_n (pc := 12) B 2 dX6_goesOn_12 rfl rfl ?_
      refine x_bipush (v := 93) (pc := 13) B dX6_goesOn_13 rfl ?_
      refine x_icmp_ne (tgt := 29) (pc := 15) B dX6_goesOn_15 rfl (fun hc30 => ?_) (fun hc30 => ?_)
      · refine x_iconst (v := 0) (pc := 29) B dX6_goesOn_29 rfl ?_
        have z := JJ false ((zif_f hc1).trans (zand_f hc30))
        exact z
      · refine x_iload_n (pc := 18) B 1 dX6_goesOn_18 rfl rfl ?_
        refine x_sipush (v := 256) (pc := 19) B dX6_goesOn_19 rfl ?_
        refine x_icmp_le (tgt := 29) (pc := 22) B dX6_goesOn_22 rfl (fun hc31 => ?_) (fun hc31 => ?_)
        · refine x_iconst (v := 0) (pc := 29) B dX6_goesOn_29 rfl ?_
          have z := JJ false ((zif_f hc1).trans ((zand_t hc30).trans (znid_t hc31)))
          exact z
        · refine x_iconst (v := 1) (pc := 25) B dX6_goesOn_25 rfl ?_
          refine x_goto (tgt := 30) (pc := 26) B dX6_goesOn_26 rfl ?_
          have z := JJ true ((zif_f hc1).trans ((zand_t hc30).trans (znid_f hc31)))
          exact z
    · refine x_iload_n (pc := 6) B 1 dX6_goesOn_6 rfl rfl ?_
      refine x_bipush (v := 40) (pc := 7) B dX6_goesOn_7 rfl ?_
      refine x_icmp_eq (tgt := 25) (pc := 9) B dX6_goesOn_9 rfl (fun hc27 => ?_) (fun hc27 => ?_)
      · refine x_iconst (v := 1) (pc := 25) B dX6_goesOn_25 rfl ?_
        refine x_goto (tgt := 30) (pc := 26) B dX6_goesOn_26 rfl ?_
        have z := JJ true ((zif_t hc1).trans (zor_t hc27))
        exact z
      · refine x_iload_n (pc := 12) B 2 dX6_goesOn_12 rfl rfl ?_
        refine x_bipush (v := 93) (pc := 13) B dX6_goesOn_13 rfl ?_
        refine x_icmp_ne (tgt := 29) (pc := 15) B dX6_goesOn_15 rfl (fun hc28 => ?_) (fun hc28 => ?_)
        · refine x_iconst (v := 0) (pc := 29) B dX6_goesOn_29 rfl ?_
          have z := JJ false ((zif_t hc1).trans ((zor_f hc27).trans (zand_f hc28)))
          exact z
        · refine x_iload_n (pc := 18) B 1 dX6_goesOn_18 rfl rfl ?_
          refine x_sipush (v := 256) (pc := 19) B dX6_goesOn_19 rfl ?_
          refine x_icmp_le (tgt := 29) (pc := 22) B dX6_goesOn_22 rfl (fun hc29 => ?_) (fun hc29 => ?_)
          · refine x_iconst (v := 0) (pc := 29) B dX6_goesOn_29 rfl ?_
            have z := JJ false ((zif_t hc1).trans ((zor_f hc27).trans ((zand_t hc28).trans (znid_t hc29))))
            exact z
          · refine x_iconst (v := 1) (pc := 25) B dX6_goesOn_25 rfl ?_
            refine x_goto (tgt := 30) (pc := 26) B dX6_goesOn_26 rfl ?_
            have z := JJ true ((zif_t hc1).trans ((zor_f hc27).trans ((zand_t hc28).trans (znid_f hc29))))
            exact z
-- CurrentFarms$Reader.sum()Z [77]
abbrev y_Reader_sum_77 : MethodName := ⟨"CurrentFarms$Reader", "sum", "()Z"⟩
abbrev cX6_sum : ByteArray := prog_8_method_5_code
theorem dX6_sum_0 : decode cX6_sum 0 = .ok (.aload_n 0, 1) := by decide +kernel
theorem dX6_sum_1 : decode cX6_sum 1 = .ok (.iconst 0, 1) := by decide +kernel
theorem dX6_sum_2 : decode cX6_sum 2 = .ok (.putfield 84, 3) := by decide +kernel
theorem dX6_sum_5 : decode cX6_sum 5 = .ok (.iconst 1, 1) := by decide +kernel
theorem dX6_sum_6 : decode cX6_sum 6 = .ok (.istore_n 1, 1) := by decide +kernel
theorem dX6_sum_7 : decode cX6_sum 7 = .ok (.iconst 0, 1) := by decide +kernel
theorem dX6_sum_8 : decode cX6_sum 8 = .ok (.istore_n 2, 1) := by decide +kernel
theorem dX6_sum_9 : decode cX6_sum 9 = .ok (.iload_n 2, 1) := by decide +kernel
theorem dX6_sum_10 : decode cX6_sum 10 = .ok (.bipush 120, 2) := by decide +kernel
theorem dX6_sum_12 : decode cX6_sum 12 = .ok (.if_icmp .gt 179, 3) := by decide +kernel
theorem dX6_sum_15 : decode cX6_sum 15 = .ok (.aload_n 0, 1) := by decide +kernel
theorem dX6_sum_16 : decode cX6_sum 16 = .ok (.invokevirtual 52, 3) := by decide +kernel
theorem dX6_sum_19 : decode cX6_sum 19 = .ok (.istore_n 3, 1) := by decide +kernel
theorem dX6_sum_20 : decode cX6_sum 20 = .ok (.iload_n 1, 1) := by decide +kernel
theorem dX6_sum_21 : decode cX6_sum 21 = .ok (.ifCond .eq 80, 3) := by decide +kernel
theorem dX6_sum_24 : decode cX6_sum 24 = .ok (.iload_n 3, 1) := by decide +kernel
theorem dX6_sum_25 : decode cX6_sum 25 = .ok (.bipush 40, 2) := by decide +kernel
theorem dX6_sum_27 : decode cX6_sum 27 = .ok (.if_icmp .eq 9, 3) := by decide +kernel
theorem dX6_sum_30 : decode cX6_sum 30 = .ok (.iload_n 3, 1) := by decide +kernel
theorem dX6_sum_31 : decode cX6_sum 31 = .ok (.bipush 91, 2) := by decide +kernel
theorem dX6_sum_33 : decode cX6_sum 33 = .ok (.if_icmp .ne 7, 3) := by decide +kernel
theorem dX6_sum_36 : decode cX6_sum 36 = .ok (.iconst 1, 1) := by decide +kernel
theorem dX6_sum_37 : decode cX6_sum 37 = .ok (.goto 4, 3) := by decide +kernel
theorem dX6_sum_40 : decode cX6_sum 40 = .ok (.iconst 0, 1) := by decide +kernel
theorem dX6_sum_41 : decode cX6_sum 41 = .ok (.istore_n 1, 1) := by decide +kernel
theorem dX6_sum_42 : decode cX6_sum 42 = .ok (.iload_n 1, 1) := by decide +kernel
theorem dX6_sum_43 : decode cX6_sum 43 = .ok (.ifCond .eq 23, 3) := by decide +kernel
theorem dX6_sum_46 : decode cX6_sum 46 = .ok (.aload_n 0, 1) := by decide +kernel
theorem dX6_sum_47 : decode cX6_sum 47 = .ok (.iload_n 3, 1) := by decide +kernel
theorem dX6_sum_48 : decode cX6_sum 48 = .ok (.bipush 91, 2) := by decide +kernel
theorem dX6_sum_50 : decode cX6_sum 50 = .ok (.if_icmp .ne 9, 3) := by decide +kernel
theorem dX6_sum_53 : decode cX6_sum 53 = .ok (.sipush 256, 3) := by decide +kernel
theorem dX6_sum_56 : decode cX6_sum 56 = .ok (.goto 4, 3) := by decide +kernel
theorem dX6_sum_59 : decode cX6_sum 59 = .ok (.iload_n 3, 1) := by decide +kernel
theorem dX6_sum_60 : decode cX6_sum 60 = .ok (.invokevirtual 87, 3) := by decide +kernel
theorem dX6_sum_63 : decode cX6_sum 63 = .ok (.goto 122, 3) := by decide +kernel
theorem dX6_sum_66 : decode cX6_sum 66 = .ok (.aload_n 0, 1) := by decide +kernel
theorem dX6_sum_67 : decode cX6_sum 67 = .ok (.iload_n 3, 1) := by decide +kernel
theorem dX6_sum_68 : decode cX6_sum 68 = .ok (.invokevirtual 91, 3) := by decide +kernel
theorem dX6_sum_71 : decode cX6_sum 71 = .ok (.ifCond .ne 114, 3) := by decide +kernel
theorem dX6_sum_74 : decode cX6_sum 74 = .ok (.aload_n 0, 1) := by decide +kernel
theorem dX6_sum_75 : decode cX6_sum 75 = .ok (.iconst 5, 1) := by decide +kernel
theorem dX6_sum_76 : decode cX6_sum 76 = .ok (.bipush 6, 2) := by decide +kernel
theorem dX6_sum_78 : decode cX6_sum 78 = .ok (.invokevirtual 56, 3) := by decide +kernel
theorem dX6_sum_81 : decode cX6_sum 81 = .ok (.istore 4, 2) := by decide +kernel
theorem dX6_sum_83 : decode cX6_sum 83 = .ok (.iload 4, 2) := by decide +kernel
theorem dX6_sum_85 : decode cX6_sum 85 = .ok (.ifCond .ge 5, 3) := by decide +kernel
theorem dX6_sum_88 : decode cX6_sum 88 = .ok (.iconst 0, 1) := by decide +kernel
theorem dX6_sum_89 : decode cX6_sum 89 = .ok (.ireturn, 1) := by decide +kernel
theorem dX6_sum_90 : decode cX6_sum 90 = .ok (.aload_n 0, 1) := by decide +kernel
theorem dX6_sum_91 : decode cX6_sum 91 = .ok (.iconst (-1), 1) := by decide +kernel
theorem dX6_sum_92 : decode cX6_sum 92 = .ok (.iload 4, 2) := by decide +kernel
theorem dX6_sum_94 : decode cX6_sum 94 = .ok (.isub, 1) := by decide +kernel
theorem dX6_sum_95 : decode cX6_sum 95 = .ok (.invokevirtual 94, 3) := by decide +kernel
theorem dX6_sum_98 : decode cX6_sum 98 = .ok (.goto 87, 3) := by decide +kernel
theorem dX6_sum_101 : decode cX6_sum 101 = .ok (.iload_n 3, 1) := by decide +kernel
theorem dX6_sum_102 : decode cX6_sum 102 = .ok (.invokestatic 97, 3) := by decide +kernel
theorem dX6_sum_105 : decode cX6_sum 105 = .ok (.ifCond .le 21, 3) := by decide +kernel
theorem dX6_sum_108 : decode cX6_sum 108 = .ok (.aload_n 0, 1) := by decide +kernel
theorem dX6_sum_109 : decode cX6_sum 109 = .ok (.iload_n 3, 1) := by decide +kernel
theorem dX6_sum_110 : decode cX6_sum 110 = .ok (.invokestatic 97, 3) := by decide +kernel
theorem dX6_sum_113 : decode cX6_sum 113 = .ok (.invokevirtual 100, 3) := by decide +kernel
theorem dX6_sum_116 : decode cX6_sum 116 = .ok (.aload_n 0, 1) := by decide +kernel
theorem dX6_sum_117 : decode cX6_sum 117 = .ok (.iload_n 3, 1) := by decide +kernel
theorem dX6_sum_118 : decode cX6_sum 118 = .ok (.invokevirtual 87, 3) := by decide +kernel
theorem dX6_sum_121 : decode cX6_sum 121 = .ok (.iconst 1, 1) := by decide +kernel
theorem dX6_sum_122 : decode cX6_sum 122 = .ok (.istore_n 1, 1) := by decide +kernel
theorem dX6_sum_123 : decode cX6_sum 123 = .ok (.goto 62, 3) := by decide +kernel
theorem dX6_sum_126 : decode cX6_sum 126 = .ok (.aload_n 0, 1) := by decide +kernel
theorem dX6_sum_127 : decode cX6_sum 127 = .ok (.iconst 1, 1) := by decide +kernel
theorem dX6_sum_128 : decode cX6_sum 128 = .ok (.invokevirtual 100, 3) := by decide +kernel
theorem dX6_sum_131 : decode cX6_sum 131 = .ok (.aload_n 0, 1) := by decide +kernel
theorem dX6_sum_132 : decode cX6_sum 132 = .ok (.getfield 84, 3) := by decide +kernel
theorem dX6_sum_135 : decode cX6_sum 135 = .ok (.ifCond .ne 5, 3) := by decide +kernel
theorem dX6_sum_138 : decode cX6_sum 138 = .ok (.iconst 1, 1) := by decide +kernel
theorem dX6_sum_139 : decode cX6_sum 139 = .ok (.ireturn, 1) := by decide +kernel
theorem dX6_sum_140 : decode cX6_sum 140 = .ok (.aload_n 0, 1) := by decide +kernel
theorem dX6_sum_141 : decode cX6_sum 141 = .ok (.getfield 9, 3) := by decide +kernel
theorem dX6_sum_144 : decode cX6_sum 144 = .ok (.aload_n 0, 1) := by decide +kernel
theorem dX6_sum_145 : decode cX6_sum 145 = .ok (.getfield 84, 3) := by decide +kernel
theorem dX6_sum_148 : decode cX6_sum 148 = .ok (.iconst 1, 1) := by decide +kernel
theorem dX6_sum_149 : decode cX6_sum 149 = .ok (.isub, 1) := by decide +kernel
theorem dX6_sum_150 : decode cX6_sum 150 = .ok (.invokestatic 103, 3) := by decide +kernel
theorem dX6_sum_153 : decode cX6_sum 153 = .ok (.istore 4, 2) := by decide +kernel
theorem dX6_sum_155 : decode cX6_sum 155 = .ok (.aload_n 0, 1) := by decide +kernel
theorem dX6_sum_156 : decode cX6_sum 156 = .ok (.iload 4, 2) := by decide +kernel
theorem dX6_sum_158 : decode cX6_sum 158 = .ok (.iload_n 3, 1) := by decide +kernel
theorem dX6_sum_159 : decode cX6_sum 159 = .ok (.invokevirtual 107, 3) := by decide +kernel
theorem dX6_sum_162 : decode cX6_sum 162 = .ok (.ifCond .ne 5, 3) := by decide +kernel
theorem dX6_sum_165 : decode cX6_sum 165 = .ok (.iconst 0, 1) := by decide +kernel
theorem dX6_sum_166 : decode cX6_sum 166 = .ok (.ireturn, 1) := by decide +kernel
theorem dX6_sum_167 : decode cX6_sum 167 = .ok (.iload_n 3, 1) := by decide +kernel
theorem dX6_sum_168 : decode cX6_sum 168 = .ok (.bipush 58, 2) := by decide +kernel
theorem dX6_sum_170 : decode cX6_sum 170 = .ok (.if_icmp .eq 9, 3) := by decide +kernel
theorem dX6_sum_173 : decode cX6_sum 173 = .ok (.iload_n 3, 1) := by decide +kernel
theorem dX6_sum_174 : decode cX6_sum 174 = .ok (.bipush 44, 2) := by decide +kernel
theorem dX6_sum_176 : decode cX6_sum 176 = .ok (.if_icmp .ne 7, 3) := by decide +kernel
theorem dX6_sum_179 : decode cX6_sum 179 = .ok (.iconst 1, 1) := by decide +kernel
theorem dX6_sum_180 : decode cX6_sum 180 = .ok (.goto 4, 3) := by decide +kernel
theorem dX6_sum_183 : decode cX6_sum 183 = .ok (.iconst 0, 1) := by decide +kernel
theorem dX6_sum_184 : decode cX6_sum 184 = .ok (.istore_n 1, 1) := by decide +kernel
theorem dX6_sum_185 : decode cX6_sum 185 = .ok (.iinc 2 1, 3) := by decide +kernel
theorem dX6_sum_188 : decode cX6_sum 188 = .ok (.goto (-179), 3) := by decide +kernel
theorem dX6_sum_191 : decode cX6_sum 191 = .ok (.iconst 0, 1) := by decide +kernel
theorem dX6_sum_192 : decode cX6_sum 192 = .ok (.ireturn, 1) := by decide +kernel
theorem hd_Reader_sum_77 : y_Reader_sum_77.cls ≠ "java/lang/invoke/MethodHandle" ∧ y_Reader_sum_77.cls ≠ "java/lang/invoke/VarHandle" ∧ (parseMethodDescriptor y_Reader_sum_77.desc).map (fun d => d.parameters.length) = some 0 := by decide +kernel
def b_Reader_sum_77_9  (y2 : Bool × Int32 × Mem) : Option ((Bool × Int32 × Mem) ⊕ ((Mem) ⊕ (Mem) ⊕ (Mem) ⊕ (Mem))) :=
  if decide (y2.2.1 ≤ 120) then ((f_Reader_coming_77 y2.2.2).bind fun q4 => if y2.1 then (jv_ (((decide (q4 = 40)) || (decide (q4 = 91))) : Bool) fun u8 => if u8 then (jv_ ((if decide (q4 = 91) then 256 else q4) : Int32) fun u12 => (f_Reader_await_77 u12 y2.2.2).bind fun q13 => some (.inl (u8, y2.2.1 + 1, q13))) else ((f_Reader_number_77 q4 y2.2.2).bind fun q14 => if q14.1 then (some (.inl (u8, y2.2.1 + 1, q14.2))) else ((f_Reader_oneOf_77 5 6 q14.2).bind fun q16 => if decide (q16.1 < 0) then (some (.inr (.inr (.inl q16.2)))) else ((f_Reader_emit_77 ((-1) - q16.1) q16.2).bind fun q18 => some (.inl (u8, y2.2.1 + 1, q18)))))) else ((f_Reader_rank q4).bind fun q20 => if decide (q20 ≤ 0) then ((f_Reader_unload_77 1 y2.2.2).bind fun q25 => if decide ((q25.1 77 2) = 0) then (some (.inr (.inr (.inr (.inl q25))))) else ((f_Reader_goesOn_77 (atv (q25.1 78) 120 ((q25.1 77 2) - 1)) q4 q25).bind fun q27 => if q27.1 then (if decide (q4 = 58) then (some (.inl (true, y2.2.1 + 1, q27.2))) else (if decide (q4 = 44) then (some (.inl (true, y2.2.1 + 1, q27.2))) else (some (.inl (false, y2.2.1 + 1, q27.2))))) else (some (.inr (.inr (.inr (.inr (q27.2)))))))) else ((f_Reader_rank q4).bind fun q22 => (f_Reader_unload_77 q22 y2.2.2).bind fun q23 => (f_Reader_await_77 q4 q23).bind fun q24 => some (.inl (true, y2.2.1 + 1, q24))))) else (some (.inr (.inl y2.2.2)))
def f_Reader_sum_77  (M0 : Mem) : Option (Bool × Mem) :=
  jv_ (wI M0 77 2 0) fun M1 => (itr (b_Reader_sum_77_9) FU (true, 0, M1)).bind fun q31 => (Sum.elim (fun (y32 : Mem) => some (false, y32)) (Sum.elim (fun (y33 : Mem) => some (false, y33)) (Sum.elim (fun (y34 : Mem) => some (true, y34)) (fun (y35 : Mem) => some (false, y35))))) q31
set_option maxHeartbeats 4000000 in
set_option maxRecDepth 20000 in
theorem C_Reader_sum_77 {D : va_G} {ad adK adV : Nat → Nat} {cI cJ : ClassId} {l : Launch}  (M0 : Mem) (o : Bool × Mem) (h : f_Reader_sum_77  M0 = some o) : Ct D ad adK adV cI cJ l y_Reader_sum_77 cX6_sum 5 (some .boolean) 6 131 [.ref (ad 77)] M0 (some (.int (bI o.1))) o.2 := by
  refine x_start (lv := [(0, .ref (ad 77))]) (own := "CurrentFarms$Reader") rfl (by decide) (Nat.le_of_ble_eq_true rfl) rfl ?_
  intro p e s m args below meth c Q hQ B
  unfold f_Reader_sum_77 at h
  refine x_aload_n (pc := 0) B 0 dX6_sum_0 rfl rfl ?_
  refine x_iconst (v := 0) (pc := 1) B dX6_sum_1 rfl ?_
  refine x_put (T := TX6) (pc := 2) B 2 oi_77 of_77_2 rfl uw_6 tyX6_ok nmX6 (by decide) rfl tw_408 rfl rfl rfl (Nat.le_of_ble_eq_true rfl) dX6_sum_2 ?_
  refine jv_m (P := fun M1 => XX D ad cI cJ p l e (Rm 6 131) s m args below meth c Q 5 M1 5 [(0, .ref (ad 77))] []) h (fun M1 h => ?_)
  refine x_iconst (v := 1) (pc := 5) B dX6_sum_5 rfl ?_
  refine x_istore_n (lv' := [(1, .int 1), (0, .ref (ad 77))]) (pc := 6) B dX6_sum_6 rfl (by decide) rfl ?_
  refine x_iconst (v := 0) (pc := 7) B dX6_sum_7 rfl ?_
  refine x_istore_n (lv' := [(2, .int 0), (1, .int 1), (0, .ref (ad 77))]) (pc := 8) B dX6_sum_8 rfl (by decide) rfl ?_
  refine x_pick (lv' := [(0, .ref (ad 77)), (1, .int 1), (2, .int 0)]) [2, 1, 0] rfl ?_
  obtain ⟨q31, hq31, h⟩ := bnd h
  refine x_loop (Head := fun (y2 : Bool × Int32 × Mem) => XX D ad cI cJ p l e (Rm 6 131) s m args below meth c Q 5 y2.2.2 9 [(0, .ref (ad 77)), (1, .int (bI y2.1)), (2, .int y2.2.1)] []) (Ex := (Sum.elim (fun (y32 : Mem) => XX D ad cI cJ p l e (Rm 6 131) s m args below meth c Q 5 y32 191 [] []) (Sum.elim (fun (y33 : Mem) => XX D ad cI cJ p l e (Rm 6 131) s m args below meth c Q 5 y33 88 [] []) (Sum.elim (fun (y34 : Mem) => XX D ad cI cJ p l e (Rm 6 131) s m args below meth c Q 5 y34 138 [] []) (fun (y35 : Mem) => XX D ad cI cJ p l e (Rm 6 131) s m args below meth c Q 5 y35 165 [] []))))) (fun y2 r h hback hexit => ?_) FU _ q31 hq31 ?_
  · unfold b_Reader_sum_77_9 at h
    refine x_iload_n (pc := 9) B 2 dX6_sum_9 rfl rfl ?_
    refine x_bipush (v := 120) (pc := 10) B dX6_sum_10 rfl ?_
    refine x_icmp_gt (tgt := 191) (pc := 12) B dX6_sum_12 rfl (fun hc3 => ?_) (fun hc3 => ?_)
    · have h := iff_ hc3 h
      refine x_pick (lv' := []) [] rfl ?_
      have z := hexit (.inl y2.2.2) (Option.some.inj h).symm
      exact z
    · have h := ift hc3 h
      refine x_aload_n (pc := 15) B 0 dX6_sum_15 rfl rfl ?_
      obtain ⟨q4, hq4, h⟩ := bnd h
      refine x_callV (rest := []) (st' := [.int q4]) (pc := 16) B oi_77 rfl (C_Reader_coming_77  y2.2.2 _ hq4) tw_841 tw_838 tw_840 tw_16 tw_107 hd_Reader_coming_77 ⟨Nat.le_of_ble_eq_true rfl, Nat.le_of_ble_eq_true rfl⟩ rfl rfl (Nat.le_of_ble_eq_true rfl) rfl dX6_sum_16 ?_
      refine x_istore_n (lv' := [(3, .int q4), (0, .ref (ad 77)), (1, .int (bI y2.1)), (2, .int y2.2.1)]) (pc := 19) B dX6_sum_19 rfl (by decide) rfl ?_
      refine x_iload_n (pc := 20) B 2 dX6_sum_20 rfl rfl ?_
      refine x_if_eq_b (tgt := 101) (pc := 21) B dX6_sum_21 rfl (fun hc5 => ?_) (fun hc5 => ?_)
      · have h := iff_ hc5 h
        refine x_iload_n (pc := 101) B 0 dX6_sum_101 rfl rfl ?_
        obtain ⟨q20, hq20, h⟩ := bnd h
        refine x_callS (rest := []) (st' := [.int q20]) (pc := 102) B (C_Reader_rank q4 y2.2.2 _ hq20) tw_915 tw_913 tw_914 tw_107 hd_Reader_rank ⟨Nat.le_of_ble_eq_true rfl, Nat.le_of_ble_eq_true rfl⟩ rfl rfl (Nat.le_of_ble_eq_true rfl) rfl dX6_sum_102 ?_
        refine x_if_le (tgt := 126) (pc := 105) B dX6_sum_105 rfl (fun hc21 => ?_) (fun hc21 => ?_)
        · have h := ift hc21 h
          refine x_aload_n (pc := 126) B 1 dX6_sum_126 rfl rfl ?_
          refine x_iconst (v := 1) (pc := 127) B dX6_sum_127 rfl ?_
          obtain ⟨q25, hq25, h⟩ := bnd h
          refine x_callV (rest := []) (st' := []) (pc := 128) B oi_77 rfl (C_Reader_unload_77 1 y2.2.2 _ hq25) tw_919 tw_916 tw_918 tw_22 tw_107 hd_Reader_unload_77 ⟨Nat.le_of_ble_eq_true rfl, Nat.le_of_ble_eq_true rfl⟩ rfl rfl (Nat.le_of_ble_eq_true rfl) rfl dX6_sum_128 ?_
          refine x_aload_n (pc := 131) B 1 dX6_sum_131 rfl rfl ?_
          refine x_get (T := TX6) (pc := 132) B 2 oi_77 rfl uw_6 (by decide) rfl tw_408 rfl dX6_sum_132 ?_
          refine x_if_ne (tgt := 140) (pc := 135) B dX6_sum_135 rfl (fun hc26 => ?_) (fun hc26 => ?_)
          · have h := iff_ hc26 h
            refine x_aload_n (pc := 140) B 1 dX6_sum_140 rfl rfl ?_
            refine x_get (T := TX6) (pc := 141) B 1 oi_77 rfl uw_6 (by decide) rfl tw_407 rfl dX6_sum_141 ?_
            refine x_aload_n (pc := 144) B 1 dX6_sum_144 rfl rfl ?_
            refine x_get (T := TX6) (pc := 145) B 2 oi_77 rfl uw_6 (by decide) rfl tw_408 rfl dX6_sum_145 ?_
            refine x_iconst (v := 1) (pc := 148) B dX6_sum_148 rfl ?_
            refine x_isub (pc := 149) B dX6_sum_149 ?_
            refine x_callSN (rest := []) (st' := [.int (atv (q25.1 78) 120 ((q25.1 77 2) - 1))]) (pc := 150) B (T_CF_at 78 120 ((q25.1 77 2) - 1) ai_78 (by decide) q25) tw_575 tw_842 tw_574 tw_98 hd_CF_at ⟨Nat.le_of_ble_eq_true rfl, Nat.le_of_ble_eq_true rfl⟩ rfl rfl (Nat.le_of_ble_eq_true rfl) rfl dX6_sum_150 ?_
            refine x_istore (lv' := [(4, .int (atv (q25.1 78) 120 ((q25.1 77 2) - 1))), (3, .int q4), (0, .ref (ad 77)), (1, .int (bI y2.1)), (2, .int y2.2.1)]) (pc := 153) B dX6_sum_153 (by decide) rfl ?_
            refine x_aload_n (pc := 155) B 2 dX6_sum_155 rfl rfl ?_
            refine x_iload (pc := 156) B 0 dX6_sum_156 rfl ?_
            refine x_iload_n (pc := 158) B 1 dX6_sum_158 rfl rfl ?_
            obtain ⟨q27, hq27, h⟩ := bnd h
            refine x_callV (rest := []) (st' := [.int (bI q27.1)]) (pc := 159) B oi_77 rfl (C_Reader_goesOn_77 (atv (q25.1 78) 120 ((q25.1 77 2) - 1)) q4 q25 _ hq27) tw_926 tw_923 tw_925 tw_23 tw_107 hd_Reader_goesOn_77 ⟨Nat.le_of_ble_eq_true rfl, Nat.le_of_ble_eq_true rfl⟩ rfl rfl (Nat.le_of_ble_eq_true rfl) rfl dX6_sum_159 ?_
            refine x_if_ne_b (tgt := 167) (pc := 162) B dX6_sum_162 rfl (fun hc28 => ?_) (fun hc28 => ?_)
            · have h := ift hc28 h
              refine x_iload_n (pc := 167) B 1 dX6_sum_167 rfl rfl ?_
              refine x_bipush (v := 58) (pc := 168) B dX6_sum_168 rfl ?_
              refine x_icmp_eq (tgt := 179) (pc := 170) B dX6_sum_170 rfl (fun hc29 => ?_) (fun hc29 => ?_)
              · have h := ift hc29 h
                refine x_iconst (v := 1) (pc := 179) B dX6_sum_179 rfl ?_
                refine x_goto (tgt := 184) (pc := 180) B dX6_sum_180 rfl ?_
                refine x_istore_n (lv' := [(1, .int 1), (4, .int (atv (q25.1 78) 120 ((q25.1 77 2) - 1))), (3, .int q4), (0, .ref (ad 77)), (2, .int y2.2.1)]) (pc := 184) B dX6_sum_184 rfl (by decide) rfl ?_
                refine x_iinc (k := 4) (v := y2.2.1 + 1) (lv' := [(2, .int (y2.2.1 + 1)), (1, .int 1), (4, .int (atv (q25.1 78) 120 ((q25.1 77 2) - 1))), (3, .int q4), (0, .ref (ad 77))]) (pc := 185) B dX6_sum_185 rfl rfl (by decide) rfl ?_
                refine x_goto (tgt := 9) (pc := 188) B dX6_sum_188 rfl ?_
                refine x_pick (lv' := [(0, .ref (ad 77)), (1, .int 1), (2, .int (y2.2.1 + 1))]) [4, 1, 0] rfl ?_
                have z := hback (true, y2.2.1 + 1, q27.2) (Option.some.inj h).symm
                exact z
              · have h := iff_ hc29 h
                refine x_iload_n (pc := 173) B 1 dX6_sum_173 rfl rfl ?_
                refine x_bipush (v := 44) (pc := 174) B dX6_sum_174 rfl ?_
                refine x_icmp_ne (tgt := 183) (pc := 176) B dX6_sum_176 rfl (fun hc30 => ?_) (fun hc30 => ?_)
                · have h := iff_ hc30 h
                  refine x_iconst (v := 0) (pc := 183) B dX6_sum_183 rfl ?_
                  refine x_istore_n (lv' := [(1, .int 0), (4, .int (atv (q25.1 78) 120 ((q25.1 77 2) - 1))), (3, .int q4), (0, .ref (ad 77)), (2, .int y2.2.1)]) (pc := 184) B dX6_sum_184 rfl (by decide) rfl ?_
                  refine x_iinc (k := 4) (v := y2.2.1 + 1) (lv' := [(2, .int (y2.2.1 + 1)), (1, .int 0), (4, .int (atv (q25.1 78) 120 ((q25.1 77 2) - 1))), (3, .int q4), (0, .ref (ad 77))]) (pc := 185) B dX6_sum_185 rfl rfl (by decide) rfl ?_
                  refine x_goto (tgt := 9) (pc := 188) B dX6_sum_188 rfl ?_
                  refine x_pick (lv' := [(0, .ref (ad 77)), (1, .int 0), (2, .int (y2.2.1 + 1))]) [4, 1, 0] rfl ?_
                  have z := hback (false, y2.2.1 + 1, q27.2) (Option.some.inj h).symm
                  exact z
                · have h := ift hc30 h
                  refine x_iconst (v := 1) (pc := 179) B dX6_sum_179 rfl ?_
                  refine x_goto (tgt := 184) (pc := 180) B dX6_sum_180 rfl ?_
                  refine x_istore_n (lv' := [(1, .int 1), (4, .int (atv (q25.1 78) 120 ((q25.1 77 2) - 1))), (3, .int q4), (0, .ref (ad 77)), (2, .int y2.2.1)]) (pc := 184) B dX6_sum_184 rfl (by decide) rfl ?_
                  refine x_iinc (k := 4) (v := y2.2.1 + 1) (lv' := [(2, .int (y2.2.1 + 1)), (1, .int 1), (4, .int (atv (q25.1 78) 120 ((q25.1 77 2) - 1))), (3, .int q4), (0, .ref (ad 77))]) (pc := 185) B dX6_sum_185 rfl rfl (by decide) rfl ?_
                  refine x_goto (tgt := 9) (pc := 188) B dX6_sum_188 rfl ?_
                  refine x_pick (lv' := [(0, .ref (ad 77)), (1, .int 1), (2, .int (y2.2.1 + 1))]) [4, 1, 0] rfl ?_
                  have z := hback (true, y2.2.1 + 1, q27.2) (Option.some.inj h).symm
                  exact z
            · have h := iff_ hc28 h
              refine x_pick (lv' := []) [] rfl ?_
              have z := hexit (.inr (.inr (.inr (q27.2)))) (Option.some.inj h).symm
              exact z
          · have h := ift hc26 h
            refine x_pick (lv' := []) [] rfl ?_
            have z := hexit (.inr (.inr (.inl q25))) (Option.some.inj h).symm
            exact z
        · have h := iff_ hc21 h
          refine x_aload_n (pc := 108) B 1 dX6_sum_108 rfl rfl ?_
          refine x_iload_n (pc := 109) B 0 dX6_sum_109 rfl rfl ?_
          obtain ⟨q22, hq22, h⟩ := bnd h
          refine x_callS (rest := [.ref (ad 77)]) (st' := [.int q22, .ref (ad 77)]) (pc := 110) B (C_Reader_rank q4 y2.2.2 _ hq22) tw_915 tw_913 tw_914 tw_107 hd_Reader_rank ⟨Nat.le_of_ble_eq_true rfl, Nat.le_of_ble_eq_true rfl⟩ rfl rfl (Nat.le_of_ble_eq_true rfl) rfl dX6_sum_110 ?_
          obtain ⟨q23, hq23, h⟩ := bnd h
          refine x_callV (rest := []) (st' := []) (pc := 113) B oi_77 rfl (C_Reader_unload_77 q22 y2.2.2 _ hq23) tw_919 tw_916 tw_918 tw_22 tw_107 hd_Reader_unload_77 ⟨Nat.le_of_ble_eq_true rfl, Nat.le_of_ble_eq_true rfl⟩ rfl rfl (Nat.le_of_ble_eq_true rfl) rfl dX6_sum_113 ?_
          refine x_aload_n (pc := 116) B 1 dX6_sum_116 rfl rfl ?_
          refine x_iload_n (pc := 117) B 0 dX6_sum_117 rfl rfl ?_
          obtain ⟨q24, hq24, h⟩ := bnd h
          refine x_callV (rest := []) (st' := []) (pc := 118) B oi_77 rfl (C_Reader_await_77 q4 q23 _ hq24) tw_903 tw_900 tw_902 tw_19 tw_107 hd_Reader_await_77 ⟨Nat.le_of_ble_eq_true rfl, Nat.le_of_ble_eq_true rfl⟩ rfl rfl (Nat.le_of_ble_eq_true rfl) rfl dX6_sum_118 ?_
          refine x_iconst (v := 1) (pc := 121) B dX6_sum_121 rfl ?_
          refine x_istore_n (lv' := [(1, .int 1), (3, .int q4), (0, .ref (ad 77)), (2, .int y2.2.1)]) (pc := 122) B dX6_sum_122 rfl (by decide) rfl ?_
          refine x_goto (tgt := 185) (pc := 123) B dX6_sum_123 rfl ?_
          refine x_iinc (k := 3) (v := y2.2.1 + 1) (lv' := [(2, .int (y2.2.1 + 1)), (1, .int 1), (3, .int q4), (0, .ref (ad 77))]) (pc := 185) B dX6_sum_185 rfl rfl (by decide) rfl ?_
          refine x_goto (tgt := 9) (pc := 188) B dX6_sum_188 rfl ?_
          refine x_pick (lv' := [(0, .ref (ad 77)), (1, .int 1), (2, .int (y2.2.1 + 1))]) [3, 1, 0] rfl ?_
          have z := hback (true, y2.2.1 + 1, q24) (Option.some.inj h).symm
          exact z
      · have h := ift hc5 h
        refine x_iload_n (pc := 24) B 0 dX6_sum_24 rfl rfl ?_
        refine x_bipush (v := 40) (pc := 25) B dX6_sum_25 rfl ?_
        refine jv_k h (fun (u8 : Bool) => XX D ad cI cJ p l e (Rm 6 131) s m args below meth c Q 5 y2.2.2 41 [(0, .ref (ad 77)), (2, .int y2.2.1), (3, .int q4)] [.int (bI u8)]) (fun u8 h => ?_) (fun JJ => ?_)
        · refine x_istore_n (lv' := [(1, .int (bI u8)), (0, .ref (ad 77)), (2, .int y2.2.1), (3, .int q4)]) (pc := 41) B dX6_sum_41 rfl (by decide) rfl ?_
          refine x_iload_n (pc := 42) B 0 dX6_sum_42 rfl rfl ?_
          refine x_if_eq_b (tgt := 66) (pc := 43) B dX6_sum_43 rfl (fun hc9 => ?_) (fun hc9 => ?_)
          · have h := iff_ hc9 h
            refine x_aload_n (pc := 66) B 1 dX6_sum_66 rfl rfl ?_
            refine x_iload_n (pc := 67) B 3 dX6_sum_67 rfl rfl ?_
            obtain ⟨q14, hq14, h⟩ := bnd h
            refine x_callV (rest := []) (st' := [.int (bI q14.1)]) (pc := 68) B oi_77 rfl (C_Reader_number_77 q4 y2.2.2 _ hq14) tw_907 tw_904 tw_906 tw_20 tw_107 hd_Reader_number_77 ⟨Nat.le_of_ble_eq_true rfl, Nat.le_of_ble_eq_true rfl⟩ rfl rfl (Nat.le_of_ble_eq_true rfl) rfl dX6_sum_68 ?_
            refine x_if_ne_b (tgt := 185) (pc := 71) B dX6_sum_71 rfl (fun hc15 => ?_) (fun hc15 => ?_)
            · have h := ift hc15 h
              refine x_iinc (k := 2) (v := y2.2.1 + 1) (lv' := [(2, .int (y2.2.1 + 1)), (1, .int (bI u8)), (0, .ref (ad 77)), (3, .int q4)]) (pc := 185) B dX6_sum_185 rfl rfl (by decide) rfl ?_
              refine x_goto (tgt := 9) (pc := 188) B dX6_sum_188 rfl ?_
              refine x_pick (lv' := [(0, .ref (ad 77)), (1, .int (bI u8)), (2, .int (y2.2.1 + 1))]) [2, 1, 0] rfl ?_
              have z := hback (u8, y2.2.1 + 1, q14.2) (Option.some.inj h).symm
              exact z
            · have h := iff_ hc15 h
              refine x_aload_n (pc := 74) B 1 dX6_sum_74 rfl rfl ?_
              refine x_iconst (v := 5) (pc := 75) B dX6_sum_75 rfl ?_
              refine x_bipush (v := 6) (pc := 76) B dX6_sum_76 rfl ?_
              obtain ⟨q16, hq16, h⟩ := bnd h
              refine x_callV (rest := []) (st' := [.int q16.1]) (pc := 78) B oi_77 rfl (C_Reader_oneOf_77 5 6 q14.2 _ hq16) tw_818 tw_815 tw_817 tw_15 tw_107 hd_Reader_oneOf_77 ⟨Nat.le_of_ble_eq_true rfl, Nat.le_of_ble_eq_true rfl⟩ rfl rfl (Nat.le_of_ble_eq_true rfl) rfl dX6_sum_78 ?_
              refine x_istore (lv' := [(4, .int q16.1), (1, .int (bI u8)), (0, .ref (ad 77)), (2, .int y2.2.1), (3, .int q4)]) (pc := 81) B dX6_sum_81 (by decide) rfl ?_
              refine x_iload (pc := 83) B 0 dX6_sum_83 rfl ?_
              refine x_if_ge (tgt := 90) (pc := 85) B dX6_sum_85 rfl (fun hc17 => ?_) (fun hc17 => ?_)
              · have h := iff_ hc17 h
                refine x_aload_n (pc := 90) B 2 dX6_sum_90 rfl rfl ?_
                refine x_iconst (v := (-1)) (pc := 91) B dX6_sum_91 rfl ?_
                refine x_iload (pc := 92) B 0 dX6_sum_92 rfl ?_
                refine x_isub (pc := 94) B dX6_sum_94 ?_
                obtain ⟨q18, hq18, h⟩ := bnd h
                refine x_callV (rest := []) (st' := []) (pc := 95) B oi_77 rfl (C_Reader_emit_77 ((-1) - q16.1) q16.2 _ hq18) tw_912 tw_909 tw_911 tw_21 tw_107 hd_Reader_emit_77 ⟨Nat.le_of_ble_eq_true rfl, Nat.le_of_ble_eq_true rfl⟩ rfl rfl (Nat.le_of_ble_eq_true rfl) rfl dX6_sum_95 ?_
                refine x_goto (tgt := 185) (pc := 98) B dX6_sum_98 rfl ?_
                refine x_iinc (k := 3) (v := y2.2.1 + 1) (lv' := [(2, .int (y2.2.1 + 1)), (4, .int q16.1), (1, .int (bI u8)), (0, .ref (ad 77)), (3, .int q4)]) (pc := 185) B dX6_sum_185 rfl rfl (by decide) rfl ?_
                refine x_goto (tgt := 9) (pc := 188) B dX6_sum_188 rfl ?_
                refine x_pick (lv' := [(0, .ref (ad 77)), (1, .int (bI u8)), (2, .int (y2.2.1 + 1))]) [3, 2, 0] rfl ?_
                have z := hback (u8, y2.2.1 + 1, q18) (Option.some.inj h).symm
                exact z
              · have h := ift hc17 h
                refine x_pick (lv' := []) [] rfl ?_
                have z := hexit (.inr (.inl q16.2)) (Option.some.inj h).symm
                exact z
          · have h := ift hc9 h
            refine x_aload_n (pc := 46) B 1 dX6_sum_46 rfl rfl ?_
            refine x_iload_n (pc := 47) B 3 dX6_sum_47 rfl rfl ?_
            refine x_bipush (v := 91) (pc := 48) B dX6_sum_48 rfl ?_
            refine jv_k h (fun (u12 : Int32) => XX D ad cI cJ p l e (Rm 6 131) s m args below meth c Q 5 y2.2.2 60 [(0, .ref (ad 77)), (1, .int (bI u8)), (2, .int y2.2.1)] [.int u12, .ref (ad 77)]) (fun u12 h => ?_) (fun JJ => ?_)
            · obtain ⟨q13, hq13, h⟩ := bnd h
              refine x_callV (rest := []) (st' := []) (pc := 60) B oi_77 rfl (C_Reader_await_77 u12 y2.2.2 _ hq13) tw_903 tw_900 tw_902 tw_19 tw_107 hd_Reader_await_77 ⟨Nat.le_of_ble_eq_true rfl, Nat.le_of_ble_eq_true rfl⟩ rfl rfl (Nat.le_of_ble_eq_true rfl) rfl dX6_sum_60 ?_
              refine x_goto (tgt := 185) (pc := 63) B dX6_sum_63 rfl ?_
              refine x_iinc (k := 2) (v := y2.2.1 + 1) (lv' := [(2, .int (y2.2.1 + 1)), (0, .ref (ad 77)), (1, .int (bI u8))]) (pc := 185) B dX6_sum_185 rfl rfl (by decide) rfl ?_
              refine x_goto (tgt := 9) (pc := 188) B dX6_sum_188 rfl ?_
              refine x_pick (lv' := [(0, .ref (ad 77)), (1, .int (bI u8)), (2, .int (y2.2.1 + 1))]) [1, 2, 0] rfl ?_
              have z := hback (u8, y2.2.1 + 1, q13) (Option.some.inj h).symm
              exact z
            · refine x_icmp_ne (tgt := 59) (pc := 50) B dX6_sum_50 rfl (fun hc10 => ?_) (fun hc10 => ?_)
              · refine x_iload_n (pc := 59) B 3 dX6_sum_59 rfl rfl ?_
                refine x_pick (lv' := [(0, .ref (ad 77)), (1, .int (bI u8)), (2, .int y2.2.1)]) [1, 0, 2] rfl ?_
                have z := JJ q4 ((zif_f hc10).trans rfl)
                exact z
              · refine x_sipush (v := 256) (pc := 53) B dX6_sum_53 rfl ?_
                refine x_goto (tgt := 60) (pc := 56) B dX6_sum_56 rfl ?_
                refine x_pick (lv' := [(0, .ref (ad 77)), (1, .int (bI u8)), (2, .int y2.2.1)]) [1, 0, 2] rfl ?_
                have z := JJ 256 ((zif_t hc10).trans rfl)
                exact z
        · refine x_icmp_eq (tgt := 36) (pc := 27) B dX6_sum_27 rfl (fun hc6 => ?_) (fun hc6 => ?_)
          · refine x_iconst (v := 1) (pc := 36) B dX6_sum_36 rfl ?_
            refine x_goto (tgt := 41) (pc := 37) B dX6_sum_37 rfl ?_
            refine x_pick (lv' := [(0, .ref (ad 77)), (2, .int y2.2.1), (3, .int q4)]) [1, 3, 0] rfl ?_
            have z := JJ true (zor_t hc6)
            exact z
          · refine x_iload_n (pc := 30) B 0 dX6_sum_30 rfl rfl ?_
            refine x_bipush (v := 91) (pc := 31) B dX6_sum_31 rfl ?_
            refine x_icmp_ne (tgt := 40) (pc := 33) B dX6_sum_33 rfl (fun hc19 => ?_) (fun hc19 => ?_)
            · refine x_iconst (v := 0) (pc := 40) B dX6_sum_40 rfl ?_
              refine x_pick (lv' := [(0, .ref (ad 77)), (2, .int y2.2.1), (3, .int q4)]) [1, 3, 0] rfl ?_
              have z := JJ false ((zor_f hc6).trans hc19)
              exact z
            · refine x_iconst (v := 1) (pc := 36) B dX6_sum_36 rfl ?_
              refine x_goto (tgt := 41) (pc := 37) B dX6_sum_37 rfl ?_
              refine x_pick (lv' := [(0, .ref (ad 77)), (2, .int y2.2.1), (3, .int q4)]) [1, 3, 0] rfl ?_
              have z := JJ true ((zor_f hc6).trans hc19)
              exact z
  · rcases q31 with y32 | rest0_35
    · have h := selL h
      refine x_iconst (v := 0) (pc := 191) B dX6_sum_191 rfl ?_
      obtain rfl := Option.some.inj h
      exact x_zret (v := false) (pc := 192) B hQ dX6_sum_192
    · have h := selR h
      rcases rest0_35 with y33 | rest1_35
      · have h := selL h
        refine x_iconst (v := 0) (pc := 88) B dX6_sum_88 rfl ?_
        obtain rfl := Option.some.inj h
        exact x_zret (v := false) (pc := 89) B hQ dX6_sum_89
      · have h := selR h
        rcases rest1_35 with y34 | rest2_35
        · have h := selL h
          refine x_iconst (v := 1) (pc := 138) B dX6_sum_138 rfl ?_
          obtain rfl := Option.some.inj h
          exact x_zret (v := true) (pc := 139) B hQ dX6_sum_139
        · have h := selR h
          obtain ⟨y35, rfl⟩ : ∃ z_, z_ = rest2_35 := ⟨_, rfl⟩
          refine x_iconst (v := 0) (pc := 165) B dX6_sum_165 rfl ?_
          obtain rfl := Option.some.inj h
          exact x_zret (v := false) (pc := 166) B hQ dX6_sum_166
-- CurrentFarms$Reader.clause(I)Z [77]
abbrev y_Reader_clause_77 : MethodName := ⟨"CurrentFarms$Reader", "clause", "(I)Z"⟩
abbrev cX6_clause : ByteArray := prog_8_method_4_code
theorem dX6_clause_0 : decode cX6_clause 0 = .ok (.aload_n 0, 1) := by decide +kernel
theorem dX6_clause_1 : decode cX6_clause 1 = .ok (.bipush 6, 2) := by decide +kernel
theorem dX6_clause_3 : decode cX6_clause 3 = .ok (.iconst 0, 1) := by decide +kernel
theorem dX6_clause_4 : decode cX6_clause 4 = .ok (.invokevirtual 56, 3) := by decide +kernel
theorem dX6_clause_7 : decode cX6_clause 7 = .ok (.istore_n 2, 1) := by decide +kernel
theorem dX6_clause_8 : decode cX6_clause 8 = .ok (.iload_n 2, 1) := by decide +kernel
theorem dX6_clause_9 : decode cX6_clause 9 = .ok (.ifCond .lt 12, 3) := by decide +kernel
theorem dX6_clause_12 : decode cX6_clause 12 = .ok (.aload_n 0, 1) := by decide +kernel
theorem dX6_clause_13 : decode cX6_clause 13 = .ok (.ldc 60, 2) := by decide +kernel
theorem dX6_clause_15 : decode cX6_clause 15 = .ok (.invokevirtual 62, 3) := by decide +kernel
theorem dX6_clause_18 : decode cX6_clause 18 = .ok (.ifCond .ne 5, 3) := by decide +kernel
theorem dX6_clause_21 : decode cX6_clause 21 = .ok (.iconst 0, 1) := by decide +kernel
theorem dX6_clause_22 : decode cX6_clause 22 = .ok (.ireturn, 1) := by decide +kernel
theorem dX6_clause_23 : decode cX6_clause 23 = .ok (.aload_n 0, 1) := by decide +kernel
theorem dX6_clause_24 : decode cX6_clause 24 = .ok (.getfield 15, 3) := by decide +kernel
theorem dX6_clause_27 : decode cX6_clause 27 = .ok (.getfield 66, 3) := by decide +kernel
theorem dX6_clause_30 : decode cX6_clause 30 = .ok (.iload_n 1, 1) := by decide +kernel
theorem dX6_clause_31 : decode cX6_clause 31 = .ok (.iload_n 2, 1) := by decide +kernel
theorem dX6_clause_32 : decode cX6_clause 32 = .ok (.invokestatic 28, 3) := by decide +kernel
theorem dX6_clause_35 : decode cX6_clause 35 = .ok (.aload_n 0, 1) := by decide +kernel
theorem dX6_clause_36 : decode cX6_clause 36 = .ok (.getfield 15, 3) := by decide +kernel
theorem dX6_clause_39 : decode cX6_clause 39 = .ok (.getfield 69, 3) := by decide +kernel
theorem dX6_clause_42 : decode cX6_clause 42 = .ok (.iload_n 1, 1) := by decide +kernel
theorem dX6_clause_43 : decode cX6_clause 43 = .ok (.aload_n 0, 1) := by decide +kernel
theorem dX6_clause_44 : decode cX6_clause 44 = .ok (.getfield 35, 3) := by decide +kernel
theorem dX6_clause_47 : decode cX6_clause 47 = .ok (.invokestatic 28, 3) := by decide +kernel
theorem dX6_clause_50 : decode cX6_clause 50 = .ok (.aload_n 0, 1) := by decide +kernel
theorem dX6_clause_51 : decode cX6_clause 51 = .ok (.invokevirtual 72, 3) := by decide +kernel
theorem dX6_clause_54 : decode cX6_clause 54 = .ok (.ifCond .ne 5, 3) := by decide +kernel
theorem dX6_clause_57 : decode cX6_clause 57 = .ok (.iconst 0, 1) := by decide +kernel
theorem dX6_clause_58 : decode cX6_clause 58 = .ok (.ireturn, 1) := by decide +kernel
theorem dX6_clause_59 : decode cX6_clause 59 = .ok (.aload_n 0, 1) := by decide +kernel
theorem dX6_clause_60 : decode cX6_clause 60 = .ok (.getfield 15, 3) := by decide +kernel
theorem dX6_clause_63 : decode cX6_clause 63 = .ok (.getfield 76, 3) := by decide +kernel
theorem dX6_clause_66 : decode cX6_clause 66 = .ok (.iload_n 1, 1) := by decide +kernel
theorem dX6_clause_67 : decode cX6_clause 67 = .ok (.aload_n 0, 1) := by decide +kernel
theorem dX6_clause_68 : decode cX6_clause 68 = .ok (.getfield 35, 3) := by decide +kernel
theorem dX6_clause_71 : decode cX6_clause 71 = .ok (.invokestatic 28, 3) := by decide +kernel
theorem dX6_clause_74 : decode cX6_clause 74 = .ok (.aload_n 0, 1) := by decide +kernel
theorem dX6_clause_75 : decode cX6_clause 75 = .ok (.invokevirtual 52, 3) := by decide +kernel
theorem dX6_clause_78 : decode cX6_clause 78 = .ok (.bipush 32, 2) := by decide +kernel
theorem dX6_clause_80 : decode cX6_clause 80 = .ok (.if_icmp .ne 21, 3) := by decide +kernel
theorem dX6_clause_83 : decode cX6_clause 83 = .ok (.aload_n 0, 1) := by decide +kernel
theorem dX6_clause_84 : decode cX6_clause 84 = .ok (.ldc 79, 2) := by decide +kernel
theorem dX6_clause_86 : decode cX6_clause 86 = .ok (.invokevirtual 62, 3) := by decide +kernel
theorem dX6_clause_89 : decode cX6_clause 89 = .ok (.ifCond .eq 10, 3) := by decide +kernel
theorem dX6_clause_92 : decode cX6_clause 92 = .ok (.aload_n 0, 1) := by decide +kernel
theorem dX6_clause_93 : decode cX6_clause 93 = .ok (.invokevirtual 72, 3) := by decide +kernel
theorem dX6_clause_96 : decode cX6_clause 96 = .ok (.ifCond .ne 5, 3) := by decide +kernel
theorem dX6_clause_99 : decode cX6_clause 99 = .ok (.iconst 0, 1) := by decide +kernel
theorem dX6_clause_100 : decode cX6_clause 100 = .ok (.ireturn, 1) := by decide +kernel
theorem dX6_clause_101 : decode cX6_clause 101 = .ok (.aload_n 0, 1) := by decide +kernel
theorem dX6_clause_102 : decode cX6_clause 102 = .ok (.getfield 15, 3) := by decide +kernel
theorem dX6_clause_105 : decode cX6_clause 105 = .ok (.getfield 81, 3) := by decide +kernel
theorem dX6_clause_108 : decode cX6_clause 108 = .ok (.iload_n 1, 1) := by decide +kernel
theorem dX6_clause_109 : decode cX6_clause 109 = .ok (.aload_n 0, 1) := by decide +kernel
theorem dX6_clause_110 : decode cX6_clause 110 = .ok (.getfield 35, 3) := by decide +kernel
theorem dX6_clause_113 : decode cX6_clause 113 = .ok (.invokestatic 28, 3) := by decide +kernel
theorem dX6_clause_116 : decode cX6_clause 116 = .ok (.iconst 1, 1) := by decide +kernel
theorem dX6_clause_117 : decode cX6_clause 117 = .ok (.ireturn, 1) := by decide +kernel
theorem hd_Reader_clause_77 : y_Reader_clause_77.cls ≠ "java/lang/invoke/MethodHandle" ∧ y_Reader_clause_77.cls ≠ "java/lang/invoke/VarHandle" ∧ (parseMethodDescriptor y_Reader_clause_77.desc).map (fun d => d.parameters.length) = some 1 := by decide +kernel
def f_Reader_clause_77 (a1 : Int32) (M0 : Mem) : Option (Bool × Mem) :=
  (f_Reader_oneOf_77 6 0 M0).bind fun q1 => if decide (q1.1 < 0) then (some (false, q1.2)) else ((f_Reader_passes_77 12 q1.2).bind fun q3 => if q3.1 then (jv_ (putv q3.2 19 72 a1 q1.1) fun M5 => jv_ (putv M5 20 72 a1 (M5.1 77 4)) fun M6 => (f_Reader_sum_77 M6).bind fun q7 => if q7.1 then (jv_ (putv q7.2 21 72 a1 (q7.2.1 77 4)) fun M9 => (f_Reader_coming_77 M9).bind fun q10 => jn_ (fun (u13 : Mem) => jv_ (putv u13 22 72 a1 (u13.1 77 4)) fun M14 => some (true, M14)) fun k15 => if decide (q10 = 32) then ((f_Reader_passes_77 13 M9).bind fun q16 => if q16.1 then ((f_Reader_sum_77 q16.2).bind fun q18 => if q18.1 then (k15 q18.2) else (some (false, q18.2))) else (some (false, q16.2))) else (k15 M9)) else (some (false, q7.2))) else (some (false, q3.2)))
set_option maxHeartbeats 4000000 in
set_option maxRecDepth 20000 in
theorem C_Reader_clause_77 {D : va_G} {ad adK adV : Nat → Nat} {cI cJ : ClassId} {l : Launch} (a1 : Int32) (M0 : Mem) (o : Bool × Mem) (h : f_Reader_clause_77 a1 M0 = some o) : Ct D ad adK adV cI cJ l y_Reader_clause_77 cX6_clause 3 (some .boolean) 7 155 [.ref (ad 77), .int a1] M0 (some (.int (bI o.1))) o.2 := by
  refine x_start (lv := [(0, .ref (ad 77)), (1, .int a1)]) (own := "CurrentFarms$Reader") rfl (by decide) (Nat.le_of_ble_eq_true rfl) rfl ?_
  intro p e s m args below meth c Q hQ B
  unfold f_Reader_clause_77 at h
  refine x_aload_n (pc := 0) B 0 dX6_clause_0 rfl rfl ?_
  refine x_bipush (v := 6) (pc := 1) B dX6_clause_1 rfl ?_
  refine x_iconst (v := 0) (pc := 3) B dX6_clause_3 rfl ?_
  obtain ⟨q1, hq1, h⟩ := bnd h
  refine x_callV (rest := []) (st' := [.int q1.1]) (pc := 4) B oi_77 rfl (C_Reader_oneOf_77 6 0 M0 _ hq1) tw_818 tw_815 tw_817 tw_15 tw_107 hd_Reader_oneOf_77 ⟨Nat.le_of_ble_eq_true rfl, Nat.le_of_ble_eq_true rfl⟩ rfl rfl (Nat.le_of_ble_eq_true rfl) rfl dX6_clause_4 ?_
  refine x_istore_n (lv' := [(2, .int q1.1), (0, .ref (ad 77)), (1, .int a1)]) (pc := 7) B dX6_clause_7 rfl (by decide) rfl ?_
  refine x_iload_n (pc := 8) B 0 dX6_clause_8 rfl rfl ?_
  refine x_if_lt (tgt := 21) (pc := 9) B dX6_clause_9 rfl (fun hc2 => ?_) (fun hc2 => ?_)
  · have h := ift hc2 h
    refine x_iconst (v := 0) (pc := 21) B dX6_clause_21 rfl ?_
    obtain rfl := Option.some.inj h
    exact x_zret (v := false) (pc := 22) B hQ dX6_clause_22
  · have h := iff_ hc2 h
    refine x_aload_n (pc := 12) B 1 dX6_clause_12 rfl rfl ?_
    refine x_ldcS (i := 12) (pc := 13) B (by decide) rfl rfl dX6_clause_13 ?_
    obtain ⟨q3, hq3, h⟩ := bnd h
    refine x_callV (rest := []) (st' := [.int (bI q3.1)]) (pc := 15) B oi_77 rfl (C_Reader_passes_77 12 q1.2 _ hq3) tw_886 tw_883 tw_885 tw_17 tw_107 hd_Reader_passes_77 ⟨Nat.le_of_ble_eq_true rfl, Nat.le_of_ble_eq_true rfl⟩ rfl rfl (Nat.le_of_ble_eq_true rfl) rfl dX6_clause_15 ?_
    refine x_if_ne_b (tgt := 23) (pc := 18) B dX6_clause_18 rfl (fun hc4 => ?_) (fun hc4 => ?_)
    · have h := ift hc4 h
      refine x_aload_n (pc := 23) B 1 dX6_clause_23 rfl rfl ?_
      refine x_get (T := TX6) (pc := 24) B 0 oi_77 rfl uw_6 (by decide) rfl tw_406 rfl dX6_clause_24 ?_
      refine x_get (T := TX7) (pc := 27) B 5 oi_14 rfl uw_7 (by decide) rfl tw_216 rfl dX6_clause_27 ?_
      refine x_iload_n (pc := 30) B 2 dX6_clause_30 rfl rfl ?_
      refine x_iload_n (pc := 31) B 0 dX6_clause_31 rfl rfl ?_
      refine x_callSN (rest := []) (st' := []) (pc := 32) B (T_CF_put 19 72 a1 q1.1 ai_19 (by decide) q3.2) tw_588 tw_810 tw_587 tw_98 hd_CF_put ⟨Nat.le_of_ble_eq_true rfl, Nat.le_of_ble_eq_true rfl⟩ rfl rfl (Nat.le_of_ble_eq_true rfl) rfl dX6_clause_32 ?_
      refine jv_m (P := fun M5 => XX D ad cI cJ p l e (Rm 7 155) s m args below meth c Q 3 M5 35 [(2, .int q1.1), (0, .ref (ad 77)), (1, .int a1)] []) h (fun M5 h => ?_)
      refine x_aload_n (pc := 35) B 1 dX6_clause_35 rfl rfl ?_
      refine x_get (T := TX6) (pc := 36) B 0 oi_77 rfl uw_6 (by decide) rfl tw_406 rfl dX6_clause_36 ?_
      refine x_get (T := TX7) (pc := 39) B 6 oi_14 rfl uw_7 (by decide) rfl tw_218 rfl dX6_clause_39 ?_
      refine x_iload_n (pc := 42) B 2 dX6_clause_42 rfl rfl ?_
      refine x_aload_n (pc := 43) B 1 dX6_clause_43 rfl rfl ?_
      refine x_get (T := TX6) (pc := 44) B 4 oi_77 rfl uw_6 (by decide) rfl tw_410 rfl dX6_clause_44 ?_
      refine x_callSN (rest := []) (st' := []) (pc := 47) B (T_CF_put 20 72 a1 (M5.1 77 4) ai_20 (by decide) M5) tw_588 tw_810 tw_587 tw_98 hd_CF_put ⟨Nat.le_of_ble_eq_true rfl, Nat.le_of_ble_eq_true rfl⟩ rfl rfl (Nat.le_of_ble_eq_true rfl) rfl dX6_clause_47 ?_
      refine jv_m (P := fun M6 => XX D ad cI cJ p l e (Rm 7 155) s m args below meth c Q 3 M6 50 [(2, .int q1.1), (0, .ref (ad 77)), (1, .int a1)] []) h (fun M6 h => ?_)
      refine x_aload_n (pc := 50) B 1 dX6_clause_50 rfl rfl ?_
      obtain ⟨q7, hq7, h⟩ := bnd h
      refine x_callV (rest := []) (st' := [.int (bI q7.1)]) (pc := 51) B oi_77 rfl (C_Reader_sum_77  M6 _ hq7) tw_899 tw_896 tw_898 tw_18 tw_107 hd_Reader_sum_77 ⟨Nat.le_of_ble_eq_true rfl, Nat.le_of_ble_eq_true rfl⟩ rfl rfl (Nat.le_of_ble_eq_true rfl) rfl dX6_clause_51 ?_
      refine x_if_ne_b (tgt := 59) (pc := 54) B dX6_clause_54 rfl (fun hc8 => ?_) (fun hc8 => ?_)
      · have h := ift hc8 h
        refine x_aload_n (pc := 59) B 1 dX6_clause_59 rfl rfl ?_
        refine x_get (T := TX6) (pc := 60) B 0 oi_77 rfl uw_6 (by decide) rfl tw_406 rfl dX6_clause_60 ?_
        refine x_get (T := TX7) (pc := 63) B 7 oi_14 rfl uw_7 (by decide) rfl tw_220 rfl dX6_clause_63 ?_
        refine x_iload_n (pc := 66) B 2 dX6_clause_66 rfl rfl ?_
        refine x_aload_n (pc := 67) B 1 dX6_clause_67 rfl rfl ?_
        refine x_get (T := TX6) (pc := 68) B 4 oi_77 rfl uw_6 (by decide) rfl tw_410 rfl dX6_clause_68 ?_
        refine x_callSN (rest := []) (st' := []) (pc := 71) B (T_CF_put 21 72 a1 (q7.2.1 77 4) ai_21 (by decide) q7.2) tw_588 tw_810 tw_587 tw_98 hd_CF_put ⟨Nat.le_of_ble_eq_true rfl, Nat.le_of_ble_eq_true rfl⟩ rfl rfl (Nat.le_of_ble_eq_true rfl) rfl dX6_clause_71 ?_
        refine jv_m (P := fun M9 => XX D ad cI cJ p l e (Rm 7 155) s m args below meth c Q 3 M9 74 [(2, .int q1.1), (0, .ref (ad 77)), (1, .int a1)] []) h (fun M9 h => ?_)
        refine x_aload_n (pc := 74) B 1 dX6_clause_74 rfl rfl ?_
        obtain ⟨q10, hq10, h⟩ := bnd h
        refine x_callV (rest := []) (st' := [.int q10]) (pc := 75) B oi_77 rfl (C_Reader_coming_77  M9 _ hq10) tw_841 tw_838 tw_840 tw_16 tw_107 hd_Reader_coming_77 ⟨Nat.le_of_ble_eq_true rfl, Nat.le_of_ble_eq_true rfl⟩ rfl rfl (Nat.le_of_ble_eq_true rfl) rfl dX6_clause_75 ?_
        refine x_bipush (v := 32) (pc := 78) B dX6_clause_78 rfl ?_
        refine jn_k h (fun (u13 : Mem) => XX D ad cI cJ p l e (Rm 7 155) s m args below meth c Q 3 u13 101 [(0, .ref (ad 77)), (1, .int a1)] []) (fun u13 h => ?_) (fun k15 h JJ => ?_)
        · refine x_aload_n (pc := 101) B 0 dX6_clause_101 rfl rfl ?_
          refine x_get (T := TX6) (pc := 102) B 0 oi_77 rfl uw_6 (by decide) rfl tw_406 rfl dX6_clause_102 ?_
          refine x_get (T := TX7) (pc := 105) B 8 oi_14 rfl uw_7 (by decide) rfl tw_222 rfl dX6_clause_105 ?_
          refine x_iload_n (pc := 108) B 1 dX6_clause_108 rfl rfl ?_
          refine x_aload_n (pc := 109) B 0 dX6_clause_109 rfl rfl ?_
          refine x_get (T := TX6) (pc := 110) B 4 oi_77 rfl uw_6 (by decide) rfl tw_410 rfl dX6_clause_110 ?_
          refine x_callSN (rest := []) (st' := []) (pc := 113) B (T_CF_put 22 72 a1 (u13.1 77 4) ai_22 (by decide) u13) tw_588 tw_810 tw_587 tw_98 hd_CF_put ⟨Nat.le_of_ble_eq_true rfl, Nat.le_of_ble_eq_true rfl⟩ rfl rfl (Nat.le_of_ble_eq_true rfl) rfl dX6_clause_113 ?_
          refine jv_m (P := fun M14 => XX D ad cI cJ p l e (Rm 7 155) s m args below meth c Q 3 M14 116 [(0, .ref (ad 77)), (1, .int a1)] []) h (fun M14 h => ?_)
          refine x_iconst (v := 1) (pc := 116) B dX6_clause_116 rfl ?_
          obtain rfl := Option.some.inj h
          exact x_zret (v := true) (pc := 117) B hQ dX6_clause_117
        · refine x_icmp_ne (tgt := 101) (pc := 80) B dX6_clause_80 rfl (fun hc11 => ?_) (fun hc11 => ?_)
          · have h := iff_ hc11 h
            refine x_pick (lv' := [(0, .ref (ad 77)), (1, .int a1)]) [1, 2] rfl ?_
            have z := JJ M9 h
            exact z
          · have h := ift hc11 h
            refine x_aload_n (pc := 83) B 1 dX6_clause_83 rfl rfl ?_
            refine x_ldcS (i := 13) (pc := 84) B (by decide) rfl rfl dX6_clause_84 ?_
            obtain ⟨q16, hq16, h⟩ := bnd h
            refine x_callV (rest := []) (st' := [.int (bI q16.1)]) (pc := 86) B oi_77 rfl (C_Reader_passes_77 13 M9 _ hq16) tw_886 tw_883 tw_885 tw_17 tw_107 hd_Reader_passes_77 ⟨Nat.le_of_ble_eq_true rfl, Nat.le_of_ble_eq_true rfl⟩ rfl rfl (Nat.le_of_ble_eq_true rfl) rfl dX6_clause_86 ?_
            refine x_if_eq_b (tgt := 99) (pc := 89) B dX6_clause_89 rfl (fun hc17 => ?_) (fun hc17 => ?_)
            · have h := iff_ hc17 h
              refine x_iconst (v := 0) (pc := 99) B dX6_clause_99 rfl ?_
              obtain rfl := Option.some.inj h
              exact x_zret (v := false) (pc := 100) B hQ dX6_clause_100
            · have h := ift hc17 h
              refine x_aload_n (pc := 92) B 1 dX6_clause_92 rfl rfl ?_
              obtain ⟨q18, hq18, h⟩ := bnd h
              refine x_callV (rest := []) (st' := [.int (bI q18.1)]) (pc := 93) B oi_77 rfl (C_Reader_sum_77  q16.2 _ hq18) tw_899 tw_896 tw_898 tw_18 tw_107 hd_Reader_sum_77 ⟨Nat.le_of_ble_eq_true rfl, Nat.le_of_ble_eq_true rfl⟩ rfl rfl (Nat.le_of_ble_eq_true rfl) rfl dX6_clause_93 ?_
              refine x_if_ne_b (tgt := 101) (pc := 96) B dX6_clause_96 rfl (fun hc19 => ?_) (fun hc19 => ?_)
              · have h := ift hc19 h
                refine x_pick (lv' := [(0, .ref (ad 77)), (1, .int a1)]) [1, 2] rfl ?_
                have z := JJ q18.2 h
                exact z
              · have h := iff_ hc19 h
                refine x_iconst (v := 0) (pc := 99) B dX6_clause_99 rfl ?_
                obtain rfl := Option.some.inj h
                exact x_zret (v := false) (pc := 100) B hQ dX6_clause_100
      · have h := iff_ hc8 h
        refine x_iconst (v := 0) (pc := 57) B dX6_clause_57 rfl ?_
        obtain rfl := Option.some.inj h
        exact x_zret (v := false) (pc := 58) B hQ dX6_clause_58
    · have h := iff_ hc4 h
      refine x_iconst (v := 0) (pc := 21) B dX6_clause_21 rfl ?_
      obtain rfl := Option.some.inj h
      exact x_zret (v := false) (pc := 22) B hQ dX6_clause_22
