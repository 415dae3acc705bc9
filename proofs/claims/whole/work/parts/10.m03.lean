-- CurrentFarms$Reader.emptied(I)I [77]
abbrev y_Reader_emptied_77 : MethodName := ⟨"CurrentFarms$Reader", "emptied", "(I)I"⟩
abbrev cX6_emptied : ByteArray := prog_8_method_3_code
theorem dX6_emptied_0 : decode cX6_emptied 0 = .ok (.aload_n 0, 1) := by decide +kernel
theorem dX6_emptied_1 : decode cX6_emptied 1 = .ok (.getfield 15, 3) := by decide +kernel
theorem dX6_emptied_4 : decode cX6_emptied 4 = .ok (.iconst 0, 1) := by decide +kernel
theorem dX6_emptied_5 : decode cX6_emptied 5 = .ok (.putfield 45, 3) := by decide +kernel
theorem dX6_emptied_8 : decode cX6_emptied 8 = .ok (.iload_n 1, 1) := by decide +kernel
theorem dX6_emptied_9 : decode cX6_emptied 9 = .ok (.ireturn, 1) := by decide +kernel
theorem hd_Reader_emptied_77 : y_Reader_emptied_77.cls ≠ "java/lang/invoke/MethodHandle" ∧ y_Reader_emptied_77.cls ≠ "java/lang/invoke/VarHandle" ∧ (parseMethodDescriptor y_Reader_emptied_77.desc).map (fun d => d.parameters.length) = some 1 := by decide +kernel
def f_Reader_emptied_77 (a1 : Int32) (M0 : Mem) : Option (Int32 × Mem) :=
  jv_ (wI M0 14 1 0) fun M1 => some (a1, M1)
set_option maxHeartbeats 4000000 in
set_option maxRecDepth 20000 in
theorem C_Reader_emptied_77 {D : va_G} {ad adK adV : Nat → Nat} {cI cJ : ClassId} {l : Launch} (a1 : Int32) (M0 : Mem) (o : Int32 × Mem) (h : f_Reader_emptied_77 a1 M0 = some o) : Ct D ad adK adV cI cJ l y_Reader_emptied_77 cX6_emptied 2 (some .int) 0 0 [.ref (ad 77), .int a1] M0 (some (.int o.1)) o.2 := by
  refine x_start (lv := [(0, .ref (ad 77)), (1, .int a1)]) (own := "CurrentFarms$Reader") rfl (by decide) (Nat.le_of_ble_eq_true rfl) rfl ?_
  intro p e s m args below meth c Q hQ B
  unfold f_Reader_emptied_77 at h
  refine x_aload_n (pc := 0) B 0 dX6_emptied_0 rfl rfl ?_
  refine x_get (T := TX6) (pc := 1) B 0 oi_77 rfl uw_6 (by decide) rfl tw_406 rfl dX6_emptied_1 ?_
  refine x_iconst (v := 0) (pc := 4) B dX6_emptied_4 rfl ?_
  refine x_put (T := TX7) (pc := 5) B 1 oi_14 of_14_1 rfl uw_7 tyX7_ok nmX7 (by decide) rfl tw_207 rfl rfl rfl (Nat.le_of_ble_eq_true rfl) dX6_emptied_5 ?_
  refine jv_m (P := fun M1 => XX D ad cI cJ p l e (Rm 0 0) s m args below meth c Q 2 M1 8 [(0, .ref (ad 77)), (1, .int a1)] []) h (fun M1 h => ?_)
  refine x_iload_n (pc := 8) B 1 dX6_emptied_8 rfl rfl ?_
  obtain rfl := Option.some.inj h
  exact x_iret (pc := 9) B hQ dX6_emptied_9
-- CurrentFarms$Reader.makeRule(I)I [77]
abbrev y_Reader_makeRule_77 : MethodName := ⟨"CurrentFarms$Reader", "makeRule", "(I)I"⟩
abbrev cX6_makeRule : ByteArray := prog_8_method_2_code
theorem dX6_makeRule_0 : decode cX6_makeRule 0 = .ok (.aload_n 0, 1) := by decide +kernel
theorem dX6_makeRule_1 : decode cX6_makeRule 1 = .ok (.getfield 15, 3) := by decide +kernel
theorem dX6_makeRule_4 : decode cX6_makeRule 4 = .ok (.getfield 19, 3) := by decide +kernel
theorem dX6_makeRule_7 : decode cX6_makeRule 7 = .ok (.aload_n 0, 1) := by decide +kernel
theorem dX6_makeRule_8 : decode cX6_makeRule 8 = .ok (.getfield 15, 3) := by decide +kernel
theorem dX6_makeRule_11 : decode cX6_makeRule 11 = .ok (.getfield 24, 3) := by decide +kernel
theorem dX6_makeRule_14 : decode cX6_makeRule 14 = .ok (.iload_n 1, 1) := by decide +kernel
theorem dX6_makeRule_15 : decode cX6_makeRule 15 = .ok (.invokestatic 28, 3) := by decide +kernel
theorem dX6_makeRule_18 : decode cX6_makeRule 18 = .ok (.aload_n 0, 1) := by decide +kernel
theorem dX6_makeRule_19 : decode cX6_makeRule 19 = .ok (.iconst 0, 1) := by decide +kernel
theorem dX6_makeRule_20 : decode cX6_makeRule 20 = .ok (.putfield 32, 3) := by decide +kernel
theorem dX6_makeRule_23 : decode cX6_makeRule 23 = .ok (.aload_n 0, 1) := by decide +kernel
theorem dX6_makeRule_24 : decode cX6_makeRule 24 = .ok (.aload_n 0, 1) := by decide +kernel
theorem dX6_makeRule_25 : decode cX6_makeRule 25 = .ok (.getfield 15, 3) := by decide +kernel
theorem dX6_makeRule_28 : decode cX6_makeRule 28 = .ok (.getfield 24, 3) := by decide +kernel
theorem dX6_makeRule_31 : decode cX6_makeRule 31 = .ok (.bipush 120, 2) := by decide +kernel
theorem dX6_makeRule_33 : decode cX6_makeRule 33 = .ok (.imul, 1) := by decide +kernel
theorem dX6_makeRule_34 : decode cX6_makeRule 34 = .ok (.putfield 35, 3) := by decide +kernel
theorem dX6_makeRule_37 : decode cX6_makeRule 37 = .ok (.iconst 1, 1) := by decide +kernel
theorem dX6_makeRule_38 : decode cX6_makeRule 38 = .ok (.istore_n 2, 1) := by decide +kernel
theorem dX6_makeRule_39 : decode cX6_makeRule 39 = .ok (.iconst 0, 1) := by decide +kernel
theorem dX6_makeRule_40 : decode cX6_makeRule 40 = .ok (.istore_n 3, 1) := by decide +kernel
theorem dX6_makeRule_41 : decode cX6_makeRule 41 = .ok (.iload_n 3, 1) := by decide +kernel
theorem dX6_makeRule_42 : decode cX6_makeRule 42 = .ok (.bipush 8, 2) := by decide +kernel
theorem dX6_makeRule_44 : decode cX6_makeRule 44 = .ok (.if_icmp .ge 116, 3) := by decide +kernel
theorem dX6_makeRule_47 : decode cX6_makeRule 47 = .ok (.iload_n 2, 1) := by decide +kernel
theorem dX6_makeRule_48 : decode cX6_makeRule 48 = .ok (.ifCond .eq 112, 3) := by decide +kernel
theorem dX6_makeRule_51 : decode cX6_makeRule 51 = .ok (.aload_n 0, 1) := by decide +kernel
theorem dX6_makeRule_52 : decode cX6_makeRule 52 = .ok (.aload_n 0, 1) := by decide +kernel
theorem dX6_makeRule_53 : decode cX6_makeRule 53 = .ok (.getfield 15, 3) := by decide +kernel
theorem dX6_makeRule_56 : decode cX6_makeRule 56 = .ok (.getfield 24, 3) := by decide +kernel
theorem dX6_makeRule_59 : decode cX6_makeRule 59 = .ok (.bipush 8, 2) := by decide +kernel
theorem dX6_makeRule_61 : decode cX6_makeRule 61 = .ok (.imul, 1) := by decide +kernel
theorem dX6_makeRule_62 : decode cX6_makeRule 62 = .ok (.iload_n 3, 1) := by decide +kernel
theorem dX6_makeRule_63 : decode cX6_makeRule 63 = .ok (.iadd, 1) := by decide +kernel
theorem dX6_makeRule_64 : decode cX6_makeRule 64 = .ok (.invokevirtual 38, 3) := by decide +kernel
theorem dX6_makeRule_67 : decode cX6_makeRule 67 = .ok (.istore 4, 2) := by decide +kernel
theorem dX6_makeRule_69 : decode cX6_makeRule 69 = .ok (.aload_n 0, 1) := by decide +kernel
theorem dX6_makeRule_70 : decode cX6_makeRule 70 = .ok (.getfield 15, 3) := by decide +kernel
theorem dX6_makeRule_73 : decode cX6_makeRule 73 = .ok (.getfield 42, 3) := by decide +kernel
theorem dX6_makeRule_76 : decode cX6_makeRule 76 = .ok (.aload_n 0, 1) := by decide +kernel
theorem dX6_makeRule_77 : decode cX6_makeRule 77 = .ok (.getfield 15, 3) := by decide +kernel
theorem dX6_makeRule_80 : decode cX6_makeRule 80 = .ok (.getfield 24, 3) := by decide +kernel
theorem dX6_makeRule_83 : decode cX6_makeRule 83 = .ok (.iload_n 3, 1) := by decide +kernel
theorem dX6_makeRule_84 : decode cX6_makeRule 84 = .ok (.iconst 1, 1) := by decide +kernel
theorem dX6_makeRule_85 : decode cX6_makeRule 85 = .ok (.iadd, 1) := by decide +kernel
theorem dX6_makeRule_86 : decode cX6_makeRule 86 = .ok (.invokestatic 28, 3) := by decide +kernel
theorem dX6_makeRule_89 : decode cX6_makeRule 89 = .ok (.iload 4, 2) := by decide +kernel
theorem dX6_makeRule_91 : decode cX6_makeRule 91 = .ok (.ifCond .eq 23, 3) := by decide +kernel
theorem dX6_makeRule_94 : decode cX6_makeRule 94 = .ok (.aload_n 0, 1) := by decide +kernel
theorem dX6_makeRule_95 : decode cX6_makeRule 95 = .ok (.getfield 32, 3) := by decide +kernel
theorem dX6_makeRule_98 : decode cX6_makeRule 98 = .ok (.aload_n 0, 1) := by decide +kernel
theorem dX6_makeRule_99 : decode cX6_makeRule 99 = .ok (.getfield 15, 3) := by decide +kernel
theorem dX6_makeRule_102 : decode cX6_makeRule 102 = .ok (.getfield 45, 3) := by decide +kernel
theorem dX6_makeRule_105 : decode cX6_makeRule 105 = .ok (.if_icmp .lt 9, 3) := by decide +kernel
theorem dX6_makeRule_108 : decode cX6_makeRule 108 = .ok (.aload_n 0, 1) := by decide +kernel
theorem dX6_makeRule_109 : decode cX6_makeRule 109 = .ok (.iconst (-1), 1) := by decide +kernel
theorem dX6_makeRule_110 : decode cX6_makeRule 110 = .ok (.invokevirtual 48, 3) := by decide +kernel
theorem dX6_makeRule_113 : decode cX6_makeRule 113 = .ok (.ireturn, 1) := by decide +kernel
theorem dX6_makeRule_114 : decode cX6_makeRule 114 = .ok (.iload 4, 2) := by decide +kernel
theorem dX6_makeRule_116 : decode cX6_makeRule 116 = .ok (.ifCond .eq 22, 3) := by decide +kernel
theorem dX6_makeRule_119 : decode cX6_makeRule 119 = .ok (.aload_n 0, 1) := by decide +kernel
theorem dX6_makeRule_120 : decode cX6_makeRule 120 = .ok (.invokevirtual 52, 3) := by decide +kernel
theorem dX6_makeRule_123 : decode cX6_makeRule 123 = .ok (.bipush 59, 2) := by decide +kernel
theorem dX6_makeRule_125 : decode cX6_makeRule 125 = .ok (.if_icmp .ne 13, 3) := by decide +kernel
theorem dX6_makeRule_128 : decode cX6_makeRule 128 = .ok (.iload_n 3, 1) := by decide +kernel
theorem dX6_makeRule_129 : decode cX6_makeRule 129 = .ok (.bipush 7, 2) := by decide +kernel
theorem dX6_makeRule_131 : decode cX6_makeRule 131 = .ok (.if_icmp .ge 7, 3) := by decide +kernel
theorem dX6_makeRule_134 : decode cX6_makeRule 134 = .ok (.iconst 1, 1) := by decide +kernel
theorem dX6_makeRule_135 : decode cX6_makeRule 135 = .ok (.goto 4, 3) := by decide +kernel
theorem dX6_makeRule_138 : decode cX6_makeRule 138 = .ok (.iconst 0, 1) := by decide +kernel
theorem dX6_makeRule_139 : decode cX6_makeRule 139 = .ok (.istore_n 2, 1) := by decide +kernel
theorem dX6_makeRule_140 : decode cX6_makeRule 140 = .ok (.iload_n 2, 1) := by decide +kernel
theorem dX6_makeRule_141 : decode cX6_makeRule 141 = .ok (.ifCond .eq 13, 3) := by decide +kernel
theorem dX6_makeRule_144 : decode cX6_makeRule 144 = .ok (.aload_n 0, 1) := by decide +kernel
theorem dX6_makeRule_145 : decode cX6_makeRule 145 = .ok (.dup, 1) := by decide +kernel
theorem dX6_makeRule_146 : decode cX6_makeRule 146 = .ok (.getfield 32, 3) := by decide +kernel
theorem dX6_makeRule_149 : decode cX6_makeRule 149 = .ok (.iconst 1, 1) := by decide +kernel
theorem dX6_makeRule_150 : decode cX6_makeRule 150 = .ok (.iadd, 1) := by decide +kernel
theorem dX6_makeRule_151 : decode cX6_makeRule 151 = .ok (.putfield 32, 3) := by decide +kernel
theorem dX6_makeRule_154 : decode cX6_makeRule 154 = .ok (.iinc 3 1, 3) := by decide +kernel
theorem dX6_makeRule_157 : decode cX6_makeRule 157 = .ok (.goto (-116), 3) := by decide +kernel
theorem dX6_makeRule_160 : decode cX6_makeRule 160 = .ok (.aload_n 0, 1) := by decide +kernel
theorem dX6_makeRule_161 : decode cX6_makeRule 161 = .ok (.aload_n 0, 1) := by decide +kernel
theorem dX6_makeRule_162 : decode cX6_makeRule 162 = .ok (.getfield 32, 3) := by decide +kernel
theorem dX6_makeRule_165 : decode cX6_makeRule 165 = .ok (.invokevirtual 48, 3) := by decide +kernel
theorem dX6_makeRule_168 : decode cX6_makeRule 168 = .ok (.ireturn, 1) := by decide +kernel
theorem hd_Reader_makeRule_77 : y_Reader_makeRule_77.cls ≠ "java/lang/invoke/MethodHandle" ∧ y_Reader_makeRule_77.cls ≠ "java/lang/invoke/VarHandle" ∧ (parseMethodDescriptor y_Reader_makeRule_77.desc).map (fun d => d.parameters.length) = some 1 := by decide +kernel
def b_Reader_makeRule_77_41  (y4 : Bool × Int32 × Mem) : Option ((Bool × Int32 × Mem) ⊕ ((Mem) ⊕ (Mem))) :=
  if decide (y4.2.1 < 8) then (if y4.1 then ((f_Reader_clause_77 (((y4.2.2.1 14 9) * 8) + y4.2.1) y4.2.2).bind fun q7 => jv_ (putv q7.2 17 9 (q7.2.1 14 9) (y4.2.1 + 1)) fun M8 => jn_ (fun (u10 : Unit) => jn_ (fun (u13 : Bool) => if u13 then (jv_ (wI M8 77 3 ((M8.1 77 3) + 1)) fun M15 => some (.inl (u13, y4.2.1 + 1, M15))) else (some (.inl (u13, y4.2.1 + 1, M8)))) fun k16 => if q7.1 then ((f_Reader_coming_77 M8).bind fun q17 => if decide (q17 = 59) then (if decide (y4.2.1 < 7) then (k16 true) else (k16 false)) else (k16 false)) else (k16 false)) fun k20 => if q7.1 then (if decide ((M8.1 77 3) < (M8.1 14 1)) then (k20 ()) else (some (.inr (.inr (M8))))) else (k20 ())) else (some (.inr (.inl y4.2.2)))) else (some (.inr (.inl y4.2.2)))
def f_Reader_makeRule_77 (a1 : Int32) (M0 : Mem) : Option (Int32 × Mem) :=
  jv_ (putv M0 18 9 (M0.1 14 9) a1) fun M1 => jv_ (wI M1 77 3 0) fun M2 => jv_ (wI M2 77 4 ((M2.1 14 9) * 120)) fun M3 => (itr (b_Reader_makeRule_77_41) FU (true, 0, M3)).bind fun q22 => (Sum.elim (fun (y23 : Mem) => (f_Reader_emptied_77 (y23.1 77 3) y23).bind fun q25 => some (q25.1, q25.2)) (fun (y24 : Mem) => (f_Reader_emptied_77 (-1) y24).bind fun q26 => some (q26.1, q26.2))) q22
set_option maxHeartbeats 4000000 in
set_option maxRecDepth 20000 in
theorem C_Reader_makeRule_77 {D : va_G} {ad adK adV : Nat → Nat} {cI cJ : ClassId} {l : Launch} (a1 : Int32) (M0 : Mem) (o : Int32 × Mem) (h : f_Reader_makeRule_77 a1 M0 = some o) : Ct D ad adK adV cI cJ l y_Reader_makeRule_77 cX6_makeRule 5 (some .int) 8 177 [.ref (ad 77), .int a1] M0 (some (.int o.1)) o.2 := by
  refine x_start (lv := [(0, .ref (ad 77)), (1, .int a1)]) (own := "CurrentFarms$Reader") rfl (by decide) (Nat.le_of_ble_eq_true rfl) rfl ?_
  intro p e s m args below meth c Q hQ B
  unfold f_Reader_makeRule_77 at h
  refine x_aload_n (pc := 0) B 0 dX6_makeRule_0 rfl rfl ?_
  refine x_get (T := TX6) (pc := 1) B 0 oi_77 rfl uw_6 (by decide) rfl tw_406 rfl dX6_makeRule_1 ?_
  refine x_get (T := TX7) (pc := 4) B 4 oi_14 rfl uw_7 (by decide) rfl tw_214 rfl dX6_makeRule_4 ?_
  refine x_aload_n (pc := 7) B 0 dX6_makeRule_7 rfl rfl ?_
  refine x_get (T := TX6) (pc := 8) B 0 oi_77 rfl uw_6 (by decide) rfl tw_406 rfl dX6_makeRule_8 ?_
  refine x_get (T := TX7) (pc := 11) B 9 oi_14 rfl uw_7 (by decide) rfl tw_223 rfl dX6_makeRule_11 ?_
  refine x_iload_n (pc := 14) B 1 dX6_makeRule_14 rfl rfl ?_
  refine x_callSN (rest := []) (st' := []) (pc := 15) B (T_CF_put 18 9 (M0.1 14 9) a1 ai_18 (by decide) M0) tw_588 tw_810 tw_587 tw_98 hd_CF_put ⟨Nat.le_of_ble_eq_true rfl, Nat.le_of_ble_eq_true rfl⟩ rfl rfl (Nat.le_of_ble_eq_true rfl) rfl dX6_makeRule_15 ?_
  refine jv_m (P := fun M1 => XX D ad cI cJ p l e (Rm 8 177) s m args below meth c Q 5 M1 18 [(0, .ref (ad 77)), (1, .int a1)] []) h (fun M1 h => ?_)
  refine x_aload_n (pc := 18) B 0 dX6_makeRule_18 rfl rfl ?_
  refine x_iconst (v := 0) (pc := 19) B dX6_makeRule_19 rfl ?_
  refine x_put (T := TX6) (pc := 20) B 3 oi_77 of_77_3 rfl uw_6 tyX6_ok nmX6 (by decide) rfl tw_409 rfl rfl rfl (Nat.le_of_ble_eq_true rfl) dX6_makeRule_20 ?_
  refine jv_m (P := fun M2 => XX D ad cI cJ p l e (Rm 8 177) s m args below meth c Q 5 M2 23 [(0, .ref (ad 77)), (1, .int a1)] []) h (fun M2 h => ?_)
  refine x_aload_n (pc := 23) B 0 dX6_makeRule_23 rfl rfl ?_
  refine x_aload_n (pc := 24) B 0 dX6_makeRule_24 rfl rfl ?_
  refine x_get (T := TX6) (pc := 25) B 0 oi_77 rfl uw_6 (by decide) rfl tw_406 rfl dX6_makeRule_25 ?_
  refine x_get (T := TX7) (pc := 28) B 9 oi_14 rfl uw_7 (by decide) rfl tw_223 rfl dX6_makeRule_28 ?_
  refine x_bipush (v := 120) (pc := 31) B dX6_makeRule_31 rfl ?_
  refine x_imul (pc := 33) B dX6_makeRule_33 ?_
  refine x_put (T := TX6) (pc := 34) B 4 oi_77 of_77_4 rfl uw_6 tyX6_ok nmX6 (by decide) rfl tw_410 rfl rfl rfl (Nat.le_of_ble_eq_true rfl) dX6_makeRule_34 ?_
  refine jv_m (P := fun M3 => XX D ad cI cJ p l e (Rm 8 177) s m args below meth c Q 5 M3 37 [(0, .ref (ad 77)), (1, .int a1)] []) h (fun M3 h => ?_)
  refine x_iconst (v := 1) (pc := 37) B dX6_makeRule_37 rfl ?_
  refine x_istore_n (lv' := [(2, .int 1), (0, .ref (ad 77)), (1, .int a1)]) (pc := 38) B dX6_makeRule_38 rfl (by decide) rfl ?_
  refine x_iconst (v := 0) (pc := 39) B dX6_makeRule_39 rfl ?_
  refine x_istore_n (lv' := [(3, .int 0), (2, .int 1), (0, .ref (ad 77)), (1, .int a1)]) (pc := 40) B dX6_makeRule_40 rfl (by decide) rfl ?_
  refine x_pick (lv' := [(0, .ref (ad 77)), (2, .int 1), (3, .int 0)]) [2, 1, 0] rfl ?_
  obtain ⟨q22, hq22, h⟩ := bnd h
  refine x_loop (Head := fun (y4 : Bool × Int32 × Mem) => XX D ad cI cJ p l e (Rm 8 177) s m args below meth c Q 5 y4.2.2 41 [(0, .ref (ad 77)), (2, .int (bI y4.1)), (3, .int y4.2.1)] []) (Ex := (Sum.elim (fun (y23 : Mem) => XX D ad cI cJ p l e (Rm 8 177) s m args below meth c Q 5 y23 160 [(0, .ref (ad 77))] []) (fun (y24 : Mem) => XX D ad cI cJ p l e (Rm 8 177) s m args below meth c Q 5 y24 108 [(0, .ref (ad 77))] []))) (fun y4 r h hback hexit => ?_) FU _ q22 hq22 ?_
  · unfold b_Reader_makeRule_77_41 at h
    refine x_iload_n (pc := 41) B 2 dX6_makeRule_41 rfl rfl ?_
    refine x_bipush (v := 8) (pc := 42) B dX6_makeRule_42 rfl ?_
    refine x_icmp_ge (tgt := 160) (pc := 44) B dX6_makeRule_44 rfl (fun hc5 => ?_) (fun hc5 => ?_)
    · have h := iff_ hc5 h
      refine x_pick (lv' := [(0, .ref (ad 77))]) [0] rfl ?_
      have z := hexit (.inl y4.2.2) (Option.some.inj h).symm
      exact z
    · have h := ift hc5 h
      refine x_iload_n (pc := 47) B 1 dX6_makeRule_47 rfl rfl ?_
      refine x_if_eq_b (tgt := 160) (pc := 48) B dX6_makeRule_48 rfl (fun hc6 => ?_) (fun hc6 => ?_)
      · have h := iff_ hc6 h
        refine x_pick (lv' := [(0, .ref (ad 77))]) [0] rfl ?_
        have z := hexit (.inl y4.2.2) (Option.some.inj h).symm
        exact z
      · have h := ift hc6 h
        refine x_aload_n (pc := 51) B 0 dX6_makeRule_51 rfl rfl ?_
        refine x_aload_n (pc := 52) B 0 dX6_makeRule_52 rfl rfl ?_
        refine x_get (T := TX6) (pc := 53) B 0 oi_77 rfl uw_6 (by decide) rfl tw_406 rfl dX6_makeRule_53 ?_
        refine x_get (T := TX7) (pc := 56) B 9 oi_14 rfl uw_7 (by decide) rfl tw_223 rfl dX6_makeRule_56 ?_
        refine x_bipush (v := 8) (pc := 59) B dX6_makeRule_59 rfl ?_
        refine x_imul (pc := 61) B dX6_makeRule_61 ?_
        refine x_iload_n (pc := 62) B 2 dX6_makeRule_62 rfl rfl ?_
        refine x_iadd (pc := 63) B dX6_makeRule_63 ?_
        obtain ⟨q7, hq7, h⟩ := bnd h
        refine x_callV (rest := []) (st' := [.int (bI q7.1)]) (pc := 64) B oi_77 rfl (C_Reader_clause_77 (((y4.2.2.1 14 9) * 8) + y4.2.1) y4.2.2 _ hq7) tw_814 tw_811 tw_813 tw_14 tw_107 hd_Reader_clause_77 ⟨Nat.le_of_ble_eq_true rfl, Nat.le_of_ble_eq_true rfl⟩ rfl rfl (Nat.le_of_ble_eq_true rfl) rfl dX6_makeRule_64 ?_
        refine x_istore (lv' := [(4, .int (bI q7.1)), (0, .ref (ad 77)), (2, .int (bI y4.1)), (3, .int y4.2.1)]) (pc := 67) B dX6_makeRule_67 (by decide) rfl ?_
        refine x_aload_n (pc := 69) B 1 dX6_makeRule_69 rfl rfl ?_
        refine x_get (T := TX6) (pc := 70) B 0 oi_77 rfl uw_6 (by decide) rfl tw_406 rfl dX6_makeRule_70 ?_
        refine x_get (T := TX7) (pc := 73) B 3 oi_14 rfl uw_7 (by decide) rfl tw_212 rfl dX6_makeRule_73 ?_
        refine x_aload_n (pc := 76) B 1 dX6_makeRule_76 rfl rfl ?_
        refine x_get (T := TX6) (pc := 77) B 0 oi_77 rfl uw_6 (by decide) rfl tw_406 rfl dX6_makeRule_77 ?_
        refine x_get (T := TX7) (pc := 80) B 9 oi_14 rfl uw_7 (by decide) rfl tw_223 rfl dX6_makeRule_80 ?_
        refine x_iload_n (pc := 83) B 3 dX6_makeRule_83 rfl rfl ?_
        refine x_iconst (v := 1) (pc := 84) B dX6_makeRule_84 rfl ?_
        refine x_iadd (pc := 85) B dX6_makeRule_85 ?_
        refine x_callSN (rest := []) (st' := []) (pc := 86) B (T_CF_put 17 9 (q7.2.1 14 9) (y4.2.1 + 1) ai_17 (by decide) q7.2) tw_588 tw_810 tw_587 tw_98 hd_CF_put ⟨Nat.le_of_ble_eq_true rfl, Nat.le_of_ble_eq_true rfl⟩ rfl rfl (Nat.le_of_ble_eq_true rfl) rfl dX6_makeRule_86 ?_
        refine jv_m (P := fun M8 => XX D ad cI cJ p l e (Rm 8 177) s m args below meth c Q 5 M8 89 [(4, .int (bI q7.1)), (0, .ref (ad 77)), (2, .int (bI y4.1)), (3, .int y4.2.1)] []) h (fun M8 h => ?_)
        refine x_iload (pc := 89) B 0 dX6_makeRule_89 rfl ?_
        refine jn_k h (fun (u10 : Unit) => XX D ad cI cJ p l e (Rm 8 177) s m args below meth c Q 5 M8 114 [(0, .ref (ad 77)), (3, .int y4.2.1), (4, .int (bI q7.1))] []) (fun u10 h => ?_) (fun k20 h JJ => ?_)
        · refine x_iload (pc := 114) B 2 dX6_makeRule_114 rfl ?_
          refine jn_k h (fun (u13 : Bool) => XX D ad cI cJ p l e (Rm 8 177) s m args below meth c Q 5 M8 139 [(0, .ref (ad 77)), (3, .int y4.2.1)] [.int (bI u13)]) (fun u13 h => ?_) (fun k16 h JJ => ?_)
          · refine x_istore_n (lv' := [(2, .int (bI u13)), (0, .ref (ad 77)), (3, .int y4.2.1)]) (pc := 139) B dX6_makeRule_139 rfl (by decide) rfl ?_
            refine x_iload_n (pc := 140) B 0 dX6_makeRule_140 rfl rfl ?_
            refine x_if_eq_b (tgt := 154) (pc := 141) B dX6_makeRule_141 rfl (fun hc14 => ?_) (fun hc14 => ?_)
            · have h := iff_ hc14 h
              refine x_iinc (k := 2) (v := y4.2.1 + 1) (lv' := [(3, .int (y4.2.1 + 1)), (2, .int (bI u13)), (0, .ref (ad 77))]) (pc := 154) B dX6_makeRule_154 rfl rfl (by decide) rfl ?_
              refine x_goto (tgt := 41) (pc := 157) B dX6_makeRule_157 rfl ?_
              refine x_pick (lv' := [(0, .ref (ad 77)), (2, .int (bI u13)), (3, .int (y4.2.1 + 1))]) [2, 1, 0] rfl ?_
              have z := hback (u13, y4.2.1 + 1, M8) (Option.some.inj h).symm
              exact z
            · have h := ift hc14 h
              refine x_aload_n (pc := 144) B 1 dX6_makeRule_144 rfl rfl ?_
              refine x_dup (pc := 145) B dX6_makeRule_145 rfl ?_
              refine x_get (T := TX6) (pc := 146) B 3 oi_77 rfl uw_6 (by decide) rfl tw_409 rfl dX6_makeRule_146 ?_
              refine x_iconst (v := 1) (pc := 149) B dX6_makeRule_149 rfl ?_
              refine x_iadd (pc := 150) B dX6_makeRule_150 ?_
              refine x_put (T := TX6) (pc := 151) B 3 oi_77 of_77_3 rfl uw_6 tyX6_ok nmX6 (by decide) rfl tw_409 rfl rfl rfl (Nat.le_of_ble_eq_true rfl) dX6_makeRule_151 ?_
              refine jv_m (P := fun M15 => XX D ad cI cJ p l e (Rm 8 177) s m args below meth c Q 5 M15 154 [(2, .int (bI u13)), (0, .ref (ad 77)), (3, .int y4.2.1)] []) h (fun M15 h => ?_)
              refine x_iinc (k := 2) (v := y4.2.1 + 1) (lv' := [(3, .int (y4.2.1 + 1)), (2, .int (bI u13)), (0, .ref (ad 77))]) (pc := 154) B dX6_makeRule_154 rfl rfl (by decide) rfl ?_
              refine x_goto (tgt := 41) (pc := 157) B dX6_makeRule_157 rfl ?_
              refine x_pick (lv' := [(0, .ref (ad 77)), (2, .int (bI u13)), (3, .int (y4.2.1 + 1))]) [2, 1, 0] rfl ?_
              have z := hback (u13, y4.2.1 + 1, M15) (Option.some.inj h).symm
              exact z
          · refine x_if_eq_b (tgt := 138) (pc := 116) B dX6_makeRule_116 rfl (fun hc11 => ?_) (fun hc11 => ?_)
            · have h := iff_ hc11 h
              refine x_iconst (v := 0) (pc := 138) B dX6_makeRule_138 rfl ?_
              refine x_pick (lv' := [(0, .ref (ad 77)), (3, .int y4.2.1)]) [0, 1] rfl ?_
              have z := JJ false h
              exact z
            · have h := ift hc11 h
              refine x_aload_n (pc := 119) B 0 dX6_makeRule_119 rfl rfl ?_
              obtain ⟨q17, hq17, h⟩ := bnd h
              refine x_callV (rest := []) (st' := [.int q17]) (pc := 120) B oi_77 rfl (C_Reader_coming_77  M8 _ hq17) tw_841 tw_838 tw_840 tw_16 tw_107 hd_Reader_coming_77 ⟨Nat.le_of_ble_eq_true rfl, Nat.le_of_ble_eq_true rfl⟩ rfl rfl (Nat.le_of_ble_eq_true rfl) rfl dX6_makeRule_120 ?_
              refine x_bipush (v := 59) (pc := 123) B dX6_makeRule_123 rfl ?_
              refine x_icmp_ne (tgt := 138) (pc := 125) B dX6_makeRule_125 rfl (fun hc18 => ?_) (fun hc18 => ?_)
              · have h := iff_ hc18 h
                refine x_iconst (v := 0) (pc := 138) B dX6_makeRule_138 rfl ?_
                refine x_pick (lv' := [(0, .ref (ad 77)), (3, .int y4.2.1)]) [0, 1] rfl ?_
                have z := JJ false h
                exact z
              · have h := ift hc18 h
                refine x_iload_n (pc := 128) B 1 dX6_makeRule_128 rfl rfl ?_
                refine x_bipush (v := 7) (pc := 129) B dX6_makeRule_129 rfl ?_
                refine x_icmp_ge (tgt := 138) (pc := 131) B dX6_makeRule_131 rfl (fun hc19 => ?_) (fun hc19 => ?_)
                · have h := iff_ hc19 h
                  refine x_iconst (v := 0) (pc := 138) B dX6_makeRule_138 rfl ?_
                  refine x_pick (lv' := [(0, .ref (ad 77)), (3, .int y4.2.1)]) [0, 1] rfl ?_
                  have z := JJ false h
                  exact z
                · have h := ift hc19 h
                  refine x_iconst (v := 1) (pc := 134) B dX6_makeRule_134 rfl ?_
                  refine x_goto (tgt := 139) (pc := 135) B dX6_makeRule_135 rfl ?_
                  refine x_pick (lv' := [(0, .ref (ad 77)), (3, .int y4.2.1)]) [0, 1] rfl ?_
                  have z := JJ true h
                  exact z
        · refine x_if_eq_b (tgt := 114) (pc := 91) B dX6_makeRule_91 rfl (fun hc9 => ?_) (fun hc9 => ?_)
          · have h := iff_ hc9 h
            refine x_pick (lv' := [(0, .ref (ad 77)), (3, .int y4.2.1), (4, .int (bI q7.1))]) [1, 3, 0] rfl ?_
            have z := JJ () h
            exact z
          · have h := ift hc9 h
            refine x_aload_n (pc := 94) B 1 dX6_makeRule_94 rfl rfl ?_
            refine x_get (T := TX6) (pc := 95) B 3 oi_77 rfl uw_6 (by decide) rfl tw_409 rfl dX6_makeRule_95 ?_
            refine x_aload_n (pc := 98) B 1 dX6_makeRule_98 rfl rfl ?_
            refine x_get (T := TX6) (pc := 99) B 0 oi_77 rfl uw_6 (by decide) rfl tw_406 rfl dX6_makeRule_99 ?_
            refine x_get (T := TX7) (pc := 102) B 1 oi_14 rfl uw_7 (by decide) rfl tw_207 rfl dX6_makeRule_102 ?_
            refine x_icmp_lt (tgt := 114) (pc := 105) B dX6_makeRule_105 rfl (fun hc21 => ?_) (fun hc21 => ?_)
            · have h := ift hc21 h
              refine x_pick (lv' := [(0, .ref (ad 77)), (3, .int y4.2.1), (4, .int (bI q7.1))]) [1, 3, 0] rfl ?_
              have z := JJ () h
              exact z
            · have h := iff_ hc21 h
              refine x_pick (lv' := [(0, .ref (ad 77))]) [1] rfl ?_
              have z := hexit (.inr (M8)) (Option.some.inj h).symm
              exact z
  · rcases q22 with y23 | rest0_26
    · have h := selL h
      refine x_aload_n (pc := 160) B 0 dX6_makeRule_160 rfl rfl ?_
      refine x_aload_n (pc := 161) B 0 dX6_makeRule_161 rfl rfl ?_
      refine x_get (T := TX6) (pc := 162) B 3 oi_77 rfl uw_6 (by decide) rfl tw_409 rfl dX6_makeRule_162 ?_
      obtain ⟨q25, hq25, h⟩ := bnd h
      refine x_callV (rest := []) (st' := [.int q25.1]) (pc := 165) B oi_77 rfl (C_Reader_emptied_77 (y23.1 77 3) y23 _ hq25) tw_931 tw_928 tw_930 tw_24 tw_107 hd_Reader_emptied_77 ⟨Nat.le_of_ble_eq_true rfl, Nat.le_of_ble_eq_true rfl⟩ rfl rfl (Nat.le_of_ble_eq_true rfl) rfl dX6_makeRule_165 ?_
      obtain rfl := Option.some.inj h
      exact x_iret (pc := 168) B hQ dX6_makeRule_168
    · have h := selR h
      obtain ⟨y24, rfl⟩ : ∃ z_, z_ = rest0_26 := ⟨_, rfl⟩
      refine x_aload_n (pc := 108) B 0 dX6_makeRule_108 rfl rfl ?_
      refine x_iconst (v := (-1)) (pc := 109) B dX6_makeRule_109 rfl ?_
      obtain ⟨q26, hq26, h⟩ := bnd h
      refine x_callV (rest := []) (st' := [.int q26.1]) (pc := 110) B oi_77 rfl (C_Reader_emptied_77 (-1) y24 _ hq26) tw_931 tw_928 tw_930 tw_24 tw_107 hd_Reader_emptied_77 ⟨Nat.le_of_ble_eq_true rfl, Nat.le_of_ble_eq_true rfl⟩ rfl rfl (Nat.le_of_ble_eq_true rfl) rfl dX6_makeRule_110 ?_
      obtain rfl := Option.some.inj h
      exact x_iret (pc := 113) B hQ dX6_makeRule_113
-- CurrentFarms.text(I)I [0]
abbrev y_CF_text_0 : MethodName := ⟨"CurrentFarms", "text", "(I)I"⟩
abbrev cX11_text : ByteArray := prog_1_method_13_code
theorem dX11_text_0 : decode cX11_text 0 = .ok (.iload_n 1, 1) := by decide +kernel
theorem dX11_text_1 : decode cX11_text 1 = .ok (.iconst 0, 1) := by decide +kernel
theorem dX11_text_2 : decode cX11_text 2 = .ok (.bipush 120, 2) := by decide +kernel
theorem dX11_text_4 : decode cX11_text 4 = .ok (.invokestatic 72, 3) := by decide +kernel
theorem dX11_text_7 : decode cX11_text 7 = .ok (.ifCond .ne 6, 3) := by decide +kernel
theorem dX11_text_10 : decode cX11_text 10 = .ok (.bipush (-2), 2) := by decide +kernel
theorem dX11_text_12 : decode cX11_text 12 = .ok (.ireturn, 1) := by decide +kernel
theorem dX11_text_13 : decode cX11_text 13 = .ok (.aload_n 0, 1) := by decide +kernel
theorem dX11_text_14 : decode cX11_text 14 = .ok (.getfield 12, 3) := by decide +kernel
theorem dX11_text_17 : decode cX11_text 17 = .ok (.getfield 21, 3) := by decide +kernel
theorem dX11_text_20 : decode cX11_text 20 = .ok (.getfield 182, 3) := by decide +kernel
theorem dX11_text_23 : decode cX11_text 23 = .ok (.bipush 8, 2) := by decide +kernel
theorem dX11_text_25 : decode cX11_text 25 = .ok (.if_icmp .lt 6, 3) := by decide +kernel
theorem dX11_text_28 : decode cX11_text 28 = .ok (.bipush (-4), 2) := by decide +kernel
theorem dX11_text_30 : decode cX11_text 30 = .ok (.ireturn, 1) := by decide +kernel
theorem dX11_text_31 : decode cX11_text 31 = .ok (.aload_n 0, 1) := by decide +kernel
theorem dX11_text_32 : decode cX11_text 32 = .ok (.getfield 28, 3) := by decide +kernel
theorem dX11_text_35 : decode cX11_text 35 = .ok (.iload_n 1, 1) := by decide +kernel
theorem dX11_text_36 : decode cX11_text 36 = .ok (.invokevirtual 183, 3) := by decide +kernel
theorem dX11_text_39 : decode cX11_text 39 = .ok (.istore_n 2, 1) := by decide +kernel
theorem dX11_text_40 : decode cX11_text 40 = .ok (.iload_n 2, 1) := by decide +kernel
theorem dX11_text_41 : decode cX11_text 41 = .ok (.ifCond .lt 8, 3) := by decide +kernel
theorem dX11_text_44 : decode cX11_text 44 = .ok (.bipush (-10), 2) := by decide +kernel
theorem dX11_text_46 : decode cX11_text 46 = .ok (.iload_n 2, 1) := by decide +kernel
theorem dX11_text_47 : decode cX11_text 47 = .ok (.isub, 1) := by decide +kernel
theorem dX11_text_48 : decode cX11_text 48 = .ok (.ireturn, 1) := by decide +kernel
theorem dX11_text_49 : decode cX11_text 49 = .ok (.aload_n 0, 1) := by decide +kernel
theorem dX11_text_50 : decode cX11_text 50 = .ok (.getfield 12, 3) := by decide +kernel
theorem dX11_text_53 : decode cX11_text 53 = .ok (.getfield 21, 3) := by decide +kernel
theorem dX11_text_56 : decode cX11_text 56 = .ok (.dup, 1) := by decide +kernel
theorem dX11_text_57 : decode cX11_text 57 = .ok (.getfield 182, 3) := by decide +kernel
theorem dX11_text_60 : decode cX11_text 60 = .ok (.iconst 1, 1) := by decide +kernel
theorem dX11_text_61 : decode cX11_text 61 = .ok (.iadd, 1) := by decide +kernel
theorem dX11_text_62 : decode cX11_text 62 = .ok (.putfield 182, 3) := by decide +kernel
theorem dX11_text_65 : decode cX11_text 65 = .ok (.aload_n 0, 1) := by decide +kernel
theorem dX11_text_66 : decode cX11_text 66 = .ok (.getfield 12, 3) := by decide +kernel
theorem dX11_text_69 : decode cX11_text 69 = .ok (.getfield 21, 3) := by decide +kernel
theorem dX11_text_72 : decode cX11_text 72 = .ok (.getfield 182, 3) := by decide +kernel
theorem dX11_text_75 : decode cX11_text 75 = .ok (.iconst 1, 1) := by decide +kernel
theorem dX11_text_76 : decode cX11_text 76 = .ok (.isub, 1) := by decide +kernel
theorem dX11_text_77 : decode cX11_text 77 = .ok (.ireturn, 1) := by decide +kernel
theorem hd_CF_text_0 : y_CF_text_0.cls ≠ "java/lang/invoke/MethodHandle" ∧ y_CF_text_0.cls ≠ "java/lang/invoke/VarHandle" ∧ (parseMethodDescriptor y_CF_text_0.desc).map (fun d => d.parameters.length) = some 1 := by decide +kernel
def f_CF_text_0 (a1 : Int32) (M0 : Mem) : Option (Int32 × Mem) :=
  if wthn a1 0 120 then (if decide ((M0.1 14 9) < 8) then ((f_Reader_makeRule_77 a1 M0).bind fun q3 => if decide (q3.1 < 0) then (jv_ (wI q3.2 14 9 ((q3.2.1 14 9) + 1)) fun M5 => some ((M5.1 14 9) - 1, M5)) else (some ((-10) - q3.1, q3.2))) else (some ((-4), M0))) else (some ((-2), M0))
set_option maxHeartbeats 4000000 in
set_option maxRecDepth 20000 in
theorem C_CF_text_0 {D : va_G} {ad adK adV : Nat → Nat} {cI cJ : ClassId} {l : Launch} (a1 : Int32) (M0 : Mem) (o : Int32 × Mem) (h : f_CF_text_0 a1 M0 = some o) : Ct D ad adK adV cI cJ l y_CF_text_0 cX11_text 3 (some .int) 9 201 [.ref (ad 0), .int a1] M0 (some (.int o.1)) o.2 := by
  refine x_start (lv := [(0, .ref (ad 0)), (1, .int a1)]) (own := "CurrentFarms") rfl (by decide) (Nat.le_of_ble_eq_true rfl) rfl ?_
  intro p e s m args below meth c Q hQ B
  unfold f_CF_text_0 at h
  refine x_iload_n (pc := 0) B 1 dX11_text_0 rfl rfl ?_
  refine x_iconst (v := 0) (pc := 1) B dX11_text_1 rfl ?_
  refine x_bipush (v := 120) (pc := 2) B dX11_text_2 rfl ?_
  refine x_callS (rest := []) (st' := [.int (bI (wthn a1 0 120))]) (pc := 4) B (T_CF_within a1 0 120 M0) tw_559 tw_557 tw_558 tw_98 hd_CF_within ⟨Nat.le_of_ble_eq_true rfl, Nat.le_of_ble_eq_true rfl⟩ rfl rfl (Nat.le_of_ble_eq_true rfl) rfl dX11_text_4 ?_
  refine x_if_ne_b (tgt := 13) (pc := 7) B dX11_text_7 rfl (fun hc1 => ?_) (fun hc1 => ?_)
  · have h := ift hc1 h
    refine x_aload_n (pc := 13) B 0 dX11_text_13 rfl rfl ?_
    refine x_get (T := TX11) (pc := 14) B 0 oi_0 rfl uw_11 (by decide) rfl tw_525 rfl dX11_text_14 ?_
    refine x_get (T := TX8) (pc := 17) B 2 oi_1 rfl uw_8 (by decide) rfl tw_369 rfl dX11_text_17 ?_
    refine x_get (T := TX7) (pc := 20) B 9 oi_14 rfl uw_7 (by decide) rfl tw_225 rfl dX11_text_20 ?_
    refine x_bipush (v := 8) (pc := 23) B dX11_text_23 rfl ?_
    refine x_icmp_lt (tgt := 31) (pc := 25) B dX11_text_25 rfl (fun hc2 => ?_) (fun hc2 => ?_)
    · have h := ift hc2 h
      refine x_aload_n (pc := 31) B 0 dX11_text_31 rfl rfl ?_
      refine x_get (T := TX11) (pc := 32) B 3 oi_0 rfl uw_11 (by decide) rfl tw_528 rfl dX11_text_32 ?_
      refine x_iload_n (pc := 35) B 1 dX11_text_35 rfl rfl ?_
      obtain ⟨q3, hq3, h⟩ := bnd h
      refine x_callV (rest := []) (st' := [.int q3.1]) (pc := 36) B oi_77 rfl (C_Reader_makeRule_77 a1 M0 _ hq3) tw_809 tw_806 tw_807 tw_808 tw_107 hd_Reader_makeRule_77 ⟨Nat.le_of_ble_eq_true rfl, Nat.le_of_ble_eq_true rfl⟩ rfl rfl (Nat.le_of_ble_eq_true rfl) rfl dX11_text_36 ?_
      refine x_istore_n (lv' := [(2, .int q3.1), (0, .ref (ad 0)), (1, .int a1)]) (pc := 39) B dX11_text_39 rfl (by decide) rfl ?_
      refine x_iload_n (pc := 40) B 0 dX11_text_40 rfl rfl ?_
      refine x_if_lt (tgt := 49) (pc := 41) B dX11_text_41 rfl (fun hc4 => ?_) (fun hc4 => ?_)
      · have h := ift hc4 h
        refine x_aload_n (pc := 49) B 1 dX11_text_49 rfl rfl ?_
        refine x_get (T := TX11) (pc := 50) B 0 oi_0 rfl uw_11 (by decide) rfl tw_525 rfl dX11_text_50 ?_
        refine x_get (T := TX8) (pc := 53) B 2 oi_1 rfl uw_8 (by decide) rfl tw_369 rfl dX11_text_53 ?_
        refine x_dup (pc := 56) B dX11_text_56 rfl ?_
        refine x_get (T := TX7) (pc := 57) B 9 oi_14 rfl uw_7 (by decide) rfl tw_225 rfl dX11_text_57 ?_
        refine x_iconst (v := 1) (pc := 60) B dX11_text_60 rfl ?_
        refine x_iadd (pc := 61) B dX11_text_61 ?_
        refine x_put (T := TX7) (pc := 62) B 9 oi_14 of_14_9 rfl uw_7 tyX7_ok nmX7 (by decide) rfl tw_225 rfl rfl rfl (Nat.le_of_ble_eq_true rfl) dX11_text_62 ?_
        refine jv_m (P := fun M5 => XX D ad cI cJ p l e (Rm 9 201) s m args below meth c Q 3 M5 65 [(2, .int q3.1), (0, .ref (ad 0)), (1, .int a1)] []) h (fun M5 h => ?_)
        refine x_aload_n (pc := 65) B 1 dX11_text_65 rfl rfl ?_
        refine x_get (T := TX11) (pc := 66) B 0 oi_0 rfl uw_11 (by decide) rfl tw_525 rfl dX11_text_66 ?_
        refine x_get (T := TX8) (pc := 69) B 2 oi_1 rfl uw_8 (by decide) rfl tw_369 rfl dX11_text_69 ?_
        refine x_get (T := TX7) (pc := 72) B 9 oi_14 rfl uw_7 (by decide) rfl tw_225 rfl dX11_text_72 ?_
        refine x_iconst (v := 1) (pc := 75) B dX11_text_75 rfl ?_
        refine x_isub (pc := 76) B dX11_text_76 ?_
        obtain rfl := Option.some.inj h
        exact x_iret (pc := 77) B hQ dX11_text_77
      · have h := iff_ hc4 h
        refine x_bipush (v := (-10)) (pc := 44) B dX11_text_44 rfl ?_
        refine x_iload_n (pc := 46) B 0 dX11_text_46 rfl rfl ?_
        refine x_isub (pc := 47) B dX11_text_47 ?_
        obtain rfl := Option.some.inj h
        exact x_iret (pc := 48) B hQ dX11_text_48
    · have h := iff_ hc2 h
      refine x_bipush (v := (-4)) (pc := 28) B dX11_text_28 rfl ?_
      obtain rfl := Option.some.inj h
      exact x_iret (pc := 30) B hQ dX11_text_30
  · have h := iff_ hc1 h
    refine x_bipush (v := (-2)) (pc := 10) B dX11_text_10 rfl ?_
    obtain rfl := Option.some.inj h
    exact x_iret (pc := 12) B hQ dX11_text_12
-- CurrentFarms.refusedOfWord(IIII)I [0]
abbrev y_CF_refusedOfWord_0 : MethodName := ⟨"CurrentFarms", "refusedOfWord", "(IIII)I"⟩
abbrev cX11_refusedOfWord : ByteArray := prog_1_method_49_code
theorem dX11_refusedOfWord_0 : decode cX11_refusedOfWord 0 = .ok (.iload_n 1, 1) := by decide +kernel
theorem dX11_refusedOfWord_1 : decode cX11_refusedOfWord 1 = .ok (.iconst 0, 1) := by decide +kernel
theorem dX11_refusedOfWord_2 : decode cX11_refusedOfWord 2 = .ok (.iconst 5, 1) := by decide +kernel
theorem dX11_refusedOfWord_3 : decode cX11_refusedOfWord 3 = .ok (.invokestatic 72, 3) := by decide +kernel
theorem dX11_refusedOfWord_6 : decode cX11_refusedOfWord 6 = .ok (.ifCond .eq 16, 3) := by decide +kernel
theorem dX11_refusedOfWord_9 : decode cX11_refusedOfWord 9 = .ok (.iload_n 2, 1) := by decide +kernel
theorem dX11_refusedOfWord_10 : decode cX11_refusedOfWord 10 = .ok (.iconst (-1), 1) := by decide +kernel
theorem dX11_refusedOfWord_11 : decode cX11_refusedOfWord 11 = .ok (.if_icmp .eq 13, 3) := by decide +kernel
theorem dX11_refusedOfWord_14 : decode cX11_refusedOfWord 14 = .ok (.aload_n 0, 1) := by decide +kernel
theorem dX11_refusedOfWord_15 : decode cX11_refusedOfWord 15 = .ok (.iload_n 2, 1) := by decide +kernel
theorem dX11_refusedOfWord_16 : decode cX11_refusedOfWord 16 = .ok (.invokevirtual 126, 3) := by decide +kernel
theorem dX11_refusedOfWord_19 : decode cX11_refusedOfWord 19 = .ok (.ifCond .ne 5, 3) := by decide +kernel
theorem dX11_refusedOfWord_22 : decode cX11_refusedOfWord 22 = .ok (.iconst (-1), 1) := by decide +kernel
theorem dX11_refusedOfWord_23 : decode cX11_refusedOfWord 23 = .ok (.ireturn, 1) := by decide +kernel
theorem dX11_refusedOfWord_24 : decode cX11_refusedOfWord 24 = .ok (.iload_n 3, 1) := by decide +kernel
theorem dX11_refusedOfWord_25 : decode cX11_refusedOfWord 25 = .ok (.iconst 0, 1) := by decide +kernel
theorem dX11_refusedOfWord_26 : decode cX11_refusedOfWord 26 = .ok (.bipush 120, 2) := by decide +kernel
theorem dX11_refusedOfWord_28 : decode cX11_refusedOfWord 28 = .ok (.invokestatic 72, 3) := by decide +kernel
theorem dX11_refusedOfWord_31 : decode cX11_refusedOfWord 31 = .ok (.ifCond .eq 19, 3) := by decide +kernel
theorem dX11_refusedOfWord_34 : decode cX11_refusedOfWord 34 = .ok (.iload 4, 2) := by decide +kernel
theorem dX11_refusedOfWord_36 : decode cX11_refusedOfWord 36 = .ok (.iconst 0, 1) := by decide +kernel
theorem dX11_refusedOfWord_37 : decode cX11_refusedOfWord 37 = .ok (.sipush 9999, 3) := by decide +kernel
theorem dX11_refusedOfWord_40 : decode cX11_refusedOfWord 40 = .ok (.invokestatic 72, 3) := by decide +kernel
theorem dX11_refusedOfWord_43 : decode cX11_refusedOfWord 43 = .ok (.ifCond .eq 7, 3) := by decide +kernel
theorem dX11_refusedOfWord_46 : decode cX11_refusedOfWord 46 = .ok (.iconst 0, 1) := by decide +kernel
theorem dX11_refusedOfWord_47 : decode cX11_refusedOfWord 47 = .ok (.goto 5, 3) := by decide +kernel
theorem dX11_refusedOfWord_50 : decode cX11_refusedOfWord 50 = .ok (.bipush (-2), 2) := by decide +kernel
theorem dX11_refusedOfWord_52 : decode cX11_refusedOfWord 52 = .ok (.ireturn, 1) := by decide +kernel
theorem hd_CF_refusedOfWord_0 : y_CF_refusedOfWord_0.cls ≠ "java/lang/invoke/MethodHandle" ∧ y_CF_refusedOfWord_0.cls ≠ "java/lang/invoke/VarHandle" ∧ (parseMethodDescriptor y_CF_refusedOfWord_0.desc).map (fun d => d.parameters.length) = some 4 := by decide +kernel
def f_CF_refusedOfWord_0 (a1 : Int32) (a2 : Int32) (a3 : Int32) (a4 : Int32) (M0 : Mem) : Option (Int32) :=
  if wthn a1 0 5 then (jn_ (fun (u3 : Unit) => if wthn a3 0 120 then (if wthn a4 0 9999 then (some 0) else (some (-2))) else (some (-2))) fun k6 => if decide (a2 = (-1)) then (k6 ()) else ((f_CF_isFarm_0 a2 M0).bind fun q7 => if q7 then (k6 ()) else (some (-1)))) else (some (-1))
set_option maxHeartbeats 4000000 in
set_option maxRecDepth 20000 in
theorem C_CF_refusedOfWord_0 {D : va_G} {ad adK adV : Nat → Nat} {cI cJ : ClassId} {l : Launch} (a1 : Int32) (a2 : Int32) (a3 : Int32) (a4 : Int32) (M0 : Mem) (o : Int32) (h : f_CF_refusedOfWord_0 a1 a2 a3 a4 M0 = some o) : Ct D ad adK adV cI cJ l y_CF_refusedOfWord_0 cX11_refusedOfWord 5 (some .int) 2 43 [.ref (ad 0), .int a1, .int a2, .int a3, .int a4] M0 (some (.int o)) M0 := by
  refine x_start (lv := [(0, .ref (ad 0)), (1, .int a1), (2, .int a2), (3, .int a3), (4, .int a4)]) (own := "CurrentFarms") rfl (by decide) (Nat.le_of_ble_eq_true rfl) rfl ?_
  intro p e s m args below meth c Q hQ B
  unfold f_CF_refusedOfWord_0 at h
  refine x_iload_n (pc := 0) B 1 dX11_refusedOfWord_0 rfl rfl ?_
  refine x_iconst (v := 0) (pc := 1) B dX11_refusedOfWord_1 rfl ?_
  refine x_iconst (v := 5) (pc := 2) B dX11_refusedOfWord_2 rfl ?_
  refine x_callS (rest := []) (st' := [.int (bI (wthn a1 0 5))]) (pc := 3) B (T_CF_within a1 0 5 M0) tw_559 tw_557 tw_558 tw_98 hd_CF_within ⟨Nat.le_of_ble_eq_true rfl, Nat.le_of_ble_eq_true rfl⟩ rfl rfl (Nat.le_of_ble_eq_true rfl) rfl dX11_refusedOfWord_3 ?_
  refine x_if_eq_b (tgt := 22) (pc := 6) B dX11_refusedOfWord_6 rfl (fun hc1 => ?_) (fun hc1 => ?_)
  · have h := iff_ hc1 h
    refine x_iconst (v := (-1)) (pc := 22) B dX11_refusedOfWord_22 rfl ?_
    obtain rfl := Option.some.inj h
    exact x_iret (pc := 23) B hQ dX11_refusedOfWord_23
  · have h := ift hc1 h
    refine x_iload_n (pc := 9) B 2 dX11_refusedOfWord_9 rfl rfl ?_
    refine x_iconst (v := (-1)) (pc := 10) B dX11_refusedOfWord_10 rfl ?_
    refine jn_k h (fun (u3 : Unit) => XX D ad cI cJ p l e (Rm 2 43) s m args below meth c Q 5 M0 24 [(3, .int a3), (4, .int a4)] []) (fun u3 h => ?_) (fun k6 h JJ => ?_)
    · refine x_iload_n (pc := 24) B 0 dX11_refusedOfWord_24 rfl rfl ?_
      refine x_iconst (v := 0) (pc := 25) B dX11_refusedOfWord_25 rfl ?_
      refine x_bipush (v := 120) (pc := 26) B dX11_refusedOfWord_26 rfl ?_
      refine x_callS (rest := []) (st' := [.int (bI (wthn a3 0 120))]) (pc := 28) B (T_CF_within a3 0 120 M0) tw_559 tw_557 tw_558 tw_98 hd_CF_within ⟨Nat.le_of_ble_eq_true rfl, Nat.le_of_ble_eq_true rfl⟩ rfl rfl (Nat.le_of_ble_eq_true rfl) rfl dX11_refusedOfWord_28 ?_
      refine x_if_eq_b (tgt := 50) (pc := 31) B dX11_refusedOfWord_31 rfl (fun hc4 => ?_) (fun hc4 => ?_)
      · have h := iff_ hc4 h
        refine x_bipush (v := (-2)) (pc := 50) B dX11_refusedOfWord_50 rfl ?_
        obtain rfl := Option.some.inj h
        exact x_iret (pc := 52) B hQ dX11_refusedOfWord_52
      · have h := ift hc4 h
        refine x_iload (pc := 34) B 1 dX11_refusedOfWord_34 rfl ?_
        refine x_iconst (v := 0) (pc := 36) B dX11_refusedOfWord_36 rfl ?_
        refine x_sipush (v := 9999) (pc := 37) B dX11_refusedOfWord_37 rfl ?_
        refine x_callS (rest := []) (st' := [.int (bI (wthn a4 0 9999))]) (pc := 40) B (T_CF_within a4 0 9999 M0) tw_559 tw_557 tw_558 tw_98 hd_CF_within ⟨Nat.le_of_ble_eq_true rfl, Nat.le_of_ble_eq_true rfl⟩ rfl rfl (Nat.le_of_ble_eq_true rfl) rfl dX11_refusedOfWord_40 ?_
        refine x_if_eq_b (tgt := 50) (pc := 43) B dX11_refusedOfWord_43 rfl (fun hc5 => ?_) (fun hc5 => ?_)
        · have h := iff_ hc5 h
          refine x_bipush (v := (-2)) (pc := 50) B dX11_refusedOfWord_50 rfl ?_
          obtain rfl := Option.some.inj h
          exact x_iret (pc := 52) B hQ dX11_refusedOfWord_52
        · have h := ift hc5 h
          refine x_iconst (v := 0) (pc := 46) B dX11_refusedOfWord_46 rfl ?_
          refine x_goto (tgt := 52) (pc := 47) B dX11_refusedOfWord_47 rfl ?_
          obtain rfl := Option.some.inj h
          exact x_iret (pc := 52) B hQ dX11_refusedOfWord_52
    · refine x_icmp_eq (tgt := 24) (pc := 11) B dX11_refusedOfWord_11 rfl (fun hc2 => ?_) (fun hc2 => ?_)
      · have h := ift hc2 h
        refine x_pick (lv' := [(3, .int a3), (4, .int a4)]) [3, 4] rfl ?_
        have z := JJ () h
        exact z
      · have h := iff_ hc2 h
        refine x_aload_n (pc := 14) B 0 dX11_refusedOfWord_14 rfl rfl ?_
        refine x_iload_n (pc := 15) B 2 dX11_refusedOfWord_15 rfl rfl ?_
        obtain ⟨q7, hq7, h⟩ := bnd h
        refine x_callV (rest := []) (st' := [.int (bI q7)]) (pc := 16) B oi_0 rfl (C_CF_isFarm_0 a2 M0 _ hq7) tw_638 tw_635 tw_637 tw_2 tw_98 hd_CF_isFarm_0 ⟨Nat.le_of_ble_eq_true rfl, Nat.le_of_ble_eq_true rfl⟩ rfl rfl (Nat.le_of_ble_eq_true rfl) rfl dX11_refusedOfWord_16 ?_
        refine x_if_ne_b (tgt := 24) (pc := 19) B dX11_refusedOfWord_19 rfl (fun hc8 => ?_) (fun hc8 => ?_)
        · have h := ift hc8 h
          refine x_pick (lv' := [(3, .int a3), (4, .int a4)]) [3, 4] rfl ?_
          have z := JJ () h
          exact z
        · have h := iff_ hc8 h
          refine x_iconst (v := (-1)) (pc := 22) B dX11_refusedOfWord_22 rfl ?_
          obtain rfl := Option.some.inj h
          exact x_iret (pc := 23) B hQ dX11_refusedOfWord_23
-- CurrentFarms$Account.ruled(IIII)I [79]
abbrev y_Account_ruled_79 : MethodName := ⟨"CurrentFarms$Account", "ruled", "(IIII)I"⟩
abbrev cX0_ruled : ByteArray := prog_2_method_5_code
theorem dX0_ruled_0 : decode cX0_ruled 0 = .ok (.aload_n 0, 1) := by decide +kernel
theorem dX0_ruled_1 : decode cX0_ruled 1 = .ok (.getfield 9, 3) := by decide +kernel
theorem dX0_ruled_4 : decode cX0_ruled 4 = .ok (.iconst 0, 1) := by decide +kernel
theorem dX0_ruled_5 : decode cX0_ruled 5 = .ok (.invokestatic 138, 3) := by decide +kernel
theorem dX0_ruled_8 : decode cX0_ruled 8 = .ok (.iload_n 2, 1) := by decide +kernel
theorem dX0_ruled_9 : decode cX0_ruled 9 = .ok (.ifCond .lt 54, 3) := by decide +kernel
theorem dX0_ruled_12 : decode cX0_ruled 12 = .ok (.aload_n 0, 1) := by decide +kernel
theorem dX0_ruled_13 : decode cX0_ruled 13 = .ok (.iload_n 2, 1) := by decide +kernel
theorem dX0_ruled_14 : decode cX0_ruled 14 = .ok (.iload_n 3, 1) := by decide +kernel
theorem dX0_ruled_15 : decode cX0_ruled 15 = .ok (.iconst 1, 1) := by decide +kernel
theorem dX0_ruled_16 : decode cX0_ruled 16 = .ok (.isub, 1) := by decide +kernel
theorem dX0_ruled_17 : decode cX0_ruled 17 = .ok (.invokevirtual 144, 3) := by decide +kernel
theorem dX0_ruled_20 : decode cX0_ruled 20 = .ok (.aload_n 0, 1) := by decide +kernel
theorem dX0_ruled_21 : decode cX0_ruled 21 = .ok (.getfield 9, 3) := by decide +kernel
theorem dX0_ruled_24 : decode cX0_ruled 24 = .ok (.iconst 0, 1) := by decide +kernel
theorem dX0_ruled_25 : decode cX0_ruled 25 = .ok (.iload 4, 2) := by decide +kernel
theorem dX0_ruled_27 : decode cX0_ruled 27 = .ok (.invokestatic 37, 3) := by decide +kernel
theorem dX0_ruled_30 : decode cX0_ruled 30 = .ok (.aload_n 0, 1) := by decide +kernel
theorem dX0_ruled_31 : decode cX0_ruled 31 = .ok (.getfield 9, 3) := by decide +kernel
theorem dX0_ruled_34 : decode cX0_ruled 34 = .ok (.iconst 2, 1) := by decide +kernel
theorem dX0_ruled_35 : decode cX0_ruled 35 = .ok (.aload_n 0, 1) := by decide +kernel
theorem dX0_ruled_36 : decode cX0_ruled 36 = .ok (.getfield 15, 3) := by decide +kernel
theorem dX0_ruled_39 : decode cX0_ruled 39 = .ok (.getfield 54, 3) := by decide +kernel
theorem dX0_ruled_42 : decode cX0_ruled 42 = .ok (.iload_n 2, 1) := by decide +kernel
theorem dX0_ruled_43 : decode cX0_ruled 43 = .ok (.iload_n 3, 1) := by decide +kernel
theorem dX0_ruled_44 : decode cX0_ruled 44 = .ok (.iconst (-1), 1) := by decide +kernel
theorem dX0_ruled_45 : decode cX0_ruled 45 = .ok (.invokevirtual 58, 3) := by decide +kernel
theorem dX0_ruled_48 : decode cX0_ruled 48 = .ok (.invokestatic 37, 3) := by decide +kernel
theorem dX0_ruled_51 : decode cX0_ruled 51 = .ok (.aload_n 0, 1) := by decide +kernel
theorem dX0_ruled_52 : decode cX0_ruled 52 = .ok (.getfield 9, 3) := by decide +kernel
theorem dX0_ruled_55 : decode cX0_ruled 55 = .ok (.iconst 3, 1) := by decide +kernel
theorem dX0_ruled_56 : decode cX0_ruled 56 = .ok (.aload_n 0, 1) := by decide +kernel
theorem dX0_ruled_57 : decode cX0_ruled 57 = .ok (.getfield 81, 3) := by decide +kernel
theorem dX0_ruled_60 : decode cX0_ruled 60 = .ok (.invokestatic 37, 3) := by decide +kernel
theorem dX0_ruled_63 : decode cX0_ruled 63 = .ok (.aload_n 0, 1) := by decide +kernel
theorem dX0_ruled_64 : decode cX0_ruled 64 = .ok (.getfield 15, 3) := by decide +kernel
theorem dX0_ruled_67 : decode cX0_ruled 67 = .ok (.getfield 84, 3) := by decide +kernel
theorem dX0_ruled_70 : decode cX0_ruled 70 = .ok (.iload_n 1, 1) := by decide +kernel
theorem dX0_ruled_71 : decode cX0_ruled 71 = .ok (.iload_n 3, 1) := by decide +kernel
theorem dX0_ruled_72 : decode cX0_ruled 72 = .ok (.aload_n 0, 1) := by decide +kernel
theorem dX0_ruled_73 : decode cX0_ruled 73 = .ok (.getfield 9, 3) := by decide +kernel
theorem dX0_ruled_76 : decode cX0_ruled 76 = .ok (.invokevirtual 88, 3) := by decide +kernel
theorem dX0_ruled_79 : decode cX0_ruled 79 = .ok (.ireturn, 1) := by decide +kernel
theorem hd_Account_ruled_79 : y_Account_ruled_79.cls ≠ "java/lang/invoke/MethodHandle" ∧ y_Account_ruled_79.cls ≠ "java/lang/invoke/VarHandle" ∧ (parseMethodDescriptor y_Account_ruled_79.desc).map (fun d => d.parameters.length) = some 4 := by decide +kernel
def f_Account_ruled_79 (a1 : Int32) (a2 : Int32) (a3 : Int32) (a4 : Int32) (M0 : Mem) : Option (Int32 × Mem) :=
  jv_ (wR M0 80 (filv (M0.1 80) 5 0)) fun M1 => jn_ (fun (u4 : Mem) => (f_Rules_worth_14_80 a1 a3 u4).bind fun q5 => some (q5.1, q5.2)) fun k6 => if decide (a2 < 0) then (k6 M1) else ((f_Account_walk_79 a2 (a3 - 1) M1).bind fun q7 => jv_ (putv q7 80 5 0 a4) fun M8 => (f_Book_kindIn_7 a2 a3 (-1) M8).bind fun q9 => jv_ (putv q9.2 80 5 2 q9.1) fun M10 => jv_ (putv M10 80 5 3 (M10.1 79 4)) fun M11 => k6 M11)
set_option maxHeartbeats 4000000 in
set_option maxRecDepth 20000 in
theorem C_Account_ruled_79 {D : va_G} {ad adK adV : Nat → Nat} {cI cJ : ClassId} {l : Launch} (a1 : Int32) (a2 : Int32) (a3 : Int32) (a4 : Int32) (M0 : Mem) (o : Int32 × Mem) (h : f_Account_ruled_79 a1 a2 a3 a4 M0 = some o) : Ct D ad adK adV cI cJ l y_Account_ruled_79 cX0_ruled 5 (some .int) 5 129 [.ref (ad 79), .int a1, .int a2, .int a3, .int a4] M0 (some (.int o.1)) o.2 := by
  refine x_start (lv := [(0, .ref (ad 79)), (1, .int a1), (2, .int a2), (3, .int a3), (4, .int a4)]) (own := "CurrentFarms$Account") rfl (by decide) (Nat.le_of_ble_eq_true rfl) rfl ?_
  intro p e s m args below meth c Q hQ B
  unfold f_Account_ruled_79 at h
  refine x_aload_n (pc := 0) B 0 dX0_ruled_0 rfl rfl ?_
  refine x_get (T := TX0) (pc := 1) B 1 oi_79 rfl uw_0 (by decide) rfl tw_429 rfl dX0_ruled_1 ?_
  refine x_iconst (v := 0) (pc := 4) B dX0_ruled_4 rfl ?_
  refine x_callS (rest := []) (st' := []) (pc := 5) B (T_fill 80 5 0 ai_80 (by decide) M0) tw_262 tw_945 tw_261 tw_104 hd_Arrays_fill_53178 ⟨Nat.le_of_ble_eq_true rfl, Nat.le_of_ble_eq_true rfl⟩ rfl rfl (Nat.le_of_ble_eq_true rfl) rfl dX0_ruled_5 ?_
  refine jv_m (P := fun M1 => XX D ad cI cJ p l e (Rm 5 129) s m args below meth c Q 5 M1 8 [(0, .ref (ad 79)), (1, .int a1), (2, .int a2), (3, .int a3), (4, .int a4)] []) h (fun M1 h => ?_)
  refine x_iload_n (pc := 8) B 2 dX0_ruled_8 rfl rfl ?_
  refine jn_k h (fun (u4 : Mem) => XX D ad cI cJ p l e (Rm 5 129) s m args below meth c Q 5 u4 63 [(0, .ref (ad 79)), (1, .int a1), (3, .int a3)] []) (fun u4 h => ?_) (fun k6 h JJ => ?_)
  · refine x_aload_n (pc := 63) B 0 dX0_ruled_63 rfl rfl ?_
    refine x_get (T := TX0) (pc := 64) B 0 oi_79 rfl uw_0 (by decide) rfl tw_428 rfl dX0_ruled_64 ?_
    refine x_get (T := TX8) (pc := 67) B 2 oi_1 rfl uw_8 (by decide) rfl tw_370 rfl dX0_ruled_67 ?_
    refine x_iload_n (pc := 70) B 1 dX0_ruled_70 rfl rfl ?_
    refine x_iload_n (pc := 71) B 2 dX0_ruled_71 rfl rfl ?_
    refine x_aload_n (pc := 72) B 0 dX0_ruled_72 rfl rfl ?_
    refine x_get (T := TX0) (pc := 73) B 1 oi_79 rfl uw_0 (by decide) rfl tw_429 rfl dX0_ruled_73 ?_
    obtain ⟨q5, hq5, h⟩ := bnd h
    refine x_callV (rest := []) (st' := [.int q5.1]) (pc := 76) B oi_14 rfl (C_Rules_worth_14_80 a1 a3 u4 _ hq5) tw_741 tw_738 tw_739 tw_740 tw_102 hd_Rules_worth_14_80 ⟨Nat.le_of_ble_eq_true rfl, Nat.le_of_ble_eq_true rfl⟩ rfl rfl (Nat.le_of_ble_eq_true rfl) rfl dX0_ruled_76 ?_
    obtain rfl := Option.some.inj h
    exact x_iret (pc := 79) B hQ dX0_ruled_79
  · refine x_if_lt (tgt := 63) (pc := 9) B dX0_ruled_9 rfl (fun hc2 => ?_) (fun hc2 => ?_)
    · have h := ift hc2 h
      refine x_pick (lv' := [(0, .ref (ad 79)), (1, .int a1), (3, .int a3)]) [0, 1, 3] rfl ?_
      have z := JJ M1 h
      exact z
    · have h := iff_ hc2 h
      refine x_aload_n (pc := 12) B 0 dX0_ruled_12 rfl rfl ?_
      refine x_iload_n (pc := 13) B 2 dX0_ruled_13 rfl rfl ?_
      refine x_iload_n (pc := 14) B 3 dX0_ruled_14 rfl rfl ?_
      refine x_iconst (v := 1) (pc := 15) B dX0_ruled_15 rfl ?_
      refine x_isub (pc := 16) B dX0_ruled_16 ?_
      obtain ⟨q7, hq7, h⟩ := bnd h
      refine x_callV (rest := []) (st' := []) (pc := 17) B oi_79 rfl (C_Account_walk_79 a2 (a3 - 1) M1 _ hq7) tw_707 tw_946 tw_705 tw_706 tw_108 hd_Account_walk_79 ⟨Nat.le_of_ble_eq_true rfl, Nat.le_of_ble_eq_true rfl⟩ rfl rfl (Nat.le_of_ble_eq_true rfl) rfl dX0_ruled_17 ?_
      refine x_aload_n (pc := 20) B 0 dX0_ruled_20 rfl rfl ?_
      refine x_get (T := TX0) (pc := 21) B 1 oi_79 rfl uw_0 (by decide) rfl tw_429 rfl dX0_ruled_21 ?_
      refine x_iconst (v := 0) (pc := 24) B dX0_ruled_24 rfl ?_
      refine x_iload (pc := 25) B 4 dX0_ruled_25 rfl ?_
      refine x_callSN (rest := []) (st' := []) (pc := 27) B (T_CF_put 80 5 0 a4 ai_80 (by decide) q7) tw_588 tw_713 tw_587 tw_98 hd_CF_put ⟨Nat.le_of_ble_eq_true rfl, Nat.le_of_ble_eq_true rfl⟩ rfl rfl (Nat.le_of_ble_eq_true rfl) rfl dX0_ruled_27 ?_
      refine jv_m (P := fun M8 => XX D ad cI cJ p l e (Rm 5 129) s m args below meth c Q 5 M8 30 [(0, .ref (ad 79)), (1, .int a1), (2, .int a2), (3, .int a3), (4, .int a4)] []) h (fun M8 h => ?_)
      refine x_aload_n (pc := 30) B 0 dX0_ruled_30 rfl rfl ?_
      refine x_get (T := TX0) (pc := 31) B 1 oi_79 rfl uw_0 (by decide) rfl tw_429 rfl dX0_ruled_31 ?_
      refine x_iconst (v := 2) (pc := 34) B dX0_ruled_34 rfl ?_
      refine x_aload_n (pc := 35) B 0 dX0_ruled_35 rfl rfl ?_
      refine x_get (T := TX0) (pc := 36) B 0 oi_79 rfl uw_0 (by decide) rfl tw_428 rfl dX0_ruled_36 ?_
      refine x_get (T := TX8) (pc := 39) B 1 oi_1 rfl uw_8 (by decide) rfl tw_365 rfl dX0_ruled_39 ?_
      refine x_iload_n (pc := 42) B 2 dX0_ruled_42 rfl rfl ?_
      refine x_iload_n (pc := 43) B 3 dX0_ruled_43 rfl rfl ?_
      refine x_iconst (v := (-1)) (pc := 44) B dX0_ruled_44 rfl ?_
      obtain ⟨q9, hq9, h⟩ := bnd h
      refine x_callV (rest := [.int 2, .ref (ad 80)]) (st' := [.int q9.1, .int 2, .ref (ad 80)]) (pc := 45) B oi_7 rfl (C_Book_kindIn_7 a2 a3 (-1) M8 _ hq9) tw_673 tw_721 tw_671 tw_672 tw_101 hd_Book_kindIn_7 ⟨Nat.le_of_ble_eq_true rfl, Nat.le_of_ble_eq_true rfl⟩ rfl rfl (Nat.le_of_ble_eq_true rfl) rfl dX0_ruled_45 ?_
      refine x_callSN (rest := []) (st' := []) (pc := 48) B (T_CF_put 80 5 2 q9.1 ai_80 (by decide) q9.2) tw_588 tw_713 tw_587 tw_98 hd_CF_put ⟨Nat.le_of_ble_eq_true rfl, Nat.le_of_ble_eq_true rfl⟩ rfl rfl (Nat.le_of_ble_eq_true rfl) rfl dX0_ruled_48 ?_
      refine jv_m (P := fun M10 => XX D ad cI cJ p l e (Rm 5 129) s m args below meth c Q 5 M10 51 [(0, .ref (ad 79)), (1, .int a1), (2, .int a2), (3, .int a3), (4, .int a4)] []) h (fun M10 h => ?_)
      refine x_aload_n (pc := 51) B 0 dX0_ruled_51 rfl rfl ?_
      refine x_get (T := TX0) (pc := 52) B 1 oi_79 rfl uw_0 (by decide) rfl tw_429 rfl dX0_ruled_52 ?_
      refine x_iconst (v := 3) (pc := 55) B dX0_ruled_55 rfl ?_
      refine x_aload_n (pc := 56) B 0 dX0_ruled_56 rfl rfl ?_
      refine x_get (T := TX0) (pc := 57) B 4 oi_79 rfl uw_0 (by decide) rfl tw_434 rfl dX0_ruled_57 ?_
      refine x_callSN (rest := []) (st' := []) (pc := 60) B (T_CF_put 80 5 3 (M10.1 79 4) ai_80 (by decide) M10) tw_588 tw_713 tw_587 tw_98 hd_CF_put ⟨Nat.le_of_ble_eq_true rfl, Nat.le_of_ble_eq_true rfl⟩ rfl rfl (Nat.le_of_ble_eq_true rfl) rfl dX0_ruled_60 ?_
      refine jv_m (P := fun M11 => XX D ad cI cJ p l e (Rm 5 129) s m args below meth c Q 5 M11 63 [(0, .ref (ad 79)), (1, .int a1), (2, .int a2), (3, .int a3), (4, .int a4)] []) h (fun M11 h => ?_)
      refine x_pick (lv' := [(0, .ref (ad 79)), (1, .int a1), (3, .int a3)]) [0, 1, 3] rfl ?_
      have z := JJ M11 h
      exact z
-- CurrentFarms.force(IIII)I [0]
abbrev y_CF_force_0 : MethodName := ⟨"CurrentFarms", "force", "(IIII)I"⟩
abbrev cX11_force : ByteArray := prog_1_method_14_code
theorem dX11_force_0 : decode cX11_force 0 = .ok (.aload_n 0, 1) := by decide +kernel
theorem dX11_force_1 : decode cX11_force 1 = .ok (.iload_n 1, 1) := by decide +kernel
theorem dX11_force_2 : decode cX11_force 2 = .ok (.iload_n 2, 1) := by decide +kernel
theorem dX11_force_3 : decode cX11_force 3 = .ok (.iload_n 3, 1) := by decide +kernel
theorem dX11_force_4 : decode cX11_force 4 = .ok (.iload 4, 2) := by decide +kernel
theorem dX11_force_6 : decode cX11_force 6 = .ok (.invokevirtual 186, 3) := by decide +kernel
theorem dX11_force_9 : decode cX11_force 9 = .ok (.istore 5, 2) := by decide +kernel
theorem dX11_force_11 : decode cX11_force 11 = .ok (.iload 5, 2) := by decide +kernel
theorem dX11_force_13 : decode cX11_force 13 = .ok (.ifCond .ge 8, 3) := by decide +kernel
theorem dX11_force_16 : decode cX11_force 16 = .ok (.iload 5, 2) := by decide +kernel
theorem dX11_force_18 : decode cX11_force 18 = .ok (.goto 15, 3) := by decide +kernel
theorem dX11_force_21 : decode cX11_force 21 = .ok (.aload_n 0, 1) := by decide +kernel
theorem dX11_force_22 : decode cX11_force 22 = .ok (.getfield 37, 3) := by decide +kernel
theorem dX11_force_25 : decode cX11_force 25 = .ok (.iload_n 1, 1) := by decide +kernel
theorem dX11_force_26 : decode cX11_force 26 = .ok (.iload_n 2, 1) := by decide +kernel
theorem dX11_force_27 : decode cX11_force 27 = .ok (.iload_n 3, 1) := by decide +kernel
theorem dX11_force_28 : decode cX11_force 28 = .ok (.iload 4, 2) := by decide +kernel
theorem dX11_force_30 : decode cX11_force 30 = .ok (.invokevirtual 189, 3) := by decide +kernel
theorem dX11_force_33 : decode cX11_force 33 = .ok (.ireturn, 1) := by decide +kernel
theorem hd_CF_force_0 : y_CF_force_0.cls ≠ "java/lang/invoke/MethodHandle" ∧ y_CF_force_0.cls ≠ "java/lang/invoke/VarHandle" ∧ (parseMethodDescriptor y_CF_force_0.desc).map (fun d => d.parameters.length) = some 4 := by decide +kernel
def f_CF_force_0 (a1 : Int32) (a2 : Int32) (a3 : Int32) (a4 : Int32) (M0 : Mem) : Option (Int32 × Mem) :=
  (f_CF_refusedOfWord_0 a1 a2 a3 a4 M0).bind fun q1 => if decide (q1 < 0) then (some (q1, M0)) else ((f_Account_ruled_79 a1 a2 a3 a4 M0).bind fun q3 => some (q3.1, q3.2))
set_option maxHeartbeats 4000000 in
set_option maxRecDepth 20000 in
theorem C_CF_force_0 {D : va_G} {ad adK adV : Nat → Nat} {cI cJ : ClassId} {l : Launch} (a1 : Int32) (a2 : Int32) (a3 : Int32) (a4 : Int32) (M0 : Mem) (o : Int32 × Mem) (h : f_CF_force_0 a1 a2 a3 a4 M0 = some o) : Ct D ad adK adV cI cJ l y_CF_force_0 cX11_force 6 (some .int) 6 153 [.ref (ad 0), .int a1, .int a2, .int a3, .int a4] M0 (some (.int o.1)) o.2 := by
  refine x_start (lv := [(0, .ref (ad 0)), (1, .int a1), (2, .int a2), (3, .int a3), (4, .int a4)]) (own := "CurrentFarms") rfl (by decide) (Nat.le_of_ble_eq_true rfl) rfl ?_
  intro p e s m args below meth c Q hQ B
  unfold f_CF_force_0 at h
  refine x_aload_n (pc := 0) B 0 dX11_force_0 rfl rfl ?_
  refine x_iload_n (pc := 1) B 1 dX11_force_1 rfl rfl ?_
  refine x_iload_n (pc := 2) B 2 dX11_force_2 rfl rfl ?_
  refine x_iload_n (pc := 3) B 3 dX11_force_3 rfl rfl ?_
  refine x_iload (pc := 4) B 4 dX11_force_4 rfl ?_
  obtain ⟨q1, hq1, h⟩ := bnd h
  refine x_callV (rest := []) (st' := [.int q1]) (pc := 6) B oi_0 rfl (C_CF_refusedOfWord_0 a1 a2 a3 a4 M0 _ hq1) tw_940 tw_937 tw_939 tw_25 tw_98 hd_CF_refusedOfWord_0 ⟨Nat.le_of_ble_eq_true rfl, Nat.le_of_ble_eq_true rfl⟩ rfl rfl (Nat.le_of_ble_eq_true rfl) rfl dX11_force_6 ?_
  refine x_istore (lv' := [(5, .int q1), (0, .ref (ad 0)), (1, .int a1), (2, .int a2), (3, .int a3), (4, .int a4)]) (pc := 9) B dX11_force_9 (by decide) rfl ?_
  refine x_iload (pc := 11) B 0 dX11_force_11 rfl ?_
  refine x_if_ge (tgt := 21) (pc := 13) B dX11_force_13 rfl (fun hc2 => ?_) (fun hc2 => ?_)
  · have h := iff_ hc2 h
    refine x_aload_n (pc := 21) B 1 dX11_force_21 rfl rfl ?_
    refine x_get (T := TX11) (pc := 22) B 4 oi_0 rfl uw_11 (by decide) rfl tw_529 rfl dX11_force_22 ?_
    refine x_iload_n (pc := 25) B 2 dX11_force_25 rfl rfl ?_
    refine x_iload_n (pc := 26) B 3 dX11_force_26 rfl rfl ?_
    refine x_iload_n (pc := 27) B 4 dX11_force_27 rfl rfl ?_
    refine x_iload (pc := 28) B 5 dX11_force_28 rfl ?_
    obtain ⟨q3, hq3, h⟩ := bnd h
    refine x_callV (rest := []) (st' := [.int q3.1]) (pc := 30) B oi_79 rfl (C_Account_ruled_79 a1 a2 a3 a4 M0 _ hq3) tw_944 tw_941 tw_942 tw_943 tw_108 hd_Account_ruled_79 ⟨Nat.le_of_ble_eq_true rfl, Nat.le_of_ble_eq_true rfl⟩ rfl rfl (Nat.le_of_ble_eq_true rfl) rfl dX11_force_30 ?_
    obtain rfl := Option.some.inj h
    exact x_iret (pc := 33) B hQ dX11_force_33
  · have h := ift hc2 h
    refine x_iload (pc := 16) B 0 dX11_force_16 rfl ?_
    refine x_goto (tgt := 33) (pc := 18) B dX11_force_18 rfl ?_
    obtain rfl := Option.some.inj h
    exact x_iret (pc := 33) B hQ dX11_force_33
-- CurrentFarms.why(IIII)I [0]
abbrev y_CF_why_0 : MethodName := ⟨"CurrentFarms", "why", "(IIII)I"⟩
abbrev cX11_why : ByteArray := prog_1_method_15_code
theorem dX11_why_0 : decode cX11_why 0 = .ok (.aload_n 0, 1) := by decide +kernel
theorem dX11_why_1 : decode cX11_why 1 = .ok (.iload_n 1, 1) := by decide +kernel
theorem dX11_why_2 : decode cX11_why 2 = .ok (.iload_n 2, 1) := by decide +kernel
theorem dX11_why_3 : decode cX11_why 3 = .ok (.iload_n 3, 1) := by decide +kernel
theorem dX11_why_4 : decode cX11_why 4 = .ok (.iload 4, 2) := by decide +kernel
theorem dX11_why_6 : decode cX11_why 6 = .ok (.invokevirtual 186, 3) := by decide +kernel
theorem dX11_why_9 : decode cX11_why 9 = .ok (.istore 5, 2) := by decide +kernel
theorem dX11_why_11 : decode cX11_why 11 = .ok (.iload 5, 2) := by decide +kernel
theorem dX11_why_13 : decode cX11_why 13 = .ok (.ifCond .ge 6, 3) := by decide +kernel
theorem dX11_why_16 : decode cX11_why 16 = .ok (.iload 5, 2) := by decide +kernel
theorem dX11_why_18 : decode cX11_why 18 = .ok (.ireturn, 1) := by decide +kernel
theorem dX11_why_19 : decode cX11_why 19 = .ok (.aload_n 0, 1) := by decide +kernel
theorem dX11_why_20 : decode cX11_why 20 = .ok (.getfield 37, 3) := by decide +kernel
theorem dX11_why_23 : decode cX11_why 23 = .ok (.iload_n 1, 1) := by decide +kernel
theorem dX11_why_24 : decode cX11_why 24 = .ok (.iload_n 2, 1) := by decide +kernel
theorem dX11_why_25 : decode cX11_why 25 = .ok (.iload_n 3, 1) := by decide +kernel
theorem dX11_why_26 : decode cX11_why 26 = .ok (.iload 4, 2) := by decide +kernel
theorem dX11_why_28 : decode cX11_why 28 = .ok (.invokevirtual 189, 3) := by decide +kernel
theorem dX11_why_31 : decode cX11_why 31 = .ok (.pop, 1) := by decide +kernel
theorem dX11_why_32 : decode cX11_why 32 = .ok (.aload_n 0, 1) := by decide +kernel
theorem dX11_why_33 : decode cX11_why 33 = .ok (.getfield 12, 3) := by decide +kernel
theorem dX11_why_36 : decode cX11_why 36 = .ok (.getfield 21, 3) := by decide +kernel
theorem dX11_why_39 : decode cX11_why 39 = .ok (.getfield 192, 3) := by decide +kernel
theorem dX11_why_42 : decode cX11_why 42 = .ok (.ireturn, 1) := by decide +kernel
theorem hd_CF_why_0 : y_CF_why_0.cls ≠ "java/lang/invoke/MethodHandle" ∧ y_CF_why_0.cls ≠ "java/lang/invoke/VarHandle" ∧ (parseMethodDescriptor y_CF_why_0.desc).map (fun d => d.parameters.length) = some 4 := by decide +kernel
def f_CF_why_0 (a1 : Int32) (a2 : Int32) (a3 : Int32) (a4 : Int32) (M0 : Mem) : Option (Int32 × Mem) :=
  (f_CF_refusedOfWord_0 a1 a2 a3 a4 M0).bind fun q1 => if decide (q1 < 0) then (some (q1, M0)) else ((f_Account_ruled_79 a1 a2 a3 a4 M0).bind fun q3 => some (q3.2.1 14 11, q3.2))
set_option maxHeartbeats 4000000 in
set_option maxRecDepth 20000 in
theorem C_CF_why_0 {D : va_G} {ad adK adV : Nat → Nat} {cI cJ : ClassId} {l : Launch} (a1 : Int32) (a2 : Int32) (a3 : Int32) (a4 : Int32) (M0 : Mem) (o : Int32 × Mem) (h : f_CF_why_0 a1 a2 a3 a4 M0 = some o) : Ct D ad adK adV cI cJ l y_CF_why_0 cX11_why 6 (some .int) 6 153 [.ref (ad 0), .int a1, .int a2, .int a3, .int a4] M0 (some (.int o.1)) o.2 := by
  refine x_start (lv := [(0, .ref (ad 0)), (1, .int a1), (2, .int a2), (3, .int a3), (4, .int a4)]) (own := "CurrentFarms") rfl (by decide) (Nat.le_of_ble_eq_true rfl) rfl ?_
  intro p e s m args below meth c Q hQ B
  unfold f_CF_why_0 at h
  refine x_aload_n (pc := 0) B 0 dX11_why_0 rfl rfl ?_
  refine x_iload_n (pc := 1) B 1 dX11_why_1 rfl rfl ?_
  refine x_iload_n (pc := 2) B 2 dX11_why_2 rfl rfl ?_
  refine x_iload_n (pc := 3) B 3 dX11_why_3 rfl rfl ?_
  refine x_iload (pc := 4) B 4 dX11_why_4 rfl ?_
  obtain ⟨q1, hq1, h⟩ := bnd h
  refine x_callV (rest := []) (st' := [.int q1]) (pc := 6) B oi_0 rfl (C_CF_refusedOfWord_0 a1 a2 a3 a4 M0 _ hq1) tw_940 tw_937 tw_939 tw_25 tw_98 hd_CF_refusedOfWord_0 ⟨Nat.le_of_ble_eq_true rfl, Nat.le_of_ble_eq_true rfl⟩ rfl rfl (Nat.le_of_ble_eq_true rfl) rfl dX11_why_6 ?_
  refine x_istore (lv' := [(5, .int q1), (0, .ref (ad 0)), (1, .int a1), (2, .int a2), (3, .int a3), (4, .int a4)]) (pc := 9) B dX11_why_9 (by decide) rfl ?_
  refine x_iload (pc := 11) B 0 dX11_why_11 rfl ?_
  refine x_if_ge (tgt := 19) (pc := 13) B dX11_why_13 rfl (fun hc2 => ?_) (fun hc2 => ?_)
  · have h := iff_ hc2 h
    refine x_aload_n (pc := 19) B 1 dX11_why_19 rfl rfl ?_
    refine x_get (T := TX11) (pc := 20) B 4 oi_0 rfl uw_11 (by decide) rfl tw_529 rfl dX11_why_20 ?_
    refine x_iload_n (pc := 23) B 2 dX11_why_23 rfl rfl ?_
    refine x_iload_n (pc := 24) B 3 dX11_why_24 rfl rfl ?_
    refine x_iload_n (pc := 25) B 4 dX11_why_25 rfl rfl ?_
    refine x_iload (pc := 26) B 5 dX11_why_26 rfl ?_
    obtain ⟨q3, hq3, h⟩ := bnd h
    refine x_callV (rest := []) (st' := [.int q3.1]) (pc := 28) B oi_79 rfl (C_Account_ruled_79 a1 a2 a3 a4 M0 _ hq3) tw_944 tw_941 tw_942 tw_943 tw_108 hd_Account_ruled_79 ⟨Nat.le_of_ble_eq_true rfl, Nat.le_of_ble_eq_true rfl⟩ rfl rfl (Nat.le_of_ble_eq_true rfl) rfl dX11_why_28 ?_
    refine x_pop (pc := 31) B dX11_why_31 rfl ?_
    refine x_aload_n (pc := 32) B 1 dX11_why_32 rfl rfl ?_
    refine x_get (T := TX11) (pc := 33) B 0 oi_0 rfl uw_11 (by decide) rfl tw_525 rfl dX11_why_33 ?_
    refine x_get (T := TX8) (pc := 36) B 2 oi_1 rfl uw_8 (by decide) rfl tw_369 rfl dX11_why_36 ?_
    refine x_get (T := TX7) (pc := 39) B 11 oi_14 rfl uw_7 (by decide) rfl tw_228 rfl dX11_why_39 ?_
    obtain rfl := Option.some.inj h
    exact x_iret (pc := 42) B hQ dX11_why_42
  · have h := ift hc2 h
    refine x_iload (pc := 16) B 0 dX11_why_16 rfl ?_
    obtain rfl := Option.some.inj h
    exact x_iret (pc := 18) B hQ dX11_why_18
-- CurrentFarms$Line.add(II)V [24]
abbrev y_Line_add_24 : MethodName := ⟨"CurrentFarms$Line", "add", "(II)V"⟩
abbrev cX5_add : ByteArray := prog_7_method_3_code
theorem dX5_add_0 : decode cX5_add 0 = .ok (.aload_n 0, 1) := by decide +kernel
theorem dX5_add_1 : decode cX5_add 1 = .ok (.getfield 9, 3) := by decide +kernel
theorem dX5_add_4 : decode cX5_add 4 = .ok (.iload_n 2, 1) := by decide +kernel
theorem dX5_add_5 : decode cX5_add 5 = .ok (.iload_n 1, 1) := by decide +kernel
theorem dX5_add_6 : decode cX5_add 6 = .ok (.invokestatic 44, 3) := by decide +kernel
theorem dX5_add_9 : decode cX5_add 9 = .ok (.aload_n 0, 1) := by decide +kernel
theorem dX5_add_10 : decode cX5_add 10 = .ok (.getfield 15, 3) := by decide +kernel
theorem dX5_add_13 : decode cX5_add 13 = .ok (.aload_n 0, 1) := by decide +kernel
theorem dX5_add_14 : decode cX5_add 14 = .ok (.getfield 41, 3) := by decide +kernel
theorem dX5_add_17 : decode cX5_add 17 = .ok (.iload_n 2, 1) := by decide +kernel
theorem dX5_add_18 : decode cX5_add 18 = .ok (.invokestatic 44, 3) := by decide +kernel
theorem dX5_add_21 : decode cX5_add 21 = .ok (.aload_n 0, 1) := by decide +kernel
theorem dX5_add_22 : decode cX5_add 22 = .ok (.dup, 1) := by decide +kernel
theorem dX5_add_23 : decode cX5_add 23 = .ok (.getfield 41, 3) := by decide +kernel
theorem dX5_add_26 : decode cX5_add 26 = .ok (.iconst 1, 1) := by decide +kernel
theorem dX5_add_27 : decode cX5_add 27 = .ok (.iadd, 1) := by decide +kernel
theorem dX5_add_28 : decode cX5_add 28 = .ok (.putfield 41, 3) := by decide +kernel
theorem dX5_add_31 : decode cX5_add 31 = .ok (.return_, 1) := by decide +kernel
theorem hd_Line_add_24 : y_Line_add_24.cls ≠ "java/lang/invoke/MethodHandle" ∧ y_Line_add_24.cls ≠ "java/lang/invoke/VarHandle" ∧ (parseMethodDescriptor y_Line_add_24.desc).map (fun d => d.parameters.length) = some 2 := by decide +kernel
def f_Line_add_24 (a1 : Int32) (a2 : Int32) (M0 : Mem) : Option (Mem) :=
  jv_ (putv M0 25 48 a2 a1) fun M1 => jv_ (putv M1 26 48 (M1.1 24 2) a2) fun M2 => jv_ (wI M2 24 2 ((M2.1 24 2) + 1)) fun M3 => some M3
set_option maxHeartbeats 4000000 in
set_option maxRecDepth 20000 in
theorem C_Line_add_24 {D : va_G} {ad adK adV : Nat → Nat} {cI cJ : ClassId} {l : Launch} (a1 : Int32) (a2 : Int32) (M0 : Mem) (o : Mem) (h : f_Line_add_24 a1 a2 M0 = some o) : Ct D ad adK adV cI cJ l y_Line_add_24 cX5_add 3 none 1 22 [.ref (ad 24), .int a1, .int a2] M0 none o := by
  refine x_start (lv := [(0, .ref (ad 24)), (1, .int a1), (2, .int a2)]) (own := "CurrentFarms$Line") rfl (by decide) (Nat.le_of_ble_eq_true rfl) rfl ?_
  intro p e s m args below meth c Q hQ B
  unfold f_Line_add_24 at h
  refine x_aload_n (pc := 0) B 0 dX5_add_0 rfl rfl ?_
  refine x_get (T := TX5) (pc := 1) B 0 oi_24 rfl uw_5 (by decide) rfl tw_263 rfl dX5_add_1 ?_
  refine x_iload_n (pc := 4) B 2 dX5_add_4 rfl rfl ?_
  refine x_iload_n (pc := 5) B 1 dX5_add_5 rfl rfl ?_
  refine x_callSN (rest := []) (st' := []) (pc := 6) B (T_CF_put 25 48 a2 a1 ai_25 (by decide) M0) tw_588 tw_719 tw_587 tw_98 hd_CF_put ⟨Nat.le_of_ble_eq_true rfl, Nat.le_of_ble_eq_true rfl⟩ rfl rfl (Nat.le_of_ble_eq_true rfl) rfl dX5_add_6 ?_
  refine jv_m (P := fun M1 => XX D ad cI cJ p l e (Rm 1 22) s m args below meth c Q 3 M1 9 [(0, .ref (ad 24)), (1, .int a1), (2, .int a2)] []) h (fun M1 h => ?_)
  refine x_aload_n (pc := 9) B 0 dX5_add_9 rfl rfl ?_
  refine x_get (T := TX5) (pc := 10) B 1 oi_24 rfl uw_5 (by decide) rfl tw_264 rfl dX5_add_10 ?_
  refine x_aload_n (pc := 13) B 0 dX5_add_13 rfl rfl ?_
  refine x_get (T := TX5) (pc := 14) B 2 oi_24 rfl uw_5 (by decide) rfl tw_266 rfl dX5_add_14 ?_
  refine x_iload_n (pc := 17) B 2 dX5_add_17 rfl rfl ?_
  refine x_callSN (rest := []) (st' := []) (pc := 18) B (T_CF_put 26 48 (M1.1 24 2) a2 ai_26 (by decide) M1) tw_588 tw_719 tw_587 tw_98 hd_CF_put ⟨Nat.le_of_ble_eq_true rfl, Nat.le_of_ble_eq_true rfl⟩ rfl rfl (Nat.le_of_ble_eq_true rfl) rfl dX5_add_18 ?_
  refine jv_m (P := fun M2 => XX D ad cI cJ p l e (Rm 1 22) s m args below meth c Q 3 M2 21 [(0, .ref (ad 24)), (1, .int a1), (2, .int a2)] []) h (fun M2 h => ?_)
  refine x_aload_n (pc := 21) B 0 dX5_add_21 rfl rfl ?_
  refine x_dup (pc := 22) B dX5_add_22 rfl ?_
  refine x_get (T := TX5) (pc := 23) B 2 oi_24 rfl uw_5 (by decide) rfl tw_266 rfl dX5_add_23 ?_
  refine x_iconst (v := 1) (pc := 26) B dX5_add_26 rfl ?_
  refine x_iadd (pc := 27) B dX5_add_27 ?_
  refine x_put (T := TX5) (pc := 28) B 2 oi_24 of_24_2 rfl uw_5 tyX5_ok nmX5 (by decide) rfl tw_266 rfl rfl rfl (Nat.le_of_ble_eq_true rfl) dX5_add_28 ?_
  refine jv_m (P := fun M3 => XX D ad cI cJ p l e (Rm 1 22) s m args below meth c Q 3 M3 31 [(0, .ref (ad 24)), (1, .int a1), (2, .int a2)] []) h (fun M3 h => ?_)
  obtain rfl := Option.some.inj h
  exact x_vret (pc := 31) B hQ dX5_add_31
-- CurrentFarms.line(II)I [0]
abbrev y_CF_line_0 : MethodName := ⟨"CurrentFarms", "line", "(II)I"⟩
abbrev cX11_line : ByteArray := prog_1_method_16_code
theorem dX11_line_0 : decode cX11_line 0 = .ok (.iload_n 1, 1) := by decide +kernel
theorem dX11_line_1 : decode cX11_line 1 = .ok (.invokestatic 68, 3) := by decide +kernel
theorem dX11_line_4 : decode cX11_line 4 = .ok (.ifCond .eq 10, 3) := by decide +kernel
theorem dX11_line_7 : decode cX11_line 7 = .ok (.iload_n 2, 1) := by decide +kernel
theorem dX11_line_8 : decode cX11_line 8 = .ok (.invokestatic 68, 3) := by decide +kernel
theorem dX11_line_11 : decode cX11_line 11 = .ok (.ifCond .ne 5, 3) := by decide +kernel
theorem dX11_line_14 : decode cX11_line 14 = .ok (.iconst (-1), 1) := by decide +kernel
theorem dX11_line_15 : decode cX11_line 15 = .ok (.ireturn, 1) := by decide +kernel
theorem dX11_line_16 : decode cX11_line 16 = .ok (.iload_n 1, 1) := by decide +kernel
theorem dX11_line_17 : decode cX11_line 17 = .ok (.iload_n 2, 1) := by decide +kernel
theorem dX11_line_18 : decode cX11_line 18 = .ok (.invokestatic 96, 3) := by decide +kernel
theorem dX11_line_21 : decode cX11_line 21 = .ok (.ifCond .ne 6, 3) := by decide +kernel
theorem dX11_line_24 : decode cX11_line 24 = .ok (.bipush (-2), 2) := by decide +kernel
theorem dX11_line_26 : decode cX11_line 26 = .ok (.ireturn, 1) := by decide +kernel
theorem dX11_line_27 : decode cX11_line 27 = .ok (.aload_n 0, 1) := by decide +kernel
theorem dX11_line_28 : decode cX11_line 28 = .ok (.getfield 12, 3) := by decide +kernel
theorem dX11_line_31 : decode cX11_line 31 = .ok (.getfield 43, 3) := by decide +kernel
theorem dX11_line_34 : decode cX11_line 34 = .ok (.iload_n 1, 1) := by decide +kernel
theorem dX11_line_35 : decode cX11_line 35 = .ok (.iload_n 2, 1) := by decide +kernel
theorem dX11_line_36 : decode cX11_line 36 = .ok (.invokevirtual 100, 3) := by decide +kernel
theorem dX11_line_39 : decode cX11_line 39 = .ok (.ifCond .lt 19, 3) := by decide +kernel
theorem dX11_line_42 : decode cX11_line 42 = .ok (.aload_n 0, 1) := by decide +kernel
theorem dX11_line_43 : decode cX11_line 43 = .ok (.iload_n 1, 1) := by decide +kernel
theorem dX11_line_44 : decode cX11_line 44 = .ok (.invokevirtual 195, 3) := by decide +kernel
theorem dX11_line_47 : decode cX11_line 47 = .ok (.ifCond .eq 11, 3) := by decide +kernel
theorem dX11_line_50 : decode cX11_line 50 = .ok (.aload_n 0, 1) := by decide +kernel
theorem dX11_line_51 : decode cX11_line 51 = .ok (.iload_n 2, 1) := by decide +kernel
theorem dX11_line_52 : decode cX11_line 52 = .ok (.invokevirtual 195, 3) := by decide +kernel
theorem dX11_line_55 : decode cX11_line 55 = .ok (.ifCond .eq 6, 3) := by decide +kernel
theorem dX11_line_58 : decode cX11_line 58 = .ok (.bipush (-3), 2) := by decide +kernel
theorem dX11_line_60 : decode cX11_line 60 = .ok (.ireturn, 1) := by decide +kernel
theorem dX11_line_61 : decode cX11_line 61 = .ok (.aload_n 0, 1) := by decide +kernel
theorem dX11_line_62 : decode cX11_line 62 = .ok (.getfield 12, 3) := by decide +kernel
theorem dX11_line_65 : decode cX11_line 65 = .ok (.getfield 107, 3) := by decide +kernel
theorem dX11_line_68 : decode cX11_line 68 = .ok (.iload_n 1, 1) := by decide +kernel
theorem dX11_line_69 : decode cX11_line 69 = .ok (.iload_n 2, 1) := by decide +kernel
theorem dX11_line_70 : decode cX11_line 70 = .ok (.invokevirtual 198, 3) := by decide +kernel
theorem dX11_line_73 : decode cX11_line 73 = .ok (.aload_n 0, 1) := by decide +kernel
theorem dX11_line_74 : decode cX11_line 74 = .ok (.getfield 12, 3) := by decide +kernel
theorem dX11_line_77 : decode cX11_line 77 = .ok (.getfield 107, 3) := by decide +kernel
theorem dX11_line_80 : decode cX11_line 80 = .ok (.getfield 110, 3) := by decide +kernel
theorem dX11_line_83 : decode cX11_line 83 = .ok (.ireturn, 1) := by decide +kernel
theorem hd_CF_line_0 : y_CF_line_0.cls ≠ "java/lang/invoke/MethodHandle" ∧ y_CF_line_0.cls ≠ "java/lang/invoke/VarHandle" ∧ (parseMethodDescriptor y_CF_line_0.desc).map (fun d => d.parameters.length) = some 2 := by decide +kernel
def f_CF_line_0 (a1 : Int32) (a2 : Int32) (M0 : Mem) : Option (Int32 × Mem) :=
  if wthn a1 0 47 then (if wthn a2 0 47 then (if bsd a1 a2 then ((f_Land_stretch_2 a1 a2 M0).bind fun q4 => if decide (q4 < 0) then (some ((-3), M0)) else ((f_CF_isOnLine_0 a1 M0).bind fun q6 => if q6 then ((f_CF_isOnLine_0 a2 M0).bind fun q8 => if q8 then (some ((-3), M0)) else ((f_Line_add_24 a1 a2 M0).bind fun q10 => some (q10.1 24 2, q10))) else (some ((-3), M0)))) else (some ((-2), M0))) else (some ((-1), M0))) else (some ((-1), M0))
set_option maxHeartbeats 4000000 in
set_option maxRecDepth 20000 in
theorem C_CF_line_0 {D : va_G} {ad adK adV : Nat → Nat} {cI cJ : ClassId} {l : Launch} (a1 : Int32) (a2 : Int32) (M0 : Mem) (o : Int32 × Mem) (h : f_CF_line_0 a1 a2 M0 = some o) : Ct D ad adK adV cI cJ l y_CF_line_0 cX11_line 3 (some .int) 4 84 [.ref (ad 0), .int a1, .int a2] M0 (some (.int o.1)) o.2 := by
  refine x_start (lv := [(0, .ref (ad 0)), (1, .int a1), (2, .int a2)]) (own := "CurrentFarms") rfl (by decide) (Nat.le_of_ble_eq_true rfl) rfl ?_
  intro p e s m args below meth c Q hQ B
  unfold f_CF_line_0 at h
  refine x_iload_n (pc := 0) B 1 dX11_line_0 rfl rfl ?_
  refine x_callS (rest := []) (st' := [.int (bI (wthn a1 0 47))]) (pc := 1) B (T_CF_isCell a1 M0) tw_556 tw_554 tw_555 tw_98 hd_CF_isCell ⟨Nat.le_of_ble_eq_true rfl, Nat.le_of_ble_eq_true rfl⟩ rfl rfl (Nat.le_of_ble_eq_true rfl) rfl dX11_line_1 ?_
  refine x_if_eq_b (tgt := 14) (pc := 4) B dX11_line_4 rfl (fun hc1 => ?_) (fun hc1 => ?_)
  · have h := iff_ hc1 h
    refine x_iconst (v := (-1)) (pc := 14) B dX11_line_14 rfl ?_
    obtain rfl := Option.some.inj h
    exact x_iret (pc := 15) B hQ dX11_line_15
  · have h := ift hc1 h
    refine x_iload_n (pc := 7) B 2 dX11_line_7 rfl rfl ?_
    refine x_callS (rest := []) (st' := [.int (bI (wthn a2 0 47))]) (pc := 8) B (T_CF_isCell a2 M0) tw_556 tw_554 tw_555 tw_98 hd_CF_isCell ⟨Nat.le_of_ble_eq_true rfl, Nat.le_of_ble_eq_true rfl⟩ rfl rfl (Nat.le_of_ble_eq_true rfl) rfl dX11_line_8 ?_
    refine x_if_ne_b (tgt := 16) (pc := 11) B dX11_line_11 rfl (fun hc2 => ?_) (fun hc2 => ?_)
    · have h := ift hc2 h
      refine x_iload_n (pc := 16) B 1 dX11_line_16 rfl rfl ?_
      refine x_iload_n (pc := 17) B 2 dX11_line_17 rfl rfl ?_
      refine x_callS (rest := []) (st' := [.int (bI (bsd a1 a2))]) (pc := 18) B (T_CF_beside a1 a2 M0) tw_595 tw_593 tw_594 tw_98 hd_CF_beside ⟨Nat.le_of_ble_eq_true rfl, Nat.le_of_ble_eq_true rfl⟩ rfl rfl (Nat.le_of_ble_eq_true rfl) rfl dX11_line_18 ?_
      refine x_if_ne_b (tgt := 27) (pc := 21) B dX11_line_21 rfl (fun hc3 => ?_) (fun hc3 => ?_)
      · have h := ift hc3 h
        refine x_aload_n (pc := 27) B 0 dX11_line_27 rfl rfl ?_
        refine x_get (T := TX11) (pc := 28) B 0 oi_0 rfl uw_11 (by decide) rfl tw_525 rfl dX11_line_28 ?_
        refine x_get (T := TX8) (pc := 31) B 0 oi_1 rfl uw_8 (by decide) rfl tw_359 rfl dX11_line_31 ?_
        refine x_iload_n (pc := 34) B 1 dX11_line_34 rfl rfl ?_
        refine x_iload_n (pc := 35) B 2 dX11_line_35 rfl rfl ?_
        obtain ⟨q4, hq4, h⟩ := bnd h
        refine x_callV (rest := []) (st' := [.int q4]) (pc := 36) B oi_2 rfl (C_Land_stretch_2 a1 a2 M0 _ hq4) tw_602 tw_599 tw_600 tw_601 tw_100 hd_Land_stretch_2 ⟨Nat.le_of_ble_eq_true rfl, Nat.le_of_ble_eq_true rfl⟩ rfl rfl (Nat.le_of_ble_eq_true rfl) rfl dX11_line_36 ?_
        refine x_if_lt (tgt := 58) (pc := 39) B dX11_line_39 rfl (fun hc5 => ?_) (fun hc5 => ?_)
        · have h := ift hc5 h
          refine x_bipush (v := (-3)) (pc := 58) B dX11_line_58 rfl ?_
          obtain rfl := Option.some.inj h
          exact x_iret (pc := 60) B hQ dX11_line_60
        · have h := iff_ hc5 h
          refine x_aload_n (pc := 42) B 0 dX11_line_42 rfl rfl ?_
          refine x_iload_n (pc := 43) B 1 dX11_line_43 rfl rfl ?_
          obtain ⟨q6, hq6, h⟩ := bnd h
          refine x_callV (rest := []) (st' := [.int (bI q6)]) (pc := 44) B oi_0 rfl (C_CF_isOnLine_0 a1 M0 _ hq6) tw_567 tw_564 tw_566 tw_1 tw_98 hd_CF_isOnLine_0 ⟨Nat.le_of_ble_eq_true rfl, Nat.le_of_ble_eq_true rfl⟩ rfl rfl (Nat.le_of_ble_eq_true rfl) rfl dX11_line_44 ?_
          refine x_if_eq_b (tgt := 58) (pc := 47) B dX11_line_47 rfl (fun hc7 => ?_) (fun hc7 => ?_)
          · have h := iff_ hc7 h
            refine x_bipush (v := (-3)) (pc := 58) B dX11_line_58 rfl ?_
            obtain rfl := Option.some.inj h
            exact x_iret (pc := 60) B hQ dX11_line_60
          · have h := ift hc7 h
            refine x_aload_n (pc := 50) B 0 dX11_line_50 rfl rfl ?_
            refine x_iload_n (pc := 51) B 2 dX11_line_51 rfl rfl ?_
            obtain ⟨q8, hq8, h⟩ := bnd h
            refine x_callV (rest := []) (st' := [.int (bI q8)]) (pc := 52) B oi_0 rfl (C_CF_isOnLine_0 a2 M0 _ hq8) tw_567 tw_564 tw_566 tw_1 tw_98 hd_CF_isOnLine_0 ⟨Nat.le_of_ble_eq_true rfl, Nat.le_of_ble_eq_true rfl⟩ rfl rfl (Nat.le_of_ble_eq_true rfl) rfl dX11_line_52 ?_
            refine x_if_eq_b (tgt := 61) (pc := 55) B dX11_line_55 rfl (fun hc9 => ?_) (fun hc9 => ?_)
            · have h := iff_ hc9 h
              refine x_aload_n (pc := 61) B 0 dX11_line_61 rfl rfl ?_
              refine x_get (T := TX11) (pc := 62) B 0 oi_0 rfl uw_11 (by decide) rfl tw_525 rfl dX11_line_62 ?_
              refine x_get (T := TX8) (pc := 65) B 3 oi_1 rfl uw_8 (by decide) rfl tw_374 rfl dX11_line_65 ?_
              refine x_iload_n (pc := 68) B 1 dX11_line_68 rfl rfl ?_
              refine x_iload_n (pc := 69) B 2 dX11_line_69 rfl rfl ?_
              obtain ⟨q10, hq10, h⟩ := bnd h
              refine x_callV (rest := []) (st' := []) (pc := 70) B oi_24 rfl (C_Line_add_24 a1 a2 M0 _ hq10) tw_958 tw_955 tw_956 tw_957 tw_103 hd_Line_add_24 ⟨Nat.le_of_ble_eq_true rfl, Nat.le_of_ble_eq_true rfl⟩ rfl rfl (Nat.le_of_ble_eq_true rfl) rfl dX11_line_70 ?_
              refine x_aload_n (pc := 73) B 0 dX11_line_73 rfl rfl ?_
              refine x_get (T := TX11) (pc := 74) B 0 oi_0 rfl uw_11 (by decide) rfl tw_525 rfl dX11_line_74 ?_
              refine x_get (T := TX8) (pc := 77) B 3 oi_1 rfl uw_8 (by decide) rfl tw_374 rfl dX11_line_77 ?_
              refine x_get (T := TX5) (pc := 80) B 2 oi_24 rfl uw_5 (by decide) rfl tw_268 rfl dX11_line_80 ?_
              obtain rfl := Option.some.inj h
              exact x_iret (pc := 83) B hQ dX11_line_83
            · have h := ift hc9 h
              refine x_bipush (v := (-3)) (pc := 58) B dX11_line_58 rfl ?_
              obtain rfl := Option.some.inj h
              exact x_iret (pc := 60) B hQ dX11_line_60
      · have h := iff_ hc3 h
        refine x_bipush (v := (-2)) (pc := 24) B dX11_line_24 rfl ?_
        obtain rfl := Option.some.inj h
        exact x_iret (pc := 26) B hQ dX11_line_26
    · have h := iff_ hc2 h
      refine x_iconst (v := (-1)) (pc := 14) B dX11_line_14 rfl ?_
      obtain rfl := Option.some.inj h
      exact x_iret (pc := 15) B hQ dX11_line_15
-- CurrentFarms$Line.empty()V [24]
abbrev y_Line_empty_24 : MethodName := ⟨"CurrentFarms$Line", "empty", "()V"⟩
abbrev cX5_empty : ByteArray := prog_7_method_4_code
theorem dX5_empty_0 : decode cX5_empty 0 = .ok (.aload_n 0, 1) := by decide +kernel
theorem dX5_empty_1 : decode cX5_empty 1 = .ok (.getfield 9, 3) := by decide +kernel
theorem dX5_empty_4 : decode cX5_empty 4 = .ok (.iconst (-1), 1) := by decide +kernel
theorem dX5_empty_5 : decode cX5_empty 5 = .ok (.invokestatic 31, 3) := by decide +kernel
theorem dX5_empty_8 : decode cX5_empty 8 = .ok (.aload_n 0, 1) := by decide +kernel
theorem dX5_empty_9 : decode cX5_empty 9 = .ok (.iconst 0, 1) := by decide +kernel
theorem dX5_empty_10 : decode cX5_empty 10 = .ok (.putfield 41, 3) := by decide +kernel
theorem dX5_empty_13 : decode cX5_empty 13 = .ok (.return_, 1) := by decide +kernel
theorem hd_Line_empty_24 : y_Line_empty_24.cls ≠ "java/lang/invoke/MethodHandle" ∧ y_Line_empty_24.cls ≠ "java/lang/invoke/VarHandle" ∧ (parseMethodDescriptor y_Line_empty_24.desc).map (fun d => d.parameters.length) = some 0 := by decide +kernel
def f_Line_empty_24  (M0 : Mem) : Option (Mem) :=
  jv_ (wR M0 25 (filv (M0.1 25) 48 (-1))) fun M1 => jv_ (wI M1 24 2 0) fun M2 => some M2
set_option maxHeartbeats 4000000 in
set_option maxRecDepth 20000 in
theorem C_Line_empty_24 {D : va_G} {ad adK adV : Nat → Nat} {cI cJ : ClassId} {l : Launch}  (M0 : Mem) (o : Mem) (h : f_Line_empty_24  M0 = some o) : Ct D ad adK adV cI cJ l y_Line_empty_24 cX5_empty 1 none 1 23 [.ref (ad 24)] M0 none o := by
  refine x_start (lv := [(0, .ref (ad 24))]) (own := "CurrentFarms$Line") rfl (by decide) (Nat.le_of_ble_eq_true rfl) rfl ?_
  intro p e s m args below meth c Q hQ B
  unfold f_Line_empty_24 at h
  refine x_aload_n (pc := 0) B 0 dX5_empty_0 rfl rfl ?_
  refine x_get (T := TX5) (pc := 1) B 0 oi_24 rfl uw_5 (by decide) rfl tw_263 rfl dX5_empty_1 ?_
  refine x_iconst (v := (-1)) (pc := 4) B dX5_empty_4 rfl ?_
  refine x_callS (rest := []) (st' := []) (pc := 5) B (T_fill 25 48 (-1) ai_25 (by decide) M0) tw_262 tw_260 tw_261 tw_104 hd_Arrays_fill_53178 ⟨Nat.le_of_ble_eq_true rfl, Nat.le_of_ble_eq_true rfl⟩ rfl rfl (Nat.le_of_ble_eq_true rfl) rfl dX5_empty_5 ?_
  refine jv_m (P := fun M1 => XX D ad cI cJ p l e (Rm 1 23) s m args below meth c Q 1 M1 8 [(0, .ref (ad 24))] []) h (fun M1 h => ?_)
  refine x_aload_n (pc := 8) B 0 dX5_empty_8 rfl rfl ?_
  refine x_iconst (v := 0) (pc := 9) B dX5_empty_9 rfl ?_
  refine x_put (T := TX5) (pc := 10) B 2 oi_24 of_24_2 rfl uw_5 tyX5_ok nmX5 (by decide) rfl tw_266 rfl rfl rfl (Nat.le_of_ble_eq_true rfl) dX5_empty_10 ?_
  refine jv_m (P := fun M2 => XX D ad cI cJ p l e (Rm 1 23) s m args below meth c Q 1 M2 13 [(0, .ref (ad 24))] []) h (fun M2 h => ?_)
  obtain rfl := Option.some.inj h
  exact x_vret (pc := 13) B hQ dX5_empty_13
-- CurrentFarms.clear()I [0]
abbrev y_CF_clear_0 : MethodName := ⟨"CurrentFarms", "clear", "()I"⟩
abbrev cX11_clear : ByteArray := prog_1_method_17_code
theorem dX11_clear_0 : decode cX11_clear 0 = .ok (.aload_n 0, 1) := by decide +kernel
theorem dX11_clear_1 : decode cX11_clear 1 = .ok (.getfield 12, 3) := by decide +kernel
theorem dX11_clear_4 : decode cX11_clear 4 = .ok (.getfield 107, 3) := by decide +kernel
theorem dX11_clear_7 : decode cX11_clear 7 = .ok (.getfield 110, 3) := by decide +kernel
theorem dX11_clear_10 : decode cX11_clear 10 = .ok (.istore_n 1, 1) := by decide +kernel
theorem dX11_clear_11 : decode cX11_clear 11 = .ok (.aload_n 0, 1) := by decide +kernel
theorem dX11_clear_12 : decode cX11_clear 12 = .ok (.getfield 12, 3) := by decide +kernel
theorem dX11_clear_15 : decode cX11_clear 15 = .ok (.getfield 107, 3) := by decide +kernel
theorem dX11_clear_18 : decode cX11_clear 18 = .ok (.invokevirtual 202, 3) := by decide +kernel
theorem dX11_clear_21 : decode cX11_clear 21 = .ok (.aload_n 0, 1) := by decide +kernel
theorem dX11_clear_22 : decode cX11_clear 22 = .ok (.getfield 12, 3) := by decide +kernel
theorem dX11_clear_25 : decode cX11_clear 25 = .ok (.getfield 205, 3) := by decide +kernel
theorem dX11_clear_28 : decode cX11_clear 28 = .ok (.iconst 0, 1) := by decide +kernel
theorem dX11_clear_29 : decode cX11_clear 29 = .ok (.putfield 209, 3) := by decide +kernel
theorem dX11_clear_32 : decode cX11_clear 32 = .ok (.iload_n 1, 1) := by decide +kernel
theorem dX11_clear_33 : decode cX11_clear 33 = .ok (.ireturn, 1) := by decide +kernel
theorem hd_CF_clear_0 : y_CF_clear_0.cls ≠ "java/lang/invoke/MethodHandle" ∧ y_CF_clear_0.cls ≠ "java/lang/invoke/VarHandle" ∧ (parseMethodDescriptor y_CF_clear_0.desc).map (fun d => d.parameters.length) = some 0 := by decide +kernel
def f_CF_clear_0  (M0 : Mem) : Option (Int32 × Mem) :=
  (f_Line_empty_24 M0).bind fun q1 => jv_ (wI q1 29 2 0) fun M2 => some (M0.1 24 2, M2)
set_option maxHeartbeats 4000000 in
set_option maxRecDepth 20000 in
theorem C_CF_clear_0 {D : va_G} {ad adK adV : Nat → Nat} {cI cJ : ClassId} {l : Launch}  (M0 : Mem) (o : Int32 × Mem) (h : f_CF_clear_0  M0 = some o) : Ct D ad adK adV cI cJ l y_CF_clear_0 cX11_clear 2 (some .int) 2 43 [.ref (ad 0)] M0 (some (.int o.1)) o.2 := by
  refine x_start (lv := [(0, .ref (ad 0))]) (own := "CurrentFarms") rfl (by decide) (Nat.le_of_ble_eq_true rfl) rfl ?_
  intro p e s m args below meth c Q hQ B
  unfold f_CF_clear_0 at h
  refine x_aload_n (pc := 0) B 0 dX11_clear_0 rfl rfl ?_
  refine x_get (T := TX11) (pc := 1) B 0 oi_0 rfl uw_11 (by decide) rfl tw_525 rfl dX11_clear_1 ?_
  refine x_get (T := TX8) (pc := 4) B 3 oi_1 rfl uw_8 (by decide) rfl tw_374 rfl dX11_clear_4 ?_
  refine x_get (T := TX5) (pc := 7) B 2 oi_24 rfl uw_5 (by decide) rfl tw_268 rfl dX11_clear_7 ?_
  refine x_istore_n (lv' := [(1, .int (M0.1 24 2)), (0, .ref (ad 0))]) (pc := 10) B dX11_clear_10 rfl (by decide) rfl ?_
  refine x_aload_n (pc := 11) B 1 dX11_clear_11 rfl rfl ?_
  refine x_get (T := TX11) (pc := 12) B 0 oi_0 rfl uw_11 (by decide) rfl tw_525 rfl dX11_clear_12 ?_
  refine x_get (T := TX8) (pc := 15) B 3 oi_1 rfl uw_8 (by decide) rfl tw_374 rfl dX11_clear_15 ?_
  obtain ⟨q1, hq1, h⟩ := bnd h
  refine x_callV (rest := []) (st' := []) (pc := 18) B oi_24 rfl (C_Line_empty_24  M0 _ hq1) tw_966 tw_963 tw_964 tw_965 tw_103 hd_Line_empty_24 ⟨Nat.le_of_ble_eq_true rfl, Nat.le_of_ble_eq_true rfl⟩ rfl rfl (Nat.le_of_ble_eq_true rfl) rfl dX11_clear_18 ?_
  refine x_aload_n (pc := 21) B 1 dX11_clear_21 rfl rfl ?_
  refine x_get (T := TX11) (pc := 22) B 0 oi_0 rfl uw_11 (by decide) rfl tw_525 rfl dX11_clear_22 ?_
  refine x_get (T := TX8) (pc := 25) B 4 oi_1 rfl uw_8 (by decide) rfl tw_377 rfl dX11_clear_25 ?_
  refine x_iconst (v := 0) (pc := 28) B dX11_clear_28 rfl ?_
  refine x_put (T := TX2) (pc := 29) B 2 oi_29 of_29_2 rfl uw_2 tyX2_ok nmX2 (by decide) rfl tw_301 rfl rfl rfl (Nat.le_of_ble_eq_true rfl) dX11_clear_29 ?_
  refine jv_m (P := fun M2 => XX D ad cI cJ p l e (Rm 2 43) s m args below meth c Q 2 M2 32 [(1, .int (M0.1 24 2)), (0, .ref (ad 0))] []) h (fun M2 h => ?_)
  refine x_iload_n (pc := 32) B 0 dX11_clear_32 rfl rfl ?_
  obtain rfl := Option.some.inj h
  exact x_iret (pc := 33) B hQ dX11_clear_33
-- CurrentFarms$Ways.neighbour(II)I []
abbrev y_Ways_neighbour : MethodName := ⟨"CurrentFarms$Ways", "neighbour", "(II)I"⟩
abbrev cX10_neighbour : ByteArray := prog_12_method_6_code
theorem dX10_neighbour_0 : decode cX10_neighbour 0 = .ok (.iload_n 1, 1) := by decide +kernel
theorem dX10_neighbour_1 : decode cX10_neighbour 1 = .ok (.ifCond .eq 8, 3) := by decide +kernel
theorem dX10_neighbour_4 : decode cX10_neighbour 4 = .ok (.iload_n 1, 1) := by decide +kernel
theorem dX10_neighbour_5 : decode cX10_neighbour 5 = .ok (.iconst 3, 1) := by decide +kernel
theorem dX10_neighbour_6 : decode cX10_neighbour 6 = .ok (.if_icmp .ne 8, 3) := by decide +kernel
theorem dX10_neighbour_9 : decode cX10_neighbour 9 = .ok (.bipush 8, 2) := by decide +kernel
theorem dX10_neighbour_11 : decode cX10_neighbour 11 = .ok (.goto 4, 3) := by decide +kernel
theorem dX10_neighbour_14 : decode cX10_neighbour 14 = .ok (.iconst 1, 1) := by decide +kernel
theorem dX10_neighbour_15 : decode cX10_neighbour 15 = .ok (.istore_n 2, 1) := by decide +kernel
theorem dX10_neighbour_16 : decode cX10_neighbour 16 = .ok (.iload_n 1, 1) := by decide +kernel
theorem dX10_neighbour_17 : decode cX10_neighbour 17 = .ok (.iconst 2, 1) := by decide +kernel
theorem dX10_neighbour_18 : decode cX10_neighbour 18 = .ok (.if_icmp .ge 9, 3) := by decide +kernel
theorem dX10_neighbour_21 : decode cX10_neighbour 21 = .ok (.iload_n 0, 1) := by decide +kernel
theorem dX10_neighbour_22 : decode cX10_neighbour 22 = .ok (.iload_n 2, 1) := by decide +kernel
theorem dX10_neighbour_23 : decode cX10_neighbour 23 = .ok (.isub, 1) := by decide +kernel
theorem dX10_neighbour_24 : decode cX10_neighbour 24 = .ok (.goto 6, 3) := by decide +kernel
theorem dX10_neighbour_27 : decode cX10_neighbour 27 = .ok (.iload_n 0, 1) := by decide +kernel
theorem dX10_neighbour_28 : decode cX10_neighbour 28 = .ok (.iload_n 2, 1) := by decide +kernel
theorem dX10_neighbour_29 : decode cX10_neighbour 29 = .ok (.iadd, 1) := by decide +kernel
theorem dX10_neighbour_30 : decode cX10_neighbour 30 = .ok (.istore_n 3, 1) := by decide +kernel
theorem dX10_neighbour_31 : decode cX10_neighbour 31 = .ok (.iload_n 3, 1) := by decide +kernel
theorem dX10_neighbour_32 : decode cX10_neighbour 32 = .ok (.invokestatic 76, 3) := by decide +kernel
theorem dX10_neighbour_35 : decode cX10_neighbour 35 = .ok (.ifCond .eq 15, 3) := by decide +kernel
theorem dX10_neighbour_38 : decode cX10_neighbour 38 = .ok (.iload_n 0, 1) := by decide +kernel
theorem dX10_neighbour_39 : decode cX10_neighbour 39 = .ok (.iload_n 3, 1) := by decide +kernel
theorem dX10_neighbour_40 : decode cX10_neighbour 40 = .ok (.invokestatic 80, 3) := by decide +kernel
theorem dX10_neighbour_43 : decode cX10_neighbour 43 = .ok (.ifCond .eq 7, 3) := by decide +kernel
theorem dX10_neighbour_46 : decode cX10_neighbour 46 = .ok (.iload_n 3, 1) := by decide +kernel
theorem dX10_neighbour_47 : decode cX10_neighbour 47 = .ok (.goto 4, 3) := by decide +kernel
theorem dX10_neighbour_50 : decode cX10_neighbour 50 = .ok (.iconst (-1), 1) := by decide +kernel
theorem dX10_neighbour_51 : decode cX10_neighbour 51 = .ok (.ireturn, 1) := by decide +kernel
theorem hd_Ways_neighbour : y_Ways_neighbour.cls ≠ "java/lang/invoke/MethodHandle" ∧ y_Ways_neighbour.cls ≠ "java/lang/invoke/VarHandle" ∧ (parseMethodDescriptor y_Ways_neighbour.desc).map (fun d => d.parameters.length) = some 2 := by decide +kernel
def f_Ways_neighbour (a0 : Int32) (a1 : Int32) : Option (Int32) :=
  jv_ ((if decide (a1 = 0) then 8 else (if decide (a1 = 3) then 8 else 1)) : Int32) fun u3 => jv_ ((if decide (a1 < 2) then a0 - u3 else a0 + u3) : Int32) fun u6 => if wthn u6 0 47 then (if bsd a0 u6 then (some u6) else (some (-1))) else (some (-1))
set_option maxHeartbeats 4000000 in
set_option maxRecDepth 20000 in
theorem C_Ways_neighbour {D : va_G} {ad adK adV : Nat → Nat} {cI cJ : ClassId} {l : Launch} (a0 : Int32) (a1 : Int32) (M0 : Mem) (o : Int32) (h : f_Ways_neighbour a0 a1 = some o) : Ct D ad adK adV cI cJ l y_Ways_neighbour cX10_neighbour 4 (some .int) 2 42 [.int a0, .int a1] M0 (some (.int o)) M0 := by
  refine x_start (lv := [(0, .int a0), (1, .int a1)]) (own := "CurrentFarms$Ways") rfl (by decide) (Nat.le_of_ble_eq_true rfl) rfl ?_
  intro p e s m args below meth c Q hQ B
  unfold f_Ways_neighbour at h
  refine x_iload_n (pc := 0) B 1 dX10_neighbour_0 rfl rfl ?_
  refine jv_k h (fun (u3 : Int32) => XX D ad cI cJ p l e (Rm 2 42) s m args below meth c Q 4 M0 15 [(0, .int a0), (1, .int a1)] [.int u3]) (fun u3 h => ?_) (fun JJ => ?_)
  · refine x_istore_n (lv' := [(2, .int u3), (0, .int a0), (1, .int a1)]) (pc := 15) B dX10_neighbour_15 rfl (by decide) rfl ?_
    refine x_iload_n (pc := 16) B 2 dX10_neighbour_16 rfl rfl ?_
    refine x_iconst (v := 2) (pc := 17) B dX10_neighbour_17 rfl ?_
    refine jv_k h (fun (u6 : Int32) => XX D ad cI cJ p l e (Rm 2 42) s m args below meth c Q 4 M0 30 [(0, .int a0)] [.int u6]) (fun u6 h => ?_) (fun JJ => ?_)
    · refine x_istore_n (lv' := [(3, .int u6), (0, .int a0)]) (pc := 30) B dX10_neighbour_30 rfl (by decide) rfl ?_
      refine x_iload_n (pc := 31) B 0 dX10_neighbour_31 rfl rfl ?_
      refine x_callSN (rest := []) (st' := [.int (bI (wthn u6 0 47))]) (pc := 32) B (T_CF_isCell u6 M0) tw_556 tw_985 tw_555 tw_98 hd_CF_isCell ⟨Nat.le_of_ble_eq_true rfl, Nat.le_of_ble_eq_true rfl⟩ rfl rfl (Nat.le_of_ble_eq_true rfl) rfl dX10_neighbour_32 ?_
      refine x_if_eq_b (tgt := 50) (pc := 35) B dX10_neighbour_35 rfl (fun hc7 => ?_) (fun hc7 => ?_)
      · have h := iff_ hc7 h
        refine x_iconst (v := (-1)) (pc := 50) B dX10_neighbour_50 rfl ?_
        obtain rfl := Option.some.inj h
        exact x_iret (pc := 51) B hQ dX10_neighbour_51
      · have h := ift hc7 h
        refine x_iload_n (pc := 38) B 1 dX10_neighbour_38 rfl rfl ?_
        refine x_iload_n (pc := 39) B 0 dX10_neighbour_39 rfl rfl ?_
        refine x_callSN (rest := []) (st' := [.int (bI (bsd a0 u6))]) (pc := 40) B (T_CF_beside a0 u6 M0) tw_595 tw_986 tw_594 tw_98 hd_CF_beside ⟨Nat.le_of_ble_eq_true rfl, Nat.le_of_ble_eq_true rfl⟩ rfl rfl (Nat.le_of_ble_eq_true rfl) rfl dX10_neighbour_40 ?_
        refine x_if_eq_b (tgt := 50) (pc := 43) B dX10_neighbour_43 rfl (fun hc8 => ?_) (fun hc8 => ?_)
        · have h := iff_ hc8 h
          refine x_iconst (v := (-1)) (pc := 50) B dX10_neighbour_50 rfl ?_
          obtain rfl := Option.some.inj h
          exact x_iret (pc := 51) B hQ dX10_neighbour_51
        · have h := ift hc8 h
          refine x_iload_n (pc := 46) B 0 dX10_neighbour_46 rfl rfl ?_
          refine x_goto (tgt := 51) (pc := 47) B dX10_neighbour_47 rfl ?_
          obtain rfl := Option.some.inj h
          exact x_iret (pc := 51) B hQ dX10_neighbour_51
    · refine x_icmp_ge (tgt := 27) (pc := 18) B dX10_neighbour_18 rfl (fun hc4 => ?_) (fun hc4 => ?_)
      · refine x_iload_n (pc := 27) B 1 dX10_neighbour_27 rfl rfl ?_
        refine x_iload_n (pc := 28) B 0 dX10_neighbour_28 rfl rfl ?_
        refine x_iadd (pc := 29) B dX10_neighbour_29 ?_
        refine x_pick (lv' := [(0, .int a0)]) [1] rfl ?_
        have z := JJ (a0 + u3) ((zif_f hc4).trans rfl)
        exact z
      · refine x_iload_n (pc := 21) B 1 dX10_neighbour_21 rfl rfl ?_
        refine x_iload_n (pc := 22) B 0 dX10_neighbour_22 rfl rfl ?_
        refine x_isub (pc := 23) B dX10_neighbour_23 ?_
        refine x_goto (tgt := 30) (pc := 24) B dX10_neighbour_24 rfl ?_
        refine x_pick (lv' := [(0, .int a0)]) [1] rfl ?_
        have z := JJ (a0 - u3) ((zif_t hc4).trans rfl)
        exact z
  · refine x_if_eq (tgt := 9) (pc := 1) B dX10_neighbour_1 rfl (fun hc1 => ?_) (fun hc1 => ?_)
    · refine x_bipush (v := 8) (pc := 9) B dX10_neighbour_9 rfl ?_
      refine x_goto (tgt := 15) (pc := 11) B dX10_neighbour_11 rfl ?_
      have z := JJ 8 ((zif_t hc1).trans rfl)
      exact z
    · refine x_iload_n (pc := 4) B 1 dX10_neighbour_4 rfl rfl ?_
      refine x_iconst (v := 3) (pc := 5) B dX10_neighbour_5 rfl ?_
      refine x_icmp_ne (tgt := 14) (pc := 6) B dX10_neighbour_6 rfl (fun hc9 => ?_) (fun hc9 => ?_)
      · refine x_iconst (v := 1) (pc := 14) B dX10_neighbour_14 rfl ?_
        have z := JJ 1 ((zif_f hc1).trans ((zif_f hc9).trans rfl))
        exact z
      · refine x_bipush (v := 8) (pc := 9) B dX10_neighbour_9 rfl ?_
        refine x_goto (tgt := 15) (pc := 11) B dX10_neighbour_11 rfl ?_
        have z := JJ 8 ((zif_f hc1).trans ((zif_t hc9).trans rfl))
        exact z
-- CurrentFarms$Ways.measure()V [81]
abbrev y_Ways_measure_81 : MethodName := ⟨"CurrentFarms$Ways", "measure", "()V"⟩
abbrev cX10_measure : ByteArray := prog_12_method_5_code
theorem dX10_measure_0 : decode cX10_measure 0 = .ok (.iconst 0, 1) := by decide +kernel
theorem dX10_measure_1 : decode cX10_measure 1 = .ok (.istore_n 1, 1) := by decide +kernel
theorem dX10_measure_2 : decode cX10_measure 2 = .ok (.iload_n 1, 1) := by decide +kernel
theorem dX10_measure_3 : decode cX10_measure 3 = .ok (.bipush 48, 2) := by decide +kernel
theorem dX10_measure_5 : decode cX10_measure 5 = .ok (.if_icmp .ge 72, 3) := by decide +kernel
theorem dX10_measure_8 : decode cX10_measure 8 = .ok (.iconst 0, 1) := by decide +kernel
theorem dX10_measure_9 : decode cX10_measure 9 = .ok (.istore_n 2, 1) := by decide +kernel
theorem dX10_measure_10 : decode cX10_measure 10 = .ok (.iload_n 2, 1) := by decide +kernel
theorem dX10_measure_11 : decode cX10_measure 11 = .ok (.iconst 4, 1) := by decide +kernel
theorem dX10_measure_12 : decode cX10_measure 12 = .ok (.if_icmp .ge 59, 3) := by decide +kernel
theorem dX10_measure_15 : decode cX10_measure 15 = .ok (.iload_n 1, 1) := by decide +kernel
theorem dX10_measure_16 : decode cX10_measure 16 = .ok (.iload_n 2, 1) := by decide +kernel
theorem dX10_measure_17 : decode cX10_measure 17 = .ok (.invokestatic 70, 3) := by decide +kernel
theorem dX10_measure_20 : decode cX10_measure 20 = .ok (.istore_n 3, 1) := by decide +kernel
theorem dX10_measure_21 : decode cX10_measure 21 = .ok (.iload_n 3, 1) := by decide +kernel
theorem dX10_measure_22 : decode cX10_measure 22 = .ok (.ifCond .ge 8, 3) := by decide +kernel
theorem dX10_measure_25 : decode cX10_measure 25 = .ok (.bipush (-5), 2) := by decide +kernel
theorem dX10_measure_27 : decode cX10_measure 27 = .ok (.goto 12, 3) := by decide +kernel
theorem dX10_measure_30 : decode cX10_measure 30 = .ok (.aload_n 0, 1) := by decide +kernel
theorem dX10_measure_31 : decode cX10_measure 31 = .ok (.getfield 24, 3) := by decide +kernel
theorem dX10_measure_34 : decode cX10_measure 34 = .ok (.iload_n 1, 1) := by decide +kernel
theorem dX10_measure_35 : decode cX10_measure 35 = .ok (.iload_n 3, 1) := by decide +kernel
theorem dX10_measure_36 : decode cX10_measure 36 = .ok (.invokevirtual 73, 3) := by decide +kernel
theorem dX10_measure_39 : decode cX10_measure 39 = .ok (.istore 4, 2) := by decide +kernel
theorem dX10_measure_41 : decode cX10_measure 41 = .ok (.aload_n 0, 1) := by decide +kernel
theorem dX10_measure_42 : decode cX10_measure 42 = .ok (.getfield 11, 3) := by decide +kernel
theorem dX10_measure_45 : decode cX10_measure 45 = .ok (.iload_n 1, 1) := by decide +kernel
theorem dX10_measure_46 : decode cX10_measure 46 = .ok (.iconst 4, 1) := by decide +kernel
theorem dX10_measure_47 : decode cX10_measure 47 = .ok (.imul, 1) := by decide +kernel
theorem dX10_measure_48 : decode cX10_measure 48 = .ok (.iload_n 2, 1) := by decide +kernel
theorem dX10_measure_49 : decode cX10_measure 49 = .ok (.iadd, 1) := by decide +kernel
theorem dX10_measure_50 : decode cX10_measure 50 = .ok (.iload 4, 2) := by decide +kernel
theorem dX10_measure_52 : decode cX10_measure 52 = .ok (.ifCond .ge 8, 3) := by decide +kernel
theorem dX10_measure_55 : decode cX10_measure 55 = .ok (.ldc 66, 2) := by decide +kernel
theorem dX10_measure_57 : decode cX10_measure 57 = .ok (.goto 5, 3) := by decide +kernel
theorem dX10_measure_60 : decode cX10_measure 60 = .ok (.iload 4, 2) := by decide +kernel
theorem dX10_measure_62 : decode cX10_measure 62 = .ok (.invokestatic 38, 3) := by decide +kernel
theorem dX10_measure_65 : decode cX10_measure 65 = .ok (.iinc 2 1, 3) := by decide +kernel
theorem dX10_measure_68 : decode cX10_measure 68 = .ok (.goto (-58), 3) := by decide +kernel
theorem dX10_measure_71 : decode cX10_measure 71 = .ok (.iinc 1 1, 3) := by decide +kernel
theorem dX10_measure_74 : decode cX10_measure 74 = .ok (.goto (-72), 3) := by decide +kernel
theorem dX10_measure_77 : decode cX10_measure 77 = .ok (.return_, 1) := by decide +kernel
theorem hd_Ways_measure_81 : y_Ways_measure_81.cls ≠ "java/lang/invoke/MethodHandle" ∧ y_Ways_measure_81.cls ≠ "java/lang/invoke/VarHandle" ∧ (parseMethodDescriptor y_Ways_measure_81.desc).map (fun d => d.parameters.length) = some 0 := by decide +kernel
def b_Ways_measure_81_10 (y1 : Int32 × Mem) (y3 : Int32 × Mem) : Option ((Int32 × Mem) ⊕ (Mem)) :=
  if decide (y3.1 < 4) then ((f_Ways_neighbour y1.1 y3.1).bind fun q5 => jn_ (fun (u8 : Int32) => jv_ ((if decide (u8 < 0) then 1000000 else u8) : Int32) fun u11 => jv_ (putv y3.2 82 192 ((y1.1 * 4) + y3.1) u11) fun M12 => some (.inl (y3.1 + 1, M12))) fun k13 => if decide (q5 < 0) then (k13 (-5)) else ((f_Land_stretch_2 y1.1 q5 y3.2).bind fun q14 => k13 q14)) else (some (.inr y3.2))
def b_Ways_measure_81_2  (y1 : Int32 × Mem) : Option ((Int32 × Mem) ⊕ (Mem)) :=
  if decide (y1.1 < 48) then ((itr (b_Ways_measure_81_10 y1) FU (0, y1.2)).bind fun q15 => some (.inl (y1.1 + 1, q15))) else (some (.inr y1.2))
def f_Ways_measure_81  (M0 : Mem) : Option (Mem) :=
  (itr (b_Ways_measure_81_2) FU (0, M0)).bind fun q16 => some q16
set_option maxHeartbeats 4000000 in
set_option maxRecDepth 20000 in
theorem C_Ways_measure_81 {D : va_G} {ad adK adV : Nat → Nat} {cI cJ : ClassId} {l : Launch}  (M0 : Mem) (o : Mem) (h : f_Ways_measure_81  M0 = some o) : Ct D ad adK adV cI cJ l y_Ways_measure_81 cX10_measure 5 none 3 65 [.ref (ad 81)] M0 none o := by
  refine x_start (lv := [(0, .ref (ad 81))]) (own := "CurrentFarms$Ways") rfl (by decide) (Nat.le_of_ble_eq_true rfl) rfl ?_
  intro p e s m args below meth c Q hQ B
  unfold f_Ways_measure_81 at h
  refine x_iconst (v := 0) (pc := 0) B dX10_measure_0 rfl ?_
  refine x_istore_n (lv' := [(1, .int 0), (0, .ref (ad 81))]) (pc := 1) B dX10_measure_1 rfl (by decide) rfl ?_
  refine x_pick (lv' := [(0, .ref (ad 81)), (1, .int 0)]) [1, 0] rfl ?_
  obtain ⟨q16, hq16, h⟩ := bnd h
  refine x_loop (Head := fun (y1 : Int32 × Mem) => XX D ad cI cJ p l e (Rm 3 65) s m args below meth c Q 5 y1.2 2 [(0, .ref (ad 81)), (1, .int y1.1)] []) (Ex := fun (q16 : Mem) => XX D ad cI cJ p l e (Rm 3 65) s m args below meth c Q 5 q16 77 [] []) (fun y1 r h hback hexit => ?_) FU _ q16 hq16 ?_
  · unfold b_Ways_measure_81_2 at h
    refine x_iload_n (pc := 2) B 1 dX10_measure_2 rfl rfl ?_
    refine x_bipush (v := 48) (pc := 3) B dX10_measure_3 rfl ?_
    refine x_icmp_ge (tgt := 77) (pc := 5) B dX10_measure_5 rfl (fun hc2 => ?_) (fun hc2 => ?_)
    · have h := iff_ hc2 h
      refine x_pick (lv' := []) [] rfl ?_
      have z := hexit y1.2 (Option.some.inj h).symm
      exact z
    · have h := ift hc2 h
      refine x_iconst (v := 0) (pc := 8) B dX10_measure_8 rfl ?_
      refine x_istore_n (lv' := [(2, .int 0), (0, .ref (ad 81)), (1, .int y1.1)]) (pc := 9) B dX10_measure_9 rfl (by decide) rfl ?_
      refine x_pick (lv' := [(0, .ref (ad 81)), (1, .int y1.1), (2, .int 0)]) [1, 2, 0] rfl ?_
      obtain ⟨q15, hq15, h⟩ := bnd h
      refine x_loop (Head := fun (y3 : Int32 × Mem) => XX D ad cI cJ p l e (Rm 3 65) s m args below meth c Q 5 y3.2 10 [(0, .ref (ad 81)), (1, .int y1.1), (2, .int y3.1)] []) (Ex := fun (q15 : Mem) => XX D ad cI cJ p l e (Rm 3 65) s m args below meth c Q 5 q15 71 [(0, .ref (ad 81)), (1, .int y1.1)] []) (fun y3 r h hback hexit => ?_) FU _ q15 hq15 ?_
      · unfold b_Ways_measure_81_10 at h
        refine x_iload_n (pc := 10) B 2 dX10_measure_10 rfl rfl ?_
        refine x_iconst (v := 4) (pc := 11) B dX10_measure_11 rfl ?_
        refine x_icmp_ge (tgt := 71) (pc := 12) B dX10_measure_12 rfl (fun hc4 => ?_) (fun hc4 => ?_)
        · have h := iff_ hc4 h
          refine x_pick (lv' := [(0, .ref (ad 81)), (1, .int y1.1)]) [0, 1] rfl ?_
          have z := hexit y3.2 (Option.some.inj h).symm
          exact z
        · have h := ift hc4 h
          refine x_iload_n (pc := 15) B 1 dX10_measure_15 rfl rfl ?_
          refine x_iload_n (pc := 16) B 2 dX10_measure_16 rfl rfl ?_
          obtain ⟨q5, hq5, h⟩ := bnd h
          refine x_callS (rest := []) (st' := [.int q5]) (pc := 17) B (C_Ways_neighbour y1.1 y3.1 y3.2 _ hq5) tw_984 tw_982 tw_983 tw_109 hd_Ways_neighbour ⟨Nat.le_of_ble_eq_true rfl, Nat.le_of_ble_eq_true rfl⟩ rfl rfl (Nat.le_of_ble_eq_true rfl) rfl dX10_measure_17 ?_
          refine x_istore_n (lv' := [(3, .int q5), (0, .ref (ad 81)), (1, .int y1.1), (2, .int y3.1)]) (pc := 20) B dX10_measure_20 rfl (by decide) rfl ?_
          refine x_iload_n (pc := 21) B 0 dX10_measure_21 rfl rfl ?_
          refine jn_k h (fun (u8 : Int32) => XX D ad cI cJ p l e (Rm 3 65) s m args below meth c Q 5 y3.2 39 [(0, .ref (ad 81)), (1, .int y1.1), (2, .int y3.1)] [.int u8]) (fun u8 h => ?_) (fun k13 h JJ => ?_)
          · refine x_istore (lv' := [(4, .int u8), (0, .ref (ad 81)), (1, .int y1.1), (2, .int y3.1)]) (pc := 39) B dX10_measure_39 (by decide) rfl ?_
            refine x_aload_n (pc := 41) B 1 dX10_measure_41 rfl rfl ?_
            refine x_get (T := TX10) (pc := 42) B 1 oi_81 rfl uw_10 (by decide) rfl tw_472 rfl dX10_measure_42 ?_
            refine x_iload_n (pc := 45) B 2 dX10_measure_45 rfl rfl ?_
            refine x_iconst (v := 4) (pc := 46) B dX10_measure_46 rfl ?_
            refine x_imul (pc := 47) B dX10_measure_47 ?_
            refine x_iload_n (pc := 48) B 3 dX10_measure_48 rfl rfl ?_
            refine x_iadd (pc := 49) B dX10_measure_49 ?_
            refine x_iload (pc := 50) B 0 dX10_measure_50 rfl ?_
            refine jv_k h (fun (u11 : Int32) => XX D ad cI cJ p l e (Rm 3 65) s m args below meth c Q 5 y3.2 62 [(0, .ref (ad 81)), (1, .int y1.1), (2, .int y3.1)] [.int u11, .int ((y1.1 * 4) + y3.1), .ref (ad 82)]) (fun u11 h => ?_) (fun JJ => ?_)
            · refine x_callSN (rest := []) (st' := []) (pc := 62) B (T_CF_put 82 192 ((y1.1 * 4) + y3.1) u11 ai_82 (by decide) y3.2) tw_588 tw_977 tw_587 tw_98 hd_CF_put ⟨Nat.le_of_ble_eq_true rfl, Nat.le_of_ble_eq_true rfl⟩ rfl rfl (Nat.le_of_ble_eq_true rfl) rfl dX10_measure_62 ?_
              refine jv_m (P := fun M12 => XX D ad cI cJ p l e (Rm 3 65) s m args below meth c Q 5 M12 65 [(0, .ref (ad 81)), (1, .int y1.1), (2, .int y3.1)] []) h (fun M12 h => ?_)
              refine x_iinc (k := 2) (v := y3.1 + 1) (lv' := [(2, .int (y3.1 + 1)), (0, .ref (ad 81)), (1, .int y1.1)]) (pc := 65) B dX10_measure_65 rfl rfl (by decide) rfl ?_
              refine x_goto (tgt := 10) (pc := 68) B dX10_measure_68 rfl ?_
              refine x_pick (lv' := [(0, .ref (ad 81)), (1, .int y1.1), (2, .int (y3.1 + 1))]) [1, 2, 0] rfl ?_
              have z := hback (y3.1 + 1, M12) (Option.some.inj h).symm
              exact z
            · refine x_if_ge (tgt := 60) (pc := 52) B dX10_measure_52 rfl (fun hc9 => ?_) (fun hc9 => ?_)
              · refine x_iload (pc := 60) B 0 dX10_measure_60 rfl ?_
                refine x_pick (lv' := [(0, .ref (ad 81)), (1, .int y1.1), (2, .int y3.1)]) [1, 2, 3] rfl ?_
                have z := JJ u8 ((zif_f hc9).trans rfl)
                exact z
              · refine x_ldc (v := 1000000) (pc := 55) B tw_988 dX10_measure_55 ?_
                refine x_goto (tgt := 62) (pc := 57) B dX10_measure_57 rfl ?_
                refine x_pick (lv' := [(0, .ref (ad 81)), (1, .int y1.1), (2, .int y3.1)]) [1, 2, 3] rfl ?_
                have z := JJ 1000000 ((zif_t hc9).trans rfl)
                exact z
          · refine x_if_ge (tgt := 30) (pc := 22) B dX10_measure_22 rfl (fun hc6 => ?_) (fun hc6 => ?_)
            · have h := iff_ hc6 h
              refine x_aload_n (pc := 30) B 1 dX10_measure_30 rfl rfl ?_
              refine x_get (T := TX10) (pc := 31) B 0 oi_81 rfl uw_10 (by decide) rfl tw_471 rfl dX10_measure_31 ?_
              refine x_iload_n (pc := 34) B 2 dX10_measure_34 rfl rfl ?_
              refine x_iload_n (pc := 35) B 0 dX10_measure_35 rfl rfl ?_
              obtain ⟨q14, hq14, h⟩ := bnd h
              refine x_callV (rest := []) (st' := [.int q14]) (pc := 36) B oi_2 rfl (C_Land_stretch_2 y1.1 q5 y3.2 _ hq14) tw_602 tw_987 tw_600 tw_601 tw_100 hd_Land_stretch_2 ⟨Nat.le_of_ble_eq_true rfl, Nat.le_of_ble_eq_true rfl⟩ rfl rfl (Nat.le_of_ble_eq_true rfl) rfl dX10_measure_36 ?_
              refine x_pick (lv' := [(0, .ref (ad 81)), (1, .int y1.1), (2, .int y3.1)]) [1, 2, 3] rfl ?_
              have z := JJ q14 h
              exact z
            · have h := ift hc6 h
              refine x_bipush (v := (-5)) (pc := 25) B dX10_measure_25 rfl ?_
              refine x_goto (tgt := 39) (pc := 27) B dX10_measure_27 rfl ?_
              refine x_pick (lv' := [(0, .ref (ad 81)), (1, .int y1.1), (2, .int y3.1)]) [1, 2, 3] rfl ?_
              have z := JJ (-5) h
              exact z
      · refine x_iinc (k := 1) (v := y1.1 + 1) (lv' := [(1, .int (y1.1 + 1)), (0, .ref (ad 81))]) (pc := 71) B dX10_measure_71 rfl rfl (by decide) rfl ?_
        refine x_goto (tgt := 2) (pc := 74) B dX10_measure_74 rfl ?_
        refine x_pick (lv' := [(0, .ref (ad 81)), (1, .int (y1.1 + 1))]) [1, 0] rfl ?_
        have z := hback (y1.1 + 1, q15) (Option.some.inj h).symm
        exact z
  · obtain rfl := Option.some.inj h
    exact x_vret (pc := 77) B hQ dX10_measure_77
-- CurrentFarms$Ways.fillRow(I)V [81]
abbrev y_Ways_fillRow_81 : MethodName := ⟨"CurrentFarms$Ways", "fillRow", "(I)V"⟩
abbrev cX10_fillRow : ByteArray := prog_12_method_4_code
theorem dX10_fillRow_0 : decode cX10_fillRow 0 = .ok (.iconst 0, 1) := by decide +kernel
theorem dX10_fillRow_1 : decode cX10_fillRow 1 = .ok (.istore_n 2, 1) := by decide +kernel
theorem dX10_fillRow_2 : decode cX10_fillRow 2 = .ok (.iload_n 2, 1) := by decide +kernel
theorem dX10_fillRow_3 : decode cX10_fillRow 3 = .ok (.bipush 48, 2) := by decide +kernel
theorem dX10_fillRow_5 : decode cX10_fillRow 5 = .ok (.if_icmp .ge 21, 3) := by decide +kernel
theorem dX10_fillRow_8 : decode cX10_fillRow 8 = .ok (.aload_n 0, 1) := by decide +kernel
theorem dX10_fillRow_9 : decode cX10_fillRow 9 = .ok (.getfield 15, 3) := by decide +kernel
theorem dX10_fillRow_12 : decode cX10_fillRow 12 = .ok (.iload_n 1, 1) := by decide +kernel
theorem dX10_fillRow_13 : decode cX10_fillRow 13 = .ok (.iload_n 2, 1) := by decide +kernel
theorem dX10_fillRow_14 : decode cX10_fillRow 14 = .ok (.iadd, 1) := by decide +kernel
theorem dX10_fillRow_15 : decode cX10_fillRow 15 = .ok (.ldc 66, 2) := by decide +kernel
theorem dX10_fillRow_17 : decode cX10_fillRow 17 = .ok (.invokestatic 38, 3) := by decide +kernel
theorem dX10_fillRow_20 : decode cX10_fillRow 20 = .ok (.iinc 2 1, 3) := by decide +kernel
theorem dX10_fillRow_23 : decode cX10_fillRow 23 = .ok (.goto (-21), 3) := by decide +kernel
theorem dX10_fillRow_26 : decode cX10_fillRow 26 = .ok (.return_, 1) := by decide +kernel
theorem hd_Ways_fillRow_81 : y_Ways_fillRow_81.cls ≠ "java/lang/invoke/MethodHandle" ∧ y_Ways_fillRow_81.cls ≠ "java/lang/invoke/VarHandle" ∧ (parseMethodDescriptor y_Ways_fillRow_81.desc).map (fun d => d.parameters.length) = some 1 := by decide +kernel
def b_Ways_fillRow_81_2 (a1 : Int32) (y1 : Int32 × Mem) : Option ((Int32 × Mem) ⊕ (Mem)) :=
  if decide (y1.1 < 48) then (jv_ (putv y1.2 83 3072 (a1 + y1.1) 1000000) fun M3 => some (.inl (y1.1 + 1, M3))) else (some (.inr y1.2))
def f_Ways_fillRow_81 (a1 : Int32) (M0 : Mem) : Option (Mem) :=
  (itr (b_Ways_fillRow_81_2 a1) FU (0, M0)).bind fun q4 => some q4
set_option maxHeartbeats 4000000 in
set_option maxRecDepth 20000 in
theorem C_Ways_fillRow_81 {D : va_G} {ad adK adV : Nat → Nat} {cI cJ : ClassId} {l : Launch} (a1 : Int32) (M0 : Mem) (o : Mem) (h : f_Ways_fillRow_81 a1 M0 = some o) : Ct D ad adK adV cI cJ l y_Ways_fillRow_81 cX10_fillRow 3 none 1 22 [.ref (ad 81), .int a1] M0 none o := by
  refine x_start (lv := [(0, .ref (ad 81)), (1, .int a1)]) (own := "CurrentFarms$Ways") rfl (by decide) (Nat.le_of_ble_eq_true rfl) rfl ?_
  intro p e s m args below meth c Q hQ B
  unfold f_Ways_fillRow_81 at h
  refine x_iconst (v := 0) (pc := 0) B dX10_fillRow_0 rfl ?_
  refine x_istore_n (lv' := [(2, .int 0), (0, .ref (ad 81)), (1, .int a1)]) (pc := 1) B dX10_fillRow_1 rfl (by decide) rfl ?_
  refine x_pick (lv' := [(0, .ref (ad 81)), (1, .int a1), (2, .int 0)]) [1, 2, 0] rfl ?_
  obtain ⟨q4, hq4, h⟩ := bnd h
  refine x_loop (Head := fun (y1 : Int32 × Mem) => XX D ad cI cJ p l e (Rm 1 22) s m args below meth c Q 3 y1.2 2 [(0, .ref (ad 81)), (1, .int a1), (2, .int y1.1)] []) (Ex := fun (q4 : Mem) => XX D ad cI cJ p l e (Rm 1 22) s m args below meth c Q 3 q4 26 [] []) (fun y1 r h hback hexit => ?_) FU _ q4 hq4 ?_
  · unfold b_Ways_fillRow_81_2 at h
    refine x_iload_n (pc := 2) B 2 dX10_fillRow_2 rfl rfl ?_
    refine x_bipush (v := 48) (pc := 3) B dX10_fillRow_3 rfl ?_
    refine x_icmp_ge (tgt := 26) (pc := 5) B dX10_fillRow_5 rfl (fun hc2 => ?_) (fun hc2 => ?_)
    · have h := iff_ hc2 h
      refine x_pick (lv' := []) [] rfl ?_
      have z := hexit y1.2 (Option.some.inj h).symm
      exact z
    · have h := ift hc2 h
      refine x_aload_n (pc := 8) B 0 dX10_fillRow_8 rfl rfl ?_
      refine x_get (T := TX10) (pc := 9) B 2 oi_81 rfl uw_10 (by decide) rfl tw_473 rfl dX10_fillRow_9 ?_
      refine x_iload_n (pc := 12) B 1 dX10_fillRow_12 rfl rfl ?_
      refine x_iload_n (pc := 13) B 2 dX10_fillRow_13 rfl rfl ?_
      refine x_iadd (pc := 14) B dX10_fillRow_14 ?_
      refine x_ldc (v := 1000000) (pc := 15) B tw_988 dX10_fillRow_15 ?_
      refine x_callSN (rest := []) (st' := []) (pc := 17) B (T_CF_put 83 3072 (a1 + y1.1) 1000000 ai_83 (by decide) y1.2) tw_588 tw_977 tw_587 tw_98 hd_CF_put ⟨Nat.le_of_ble_eq_true rfl, Nat.le_of_ble_eq_true rfl⟩ rfl rfl (Nat.le_of_ble_eq_true rfl) rfl dX10_fillRow_17 ?_
      refine jv_m (P := fun M3 => XX D ad cI cJ p l e (Rm 1 22) s m args below meth c Q 3 M3 20 [(0, .ref (ad 81)), (1, .int a1), (2, .int y1.1)] []) h (fun M3 h => ?_)
      refine x_iinc (k := 2) (v := y1.1 + 1) (lv' := [(2, .int (y1.1 + 1)), (0, .ref (ad 81)), (1, .int a1)]) (pc := 20) B dX10_fillRow_20 rfl rfl (by decide) rfl ?_
      refine x_goto (tgt := 2) (pc := 23) B dX10_fillRow_23 rfl ?_
      refine x_pick (lv' := [(0, .ref (ad 81)), (1, .int a1), (2, .int (y1.1 + 1))]) [1, 2, 0] rfl ?_
      have z := hback (y1.1 + 1, M3) (Option.some.inj h).symm
      exact z
  · obtain rfl := Option.some.inj h
    exact x_vret (pc := 26) B hQ dX10_fillRow_26
-- CurrentFarms$Ways.join(I)V [81]
abbrev y_Ways_join_81 : MethodName := ⟨"CurrentFarms$Ways", "join", "(I)V"⟩
abbrev cX10_join : ByteArray := prog_12_method_3_code
theorem dX10_join_0 : decode cX10_join 0 = .ok (.iload_n 1, 1) := by decide +kernel
theorem dX10_join_1 : decode cX10_join 1 = .ok (.bipush 48, 2) := by decide +kernel
theorem dX10_join_3 : decode cX10_join 3 = .ok (.imul, 1) := by decide +kernel
theorem dX10_join_4 : decode cX10_join 4 = .ok (.istore_n 2, 1) := by decide +kernel
theorem dX10_join_5 : decode cX10_join 5 = .ok (.aload_n 0, 1) := by decide +kernel
theorem dX10_join_6 : decode cX10_join 6 = .ok (.iload_n 2, 1) := by decide +kernel
theorem dX10_join_7 : decode cX10_join 7 = .ok (.invokevirtual 67, 3) := by decide +kernel
theorem dX10_join_10 : decode cX10_join 10 = .ok (.iconst 0, 1) := by decide +kernel
theorem dX10_join_11 : decode cX10_join 11 = .ok (.istore_n 3, 1) := by decide +kernel
theorem dX10_join_12 : decode cX10_join 12 = .ok (.iload_n 3, 1) := by decide +kernel
theorem dX10_join_13 : decode cX10_join 13 = .ok (.bipush 6, 2) := by decide +kernel
theorem dX10_join_15 : decode cX10_join 15 = .ok (.if_icmp .ge 34, 3) := by decide +kernel
theorem dX10_join_18 : decode cX10_join 18 = .ok (.iload_n 1, 1) := by decide +kernel
theorem dX10_join_19 : decode cX10_join 19 = .ok (.iconst 1, 1) := by decide +kernel
theorem dX10_join_20 : decode cX10_join 20 = .ok (.iload_n 3, 1) := by decide +kernel
theorem dX10_join_21 : decode cX10_join 21 = .ok (.ishl, 1) := by decide +kernel
theorem dX10_join_22 : decode cX10_join 22 = .ok (.if_icmp .ne 21, 3) := by decide +kernel
theorem dX10_join_25 : decode cX10_join 25 = .ok (.aload_n 0, 1) := by decide +kernel
theorem dX10_join_26 : decode cX10_join 26 = .ok (.getfield 15, 3) := by decide +kernel
theorem dX10_join_29 : decode cX10_join 29 = .ok (.iload_n 2, 1) := by decide +kernel
theorem dX10_join_30 : decode cX10_join 30 = .ok (.aload_n 0, 1) := by decide +kernel
theorem dX10_join_31 : decode cX10_join 31 = .ok (.getfield 18, 3) := by decide +kernel
theorem dX10_join_34 : decode cX10_join 34 = .ok (.iload_n 3, 1) := by decide +kernel
theorem dX10_join_35 : decode cX10_join 35 = .ok (.invokestatic 62, 3) := by decide +kernel
theorem dX10_join_38 : decode cX10_join 38 = .ok (.iadd, 1) := by decide +kernel
theorem dX10_join_39 : decode cX10_join 39 = .ok (.iconst 0, 1) := by decide +kernel
theorem dX10_join_40 : decode cX10_join 40 = .ok (.invokestatic 38, 3) := by decide +kernel
theorem dX10_join_43 : decode cX10_join 43 = .ok (.iinc 3 1, 3) := by decide +kernel
theorem dX10_join_46 : decode cX10_join 46 = .ok (.goto (-34), 3) := by decide +kernel
theorem dX10_join_49 : decode cX10_join 49 = .ok (.iload_n 1, 1) := by decide +kernel
theorem dX10_join_50 : decode cX10_join 50 = .ok (.iconst 1, 1) := by decide +kernel
theorem dX10_join_51 : decode cX10_join 51 = .ok (.isub, 1) := by decide +kernel
theorem dX10_join_52 : decode cX10_join 52 = .ok (.iload_n 1, 1) := by decide +kernel
theorem dX10_join_53 : decode cX10_join 53 = .ok (.iand, 1) := by decide +kernel
theorem dX10_join_54 : decode cX10_join 54 = .ok (.istore_n 3, 1) := by decide +kernel
theorem dX10_join_55 : decode cX10_join 55 = .ok (.iload_n 3, 1) := by decide +kernel
theorem dX10_join_56 : decode cX10_join 56 = .ok (.ifCond .le 90, 3) := by decide +kernel
theorem dX10_join_59 : decode cX10_join 59 = .ok (.iconst 0, 1) := by decide +kernel
theorem dX10_join_60 : decode cX10_join 60 = .ok (.istore 4, 2) := by decide +kernel
theorem dX10_join_62 : decode cX10_join 62 = .ok (.iload 4, 2) := by decide +kernel
theorem dX10_join_64 : decode cX10_join 64 = .ok (.bipush 48, 2) := by decide +kernel
theorem dX10_join_66 : decode cX10_join 66 = .ok (.if_icmp .ge 71, 3) := by decide +kernel
theorem dX10_join_69 : decode cX10_join 69 = .ok (.aload_n 0, 1) := by decide +kernel
theorem dX10_join_70 : decode cX10_join 70 = .ok (.getfield 15, 3) := by decide +kernel
theorem dX10_join_73 : decode cX10_join 73 = .ok (.iload_n 3, 1) := by decide +kernel
theorem dX10_join_74 : decode cX10_join 74 = .ok (.bipush 48, 2) := by decide +kernel
theorem dX10_join_76 : decode cX10_join 76 = .ok (.imul, 1) := by decide +kernel
theorem dX10_join_77 : decode cX10_join 77 = .ok (.iload 4, 2) := by decide +kernel
theorem dX10_join_79 : decode cX10_join 79 = .ok (.iadd, 1) := by decide +kernel
theorem dX10_join_80 : decode cX10_join 80 = .ok (.invokestatic 62, 3) := by decide +kernel
theorem dX10_join_83 : decode cX10_join 83 = .ok (.aload_n 0, 1) := by decide +kernel
theorem dX10_join_84 : decode cX10_join 84 = .ok (.getfield 15, 3) := by decide +kernel
theorem dX10_join_87 : decode cX10_join 87 = .ok (.iload_n 1, 1) := by decide +kernel
theorem dX10_join_88 : decode cX10_join 88 = .ok (.iload_n 3, 1) := by decide +kernel
theorem dX10_join_89 : decode cX10_join 89 = .ok (.isub, 1) := by decide +kernel
theorem dX10_join_90 : decode cX10_join 90 = .ok (.bipush 48, 2) := by decide +kernel
theorem dX10_join_92 : decode cX10_join 92 = .ok (.imul, 1) := by decide +kernel
theorem dX10_join_93 : decode cX10_join 93 = .ok (.iload 4, 2) := by decide +kernel
theorem dX10_join_95 : decode cX10_join 95 = .ok (.iadd, 1) := by decide +kernel
theorem dX10_join_96 : decode cX10_join 96 = .ok (.invokestatic 62, 3) := by decide +kernel
theorem dX10_join_99 : decode cX10_join 99 = .ok (.iadd, 1) := by decide +kernel
theorem dX10_join_100 : decode cX10_join 100 = .ok (.istore 5, 2) := by decide +kernel
theorem dX10_join_102 : decode cX10_join 102 = .ok (.iload 5, 2) := by decide +kernel
theorem dX10_join_104 : decode cX10_join 104 = .ok (.aload_n 0, 1) := by decide +kernel
theorem dX10_join_105 : decode cX10_join 105 = .ok (.getfield 15, 3) := by decide +kernel
theorem dX10_join_108 : decode cX10_join 108 = .ok (.iload_n 2, 1) := by decide +kernel
theorem dX10_join_109 : decode cX10_join 109 = .ok (.iload 4, 2) := by decide +kernel
theorem dX10_join_111 : decode cX10_join 111 = .ok (.iadd, 1) := by decide +kernel
theorem dX10_join_112 : decode cX10_join 112 = .ok (.invokestatic 62, 3) := by decide +kernel
theorem dX10_join_115 : decode cX10_join 115 = .ok (.if_icmp .ge 16, 3) := by decide +kernel
theorem dX10_join_118 : decode cX10_join 118 = .ok (.aload_n 0, 1) := by decide +kernel
theorem dX10_join_119 : decode cX10_join 119 = .ok (.getfield 15, 3) := by decide +kernel
theorem dX10_join_122 : decode cX10_join 122 = .ok (.iload_n 2, 1) := by decide +kernel
theorem dX10_join_123 : decode cX10_join 123 = .ok (.iload 4, 2) := by decide +kernel
theorem dX10_join_125 : decode cX10_join 125 = .ok (.iadd, 1) := by decide +kernel
theorem dX10_join_126 : decode cX10_join 126 = .ok (.iload 5, 2) := by decide +kernel
theorem dX10_join_128 : decode cX10_join 128 = .ok (.invokestatic 38, 3) := by decide +kernel
theorem dX10_join_131 : decode cX10_join 131 = .ok (.iinc 4 1, 3) := by decide +kernel
theorem dX10_join_134 : decode cX10_join 134 = .ok (.goto (-72), 3) := by decide +kernel
theorem dX10_join_137 : decode cX10_join 137 = .ok (.iload_n 3, 1) := by decide +kernel
theorem dX10_join_138 : decode cX10_join 138 = .ok (.iconst 1, 1) := by decide +kernel
theorem dX10_join_139 : decode cX10_join 139 = .ok (.isub, 1) := by decide +kernel
theorem dX10_join_140 : decode cX10_join 140 = .ok (.iload_n 1, 1) := by decide +kernel
theorem dX10_join_141 : decode cX10_join 141 = .ok (.iand, 1) := by decide +kernel
theorem dX10_join_142 : decode cX10_join 142 = .ok (.istore_n 3, 1) := by decide +kernel
theorem dX10_join_143 : decode cX10_join 143 = .ok (.goto (-88), 3) := by decide +kernel
theorem dX10_join_146 : decode cX10_join 146 = .ok (.return_, 1) := by decide +kernel
theorem hd_Ways_join_81 : y_Ways_join_81.cls ≠ "java/lang/invoke/MethodHandle" ∧ y_Ways_join_81.cls ≠ "java/lang/invoke/VarHandle" ∧ (parseMethodDescriptor y_Ways_join_81.desc).map (fun d => d.parameters.length) = some 1 := by decide +kernel
def b_Ways_join_81_12 (a1 : Int32) (y2 : Int32 × Mem) : Option ((Int32 × Mem) ⊕ (Mem)) :=
  if decide (y2.1 < 6) then (if decide (a1 = (1 <<< (y2.1 &&& 31))) then (jv_ (putv y2.2 83 3072 ((a1 * 48) + (atv (y2.2.1 84) 6 y2.1)) 0) fun M5 => some (.inl (y2.1 + 1, M5))) else (some (.inl (y2.1 + 1, y2.2)))) else (some (.inr y2.2))
def b_Ways_join_81_62 (a1 : Int32) (y7 : Int32 × Mem) (y9 : Int32 × Mem) : Option ((Int32 × Mem) ⊕ (Mem)) :=
  if decide (y9.1 < 48) then (jv_ ((atv (y9.2.1 83) 3072 ((y7.1 * 48) + y9.1)) + (atv (y9.2.1 83) 3072 (((a1 - y7.1) * 48) + y9.1)) : Int32) fun x11 => if decide (x11 < (atv (y9.2.1 83) 3072 ((a1 * 48) + y9.1))) then (jv_ (putv y9.2 83 3072 ((a1 * 48) + y9.1) x11) fun M13 => some (.inl (y9.1 + 1, M13))) else (some (.inl (y9.1 + 1, y9.2)))) else (some (.inr y9.2))
def b_Ways_join_81_55 (a1 : Int32) (y7 : Int32 × Mem) : Option ((Int32 × Mem) ⊕ (Mem)) :=
  if decide (y7.1 ≤ 0) then (some (.inr y7.2)) else ((itr (b_Ways_join_81_62 a1 y7) FU (0, y7.2)).bind fun q14 => some (.inl ((y7.1 - 1) &&& a1, q14)))
def f_Ways_join_81 (a1 : Int32) (M0 : Mem) : Option (Mem) :=
  (f_Ways_fillRow_81 (a1 * 48) M0).bind fun q1 => (itr (b_Ways_join_81_12 a1) FU (0, q1)).bind fun q6 => (itr (b_Ways_join_81_55 a1) FU ((a1 - 1) &&& a1, q6)).bind fun q15 => some q15
set_option maxHeartbeats 4000000 in
set_option maxRecDepth 20000 in
theorem C_Ways_join_81 {D : va_G} {ad adK adV : Nat → Nat} {cI cJ : ClassId} {l : Launch} (a1 : Int32) (M0 : Mem) (o : Mem) (h : f_Ways_join_81 a1 M0 = some o) : Ct D ad adK adV cI cJ l y_Ways_join_81 cX10_join 6 none 2 44 [.ref (ad 81), .int a1] M0 none o := by
  refine x_start (lv := [(0, .ref (ad 81)), (1, .int a1)]) (own := "CurrentFarms$Ways") rfl (by decide) (Nat.le_of_ble_eq_true rfl) rfl ?_
  intro p e s m args below meth c Q hQ B
  unfold f_Ways_join_81 at h
  refine x_iload_n (pc := 0) B 1 dX10_join_0 rfl rfl ?_
  refine x_bipush (v := 48) (pc := 1) B dX10_join_1 rfl ?_
  refine x_imul (pc := 3) B dX10_join_3 ?_
  refine x_istore_n (lv' := [(2, .int (a1 * 48)), (0, .ref (ad 81)), (1, .int a1)]) (pc := 4) B dX10_join_4 rfl (by decide) rfl ?_
  refine x_aload_n (pc := 5) B 1 dX10_join_5 rfl rfl ?_
  refine x_iload_n (pc := 6) B 0 dX10_join_6 rfl rfl ?_
  obtain ⟨q1, hq1, h⟩ := bnd h
  refine x_callV (rest := []) (st' := []) (pc := 7) B oi_81 rfl (C_Ways_fillRow_81 (a1 * 48) M0 _ hq1) tw_997 tw_994 tw_996 tw_28 tw_109 hd_Ways_fillRow_81 ⟨Nat.le_of_ble_eq_true rfl, Nat.le_of_ble_eq_true rfl⟩ rfl rfl (Nat.le_of_ble_eq_true rfl) rfl dX10_join_7 ?_
  refine x_iconst (v := 0) (pc := 10) B dX10_join_10 rfl ?_
  refine x_istore_n (lv' := [(3, .int 0), (2, .int (a1 * 48)), (0, .ref (ad 81)), (1, .int a1)]) (pc := 11) B dX10_join_11 rfl (by decide) rfl ?_
  refine x_pick (lv' := [(0, .ref (ad 81)), (1, .int a1), (2, .int (a1 * 48)), (3, .int 0)]) [2, 3, 1, 0] rfl ?_
  obtain ⟨q6, hq6, h⟩ := bnd h
  refine x_loop (Head := fun (y2 : Int32 × Mem) => XX D ad cI cJ p l e (Rm 2 44) s m args below meth c Q 6 y2.2 12 [(0, .ref (ad 81)), (1, .int a1), (2, .int (a1 * 48)), (3, .int y2.1)] []) (Ex := fun (q6 : Mem) => XX D ad cI cJ p l e (Rm 2 44) s m args below meth c Q 6 q6 49 [(0, .ref (ad 81)), (1, .int a1), (2, .int (a1 * 48))] []) (fun y2 r h hback hexit => ?_) FU _ q6 hq6 ?_
  · unfold b_Ways_join_81_12 at h
    refine x_iload_n (pc := 12) B 3 dX10_join_12 rfl rfl ?_
    refine x_bipush (v := 6) (pc := 13) B dX10_join_13 rfl ?_
    refine x_icmp_ge (tgt := 49) (pc := 15) B dX10_join_15 rfl (fun hc3 => ?_) (fun hc3 => ?_)
    · have h := iff_ hc3 h
      refine x_pick (lv' := [(0, .ref (ad 81)), (1, .int a1), (2, .int (a1 * 48))]) [0, 1, 2] rfl ?_
      have z := hexit y2.2 (Option.some.inj h).symm
      exact z
    · have h := ift hc3 h
      refine x_iload_n (pc := 18) B 1 dX10_join_18 rfl rfl ?_
      refine x_iconst (v := 1) (pc := 19) B dX10_join_19 rfl ?_
      refine x_iload_n (pc := 20) B 3 dX10_join_20 rfl rfl ?_
      refine x_ishl (pc := 21) B dX10_join_21 ?_
      refine x_icmp_ne (tgt := 43) (pc := 22) B dX10_join_22 rfl (fun hc4 => ?_) (fun hc4 => ?_)
      · have h := iff_ hc4 h
        refine x_iinc (k := 3) (v := y2.1 + 1) (lv' := [(3, .int (y2.1 + 1)), (0, .ref (ad 81)), (1, .int a1), (2, .int (a1 * 48))]) (pc := 43) B dX10_join_43 rfl rfl (by decide) rfl ?_
        refine x_goto (tgt := 12) (pc := 46) B dX10_join_46 rfl ?_
        refine x_pick (lv' := [(0, .ref (ad 81)), (1, .int a1), (2, .int (a1 * 48)), (3, .int (y2.1 + 1))]) [1, 2, 3, 0] rfl ?_
        have z := hback (y2.1 + 1, y2.2) (Option.some.inj h).symm
        exact z
      · have h := ift hc4 h
        refine x_aload_n (pc := 25) B 0 dX10_join_25 rfl rfl ?_
        refine x_get (T := TX10) (pc := 26) B 2 oi_81 rfl uw_10 (by decide) rfl tw_473 rfl dX10_join_26 ?_
        refine x_iload_n (pc := 29) B 2 dX10_join_29 rfl rfl ?_
        refine x_aload_n (pc := 30) B 0 dX10_join_30 rfl rfl ?_
        refine x_get (T := TX10) (pc := 31) B 3 oi_81 rfl uw_10 (by decide) rfl tw_474 rfl dX10_join_31 ?_
        refine x_iload_n (pc := 34) B 3 dX10_join_34 rfl rfl ?_
        refine x_callSN (rest := [.int (a1 * 48), .ref (ad 83)]) (st' := [.int (atv (y2.2.1 84) 6 y2.1), .int (a1 * 48), .ref (ad 83)]) (pc := 35) B (T_CF_at 84 6 y2.1 ai_84 (by decide) y2.2) tw_575 tw_998 tw_574 tw_98 hd_CF_at ⟨Nat.le_of_ble_eq_true rfl, Nat.le_of_ble_eq_true rfl⟩ rfl rfl (Nat.le_of_ble_eq_true rfl) rfl dX10_join_35 ?_
        refine x_iadd (pc := 38) B dX10_join_38 ?_
        refine x_iconst (v := 0) (pc := 39) B dX10_join_39 rfl ?_
        refine x_callSN (rest := []) (st' := []) (pc := 40) B (T_CF_put 83 3072 ((a1 * 48) + (atv (y2.2.1 84) 6 y2.1)) 0 ai_83 (by decide) y2.2) tw_588 tw_977 tw_587 tw_98 hd_CF_put ⟨Nat.le_of_ble_eq_true rfl, Nat.le_of_ble_eq_true rfl⟩ rfl rfl (Nat.le_of_ble_eq_true rfl) rfl dX10_join_40 ?_
        refine jv_m (P := fun M5 => XX D ad cI cJ p l e (Rm 2 44) s m args below meth c Q 6 M5 43 [(0, .ref (ad 81)), (1, .int a1), (2, .int (a1 * 48)), (3, .int y2.1)] []) h (fun M5 h => ?_)
        refine x_iinc (k := 3) (v := y2.1 + 1) (lv' := [(3, .int (y2.1 + 1)), (0, .ref (ad 81)), (1, .int a1), (2, .int (a1 * 48))]) (pc := 43) B dX10_join_43 rfl rfl (by decide) rfl ?_
        refine x_goto (tgt := 12) (pc := 46) B dX10_join_46 rfl ?_
        refine x_pick (lv' := [(0, .ref (ad 81)), (1, .int a1), (2, .int (a1 * 48)), (3, .int (y2.1 + 1))]) [1, 2, 3, 0] rfl ?_
        have z := hback (y2.1 + 1, M5) (Option.some.inj h).symm
        exact z
  · refine x_iload_n (pc := 49) B 1 dX10_join_49 rfl rfl ?_
    refine x_iconst (v := 1) (pc := 50) B dX10_join_50 rfl ?_
    refine x_isub (pc := 51) B dX10_join_51 ?_
    refine x_iload_n (pc := 52) B 1 dX10_join_52 rfl rfl ?_
    refine x_iand (pc := 53) B dX10_join_53 ?_
    refine x_istore_n (lv' := [(3, .int ((a1 - 1) &&& a1)), (0, .ref (ad 81)), (1, .int a1), (2, .int (a1 * 48))]) (pc := 54) B dX10_join_54 rfl (by decide) rfl ?_
    refine x_pick (lv' := [(0, .ref (ad 81)), (1, .int a1), (2, .int (a1 * 48)), (3, .int ((a1 - 1) &&& a1))]) [1, 2, 3, 0] rfl ?_
    obtain ⟨q15, hq15, h⟩ := bnd h
    refine x_loop (Head := fun (y7 : Int32 × Mem) => XX D ad cI cJ p l e (Rm 2 44) s m args below meth c Q 6 y7.2 55 [(0, .ref (ad 81)), (1, .int a1), (2, .int (a1 * 48)), (3, .int y7.1)] []) (Ex := fun (q15 : Mem) => XX D ad cI cJ p l e (Rm 2 44) s m args below meth c Q 6 q15 146 [] []) (fun y7 r h hback hexit => ?_) FU _ q15 hq15 ?_
    · unfold b_Ways_join_81_55 at h
      refine x_iload_n (pc := 55) B 3 dX10_join_55 rfl rfl ?_
      refine x_if_le (tgt := 146) (pc := 56) B dX10_join_56 rfl (fun hc8 => ?_) (fun hc8 => ?_)
      · have h := ift hc8 h
        refine x_pick (lv' := []) [] rfl ?_
        have z := hexit y7.2 (Option.some.inj h).symm
        exact z
      · have h := iff_ hc8 h
        refine x_iconst (v := 0) (pc := 59) B dX10_join_59 rfl ?_
        refine x_istore (lv' := [(4, .int 0), (0, .ref (ad 81)), (1, .int a1), (2, .int (a1 * 48)), (3, .int y7.1)]) (pc := 60) B dX10_join_60 (by decide) rfl ?_
        refine x_pick (lv' := [(0, .ref (ad 81)), (1, .int a1), (2, .int (a1 * 48)), (3, .int y7.1), (4, .int 0)]) [1, 2, 3, 4, 0] rfl ?_
        obtain ⟨q14, hq14, h⟩ := bnd h
        refine x_loop (Head := fun (y9 : Int32 × Mem) => XX D ad cI cJ p l e (Rm 2 44) s m args below meth c Q 6 y9.2 62 [(0, .ref (ad 81)), (1, .int a1), (2, .int (a1 * 48)), (3, .int y7.1), (4, .int y9.1)] []) (Ex := fun (q14 : Mem) => XX D ad cI cJ p l e (Rm 2 44) s m args below meth c Q 6 q14 137 [(0, .ref (ad 81)), (1, .int a1), (2, .int (a1 * 48)), (3, .int y7.1)] []) (fun y9 r h hback hexit => ?_) FU _ q14 hq14 ?_
        · unfold b_Ways_join_81_62 at h
          refine x_iload (pc := 62) B 4 dX10_join_62 rfl ?_
          refine x_bipush (v := 48) (pc := 64) B dX10_join_64 rfl ?_
          refine x_icmp_ge (tgt := 137) (pc := 66) B dX10_join_66 rfl (fun hc10 => ?_) (fun hc10 => ?_)
          · have h := iff_ hc10 h
            refine x_pick (lv' := [(0, .ref (ad 81)), (1, .int a1), (2, .int (a1 * 48)), (3, .int y7.1)]) [0, 1, 2, 3] rfl ?_
            have z := hexit y9.2 (Option.some.inj h).symm
            exact z
          · have h := ift hc10 h
            refine x_aload_n (pc := 69) B 0 dX10_join_69 rfl rfl ?_
            refine x_get (T := TX10) (pc := 70) B 2 oi_81 rfl uw_10 (by decide) rfl tw_473 rfl dX10_join_70 ?_
            refine x_iload_n (pc := 73) B 3 dX10_join_73 rfl rfl ?_
            refine x_bipush (v := 48) (pc := 74) B dX10_join_74 rfl ?_
            refine x_imul (pc := 76) B dX10_join_76 ?_
            refine x_iload (pc := 77) B 4 dX10_join_77 rfl ?_
            refine x_iadd (pc := 79) B dX10_join_79 ?_
            refine x_callSN (rest := []) (st' := [.int (atv (y9.2.1 83) 3072 ((y7.1 * 48) + y9.1))]) (pc := 80) B (T_CF_at 83 3072 ((y7.1 * 48) + y9.1) ai_83 (by decide) y9.2) tw_575 tw_998 tw_574 tw_98 hd_CF_at ⟨Nat.le_of_ble_eq_true rfl, Nat.le_of_ble_eq_true rfl⟩ rfl rfl (Nat.le_of_ble_eq_true rfl) rfl dX10_join_80 ?_
            refine x_aload_n (pc := 83) B 0 dX10_join_83 rfl rfl ?_
            refine x_get (T := TX10) (pc := 84) B 2 oi_81 rfl uw_10 (by decide) rfl tw_473 rfl dX10_join_84 ?_
            refine x_iload_n (pc := 87) B 1 dX10_join_87 rfl rfl ?_
            refine x_iload_n (pc := 88) B 3 dX10_join_88 rfl rfl ?_
            refine x_isub (pc := 89) B dX10_join_89 ?_
            refine x_bipush (v := 48) (pc := 90) B dX10_join_90 rfl ?_
            refine x_imul (pc := 92) B dX10_join_92 ?_
            refine x_iload (pc := 93) B 4 dX10_join_93 rfl ?_
            refine x_iadd (pc := 95) B dX10_join_95 ?_
            refine x_callSN (rest := [.int (atv (y9.2.1 83) 3072 ((y7.1 * 48) + y9.1))]) (st' := [.int (atv (y9.2.1 83) 3072 (((a1 - y7.1) * 48) + y9.1)), .int (atv (y9.2.1 83) 3072 ((y7.1 * 48) + y9.1))]) (pc := 96) B (T_CF_at 83 3072 (((a1 - y7.1) * 48) + y9.1) ai_83 (by decide) y9.2) tw_575 tw_998 tw_574 tw_98 hd_CF_at ⟨Nat.le_of_ble_eq_true rfl, Nat.le_of_ble_eq_true rfl⟩ rfl rfl (Nat.le_of_ble_eq_true rfl) rfl dX10_join_96 ?_
            refine x_iadd (pc := 99) B dX10_join_99 ?_
            refine jv_m (P := fun (x11 : Int32) => XX D ad cI cJ p l e (Rm 2 44) s m args below meth c Q 6 y9.2 100 [(0, .ref (ad 81)), (1, .int a1), (2, .int (a1 * 48)), (3, .int y7.1), (4, .int y9.1)] [.int x11]) h (fun x11 h => ?_)
            refine x_istore (lv' := [(5, .int x11), (0, .ref (ad 81)), (1, .int a1), (2, .int (a1 * 48)), (3, .int y7.1), (4, .int y9.1)]) (pc := 100) B dX10_join_100 (by decide) rfl ?_
            refine x_iload (pc := 102) B 0 dX10_join_102 rfl ?_
            refine x_aload_n (pc := 104) B 1 dX10_join_104 rfl rfl ?_
            refine x_get (T := TX10) (pc := 105) B 2 oi_81 rfl uw_10 (by decide) rfl tw_473 rfl dX10_join_105 ?_
            refine x_iload_n (pc := 108) B 3 dX10_join_108 rfl rfl ?_
            refine x_iload (pc := 109) B 5 dX10_join_109 rfl ?_
            refine x_iadd (pc := 111) B dX10_join_111 ?_
            refine x_callSN (rest := [.int x11]) (st' := [.int (atv (y9.2.1 83) 3072 ((a1 * 48) + y9.1)), .int x11]) (pc := 112) B (T_CF_at 83 3072 ((a1 * 48) + y9.1) ai_83 (by decide) y9.2) tw_575 tw_998 tw_574 tw_98 hd_CF_at ⟨Nat.le_of_ble_eq_true rfl, Nat.le_of_ble_eq_true rfl⟩ rfl rfl (Nat.le_of_ble_eq_true rfl) rfl dX10_join_112 ?_
            refine x_icmp_ge (tgt := 131) (pc := 115) B dX10_join_115 rfl (fun hc12 => ?_) (fun hc12 => ?_)
            · have h := iff_ hc12 h
              refine x_iinc (k := 5) (v := y9.1 + 1) (lv' := [(4, .int (y9.1 + 1)), (5, .int x11), (0, .ref (ad 81)), (1, .int a1), (2, .int (a1 * 48)), (3, .int y7.1)]) (pc := 131) B dX10_join_131 rfl rfl (by decide) rfl ?_
              refine x_goto (tgt := 62) (pc := 134) B dX10_join_134 rfl ?_
              refine x_pick (lv' := [(0, .ref (ad 81)), (1, .int a1), (2, .int (a1 * 48)), (3, .int y7.1), (4, .int (y9.1 + 1))]) [2, 3, 4, 5, 0] rfl ?_
              have z := hback (y9.1 + 1, y9.2) (Option.some.inj h).symm
              exact z
            · have h := ift hc12 h
              refine x_aload_n (pc := 118) B 1 dX10_join_118 rfl rfl ?_
              refine x_get (T := TX10) (pc := 119) B 2 oi_81 rfl uw_10 (by decide) rfl tw_473 rfl dX10_join_119 ?_
              refine x_iload_n (pc := 122) B 3 dX10_join_122 rfl rfl ?_
              refine x_iload (pc := 123) B 5 dX10_join_123 rfl ?_
              refine x_iadd (pc := 125) B dX10_join_125 ?_
              refine x_iload (pc := 126) B 0 dX10_join_126 rfl ?_
              refine x_callSN (rest := []) (st' := []) (pc := 128) B (T_CF_put 83 3072 ((a1 * 48) + y9.1) x11 ai_83 (by decide) y9.2) tw_588 tw_977 tw_587 tw_98 hd_CF_put ⟨Nat.le_of_ble_eq_true rfl, Nat.le_of_ble_eq_true rfl⟩ rfl rfl (Nat.le_of_ble_eq_true rfl) rfl dX10_join_128 ?_
              refine jv_m (P := fun M13 => XX D ad cI cJ p l e (Rm 2 44) s m args below meth c Q 6 M13 131 [(5, .int x11), (0, .ref (ad 81)), (1, .int a1), (2, .int (a1 * 48)), (3, .int y7.1), (4, .int y9.1)] []) h (fun M13 h => ?_)
              refine x_iinc (k := 5) (v := y9.1 + 1) (lv' := [(4, .int (y9.1 + 1)), (5, .int x11), (0, .ref (ad 81)), (1, .int a1), (2, .int (a1 * 48)), (3, .int y7.1)]) (pc := 131) B dX10_join_131 rfl rfl (by decide) rfl ?_
              refine x_goto (tgt := 62) (pc := 134) B dX10_join_134 rfl ?_
              refine x_pick (lv' := [(0, .ref (ad 81)), (1, .int a1), (2, .int (a1 * 48)), (3, .int y7.1), (4, .int (y9.1 + 1))]) [2, 3, 4, 5, 0] rfl ?_
              have z := hback (y9.1 + 1, M13) (Option.some.inj h).symm
              exact z
        · refine x_iload_n (pc := 137) B 3 dX10_join_137 rfl rfl ?_
          refine x_iconst (v := 1) (pc := 138) B dX10_join_138 rfl ?_
          refine x_isub (pc := 139) B dX10_join_139 ?_
          refine x_iload_n (pc := 140) B 1 dX10_join_140 rfl rfl ?_
          refine x_iand (pc := 141) B dX10_join_141 ?_
          refine x_istore_n (lv' := [(3, .int ((y7.1 - 1) &&& a1)), (0, .ref (ad 81)), (1, .int a1), (2, .int (a1 * 48))]) (pc := 142) B dX10_join_142 rfl (by decide) rfl ?_
          refine x_goto (tgt := 55) (pc := 143) B dX10_join_143 rfl ?_
          refine x_pick (lv' := [(0, .ref (ad 81)), (1, .int a1), (2, .int (a1 * 48)), (3, .int ((y7.1 - 1) &&& a1))]) [1, 2, 3, 0] rfl ?_
          have z := hback ((y7.1 - 1) &&& a1, q14) (Option.some.inj h).symm
          exact z
    · obtain rfl := Option.some.inj h
      exact x_vret (pc := 146) B hQ dX10_join_146
-- CurrentFarms$Ways.spread(I)V [81]
abbrev y_Ways_spread_81 : MethodName := ⟨"CurrentFarms$Ways", "spread", "(I)V"⟩
abbrev cX10_spread : ByteArray := prog_12_method_7_code
theorem dX10_spread_0 : decode cX10_spread 0 = .ok (.iconst 1, 1) := by decide +kernel
theorem dX10_spread_1 : decode cX10_spread 1 = .ok (.istore_n 2, 1) := by decide +kernel
theorem dX10_spread_2 : decode cX10_spread 2 = .ok (.iconst 0, 1) := by decide +kernel
theorem dX10_spread_3 : decode cX10_spread 3 = .ok (.istore_n 3, 1) := by decide +kernel
theorem dX10_spread_4 : decode cX10_spread 4 = .ok (.iload_n 3, 1) := by decide +kernel
theorem dX10_spread_5 : decode cX10_spread 5 = .ok (.bipush 48, 2) := by decide +kernel
theorem dX10_spread_7 : decode cX10_spread 7 = .ok (.if_icmp .ge 127, 3) := by decide +kernel
theorem dX10_spread_10 : decode cX10_spread 10 = .ok (.iload_n 2, 1) := by decide +kernel
theorem dX10_spread_11 : decode cX10_spread 11 = .ok (.ifCond .eq 123, 3) := by decide +kernel
theorem dX10_spread_14 : decode cX10_spread 14 = .ok (.iconst 0, 1) := by decide +kernel
theorem dX10_spread_15 : decode cX10_spread 15 = .ok (.istore_n 2, 1) := by decide +kernel
theorem dX10_spread_16 : decode cX10_spread 16 = .ok (.iconst 0, 1) := by decide +kernel
theorem dX10_spread_17 : decode cX10_spread 17 = .ok (.istore 4, 2) := by decide +kernel
theorem dX10_spread_19 : decode cX10_spread 19 = .ok (.iload 4, 2) := by decide +kernel
theorem dX10_spread_21 : decode cX10_spread 21 = .ok (.bipush 48, 2) := by decide +kernel
theorem dX10_spread_23 : decode cX10_spread 23 = .ok (.if_icmp .ge 105, 3) := by decide +kernel
theorem dX10_spread_26 : decode cX10_spread 26 = .ok (.iconst 0, 1) := by decide +kernel
theorem dX10_spread_27 : decode cX10_spread 27 = .ok (.istore 5, 2) := by decide +kernel
theorem dX10_spread_29 : decode cX10_spread 29 = .ok (.iload 5, 2) := by decide +kernel
theorem dX10_spread_31 : decode cX10_spread 31 = .ok (.iconst 4, 1) := by decide +kernel
theorem dX10_spread_32 : decode cX10_spread 32 = .ok (.if_icmp .ge 90, 3) := by decide +kernel
theorem dX10_spread_35 : decode cX10_spread 35 = .ok (.aload_n 0, 1) := by decide +kernel
theorem dX10_spread_36 : decode cX10_spread 36 = .ok (.getfield 11, 3) := by decide +kernel
theorem dX10_spread_39 : decode cX10_spread 39 = .ok (.iload 4, 2) := by decide +kernel
theorem dX10_spread_41 : decode cX10_spread 41 = .ok (.iconst 4, 1) := by decide +kernel
theorem dX10_spread_42 : decode cX10_spread 42 = .ok (.imul, 1) := by decide +kernel
theorem dX10_spread_43 : decode cX10_spread 43 = .ok (.iload 5, 2) := by decide +kernel
theorem dX10_spread_45 : decode cX10_spread 45 = .ok (.iadd, 1) := by decide +kernel
theorem dX10_spread_46 : decode cX10_spread 46 = .ok (.invokestatic 62, 3) := by decide +kernel
theorem dX10_spread_49 : decode cX10_spread 49 = .ok (.istore 6, 2) := by decide +kernel
theorem dX10_spread_51 : decode cX10_spread 51 = .ok (.iload 6, 2) := by decide +kernel
theorem dX10_spread_53 : decode cX10_spread 53 = .ok (.ldc 66, 2) := by decide +kernel
theorem dX10_spread_55 : decode cX10_spread 55 = .ok (.if_icmp .lt 6, 3) := by decide +kernel
theorem dX10_spread_58 : decode cX10_spread 58 = .ok (.goto 58, 3) := by decide +kernel
theorem dX10_spread_61 : decode cX10_spread 61 = .ok (.aload_n 0, 1) := by decide +kernel
theorem dX10_spread_62 : decode cX10_spread 62 = .ok (.getfield 15, 3) := by decide +kernel
theorem dX10_spread_65 : decode cX10_spread 65 = .ok (.iload_n 1, 1) := by decide +kernel
theorem dX10_spread_66 : decode cX10_spread 66 = .ok (.iload 4, 2) := by decide +kernel
theorem dX10_spread_68 : decode cX10_spread 68 = .ok (.iload 5, 2) := by decide +kernel
theorem dX10_spread_70 : decode cX10_spread 70 = .ok (.invokestatic 70, 3) := by decide +kernel
theorem dX10_spread_73 : decode cX10_spread 73 = .ok (.iadd, 1) := by decide +kernel
theorem dX10_spread_74 : decode cX10_spread 74 = .ok (.invokestatic 62, 3) := by decide +kernel
theorem dX10_spread_77 : decode cX10_spread 77 = .ok (.iload 6, 2) := by decide +kernel
theorem dX10_spread_79 : decode cX10_spread 79 = .ok (.iadd, 1) := by decide +kernel
theorem dX10_spread_80 : decode cX10_spread 80 = .ok (.istore 7, 2) := by decide +kernel
theorem dX10_spread_82 : decode cX10_spread 82 = .ok (.iload 7, 2) := by decide +kernel
theorem dX10_spread_84 : decode cX10_spread 84 = .ok (.aload_n 0, 1) := by decide +kernel
theorem dX10_spread_85 : decode cX10_spread 85 = .ok (.getfield 15, 3) := by decide +kernel
theorem dX10_spread_88 : decode cX10_spread 88 = .ok (.iload_n 1, 1) := by decide +kernel
theorem dX10_spread_89 : decode cX10_spread 89 = .ok (.iload 4, 2) := by decide +kernel
theorem dX10_spread_91 : decode cX10_spread 91 = .ok (.iadd, 1) := by decide +kernel
theorem dX10_spread_92 : decode cX10_spread 92 = .ok (.invokestatic 62, 3) := by decide +kernel
theorem dX10_spread_95 : decode cX10_spread 95 = .ok (.if_icmp .lt 6, 3) := by decide +kernel
theorem dX10_spread_98 : decode cX10_spread 98 = .ok (.goto 18, 3) := by decide +kernel
theorem dX10_spread_101 : decode cX10_spread 101 = .ok (.aload_n 0, 1) := by decide +kernel
theorem dX10_spread_102 : decode cX10_spread 102 = .ok (.getfield 15, 3) := by decide +kernel
theorem dX10_spread_105 : decode cX10_spread 105 = .ok (.iload_n 1, 1) := by decide +kernel
theorem dX10_spread_106 : decode cX10_spread 106 = .ok (.iload 4, 2) := by decide +kernel
theorem dX10_spread_108 : decode cX10_spread 108 = .ok (.iadd, 1) := by decide +kernel
theorem dX10_spread_109 : decode cX10_spread 109 = .ok (.iload 7, 2) := by decide +kernel
theorem dX10_spread_111 : decode cX10_spread 111 = .ok (.invokestatic 38, 3) := by decide +kernel
theorem dX10_spread_114 : decode cX10_spread 114 = .ok (.iconst 1, 1) := by decide +kernel
theorem dX10_spread_115 : decode cX10_spread 115 = .ok (.istore_n 2, 1) := by decide +kernel
theorem dX10_spread_116 : decode cX10_spread 116 = .ok (.iinc 5 1, 3) := by decide +kernel
theorem dX10_spread_119 : decode cX10_spread 119 = .ok (.goto (-90), 3) := by decide +kernel
theorem dX10_spread_122 : decode cX10_spread 122 = .ok (.iinc 4 1, 3) := by decide +kernel
theorem dX10_spread_125 : decode cX10_spread 125 = .ok (.goto (-106), 3) := by decide +kernel
theorem dX10_spread_128 : decode cX10_spread 128 = .ok (.iinc 3 1, 3) := by decide +kernel
theorem dX10_spread_131 : decode cX10_spread 131 = .ok (.goto (-127), 3) := by decide +kernel
theorem dX10_spread_134 : decode cX10_spread 134 = .ok (.return_, 1) := by decide +kernel
theorem hd_Ways_spread_81 : y_Ways_spread_81.cls ≠ "java/lang/invoke/MethodHandle" ∧ y_Ways_spread_81.cls ≠ "java/lang/invoke/VarHandle" ∧ (parseMethodDescriptor y_Ways_spread_81.desc).map (fun d => d.parameters.length) = some 1 := by decide +kernel
def b_Ways_spread_81_29 (a1 : Int32) (y4 : Int32 × Int32 × Mem) (y6 : Int32 × Int32 × Mem) : Option ((Int32 × Int32 × Mem) ⊕ (Int32 × Mem)) :=
  if decide (y6.2.1 < 4) then (if decide ((atv (y6.2.2.1 82) 192 ((y4.2.1 * 4) + y6.2.1)) < 1000000) then ((f_Ways_neighbour y4.2.1 y6.2.1).bind fun q9 => jv_ ((atv (y6.2.2.1 83) 3072 (a1 + q9)) + (atv (y6.2.2.1 82) 192 ((y4.2.1 * 4) + y6.2.1)) : Int32) fun x10 => if decide (x10 < (atv (y6.2.2.1 83) 3072 (a1 + y4.2.1))) then (jv_ (putv y6.2.2 83 3072 (a1 + y4.2.1) x10) fun M12 => some (.inl (1, y6.2.1 + 1, M12))) else (some (.inl (y6.1, y6.2.1 + 1, y6.2.2)))) else (some (.inl (y6.1, y6.2.1 + 1, y6.2.2)))) else (some (.inr (y6.1, y6.2.2)))
def b_Ways_spread_81_19 (a1 : Int32) (y4 : Int32 × Int32 × Mem) : Option ((Int32 × Int32 × Mem) ⊕ (Int32 × Mem)) :=
  if decide (y4.2.1 < 48) then ((itr (b_Ways_spread_81_29 a1 y4) FU (y4.1, 0, y4.2.2)).bind fun q13 => some (.inl (q13.1, y4.2.1 + 1, q13.2))) else (some (.inr (y4.1, y4.2.2)))
def b_Ways_spread_81_4 (a1 : Int32) (y1 : Int32 × Int32 × Mem) : Option ((Int32 × Int32 × Mem) ⊕ (Mem)) :=
  if decide (y1.2.1 < 48) then (if decide (y1.1 = 0) then (some (.inr y1.2.2)) else ((itr (b_Ways_spread_81_19 a1) FU (0, 0, y1.2.2)).bind fun q14 => some (.inl (q14.1, y1.2.1 + 1, q14.2)))) else (some (.inr y1.2.2))
def f_Ways_spread_81 (a1 : Int32) (M0 : Mem) : Option (Mem) :=
  (itr (b_Ways_spread_81_4 a1) FU (1, 0, M0)).bind fun q15 => some q15
set_option maxHeartbeats 4000000 in
set_option maxRecDepth 20000 in
theorem C_Ways_spread_81 {D : va_G} {ad adK adV : Nat → Nat} {cI cJ : ClassId} {l : Launch} (a1 : Int32) (M0 : Mem) (o : Mem) (h : f_Ways_spread_81 a1 M0 = some o) : Ct D ad adK adV cI cJ l y_Ways_spread_81 cX10_spread 8 none 3 65 [.ref (ad 81), .int a1] M0 none o := by
  refine x_start (lv := [(0, .ref (ad 81)), (1, .int a1)]) (own := "CurrentFarms$Ways") rfl (by decide) (Nat.le_of_ble_eq_true rfl) rfl ?_
  intro p e s m args below meth c Q hQ B
  unfold f_Ways_spread_81 at h
  refine x_iconst (v := 1) (pc := 0) B dX10_spread_0 rfl ?_
  refine x_istore_n (lv' := [(2, .int 1), (0, .ref (ad 81)), (1, .int a1)]) (pc := 1) B dX10_spread_1 rfl (by decide) rfl ?_
  refine x_iconst (v := 0) (pc := 2) B dX10_spread_2 rfl ?_
  refine x_istore_n (lv' := [(3, .int 0), (2, .int 1), (0, .ref (ad 81)), (1, .int a1)]) (pc := 3) B dX10_spread_3 rfl (by decide) rfl ?_
  refine x_pick (lv' := [(0, .ref (ad 81)), (1, .int a1), (2, .int 1), (3, .int 0)]) [2, 3, 1, 0] rfl ?_
  obtain ⟨q15, hq15, h⟩ := bnd h
  refine x_loop (Head := fun (y1 : Int32 × Int32 × Mem) => XX D ad cI cJ p l e (Rm 3 65) s m args below meth c Q 8 y1.2.2 4 [(0, .ref (ad 81)), (1, .int a1), (2, .int y1.1), (3, .int y1.2.1)] []) (Ex := fun (q15 : Mem) => XX D ad cI cJ p l e (Rm 3 65) s m args below meth c Q 8 q15 134 [] []) (fun y1 r h hback hexit => ?_) FU _ q15 hq15 ?_
  · unfold b_Ways_spread_81_4 at h
    refine x_iload_n (pc := 4) B 3 dX10_spread_4 rfl rfl ?_
    refine x_bipush (v := 48) (pc := 5) B dX10_spread_5 rfl ?_
    refine x_icmp_ge (tgt := 134) (pc := 7) B dX10_spread_7 rfl (fun hc2 => ?_) (fun hc2 => ?_)
    · have h := iff_ hc2 h
      refine x_pick (lv' := []) [] rfl ?_
      have z := hexit y1.2.2 (Option.some.inj h).symm
      exact z
    · have h := ift hc2 h
      refine x_iload_n (pc := 10) B 2 dX10_spread_10 rfl rfl ?_
      refine x_if_eq (tgt := 134) (pc := 11) B dX10_spread_11 rfl (fun hc3 => ?_) (fun hc3 => ?_)
      · have h := ift hc3 h
        refine x_pick (lv' := []) [] rfl ?_
        have z := hexit y1.2.2 (Option.some.inj h).symm
        exact z
      · have h := iff_ hc3 h
        refine x_iconst (v := 0) (pc := 14) B dX10_spread_14 rfl ?_
        refine x_istore_n (lv' := [(2, .int 0), (0, .ref (ad 81)), (1, .int a1), (3, .int y1.2.1)]) (pc := 15) B dX10_spread_15 rfl (by decide) rfl ?_
        refine x_iconst (v := 0) (pc := 16) B dX10_spread_16 rfl ?_
        refine x_istore (lv' := [(4, .int 0), (2, .int 0), (0, .ref (ad 81)), (1, .int a1), (3, .int y1.2.1)]) (pc := 17) B dX10_spread_17 (by decide) rfl ?_
        refine x_pick (lv' := [(0, .ref (ad 81)), (1, .int a1), (2, .int 0), (3, .int y1.2.1), (4, .int 0)]) [2, 3, 1, 4, 0] rfl ?_
        obtain ⟨q14, hq14, h⟩ := bnd h
        refine x_loop (Head := fun (y4 : Int32 × Int32 × Mem) => XX D ad cI cJ p l e (Rm 3 65) s m args below meth c Q 8 y4.2.2 19 [(0, .ref (ad 81)), (1, .int a1), (2, .int y4.1), (3, .int y1.2.1), (4, .int y4.2.1)] []) (Ex := fun (q14 : Int32 × Mem) => XX D ad cI cJ p l e (Rm 3 65) s m args below meth c Q 8 q14.2 128 [(0, .ref (ad 81)), (1, .int a1), (2, .int q14.1), (3, .int y1.2.1)] []) (fun y4 r h hback hexit => ?_) FU _ q14 hq14 ?_
        · unfold b_Ways_spread_81_19 at h
          refine x_iload (pc := 19) B 4 dX10_spread_19 rfl ?_
          refine x_bipush (v := 48) (pc := 21) B dX10_spread_21 rfl ?_
          refine x_icmp_ge (tgt := 128) (pc := 23) B dX10_spread_23 rfl (fun hc5 => ?_) (fun hc5 => ?_)
          · have h := iff_ hc5 h
            refine x_pick (lv' := [(0, .ref (ad 81)), (1, .int a1), (2, .int y4.1), (3, .int y1.2.1)]) [0, 1, 2, 3] rfl ?_
            have z := hexit (y4.1, y4.2.2) (Option.some.inj h).symm
            exact z
          · have h := ift hc5 h
            refine x_iconst (v := 0) (pc := 26) B dX10_spread_26 rfl ?_
            refine x_istore (lv' := [(5, .int 0), (0, .ref (ad 81)), (1, .int a1), (2, .int y4.1), (3, .int y1.2.1), (4, .int y4.2.1)]) (pc := 27) B dX10_spread_27 (by decide) rfl ?_
            refine x_pick (lv' := [(0, .ref (ad 81)), (1, .int a1), (2, .int y4.1), (3, .int y1.2.1), (4, .int y4.2.1), (5, .int 0)]) [1, 2, 3, 4, 5, 0] rfl ?_
            obtain ⟨q13, hq13, h⟩ := bnd h
            refine x_loop (Head := fun (y6 : Int32 × Int32 × Mem) => XX D ad cI cJ p l e (Rm 3 65) s m args below meth c Q 8 y6.2.2 29 [(0, .ref (ad 81)), (1, .int a1), (2, .int y6.1), (3, .int y1.2.1), (4, .int y4.2.1), (5, .int y6.2.1)] []) (Ex := fun (q13 : Int32 × Mem) => XX D ad cI cJ p l e (Rm 3 65) s m args below meth c Q 8 q13.2 122 [(0, .ref (ad 81)), (1, .int a1), (2, .int q13.1), (3, .int y1.2.1), (4, .int y4.2.1)] []) (fun y6 r h hback hexit => ?_) FU _ q13 hq13 ?_
            · unfold b_Ways_spread_81_29 at h
              refine x_iload (pc := 29) B 5 dX10_spread_29 rfl ?_
              refine x_iconst (v := 4) (pc := 31) B dX10_spread_31 rfl ?_
              refine x_icmp_ge (tgt := 122) (pc := 32) B dX10_spread_32 rfl (fun hc7 => ?_) (fun hc7 => ?_)
              · have h := iff_ hc7 h
                refine x_pick (lv' := [(0, .ref (ad 81)), (1, .int a1), (2, .int y6.1), (3, .int y1.2.1), (4, .int y4.2.1)]) [0, 1, 2, 3, 4] rfl ?_
                have z := hexit (y6.1, y6.2.2) (Option.some.inj h).symm
                exact z
              · have h := ift hc7 h
                refine x_aload_n (pc := 35) B 0 dX10_spread_35 rfl rfl ?_
                refine x_get (T := TX10) (pc := 36) B 1 oi_81 rfl uw_10 (by decide) rfl tw_472 rfl dX10_spread_36 ?_
                refine x_iload (pc := 39) B 4 dX10_spread_39 rfl ?_
                refine x_iconst (v := 4) (pc := 41) B dX10_spread_41 rfl ?_
                refine x_imul (pc := 42) B dX10_spread_42 ?_
                refine x_iload (pc := 43) B 5 dX10_spread_43 rfl ?_
                refine x_iadd (pc := 45) B dX10_spread_45 ?_
                refine x_callSN (rest := []) (st' := [.int (atv (y6.2.2.1 82) 192 ((y4.2.1 * 4) + y6.2.1))]) (pc := 46) B (T_CF_at 82 192 ((y4.2.1 * 4) + y6.2.1) ai_82 (by decide) y6.2.2) tw_575 tw_998 tw_574 tw_98 hd_CF_at ⟨Nat.le_of_ble_eq_true rfl, Nat.le_of_ble_eq_true rfl⟩ rfl rfl (Nat.le_of_ble_eq_true rfl) rfl dX10_spread_46 ?_
                refine x_istore (lv' := [(6, .int (atv (y6.2.2.1 82) 192 ((y4.2.1 * 4) + y6.2.1))), (0, .ref (ad 81)), (1, .int a1), (2, .int y6.1), (3, .int y1.2.1), (4, .int y4.2.1), (5, .int y6.2.1)]) (pc := 49) B dX10_spread_49 (by decide) rfl ?_
                refine x_iload (pc := 51) B 0 dX10_spread_51 rfl ?_
                refine x_ldc (v := 1000000) (pc := 53) B tw_988 dX10_spread_53 ?_
                refine x_icmp_lt (tgt := 61) (pc := 55) B dX10_spread_55 rfl (fun hc8 => ?_) (fun hc8 => ?_)
                · have h := ift hc8 h
                  refine x_aload_n (pc := 61) B 1 dX10_spread_61 rfl rfl ?_
                  refine x_get (T := TX10) (pc := 62) B 2 oi_81 rfl uw_10 (by decide) rfl tw_473 rfl dX10_spread_62 ?_
                  refine x_iload_n (pc := 65) B 2 dX10_spread_65 rfl rfl ?_
                  refine x_iload (pc := 66) B 5 dX10_spread_66 rfl ?_
                  refine x_iload (pc := 68) B 6 dX10_spread_68 rfl ?_
                  obtain ⟨q9, hq9, h⟩ := bnd h
                  refine x_callS (rest := [.int a1, .ref (ad 83)]) (st' := [.int q9, .int a1, .ref (ad 83)]) (pc := 70) B (C_Ways_neighbour y4.2.1 y6.2.1 y6.2.2 _ hq9) tw_984 tw_982 tw_983 tw_109 hd_Ways_neighbour ⟨Nat.le_of_ble_eq_true rfl, Nat.le_of_ble_eq_true rfl⟩ rfl rfl (Nat.le_of_ble_eq_true rfl) rfl dX10_spread_70 ?_
                  refine x_iadd (pc := 73) B dX10_spread_73 ?_
                  refine x_callSN (rest := []) (st' := [.int (atv (y6.2.2.1 83) 3072 (a1 + q9))]) (pc := 74) B (T_CF_at 83 3072 (a1 + q9) ai_83 (by decide) y6.2.2) tw_575 tw_998 tw_574 tw_98 hd_CF_at ⟨Nat.le_of_ble_eq_true rfl, Nat.le_of_ble_eq_true rfl⟩ rfl rfl (Nat.le_of_ble_eq_true rfl) rfl dX10_spread_74 ?_
                  refine x_iload (pc := 77) B 0 dX10_spread_77 rfl ?_
                  refine x_iadd (pc := 79) B dX10_spread_79 ?_
                  refine jv_m (P := fun (x10 : Int32) => XX D ad cI cJ p l e (Rm 3 65) s m args below meth c Q 8 y6.2.2 80 [(6, .int (atv (y6.2.2.1 82) 192 ((y4.2.1 * 4) + y6.2.1))), (0, .ref (ad 81)), (1, .int a1), (2, .int y6.1), (3, .int y1.2.1), (4, .int y4.2.1), (5, .int y6.2.1)] [.int x10]) h (fun x10 h => ?_)
                  refine x_istore (lv' := [(7, .int x10), (6, .int (atv (y6.2.2.1 82) 192 ((y4.2.1 * 4) + y6.2.1))), (0, .ref (ad 81)), (1, .int a1), (2, .int y6.1), (3, .int y1.2.1), (4, .int y4.2.1), (5, .int y6.2.1)]) (pc := 80) B dX10_spread_80 (by decide) rfl ?_
                  refine x_iload (pc := 82) B 0 dX10_spread_82 rfl ?_
                  refine x_aload_n (pc := 84) B 2 dX10_spread_84 rfl rfl ?_
                  refine x_get (T := TX10) (pc := 85) B 2 oi_81 rfl uw_10 (by decide) rfl tw_473 rfl dX10_spread_85 ?_
                  refine x_iload_n (pc := 88) B 3 dX10_spread_88 rfl rfl ?_
                  refine x_iload (pc := 89) B 6 dX10_spread_89 rfl ?_
                  refine x_iadd (pc := 91) B dX10_spread_91 ?_
                  refine x_callSN (rest := [.int x10]) (st' := [.int (atv (y6.2.2.1 83) 3072 (a1 + y4.2.1)), .int x10]) (pc := 92) B (T_CF_at 83 3072 (a1 + y4.2.1) ai_83 (by decide) y6.2.2) tw_575 tw_998 tw_574 tw_98 hd_CF_at ⟨Nat.le_of_ble_eq_true rfl, Nat.le_of_ble_eq_true rfl⟩ rfl rfl (Nat.le_of_ble_eq_true rfl) rfl dX10_spread_92 ?_
                  refine x_icmp_lt (tgt := 101) (pc := 95) B dX10_spread_95 rfl (fun hc11 => ?_) (fun hc11 => ?_)
                  · have h := ift hc11 h
                    refine x_aload_n (pc := 101) B 2 dX10_spread_101 rfl rfl ?_
                    refine x_get (T := TX10) (pc := 102) B 2 oi_81 rfl uw_10 (by decide) rfl tw_473 rfl dX10_spread_102 ?_
                    refine x_iload_n (pc := 105) B 3 dX10_spread_105 rfl rfl ?_
                    refine x_iload (pc := 106) B 6 dX10_spread_106 rfl ?_
                    refine x_iadd (pc := 108) B dX10_spread_108 ?_
                    refine x_iload (pc := 109) B 0 dX10_spread_109 rfl ?_
                    refine x_callSN (rest := []) (st' := []) (pc := 111) B (T_CF_put 83 3072 (a1 + y4.2.1) x10 ai_83 (by decide) y6.2.2) tw_588 tw_977 tw_587 tw_98 hd_CF_put ⟨Nat.le_of_ble_eq_true rfl, Nat.le_of_ble_eq_true rfl⟩ rfl rfl (Nat.le_of_ble_eq_true rfl) rfl dX10_spread_111 ?_
                    refine jv_m (P := fun M12 => XX D ad cI cJ p l e (Rm 3 65) s m args below meth c Q 8 M12 114 [(7, .int x10), (6, .int (atv (y6.2.2.1 82) 192 ((y4.2.1 * 4) + y6.2.1))), (0, .ref (ad 81)), (1, .int a1), (2, .int y6.1), (3, .int y1.2.1), (4, .int y4.2.1), (5, .int y6.2.1)] []) h (fun M12 h => ?_)
                    refine x_iconst (v := 1) (pc := 114) B dX10_spread_114 rfl ?_
                    refine x_istore_n (lv' := [(2, .int 1), (7, .int x10), (6, .int (atv (y6.2.2.1 82) 192 ((y4.2.1 * 4) + y6.2.1))), (0, .ref (ad 81)), (1, .int a1), (3, .int y1.2.1), (4, .int y4.2.1), (5, .int y6.2.1)]) (pc := 115) B dX10_spread_115 rfl (by decide) rfl ?_
                    refine x_iinc (k := 7) (v := y6.2.1 + 1) (lv' := [(5, .int (y6.2.1 + 1)), (2, .int 1), (7, .int x10), (6, .int (atv (y6.2.2.1 82) 192 ((y4.2.1 * 4) + y6.2.1))), (0, .ref (ad 81)), (1, .int a1), (3, .int y1.2.1), (4, .int y4.2.1)]) (pc := 116) B dX10_spread_116 rfl rfl (by decide) rfl ?_
                    refine x_goto (tgt := 29) (pc := 119) B dX10_spread_119 rfl ?_
                    refine x_pick (lv' := [(0, .ref (ad 81)), (1, .int a1), (2, .int 1), (3, .int y1.2.1), (4, .int y4.2.1), (5, .int (y6.2.1 + 1))]) [4, 5, 1, 6, 7, 0] rfl ?_
                    have z := hback (1, y6.2.1 + 1, M12) (Option.some.inj h).symm
                    exact z
                  · have h := iff_ hc11 h
                    refine x_goto (tgt := 116) (pc := 98) B dX10_spread_98 rfl ?_
                    refine x_iinc (k := 7) (v := y6.2.1 + 1) (lv' := [(5, .int (y6.2.1 + 1)), (7, .int x10), (6, .int (atv (y6.2.2.1 82) 192 ((y4.2.1 * 4) + y6.2.1))), (0, .ref (ad 81)), (1, .int a1), (2, .int y6.1), (3, .int y1.2.1), (4, .int y4.2.1)]) (pc := 116) B dX10_spread_116 rfl rfl (by decide) rfl ?_
                    refine x_goto (tgt := 29) (pc := 119) B dX10_spread_119 rfl ?_
                    refine x_pick (lv' := [(0, .ref (ad 81)), (1, .int a1), (2, .int y6.1), (3, .int y1.2.1), (4, .int y4.2.1), (5, .int (y6.2.1 + 1))]) [3, 4, 5, 6, 7, 0] rfl ?_
                    have z := hback (y6.1, y6.2.1 + 1, y6.2.2) (Option.some.inj h).symm
                    exact z
                · have h := iff_ hc8 h
                  refine x_goto (tgt := 116) (pc := 58) B dX10_spread_58 rfl ?_
                  refine x_iinc (k := 6) (v := y6.2.1 + 1) (lv' := [(5, .int (y6.2.1 + 1)), (6, .int (atv (y6.2.2.1 82) 192 ((y4.2.1 * 4) + y6.2.1))), (0, .ref (ad 81)), (1, .int a1), (2, .int y6.1), (3, .int y1.2.1), (4, .int y4.2.1)]) (pc := 116) B dX10_spread_116 rfl rfl (by decide) rfl ?_
                  refine x_goto (tgt := 29) (pc := 119) B dX10_spread_119 rfl ?_
                  refine x_pick (lv' := [(0, .ref (ad 81)), (1, .int a1), (2, .int y6.1), (3, .int y1.2.1), (4, .int y4.2.1), (5, .int (y6.2.1 + 1))]) [2, 3, 4, 5, 6, 0] rfl ?_
                  have z := hback (y6.1, y6.2.1 + 1, y6.2.2) (Option.some.inj h).symm
                  exact z
            · refine x_iinc (k := 4) (v := y4.2.1 + 1) (lv' := [(4, .int (y4.2.1 + 1)), (0, .ref (ad 81)), (1, .int a1), (2, .int q13.1), (3, .int y1.2.1)]) (pc := 122) B dX10_spread_122 rfl rfl (by decide) rfl ?_
              refine x_goto (tgt := 19) (pc := 125) B dX10_spread_125 rfl ?_
              refine x_pick (lv' := [(0, .ref (ad 81)), (1, .int a1), (2, .int q13.1), (3, .int y1.2.1), (4, .int (y4.2.1 + 1))]) [1, 2, 3, 4, 0] rfl ?_
              have z := hback (q13.1, y4.2.1 + 1, q13.2) (Option.some.inj h).symm
              exact z
        · refine x_iinc (k := 3) (v := y1.2.1 + 1) (lv' := [(3, .int (y1.2.1 + 1)), (0, .ref (ad 81)), (1, .int a1), (2, .int q14.1)]) (pc := 128) B dX10_spread_128 rfl rfl (by decide) rfl ?_
          refine x_goto (tgt := 4) (pc := 131) B dX10_spread_131 rfl ?_
          refine x_pick (lv' := [(0, .ref (ad 81)), (1, .int a1), (2, .int q14.1), (3, .int (y1.2.1 + 1))]) [1, 2, 3, 0] rfl ?_
          have z := hback (q14.1, y1.2.1 + 1, q14.2) (Option.some.inj h).symm
          exact z
  · obtain rfl := Option.some.inj h
    exact x_vret (pc := 134) B hQ dX10_spread_134
-- CurrentFarms$Ways.leastTree(I)I [81]
abbrev y_Ways_leastTree_81 : MethodName := ⟨"CurrentFarms$Ways", "leastTree", "(I)I"⟩
abbrev cX10_leastTree : ByteArray := prog_12_method_2_code
theorem dX10_leastTree_0 : decode cX10_leastTree 0 = .ok (.iconst 0, 1) := by decide +kernel
theorem dX10_leastTree_1 : decode cX10_leastTree 1 = .ok (.istore_n 2, 1) := by decide +kernel
theorem dX10_leastTree_2 : decode cX10_leastTree 2 = .ok (.iconst 0, 1) := by decide +kernel
theorem dX10_leastTree_3 : decode cX10_leastTree 3 = .ok (.istore_n 3, 1) := by decide +kernel
theorem dX10_leastTree_4 : decode cX10_leastTree 4 = .ok (.iload_n 3, 1) := by decide +kernel
theorem dX10_leastTree_5 : decode cX10_leastTree 5 = .ok (.bipush 10, 2) := by decide +kernel
theorem dX10_leastTree_7 : decode cX10_leastTree 7 = .ok (.if_icmp .ge 39, 3) := by decide +kernel
theorem dX10_leastTree_10 : decode cX10_leastTree 10 = .ok (.iload_n 1, 1) := by decide +kernel
theorem dX10_leastTree_11 : decode cX10_leastTree 11 = .ok (.iload_n 3, 1) := by decide +kernel
theorem dX10_leastTree_12 : decode cX10_leastTree 12 = .ok (.invokestatic 28, 3) := by decide +kernel
theorem dX10_leastTree_15 : decode cX10_leastTree 15 = .ok (.ifCond .ne 6, 3) := by decide +kernel
theorem dX10_leastTree_18 : decode cX10_leastTree 18 = .ok (.goto 22, 3) := by decide +kernel
theorem dX10_leastTree_21 : decode cX10_leastTree 21 = .ok (.aload_n 0, 1) := by decide +kernel
theorem dX10_leastTree_22 : decode cX10_leastTree 22 = .ok (.getfield 18, 3) := by decide +kernel
theorem dX10_leastTree_25 : decode cX10_leastTree 25 = .ok (.iload_n 2, 1) := by decide +kernel
theorem dX10_leastTree_26 : decode cX10_leastTree 26 = .ok (.aload_n 0, 1) := by decide +kernel
theorem dX10_leastTree_27 : decode cX10_leastTree 27 = .ok (.getfield 24, 3) := by decide +kernel
theorem dX10_leastTree_30 : decode cX10_leastTree 30 = .ok (.iload_n 3, 1) := by decide +kernel
theorem dX10_leastTree_31 : decode cX10_leastTree 31 = .ok (.invokevirtual 32, 3) := by decide +kernel
theorem dX10_leastTree_34 : decode cX10_leastTree 34 = .ok (.invokestatic 38, 3) := by decide +kernel
theorem dX10_leastTree_37 : decode cX10_leastTree 37 = .ok (.iinc 2 1, 3) := by decide +kernel
theorem dX10_leastTree_40 : decode cX10_leastTree 40 = .ok (.iinc 3 1, 3) := by decide +kernel
theorem dX10_leastTree_43 : decode cX10_leastTree 43 = .ok (.goto (-39), 3) := by decide +kernel
theorem dX10_leastTree_46 : decode cX10_leastTree 46 = .ok (.aload_n 0, 1) := by decide +kernel
theorem dX10_leastTree_47 : decode cX10_leastTree 47 = .ok (.invokevirtual 42, 3) := by decide +kernel
theorem dX10_leastTree_50 : decode cX10_leastTree 50 = .ok (.iconst 1, 1) := by decide +kernel
theorem dX10_leastTree_51 : decode cX10_leastTree 51 = .ok (.istore_n 3, 1) := by decide +kernel
theorem dX10_leastTree_52 : decode cX10_leastTree 52 = .ok (.iload_n 3, 1) := by decide +kernel
theorem dX10_leastTree_53 : decode cX10_leastTree 53 = .ok (.iconst 1, 1) := by decide +kernel
theorem dX10_leastTree_54 : decode cX10_leastTree 54 = .ok (.iload_n 2, 1) := by decide +kernel
theorem dX10_leastTree_55 : decode cX10_leastTree 55 = .ok (.bipush 6, 2) := by decide +kernel
theorem dX10_leastTree_57 : decode cX10_leastTree 57 = .ok (.invokestatic 45, 3) := by decide +kernel
theorem dX10_leastTree_60 : decode cX10_leastTree 60 = .ok (.ishl, 1) := by decide +kernel
theorem dX10_leastTree_61 : decode cX10_leastTree 61 = .ok (.if_icmp .ge 22, 3) := by decide +kernel
theorem dX10_leastTree_64 : decode cX10_leastTree 64 = .ok (.aload_n 0, 1) := by decide +kernel
theorem dX10_leastTree_65 : decode cX10_leastTree 65 = .ok (.iload_n 3, 1) := by decide +kernel
theorem dX10_leastTree_66 : decode cX10_leastTree 66 = .ok (.invokevirtual 51, 3) := by decide +kernel
theorem dX10_leastTree_69 : decode cX10_leastTree 69 = .ok (.aload_n 0, 1) := by decide +kernel
theorem dX10_leastTree_70 : decode cX10_leastTree 70 = .ok (.iload_n 3, 1) := by decide +kernel
theorem dX10_leastTree_71 : decode cX10_leastTree 71 = .ok (.bipush 48, 2) := by decide +kernel
theorem dX10_leastTree_73 : decode cX10_leastTree 73 = .ok (.imul, 1) := by decide +kernel
theorem dX10_leastTree_74 : decode cX10_leastTree 74 = .ok (.invokevirtual 55, 3) := by decide +kernel
theorem dX10_leastTree_77 : decode cX10_leastTree 77 = .ok (.iinc 3 1, 3) := by decide +kernel
theorem dX10_leastTree_80 : decode cX10_leastTree 80 = .ok (.goto (-28), 3) := by decide +kernel
theorem dX10_leastTree_83 : decode cX10_leastTree 83 = .ok (.iload_n 2, 1) := by decide +kernel
theorem dX10_leastTree_84 : decode cX10_leastTree 84 = .ok (.ifCond .ne 7, 3) := by decide +kernel
theorem dX10_leastTree_87 : decode cX10_leastTree 87 = .ok (.iconst 0, 1) := by decide +kernel
theorem dX10_leastTree_88 : decode cX10_leastTree 88 = .ok (.goto 26, 3) := by decide +kernel
theorem dX10_leastTree_91 : decode cX10_leastTree 91 = .ok (.aload_n 0, 1) := by decide +kernel
theorem dX10_leastTree_92 : decode cX10_leastTree 92 = .ok (.getfield 15, 3) := by decide +kernel
theorem dX10_leastTree_95 : decode cX10_leastTree 95 = .ok (.iconst 1, 1) := by decide +kernel
theorem dX10_leastTree_96 : decode cX10_leastTree 96 = .ok (.iload_n 2, 1) := by decide +kernel
theorem dX10_leastTree_97 : decode cX10_leastTree 97 = .ok (.ishl, 1) := by decide +kernel
theorem dX10_leastTree_98 : decode cX10_leastTree 98 = .ok (.iconst 1, 1) := by decide +kernel
theorem dX10_leastTree_99 : decode cX10_leastTree 99 = .ok (.isub, 1) := by decide +kernel
theorem dX10_leastTree_100 : decode cX10_leastTree 100 = .ok (.bipush 48, 2) := by decide +kernel
theorem dX10_leastTree_102 : decode cX10_leastTree 102 = .ok (.imul, 1) := by decide +kernel
theorem dX10_leastTree_103 : decode cX10_leastTree 103 = .ok (.aload_n 0, 1) := by decide +kernel
theorem dX10_leastTree_104 : decode cX10_leastTree 104 = .ok (.getfield 24, 3) := by decide +kernel
theorem dX10_leastTree_107 : decode cX10_leastTree 107 = .ok (.getfield 58, 3) := by decide +kernel
theorem dX10_leastTree_110 : decode cX10_leastTree 110 = .ok (.iadd, 1) := by decide +kernel
theorem dX10_leastTree_111 : decode cX10_leastTree 111 = .ok (.invokestatic 62, 3) := by decide +kernel
theorem dX10_leastTree_114 : decode cX10_leastTree 114 = .ok (.istore_n 3, 1) := by decide +kernel
theorem dX10_leastTree_115 : decode cX10_leastTree 115 = .ok (.iload_n 3, 1) := by decide +kernel
theorem dX10_leastTree_116 : decode cX10_leastTree 116 = .ok (.ldc 66, 2) := by decide +kernel
theorem dX10_leastTree_118 : decode cX10_leastTree 118 = .ok (.if_icmp .ge 7, 3) := by decide +kernel
theorem dX10_leastTree_121 : decode cX10_leastTree 121 = .ok (.iload_n 3, 1) := by decide +kernel
theorem dX10_leastTree_122 : decode cX10_leastTree 122 = .ok (.goto 5, 3) := by decide +kernel
theorem dX10_leastTree_125 : decode cX10_leastTree 125 = .ok (.bipush (-5), 2) := by decide +kernel
theorem dX10_leastTree_127 : decode cX10_leastTree 127 = .ok (.ireturn, 1) := by decide +kernel
theorem hd_Ways_leastTree_81 : y_Ways_leastTree_81.cls ≠ "java/lang/invoke/MethodHandle" ∧ y_Ways_leastTree_81.cls ≠ "java/lang/invoke/VarHandle" ∧ (parseMethodDescriptor y_Ways_leastTree_81.desc).map (fun d => d.parameters.length) = some 1 := by decide +kernel
def b_Ways_leastTree_81_4 (a1 : Int32) (y1 : Int32 × Int32 × Mem) : Option ((Int32 × Int32 × Mem) ⊕ (Int32 × Mem)) :=
  if decide (y1.2.1 < 10) then (if hld a1 y1.2.1 then ((f_Land_cellOf_2 y1.2.1 y1.2.2).bind fun q4 => jv_ (putv y1.2.2 84 6 y1.1 q4) fun M5 => some (.inl (y1.1 + 1, y1.2.1 + 1, M5))) else (some (.inl (y1.1, y1.2.1 + 1, y1.2.2)))) else (some (.inr (y1.1, y1.2.2)))
def b_Ways_leastTree_81_52 (q6 : Int32 × Mem) (y8 : Int32 × Mem) : Option ((Int32 × Mem) ⊕ (Mem)) :=
  if decide (y8.1 < (1 <<< ((jmin q6.1 6) &&& 31))) then ((f_Ways_join_81 y8.1 y8.2).bind fun q10 => (f_Ways_spread_81 (y8.1 * 48) q10).bind fun q11 => some (.inl (y8.1 + 1, q11))) else (some (.inr y8.2))
def f_Ways_leastTree_81 (a1 : Int32) (M0 : Mem) : Option (Int32 × Mem) :=
  (itr (b_Ways_leastTree_81_4 a1) FU (0, 0, M0)).bind fun q6 => (f_Ways_measure_81 q6.2).bind fun q7 => (itr (b_Ways_leastTree_81_52 q6) FU (1, q7)).bind fun q12 => jv_ ((if decide (q6.1 = 0) then 0 else atv (q12.1 83) 3072 ((((1 <<< (q6.1 &&& 31)) - 1) * 48) + (q12.1 2 5))) : Int32) fun u15 => if decide (u15 < 1000000) then (some (u15, q12)) else (some ((-5), q12))
set_option maxHeartbeats 4000000 in
set_option maxRecDepth 20000 in
theorem C_Ways_leastTree_81 {D : va_G} {ad adK adV : Nat → Nat} {cI cJ : ClassId} {l : Launch} (a1 : Int32) (M0 : Mem) (o : Int32 × Mem) (h : f_Ways_leastTree_81 a1 M0 = some o) : Ct D ad adK adV cI cJ l y_Ways_leastTree_81 cX10_leastTree 4 (some .int) 4 92 [.ref (ad 81), .int a1] M0 (some (.int o.1)) o.2 := by
  refine x_start (lv := [(0, .ref (ad 81)), (1, .int a1)]) (own := "CurrentFarms$Ways") rfl (by decide) (Nat.le_of_ble_eq_true rfl) rfl ?_
  intro p e s m args below meth c Q hQ B
  unfold f_Ways_leastTree_81 at h
  refine x_iconst (v := 0) (pc := 0) B dX10_leastTree_0 rfl ?_
  refine x_istore_n (lv' := [(2, .int 0), (0, .ref (ad 81)), (1, .int a1)]) (pc := 1) B dX10_leastTree_1 rfl (by decide) rfl ?_
  refine x_iconst (v := 0) (pc := 2) B dX10_leastTree_2 rfl ?_
  refine x_istore_n (lv' := [(3, .int 0), (2, .int 0), (0, .ref (ad 81)), (1, .int a1)]) (pc := 3) B dX10_leastTree_3 rfl (by decide) rfl ?_
  refine x_pick (lv' := [(0, .ref (ad 81)), (1, .int a1), (2, .int 0), (3, .int 0)]) [2, 3, 1, 0] rfl ?_
  obtain ⟨q6, hq6, h⟩ := bnd h
  refine x_loop (Head := fun (y1 : Int32 × Int32 × Mem) => XX D ad cI cJ p l e (Rm 4 92) s m args below meth c Q 4 y1.2.2 4 [(0, .ref (ad 81)), (1, .int a1), (2, .int y1.1), (3, .int y1.2.1)] []) (Ex := fun (q6 : Int32 × Mem) => XX D ad cI cJ p l e (Rm 4 92) s m args below meth c Q 4 q6.2 46 [(0, .ref (ad 81)), (2, .int q6.1)] []) (fun y1 r h hback hexit => ?_) FU _ q6 hq6 ?_
  · unfold b_Ways_leastTree_81_4 at h
    refine x_iload_n (pc := 4) B 3 dX10_leastTree_4 rfl rfl ?_
    refine x_bipush (v := 10) (pc := 5) B dX10_leastTree_5 rfl ?_
    refine x_icmp_ge (tgt := 46) (pc := 7) B dX10_leastTree_7 rfl (fun hc2 => ?_) (fun hc2 => ?_)
    · have h := iff_ hc2 h
      refine x_pick (lv' := [(0, .ref (ad 81)), (2, .int y1.1)]) [0, 2] rfl ?_
      have z := hexit (y1.1, y1.2.2) (Option.some.inj h).symm
      exact z
    · have h := ift hc2 h
      refine x_iload_n (pc := 10) B 1 dX10_leastTree_10 rfl rfl ?_
      refine x_iload_n (pc := 11) B 3 dX10_leastTree_11 rfl rfl ?_
      refine x_callSN (rest := []) (st' := [.int (bI (hld a1 y1.2.1))]) (pc := 12) B (T_CF_holds a1 y1.2.1 y1.2.2) tw_699 tw_975 tw_698 tw_98 hd_CF_holds ⟨Nat.le_of_ble_eq_true rfl, Nat.le_of_ble_eq_true rfl⟩ rfl rfl (Nat.le_of_ble_eq_true rfl) rfl dX10_leastTree_12 ?_
      refine x_if_ne_b (tgt := 21) (pc := 15) B dX10_leastTree_15 rfl (fun hc3 => ?_) (fun hc3 => ?_)
      · have h := ift hc3 h
        refine x_aload_n (pc := 21) B 0 dX10_leastTree_21 rfl rfl ?_
        refine x_get (T := TX10) (pc := 22) B 3 oi_81 rfl uw_10 (by decide) rfl tw_474 rfl dX10_leastTree_22 ?_
        refine x_iload_n (pc := 25) B 2 dX10_leastTree_25 rfl rfl ?_
        refine x_aload_n (pc := 26) B 0 dX10_leastTree_26 rfl rfl ?_
        refine x_get (T := TX10) (pc := 27) B 0 oi_81 rfl uw_10 (by decide) rfl tw_471 rfl dX10_leastTree_27 ?_
        refine x_iload_n (pc := 30) B 3 dX10_leastTree_30 rfl rfl ?_
        obtain ⟨q4, hq4, h⟩ := bnd h
        refine x_callV (rest := [.int y1.1, .ref (ad 84)]) (st' := [.int q4, .int y1.1, .ref (ad 84)]) (pc := 31) B oi_2 rfl (C_Land_cellOf_2 y1.2.1 y1.2.2 _ hq4) tw_583 tw_976 tw_581 tw_582 tw_100 hd_Land_cellOf_2 ⟨Nat.le_of_ble_eq_true rfl, Nat.le_of_ble_eq_true rfl⟩ rfl rfl (Nat.le_of_ble_eq_true rfl) rfl dX10_leastTree_31 ?_
        refine x_callSN (rest := []) (st' := []) (pc := 34) B (T_CF_put 84 6 y1.1 q4 ai_84 (by decide) y1.2.2) tw_588 tw_977 tw_587 tw_98 hd_CF_put ⟨Nat.le_of_ble_eq_true rfl, Nat.le_of_ble_eq_true rfl⟩ rfl rfl (Nat.le_of_ble_eq_true rfl) rfl dX10_leastTree_34 ?_
        refine jv_m (P := fun M5 => XX D ad cI cJ p l e (Rm 4 92) s m args below meth c Q 4 M5 37 [(0, .ref (ad 81)), (1, .int a1), (2, .int y1.1), (3, .int y1.2.1)] []) h (fun M5 h => ?_)
        refine x_iinc (k := 2) (v := y1.1 + 1) (lv' := [(2, .int (y1.1 + 1)), (0, .ref (ad 81)), (1, .int a1), (3, .int y1.2.1)]) (pc := 37) B dX10_leastTree_37 rfl rfl (by decide) rfl ?_
        refine x_iinc (k := 3) (v := y1.2.1 + 1) (lv' := [(3, .int (y1.2.1 + 1)), (2, .int (y1.1 + 1)), (0, .ref (ad 81)), (1, .int a1)]) (pc := 40) B dX10_leastTree_40 rfl rfl (by decide) rfl ?_
        refine x_goto (tgt := 4) (pc := 43) B dX10_leastTree_43 rfl ?_
        refine x_pick (lv' := [(0, .ref (ad 81)), (1, .int a1), (2, .int (y1.1 + 1)), (3, .int (y1.2.1 + 1))]) [2, 3, 1, 0] rfl ?_
        have z := hback (y1.1 + 1, y1.2.1 + 1, M5) (Option.some.inj h).symm
        exact z
      · have h := iff_ hc3 h
        refine x_goto (tgt := 40) (pc := 18) B dX10_leastTree_18 rfl ?_
        refine x_iinc (k := 3) (v := y1.2.1 + 1) (lv' := [(3, .int (y1.2.1 + 1)), (0, .ref (ad 81)), (1, .int a1), (2, .int y1.1)]) (pc := 40) B dX10_leastTree_40 rfl rfl (by decide) rfl ?_
        refine x_goto (tgt := 4) (pc := 43) B dX10_leastTree_43 rfl ?_
        refine x_pick (lv' := [(0, .ref (ad 81)), (1, .int a1), (2, .int y1.1), (3, .int (y1.2.1 + 1))]) [1, 2, 3, 0] rfl ?_
        have z := hback (y1.1, y1.2.1 + 1, y1.2.2) (Option.some.inj h).symm
        exact z
  · refine x_aload_n (pc := 46) B 0 dX10_leastTree_46 rfl rfl ?_
    obtain ⟨q7, hq7, h⟩ := bnd h
    refine x_callV (rest := []) (st' := []) (pc := 47) B oi_81 rfl (C_Ways_measure_81  q6.2 _ hq7) tw_981 tw_978 tw_980 tw_26 tw_109 hd_Ways_measure_81 ⟨Nat.le_of_ble_eq_true rfl, Nat.le_of_ble_eq_true rfl⟩ rfl rfl (Nat.le_of_ble_eq_true rfl) rfl dX10_leastTree_47 ?_
    refine x_iconst (v := 1) (pc := 50) B dX10_leastTree_50 rfl ?_
    refine x_istore_n (lv' := [(3, .int 1), (0, .ref (ad 81)), (2, .int q6.1)]) (pc := 51) B dX10_leastTree_51 rfl (by decide) rfl ?_
    refine x_pick (lv' := [(0, .ref (ad 81)), (2, .int q6.1), (3, .int 1)]) [1, 2, 0] rfl ?_
    obtain ⟨q12, hq12, h⟩ := bnd h
    refine x_loop (Head := fun (y8 : Int32 × Mem) => XX D ad cI cJ p l e (Rm 4 92) s m args below meth c Q 4 y8.2 52 [(0, .ref (ad 81)), (2, .int q6.1), (3, .int y8.1)] []) (Ex := fun (q12 : Mem) => XX D ad cI cJ p l e (Rm 4 92) s m args below meth c Q 4 q12 83 [(0, .ref (ad 81)), (2, .int q6.1)] []) (fun y8 r h hback hexit => ?_) FU _ q12 hq12 ?_
    · unfold b_Ways_leastTree_81_52 at h
      refine x_iload_n (pc := 52) B 2 dX10_leastTree_52 rfl rfl ?_
      refine x_iconst (v := 1) (pc := 53) B dX10_leastTree_53 rfl ?_
      refine x_iload_n (pc := 54) B 1 dX10_leastTree_54 rfl rfl ?_
      refine x_bipush (v := 6) (pc := 55) B dX10_leastTree_55 rfl ?_
      refine x_mmin (pc := 57) B tw_989 tw_753 tw_112 tw_754 (by decide) (Nat.le_of_ble_eq_true rfl) dX10_leastTree_57 ?_
      refine x_ishl (pc := 60) B dX10_leastTree_60 ?_
      refine x_icmp_ge (tgt := 83) (pc := 61) B dX10_leastTree_61 rfl (fun hc9 => ?_) (fun hc9 => ?_)
      · have h := iff_ hc9 h
        refine x_pick (lv' := [(0, .ref (ad 81)), (2, .int q6.1)]) [0, 1] rfl ?_
        have z := hexit y8.2 (Option.some.inj h).symm
        exact z
      · have h := ift hc9 h
        refine x_aload_n (pc := 64) B 0 dX10_leastTree_64 rfl rfl ?_
        refine x_iload_n (pc := 65) B 2 dX10_leastTree_65 rfl rfl ?_
        obtain ⟨q10, hq10, h⟩ := bnd h
        refine x_callV (rest := []) (st' := []) (pc := 66) B oi_81 rfl (C_Ways_join_81 y8.1 y8.2 _ hq10) tw_993 tw_990 tw_992 tw_27 tw_109 hd_Ways_join_81 ⟨Nat.le_of_ble_eq_true rfl, Nat.le_of_ble_eq_true rfl⟩ rfl rfl (Nat.le_of_ble_eq_true rfl) rfl dX10_leastTree_66 ?_
        refine x_aload_n (pc := 69) B 0 dX10_leastTree_69 rfl rfl ?_
        refine x_iload_n (pc := 70) B 2 dX10_leastTree_70 rfl rfl ?_
        refine x_bipush (v := 48) (pc := 71) B dX10_leastTree_71 rfl ?_
        refine x_imul (pc := 73) B dX10_leastTree_73 ?_
        obtain ⟨q11, hq11, h⟩ := bnd h
        refine x_callV (rest := []) (st' := []) (pc := 74) B oi_81 rfl (C_Ways_spread_81 (y8.1 * 48) q10 _ hq11) tw_1002 tw_999 tw_1001 tw_29 tw_109 hd_Ways_spread_81 ⟨Nat.le_of_ble_eq_true rfl, Nat.le_of_ble_eq_true rfl⟩ rfl rfl (Nat.le_of_ble_eq_true rfl) rfl dX10_leastTree_74 ?_
        refine x_iinc (k := 2) (v := y8.1 + 1) (lv' := [(3, .int (y8.1 + 1)), (0, .ref (ad 81)), (2, .int q6.1)]) (pc := 77) B dX10_leastTree_77 rfl rfl (by decide) rfl ?_
        refine x_goto (tgt := 52) (pc := 80) B dX10_leastTree_80 rfl ?_
        refine x_pick (lv' := [(0, .ref (ad 81)), (2, .int q6.1), (3, .int (y8.1 + 1))]) [1, 2, 0] rfl ?_
        have z := hback (y8.1 + 1, q11) (Option.some.inj h).symm
        exact z
    · refine x_iload_n (pc := 83) B 1 dX10_leastTree_83 rfl rfl ?_
      refine jv_k h (fun (u15 : Int32) => XX D ad cI cJ p l e (Rm 4 92) s m args below meth c Q 4 q12 114 [] [.int u15]) (fun u15 h => ?_) (fun JJ => ?_)
      · refine x_istore_n (lv' := [(3, .int u15)]) (pc := 114) B dX10_leastTree_114 rfl (by decide) rfl ?_
        refine x_iload_n (pc := 115) B 0 dX10_leastTree_115 rfl rfl ?_
        refine x_ldc (v := 1000000) (pc := 116) B tw_988 dX10_leastTree_116 ?_
        refine x_icmp_ge (tgt := 125) (pc := 118) B dX10_leastTree_118 rfl (fun hc16 => ?_) (fun hc16 => ?_)
        · have h := iff_ hc16 h
          refine x_bipush (v := (-5)) (pc := 125) B dX10_leastTree_125 rfl ?_
          obtain rfl := Option.some.inj h
          exact x_iret (pc := 127) B hQ dX10_leastTree_127
        · have h := ift hc16 h
          refine x_iload_n (pc := 121) B 0 dX10_leastTree_121 rfl rfl ?_
          refine x_goto (tgt := 127) (pc := 122) B dX10_leastTree_122 rfl ?_
          obtain rfl := Option.some.inj h
          exact x_iret (pc := 127) B hQ dX10_leastTree_127
      · refine x_if_ne (tgt := 91) (pc := 84) B dX10_leastTree_84 rfl (fun hc13 => ?_) (fun hc13 => ?_)
        · refine x_aload_n (pc := 91) B 0 dX10_leastTree_91 rfl rfl ?_
          refine x_get (T := TX10) (pc := 92) B 2 oi_81 rfl uw_10 (by decide) rfl tw_473 rfl dX10_leastTree_92 ?_
          refine x_iconst (v := 1) (pc := 95) B dX10_leastTree_95 rfl ?_
          refine x_iload_n (pc := 96) B 1 dX10_leastTree_96 rfl rfl ?_
          refine x_ishl (pc := 97) B dX10_leastTree_97 ?_
          refine x_iconst (v := 1) (pc := 98) B dX10_leastTree_98 rfl ?_
          refine x_isub (pc := 99) B dX10_leastTree_99 ?_
          refine x_bipush (v := 48) (pc := 100) B dX10_leastTree_100 rfl ?_
          refine x_imul (pc := 102) B dX10_leastTree_102 ?_
          refine x_aload_n (pc := 103) B 0 dX10_leastTree_103 rfl rfl ?_
          refine x_get (T := TX10) (pc := 104) B 0 oi_81 rfl uw_10 (by decide) rfl tw_471 rfl dX10_leastTree_104 ?_
          refine x_get (T := TX4) (pc := 107) B 5 oi_2 rfl uw_4 (by decide) rfl tw_153 rfl dX10_leastTree_107 ?_
          refine x_iadd (pc := 110) B dX10_leastTree_110 ?_
          refine x_callSN (rest := []) (st' := [.int (atv (q12.1 83) 3072 ((((1 <<< (q6.1 &&& 31)) - 1) * 48) + (q12.1 2 5)))]) (pc := 111) B (T_CF_at 83 3072 ((((1 <<< (q6.1 &&& 31)) - 1) * 48) + (q12.1 2 5)) ai_83 (by decide) q12) tw_575 tw_998 tw_574 tw_98 hd_CF_at ⟨Nat.le_of_ble_eq_true rfl, Nat.le_of_ble_eq_true rfl⟩ rfl rfl (Nat.le_of_ble_eq_true rfl) rfl dX10_leastTree_111 ?_
          refine x_pick (lv' := []) [] rfl ?_
          have z := JJ (atv (q12.1 83) 3072 ((((1 <<< (q6.1 &&& 31)) - 1) * 48) + (q12.1 2 5))) ((zif_f hc13).trans rfl)
          exact z
        · refine x_iconst (v := 0) (pc := 87) B dX10_leastTree_87 rfl ?_
          refine x_goto (tgt := 114) (pc := 88) B dX10_leastTree_88 rfl ?_
          refine x_pick (lv' := []) [] rfl ?_
          have z := JJ 0 ((zif_t hc13).trans rfl)
          exact z
-- CurrentFarms.best(I)I [0]
abbrev y_CF_best_0 : MethodName := ⟨"CurrentFarms", "best", "(I)I"⟩
abbrev cX11_best : ByteArray := prog_1_method_18_code
theorem dX11_best_0 : decode cX11_best 0 = .ok (.iconst 1, 1) := by decide +kernel
theorem dX11_best_1 : decode cX11_best 1 = .ok (.aload_n 0, 1) := by decide +kernel
theorem dX11_best_2 : decode cX11_best 2 = .ok (.getfield 12, 3) := by decide +kernel
theorem dX11_best_5 : decode cX11_best 5 = .ok (.getfield 43, 3) := by decide +kernel
theorem dX11_best_8 : decode cX11_best 8 = .ok (.getfield 117, 3) := by decide +kernel
theorem dX11_best_11 : decode cX11_best 11 = .ok (.ishl, 1) := by decide +kernel
theorem dX11_best_12 : decode cX11_best 12 = .ok (.iconst 1, 1) := by decide +kernel
theorem dX11_best_13 : decode cX11_best 13 = .ok (.isub, 1) := by decide +kernel
theorem dX11_best_14 : decode cX11_best 14 = .ok (.istore_n 2, 1) := by decide +kernel
theorem dX11_best_15 : decode cX11_best 15 = .ok (.iload_n 1, 1) := by decide +kernel
theorem dX11_best_16 : decode cX11_best 16 = .ok (.iload_n 2, 1) := by decide +kernel
theorem dX11_best_17 : decode cX11_best 17 = .ok (.iconst (-1), 1) := by decide +kernel
theorem dX11_best_18 : decode cX11_best 18 = .ok (.ixor, 1) := by decide +kernel
theorem dX11_best_19 : decode cX11_best 19 = .ok (.iand, 1) := by decide +kernel
theorem dX11_best_20 : decode cX11_best 20 = .ok (.ifCond .ne 12, 3) := by decide +kernel
theorem dX11_best_23 : decode cX11_best 23 = .ok (.iload_n 1, 1) := by decide +kernel
theorem dX11_best_24 : decode cX11_best 24 = .ok (.invokestatic 166, 3) := by decide +kernel
theorem dX11_best_27 : decode cX11_best 27 = .ok (.bipush 6, 2) := by decide +kernel
theorem dX11_best_29 : decode cX11_best 29 = .ok (.if_icmp .le 6, 3) := by decide +kernel
theorem dX11_best_32 : decode cX11_best 32 = .ok (.bipush (-2), 2) := by decide +kernel
theorem dX11_best_34 : decode cX11_best 34 = .ok (.ireturn, 1) := by decide +kernel
theorem dX11_best_35 : decode cX11_best 35 = .ok (.aload_n 0, 1) := by decide +kernel
theorem dX11_best_36 : decode cX11_best 36 = .ok (.getfield 50, 3) := by decide +kernel
theorem dX11_best_39 : decode cX11_best 39 = .ok (.iload_n 1, 1) := by decide +kernel
theorem dX11_best_40 : decode cX11_best 40 = .ok (.invokevirtual 212, 3) := by decide +kernel
theorem dX11_best_43 : decode cX11_best 43 = .ok (.ireturn, 1) := by decide +kernel
theorem hd_CF_best_0 : y_CF_best_0.cls ≠ "java/lang/invoke/MethodHandle" ∧ y_CF_best_0.cls ≠ "java/lang/invoke/VarHandle" ∧ (parseMethodDescriptor y_CF_best_0.desc).map (fun d => d.parameters.length) = some 1 := by decide +kernel
def f_CF_best_0 (a1 : Int32) (M0 : Mem) : Option (Int32 × Mem) :=
  if decide ((a1 &&& (((1 <<< ((M0.1 2 4) &&& 31)) - 1) ^^^ (-1))) = 0) then (if decide ((bcnt a1) ≤ 6) then ((f_Ways_leastTree_81 a1 M0).bind fun q3 => some (q3.1, q3.2)) else (some ((-2), M0))) else (some ((-2), M0))
set_option maxHeartbeats 4000000 in
set_option maxRecDepth 20000 in
theorem C_CF_best_0 {D : va_G} {ad adK adV : Nat → Nat} {cI cJ : ClassId} {l : Launch} (a1 : Int32) (M0 : Mem) (o : Int32 × Mem) (h : f_CF_best_0 a1 M0 = some o) : Ct D ad adK adV cI cJ l y_CF_best_0 cX11_best 3 (some .int) 5 115 [.ref (ad 0), .int a1] M0 (some (.int o.1)) o.2 := by
  refine x_start (lv := [(0, .ref (ad 0)), (1, .int a1)]) (own := "CurrentFarms") rfl (by decide) (Nat.le_of_ble_eq_true rfl) rfl ?_
  intro p e s m args below meth c Q hQ B
  unfold f_CF_best_0 at h
  refine x_iconst (v := 1) (pc := 0) B dX11_best_0 rfl ?_
  refine x_aload_n (pc := 1) B 0 dX11_best_1 rfl rfl ?_
  refine x_get (T := TX11) (pc := 2) B 0 oi_0 rfl uw_11 (by decide) rfl tw_525 rfl dX11_best_2 ?_
  refine x_get (T := TX8) (pc := 5) B 0 oi_1 rfl uw_8 (by decide) rfl tw_359 rfl dX11_best_5 ?_
  refine x_get (T := TX4) (pc := 8) B 4 oi_2 rfl uw_4 (by decide) rfl tw_151 rfl dX11_best_8 ?_
  refine x_ishl (pc := 11) B dX11_best_11 ?_
  refine x_iconst (v := 1) (pc := 12) B dX11_best_12 rfl ?_
  refine x_isub (pc := 13) B dX11_best_13 ?_
  refine x_istore_n (lv' := [(2, .int ((1 <<< ((M0.1 2 4) &&& 31)) - 1)), (0, .ref (ad 0)), (1, .int a1)]) (pc := 14) B dX11_best_14 rfl (by decide) rfl ?_
  refine x_iload_n (pc := 15) B 2 dX11_best_15 rfl rfl ?_
  refine x_iload_n (pc := 16) B 0 dX11_best_16 rfl rfl ?_
  refine x_iconst (v := (-1)) (pc := 17) B dX11_best_17 rfl ?_
  refine x_ixor (pc := 18) B dX11_best_18 ?_
  refine x_iand (pc := 19) B dX11_best_19 ?_
  refine x_if_ne (tgt := 32) (pc := 20) B dX11_best_20 rfl (fun hc1 => ?_) (fun hc1 => ?_)
  · have h := iff_ hc1 h
    refine x_bipush (v := (-2)) (pc := 32) B dX11_best_32 rfl ?_
    obtain rfl := Option.some.inj h
    exact x_iret (pc := 34) B hQ dX11_best_34
  · have h := ift hc1 h
    refine x_iload_n (pc := 23) B 2 dX11_best_23 rfl rfl ?_
    refine x_callS (rest := []) (st' := [.int (bcnt a1)]) (pc := 24) B (T_bitCount a1 M0) tw_689 tw_792 tw_688 tw_113 hd_Integer_bitCount_0f7a4 ⟨Nat.le_of_ble_eq_true rfl, Nat.le_of_ble_eq_true rfl⟩ rfl rfl (Nat.le_of_ble_eq_true rfl) rfl dX11_best_24 ?_
    refine x_bipush (v := 6) (pc := 27) B dX11_best_27 rfl ?_
    refine x_icmp_le (tgt := 35) (pc := 29) B dX11_best_29 rfl (fun hc2 => ?_) (fun hc2 => ?_)
    · have h := ift hc2 h
      refine x_aload_n (pc := 35) B 1 dX11_best_35 rfl rfl ?_
      refine x_get (T := TX11) (pc := 36) B 5 oi_0 rfl uw_11 (by decide) rfl tw_530 rfl dX11_best_36 ?_
      refine x_iload_n (pc := 39) B 2 dX11_best_39 rfl rfl ?_
      obtain ⟨q3, hq3, h⟩ := bnd h
      refine x_callV (rest := []) (st' := [.int q3.1]) (pc := 40) B oi_81 rfl (C_Ways_leastTree_81 a1 M0 _ hq3) tw_974 tw_971 tw_972 tw_973 tw_109 hd_Ways_leastTree_81 ⟨Nat.le_of_ble_eq_true rfl, Nat.le_of_ble_eq_true rfl⟩ rfl rfl (Nat.le_of_ble_eq_true rfl) rfl dX11_best_40 ?_
      obtain rfl := Option.some.inj h
      exact x_iret (pc := 43) B hQ dX11_best_43
    · have h := iff_ hc2 h
      refine x_bipush (v := (-2)) (pc := 32) B dX11_best_32 rfl ?_
      obtain rfl := Option.some.inj h
      exact x_iret (pc := 34) B hQ dX11_best_34
-- CurrentFarms$Line.costOn(LCurrentFarms$Land;)I [24, 2]
abbrev y_Line_costOn_24_2 : MethodName := ⟨"CurrentFarms$Line", "costOn", "(LCurrentFarms$Land;)I"⟩
abbrev cX5_costOn : ByteArray := prog_7_method_7_code
theorem dX5_costOn_0 : decode cX5_costOn 0 = .ok (.iconst 0, 1) := by decide +kernel
theorem dX5_costOn_1 : decode cX5_costOn 1 = .ok (.istore_n 2, 1) := by decide +kernel
theorem dX5_costOn_2 : decode cX5_costOn 2 = .ok (.iconst 0, 1) := by decide +kernel
theorem dX5_costOn_3 : decode cX5_costOn 3 = .ok (.istore_n 3, 1) := by decide +kernel
theorem dX5_costOn_4 : decode cX5_costOn 4 = .ok (.iload_n 3, 1) := by decide +kernel
theorem dX5_costOn_5 : decode cX5_costOn 5 = .ok (.aload_n 0, 1) := by decide +kernel
theorem dX5_costOn_6 : decode cX5_costOn 6 = .ok (.getfield 41, 3) := by decide +kernel
theorem dX5_costOn_9 : decode cX5_costOn 9 = .ok (.if_icmp .ge 34, 3) := by decide +kernel
theorem dX5_costOn_12 : decode cX5_costOn 12 = .ok (.aload_n 0, 1) := by decide +kernel
theorem dX5_costOn_13 : decode cX5_costOn 13 = .ok (.getfield 15, 3) := by decide +kernel
theorem dX5_costOn_16 : decode cX5_costOn 16 = .ok (.iload_n 3, 1) := by decide +kernel
theorem dX5_costOn_17 : decode cX5_costOn 17 = .ok (.invokestatic 52, 3) := by decide +kernel
theorem dX5_costOn_20 : decode cX5_costOn 20 = .ok (.istore 4, 2) := by decide +kernel
theorem dX5_costOn_22 : decode cX5_costOn 22 = .ok (.iload_n 2, 1) := by decide +kernel
theorem dX5_costOn_23 : decode cX5_costOn 23 = .ok (.aload_n 1, 1) := by decide +kernel
theorem dX5_costOn_24 : decode cX5_costOn 24 = .ok (.aload_n 0, 1) := by decide +kernel
theorem dX5_costOn_25 : decode cX5_costOn 25 = .ok (.iload 4, 2) := by decide +kernel
theorem dX5_costOn_27 : decode cX5_costOn 27 = .ok (.invokevirtual 56, 3) := by decide +kernel
theorem dX5_costOn_30 : decode cX5_costOn 30 = .ok (.iload 4, 2) := by decide +kernel
theorem dX5_costOn_32 : decode cX5_costOn 32 = .ok (.invokevirtual 60, 3) := by decide +kernel
theorem dX5_costOn_35 : decode cX5_costOn 35 = .ok (.iadd, 1) := by decide +kernel
theorem dX5_costOn_36 : decode cX5_costOn 36 = .ok (.istore_n 2, 1) := by decide +kernel
theorem dX5_costOn_37 : decode cX5_costOn 37 = .ok (.iinc 3 1, 3) := by decide +kernel
theorem dX5_costOn_40 : decode cX5_costOn 40 = .ok (.goto (-36), 3) := by decide +kernel
theorem dX5_costOn_43 : decode cX5_costOn 43 = .ok (.iload_n 2, 1) := by decide +kernel
theorem dX5_costOn_44 : decode cX5_costOn 44 = .ok (.ireturn, 1) := by decide +kernel
theorem hd_Line_costOn_24_2 : y_Line_costOn_24_2.cls ≠ "java/lang/invoke/MethodHandle" ∧ y_Line_costOn_24_2.cls ≠ "java/lang/invoke/VarHandle" ∧ (parseMethodDescriptor y_Line_costOn_24_2.desc).map (fun d => d.parameters.length) = some 1 := by decide +kernel
def b_Line_costOn_24_2_4 (M0 : Mem) (y1 : Int32 × Int32) : Option ((Int32 × Int32) ⊕ (Int32)) :=
  if decide (y1.2 < (M0.1 24 2)) then ((f_Line_ahead_24 (atv (M0.1 26) 48 y1.2) M0).bind fun q3 => (f_Land_stretch_2 q3 (atv (M0.1 26) 48 y1.2) M0).bind fun q4 => some (.inl (y1.1 + q4, y1.2 + 1))) else (some (.inr y1.1))
def f_Line_costOn_24_2  (M0 : Mem) : Option (Int32) :=
  (itr (b_Line_costOn_24_2_4 M0) FU (0, 0)).bind fun q5 => some q5
set_option maxHeartbeats 4000000 in
set_option maxRecDepth 20000 in
theorem C_Line_costOn_24_2 {D : va_G} {ad adK adV : Nat → Nat} {cI cJ : ClassId} {l : Launch}  (M0 : Mem) (o : Int32) (h : f_Line_costOn_24_2  M0 = some o) : Ct D ad adK adV cI cJ l y_Line_costOn_24_2 cX5_costOn 5 (some .int) 3 63 [.ref (ad 24), .ref (ad 2)] M0 (some (.int o)) M0 := by
  refine x_start (lv := [(0, .ref (ad 24)), (1, .ref (ad 2))]) (own := "CurrentFarms$Line") rfl (by decide) (Nat.le_of_ble_eq_true rfl) rfl ?_
  intro p e s m args below meth c Q hQ B
  unfold f_Line_costOn_24_2 at h
  refine x_iconst (v := 0) (pc := 0) B dX5_costOn_0 rfl ?_
  refine x_istore_n (lv' := [(2, .int 0), (0, .ref (ad 24)), (1, .ref (ad 2))]) (pc := 1) B dX5_costOn_1 rfl (by decide) rfl ?_
  refine x_iconst (v := 0) (pc := 2) B dX5_costOn_2 rfl ?_
  refine x_istore_n (lv' := [(3, .int 0), (2, .int 0), (0, .ref (ad 24)), (1, .ref (ad 2))]) (pc := 3) B dX5_costOn_3 rfl (by decide) rfl ?_
  refine x_pick (lv' := [(0, .ref (ad 24)), (1, .ref (ad 2)), (2, .int 0), (3, .int 0)]) [2, 3, 1, 0] rfl ?_
  obtain ⟨q5, hq5, h⟩ := bnd h
  refine x_loop (Head := fun (y1 : Int32 × Int32) => XX D ad cI cJ p l e (Rm 3 63) s m args below meth c Q 5 M0 4 [(0, .ref (ad 24)), (1, .ref (ad 2)), (2, .int y1.1), (3, .int y1.2)] []) (Ex := fun (q5 : Int32) => XX D ad cI cJ p l e (Rm 3 63) s m args below meth c Q 5 M0 43 [(2, .int q5)] []) (fun y1 r h hback hexit => ?_) FU _ q5 hq5 ?_
  · unfold b_Line_costOn_24_2_4 at h
    refine x_iload_n (pc := 4) B 3 dX5_costOn_4 rfl rfl ?_
    refine x_aload_n (pc := 5) B 0 dX5_costOn_5 rfl rfl ?_
    refine x_get (T := TX5) (pc := 6) B 2 oi_24 rfl uw_5 (by decide) rfl tw_266 rfl dX5_costOn_6 ?_
    refine x_icmp_ge (tgt := 43) (pc := 9) B dX5_costOn_9 rfl (fun hc2 => ?_) (fun hc2 => ?_)
    · have h := iff_ hc2 h
      refine x_pick (lv' := [(2, .int y1.1)]) [2] rfl ?_
      have z := hexit y1.1 (Option.some.inj h).symm
      exact z
    · have h := ift hc2 h
      refine x_aload_n (pc := 12) B 0 dX5_costOn_12 rfl rfl ?_
      refine x_get (T := TX5) (pc := 13) B 1 oi_24 rfl uw_5 (by decide) rfl tw_264 rfl dX5_costOn_13 ?_
      refine x_iload_n (pc := 16) B 3 dX5_costOn_16 rfl rfl ?_
      refine x_callSN (rest := []) (st' := [.int (atv (M0.1 26) 48 y1.2)]) (pc := 17) B (T_CF_at 26 48 y1.2 ai_26 (by decide) M0) tw_575 tw_573 tw_574 tw_98 hd_CF_at ⟨Nat.le_of_ble_eq_true rfl, Nat.le_of_ble_eq_true rfl⟩ rfl rfl (Nat.le_of_ble_eq_true rfl) rfl dX5_costOn_17 ?_
      refine x_istore (lv' := [(4, .int (atv (M0.1 26) 48 y1.2)), (0, .ref (ad 24)), (1, .ref (ad 2)), (2, .int y1.1), (3, .int y1.2)]) (pc := 20) B dX5_costOn_20 (by decide) rfl ?_
      refine x_iload_n (pc := 22) B 3 dX5_costOn_22 rfl rfl ?_
      refine x_aload_n (pc := 23) B 2 dX5_costOn_23 rfl rfl ?_
      refine x_aload_n (pc := 24) B 1 dX5_costOn_24 rfl rfl ?_
      refine x_iload (pc := 25) B 0 dX5_costOn_25 rfl ?_
      obtain ⟨q3, hq3, h⟩ := bnd h
      refine x_callV (rest := [.ref (ad 2), .int y1.1]) (st' := [.int q3, .ref (ad 2), .int y1.1]) (pc := 27) B oi_24 rfl (C_Line_ahead_24 (atv (M0.1 26) 48 y1.2) M0 _ hq3) tw_571 tw_720 tw_569 tw_570 tw_103 hd_Line_ahead_24 ⟨Nat.le_of_ble_eq_true rfl, Nat.le_of_ble_eq_true rfl⟩ rfl rfl (Nat.le_of_ble_eq_true rfl) rfl dX5_costOn_27 ?_
      refine x_iload (pc := 30) B 0 dX5_costOn_30 rfl ?_
      obtain ⟨q4, hq4, h⟩ := bnd h
      refine x_callV (rest := [.int y1.1]) (st' := [.int q4, .int y1.1]) (pc := 32) B oi_2 rfl (C_Land_stretch_2 q3 (atv (M0.1 26) 48 y1.2) M0 _ hq4) tw_602 tw_1011 tw_600 tw_601 tw_100 hd_Land_stretch_2 ⟨Nat.le_of_ble_eq_true rfl, Nat.le_of_ble_eq_true rfl⟩ rfl rfl (Nat.le_of_ble_eq_true rfl) rfl dX5_costOn_32 ?_
      refine x_iadd (pc := 35) B dX5_costOn_35 ?_
      refine x_istore_n (lv' := [(2, .int (y1.1 + q4)), (4, .int (atv (M0.1 26) 48 y1.2)), (0, .ref (ad 24)), (1, .ref (ad 2)), (3, .int y1.2)]) (pc := 36) B dX5_costOn_36 rfl (by decide) rfl ?_
      refine x_iinc (k := 4) (v := y1.2 + 1) (lv' := [(3, .int (y1.2 + 1)), (2, .int (y1.1 + q4)), (4, .int (atv (M0.1 26) 48 y1.2)), (0, .ref (ad 24)), (1, .ref (ad 2))]) (pc := 37) B dX5_costOn_37 rfl rfl (by decide) rfl ?_
      refine x_goto (tgt := 4) (pc := 40) B dX5_costOn_40 rfl ?_
      refine x_pick (lv' := [(0, .ref (ad 24)), (1, .ref (ad 2)), (2, .int (y1.1 + q4)), (3, .int (y1.2 + 1))]) [3, 4, 1, 0] rfl ?_
      have z := hback (y1.1 + q4, y1.2 + 1) (Option.some.inj h).symm
      exact z
  · refine x_iload_n (pc := 43) B 0 dX5_costOn_43 rfl rfl ?_
    obtain rfl := Option.some.inj h
    exact x_iret (pc := 44) B hQ dX5_costOn_44
-- CurrentFarms$Line.cells(I)J [24]
abbrev y_Line_cells_24 : MethodName := ⟨"CurrentFarms$Line", "cells", "(I)J"⟩
abbrev cX5_cells : ByteArray := prog_7_method_6_code
theorem dX5_cells_0 : decode cX5_cells 0 = .ok (.lconst 1, 1) := by decide +kernel
theorem dX5_cells_1 : decode cX5_cells 1 = .ok (.iload_n 1, 1) := by decide +kernel
theorem dX5_cells_2 : decode cX5_cells 2 = .ok (.lshl, 1) := by decide +kernel
theorem dX5_cells_3 : decode cX5_cells 3 = .ok (.lstore_n 2, 1) := by decide +kernel
theorem dX5_cells_4 : decode cX5_cells 4 = .ok (.iconst 0, 1) := by decide +kernel
theorem dX5_cells_5 : decode cX5_cells 5 = .ok (.istore 4, 2) := by decide +kernel
theorem dX5_cells_7 : decode cX5_cells 7 = .ok (.iload 4, 2) := by decide +kernel
theorem dX5_cells_9 : decode cX5_cells 9 = .ok (.aload_n 0, 1) := by decide +kernel
theorem dX5_cells_10 : decode cX5_cells 10 = .ok (.getfield 41, 3) := by decide +kernel
theorem dX5_cells_13 : decode cX5_cells 13 = .ok (.if_icmp .ge 23, 3) := by decide +kernel
theorem dX5_cells_16 : decode cX5_cells 16 = .ok (.lload_n 2, 1) := by decide +kernel
theorem dX5_cells_17 : decode cX5_cells 17 = .ok (.lconst 1, 1) := by decide +kernel
theorem dX5_cells_18 : decode cX5_cells 18 = .ok (.aload_n 0, 1) := by decide +kernel
theorem dX5_cells_19 : decode cX5_cells 19 = .ok (.getfield 15, 3) := by decide +kernel
theorem dX5_cells_22 : decode cX5_cells 22 = .ok (.iload 4, 2) := by decide +kernel
theorem dX5_cells_24 : decode cX5_cells 24 = .ok (.invokestatic 52, 3) := by decide +kernel
theorem dX5_cells_27 : decode cX5_cells 27 = .ok (.lshl, 1) := by decide +kernel
theorem dX5_cells_28 : decode cX5_cells 28 = .ok (.lor, 1) := by decide +kernel
theorem dX5_cells_29 : decode cX5_cells 29 = .ok (.lstore_n 2, 1) := by decide +kernel
theorem dX5_cells_30 : decode cX5_cells 30 = .ok (.iinc 4 1, 3) := by decide +kernel
theorem dX5_cells_33 : decode cX5_cells 33 = .ok (.goto (-26), 3) := by decide +kernel
theorem dX5_cells_36 : decode cX5_cells 36 = .ok (.lload_n 2, 1) := by decide +kernel
theorem dX5_cells_37 : decode cX5_cells 37 = .ok (.lreturn, 1) := by decide +kernel
theorem hd_Line_cells_24 : y_Line_cells_24.cls ≠ "java/lang/invoke/MethodHandle" ∧ y_Line_cells_24.cls ≠ "java/lang/invoke/VarHandle" ∧ (parseMethodDescriptor y_Line_cells_24.desc).map (fun d => d.parameters.length) = some 1 := by decide +kernel
def b_Line_cells_24_7 (M0 : Mem) (y1 : Int64 × Int32) : Option ((Int64 × Int32) ⊕ (Int64)) :=
  if decide (y1.2 < (M0.1 24 2)) then (some (.inl (y1.1 ||| (1 <<< ((atv (M0.1 26) 48 y1.2).toInt64 &&& 63)), y1.2 + 1))) else (some (.inr y1.1))
def f_Line_cells_24 (a1 : Int32) (M0 : Mem) : Option (Int64) :=
  (itr (b_Line_cells_24_7 M0) FU (1 <<< (a1.toInt64 &&& 63), 0)).bind fun q3 => some q3
set_option maxHeartbeats 4000000 in
set_option maxRecDepth 20000 in
theorem C_Line_cells_24 {D : va_G} {ad adK adV : Nat → Nat} {cI cJ : ClassId} {l : Launch} (a1 : Int32) (M0 : Mem) (o : Int64) (h : f_Line_cells_24 a1 M0 = some o) : Ct D ad adK adV cI cJ l y_Line_cells_24 cX5_cells 5 (some .long) 1 21 [.ref (ad 24), .int a1] M0 (some (.long o)) M0 := by
  refine x_start (lv := [(0, .ref (ad 24)), (1, .int a1)]) (own := "CurrentFarms$Line") rfl (by decide) (Nat.le_of_ble_eq_true rfl) rfl ?_
  intro p e s m args below meth c Q hQ B
  unfold f_Line_cells_24 at h
  refine x_lconst (v := 1) (pc := 0) B dX5_cells_0 rfl ?_
  refine x_iload_n (pc := 1) B 1 dX5_cells_1 rfl rfl ?_
  refine x_lshl (pc := 2) B dX5_cells_2 ?_
  refine x_lstore_n (lv' := [(2, .long (1 <<< (a1.toInt64 &&& 63))), (0, .ref (ad 24)), (1, .int a1)]) (pc := 3) B dX5_cells_3 rfl (by decide) rfl ?_
  refine x_iconst (v := 0) (pc := 4) B dX5_cells_4 rfl ?_
  refine x_istore (lv' := [(4, .int 0), (2, .long (1 <<< (a1.toInt64 &&& 63))), (0, .ref (ad 24)), (1, .int a1)]) (pc := 5) B dX5_cells_5 (by decide) rfl ?_
  refine x_pick (lv' := [(0, .ref (ad 24)), (2, .long (1 <<< (a1.toInt64 &&& 63))), (4, .int 0)]) [2, 1, 0] rfl ?_
  obtain ⟨q3, hq3, h⟩ := bnd h
  refine x_loop (Head := fun (y1 : Int64 × Int32) => XX D ad cI cJ p l e (Rm 1 21) s m args below meth c Q 5 M0 7 [(0, .ref (ad 24)), (2, .long y1.1), (4, .int y1.2)] []) (Ex := fun (q3 : Int64) => XX D ad cI cJ p l e (Rm 1 21) s m args below meth c Q 5 M0 36 [(2, .long q3)] []) (fun y1 r h hback hexit => ?_) FU _ q3 hq3 ?_
  · unfold b_Line_cells_24_7 at h
    refine x_iload (pc := 7) B 2 dX5_cells_7 rfl ?_
    refine x_aload_n (pc := 9) B 0 dX5_cells_9 rfl rfl ?_
    refine x_get (T := TX5) (pc := 10) B 2 oi_24 rfl uw_5 (by decide) rfl tw_266 rfl dX5_cells_10 ?_
    refine x_icmp_ge (tgt := 36) (pc := 13) B dX5_cells_13 rfl (fun hc2 => ?_) (fun hc2 => ?_)
    · have h := iff_ hc2 h
      refine x_pick (lv' := [(2, .long y1.1)]) [1] rfl ?_
      have z := hexit y1.1 (Option.some.inj h).symm
      exact z
    · have h := ift hc2 h
      refine x_lload_n (pc := 16) B 1 dX5_cells_16 rfl rfl ?_
      refine x_lconst (v := 1) (pc := 17) B dX5_cells_17 rfl ?_
      refine x_aload_n (pc := 18) B 0 dX5_cells_18 rfl rfl ?_
      refine x_get (T := TX5) (pc := 19) B 1 oi_24 rfl uw_5 (by decide) rfl tw_264 rfl dX5_cells_19 ?_
      refine x_iload (pc := 22) B 2 dX5_cells_22 rfl ?_
      refine x_callSN (rest := [.long 1, .long y1.1]) (st' := [.int (atv (M0.1 26) 48 y1.2), .long 1, .long y1.1]) (pc := 24) B (T_CF_at 26 48 y1.2 ai_26 (by decide) M0) tw_575 tw_573 tw_574 tw_98 hd_CF_at ⟨Nat.le_of_ble_eq_true rfl, Nat.le_of_ble_eq_true rfl⟩ rfl rfl (Nat.le_of_ble_eq_true rfl) rfl dX5_cells_24 ?_
      refine x_lshl (pc := 27) B dX5_cells_27 ?_
      refine x_lor (pc := 28) B dX5_cells_28 ?_
      refine x_lstore_n (lv' := [(2, .long (y1.1 ||| (1 <<< ((atv (M0.1 26) 48 y1.2).toInt64 &&& 63)))), (0, .ref (ad 24)), (4, .int y1.2)]) (pc := 29) B dX5_cells_29 rfl (by decide) rfl ?_
      refine x_iinc (k := 2) (v := y1.2 + 1) (lv' := [(4, .int (y1.2 + 1)), (2, .long (y1.1 ||| (1 <<< ((atv (M0.1 26) 48 y1.2).toInt64 &&& 63)))), (0, .ref (ad 24))]) (pc := 30) B dX5_cells_30 rfl rfl (by decide) rfl ?_
      refine x_goto (tgt := 7) (pc := 33) B dX5_cells_33 rfl ?_
      refine x_pick (lv' := [(0, .ref (ad 24)), (2, .long (y1.1 ||| (1 <<< ((atv (M0.1 26) 48 y1.2).toInt64 &&& 63)))), (4, .int (y1.2 + 1))]) [2, 1, 0] rfl ?_
      have z := hback (y1.1 ||| (1 <<< ((atv (M0.1 26) 48 y1.2).toInt64 &&& 63)), y1.2 + 1) (Option.some.inj h).symm
      exact z
  · refine x_lload_n (pc := 36) B 0 dX5_cells_36 rfl rfl ?_
    obtain rfl := Option.some.inj h
    exact x_lret (pc := 37) B hQ dX5_cells_37
-- CurrentFarms.farmsOnLine()I [0]
abbrev y_CF_farmsOnLine_0 : MethodName := ⟨"CurrentFarms", "farmsOnLine", "()I"⟩
abbrev cX11_farmsOnLine : ByteArray := prog_1_method_48_code
theorem dX11_farmsOnLine_0 : decode cX11_farmsOnLine 0 = .ok (.aload_n 0, 1) := by decide +kernel
theorem dX11_farmsOnLine_1 : decode cX11_farmsOnLine 1 = .ok (.getfield 12, 3) := by decide +kernel
theorem dX11_farmsOnLine_4 : decode cX11_farmsOnLine 4 = .ok (.getfield 43, 3) := by decide +kernel
theorem dX11_farmsOnLine_7 : decode cX11_farmsOnLine 7 = .ok (.aload_n 0, 1) := by decide +kernel
theorem dX11_farmsOnLine_8 : decode cX11_farmsOnLine 8 = .ok (.getfield 12, 3) := by decide +kernel
theorem dX11_farmsOnLine_11 : decode cX11_farmsOnLine 11 = .ok (.getfield 107, 3) := by decide +kernel
theorem dX11_farmsOnLine_14 : decode cX11_farmsOnLine 14 = .ok (.aload_n 0, 1) := by decide +kernel
theorem dX11_farmsOnLine_15 : decode cX11_farmsOnLine 15 = .ok (.getfield 12, 3) := by decide +kernel
theorem dX11_farmsOnLine_18 : decode cX11_farmsOnLine 18 = .ok (.getfield 43, 3) := by decide +kernel
theorem dX11_farmsOnLine_21 : decode cX11_farmsOnLine 21 = .ok (.getfield 114, 3) := by decide +kernel
theorem dX11_farmsOnLine_24 : decode cX11_farmsOnLine 24 = .ok (.invokevirtual 359, 3) := by decide +kernel
theorem dX11_farmsOnLine_27 : decode cX11_farmsOnLine 27 = .ok (.invokevirtual 340, 3) := by decide +kernel
theorem dX11_farmsOnLine_30 : decode cX11_farmsOnLine 30 = .ok (.ireturn, 1) := by decide +kernel
theorem hd_CF_farmsOnLine_0 : y_CF_farmsOnLine_0.cls ≠ "java/lang/invoke/MethodHandle" ∧ y_CF_farmsOnLine_0.cls ≠ "java/lang/invoke/VarHandle" ∧ (parseMethodDescriptor y_CF_farmsOnLine_0.desc).map (fun d => d.parameters.length) = some 0 := by decide +kernel
def f_CF_farmsOnLine_0  (M0 : Mem) : Option (Int32) :=
  (f_Line_cells_24 (M0.1 2 5) M0).bind fun q1 => (f_Land_farmsOn_2 q1 M0).bind fun q2 => some q2
set_option maxHeartbeats 4000000 in
set_option maxRecDepth 20000 in
theorem C_CF_farmsOnLine_0 {D : va_G} {ad adK adV : Nat → Nat} {cI cJ : ClassId} {l : Launch}  (M0 : Mem) (o : Int32) (h : f_CF_farmsOnLine_0  M0 = some o) : Ct D ad adK adV cI cJ l y_CF_farmsOnLine_0 cX11_farmsOnLine 1 (some .int) 3 66 [.ref (ad 0)] M0 (some (.int o)) M0 := by
  refine x_start (lv := [(0, .ref (ad 0))]) (own := "CurrentFarms") rfl (by decide) (Nat.le_of_ble_eq_true rfl) rfl ?_
  intro p e s m args below meth c Q hQ B
  unfold f_CF_farmsOnLine_0 at h
  refine x_aload_n (pc := 0) B 0 dX11_farmsOnLine_0 rfl rfl ?_
  refine x_get (T := TX11) (pc := 1) B 0 oi_0 rfl uw_11 (by decide) rfl tw_525 rfl dX11_farmsOnLine_1 ?_
  refine x_get (T := TX8) (pc := 4) B 0 oi_1 rfl uw_8 (by decide) rfl tw_359 rfl dX11_farmsOnLine_4 ?_
  refine x_aload_n (pc := 7) B 0 dX11_farmsOnLine_7 rfl rfl ?_
  refine x_get (T := TX11) (pc := 8) B 0 oi_0 rfl uw_11 (by decide) rfl tw_525 rfl dX11_farmsOnLine_8 ?_
  refine x_get (T := TX8) (pc := 11) B 3 oi_1 rfl uw_8 (by decide) rfl tw_374 rfl dX11_farmsOnLine_11 ?_
  refine x_aload_n (pc := 14) B 0 dX11_farmsOnLine_14 rfl rfl ?_
  refine x_get (T := TX11) (pc := 15) B 0 oi_0 rfl uw_11 (by decide) rfl tw_525 rfl dX11_farmsOnLine_15 ?_
  refine x_get (T := TX8) (pc := 18) B 0 oi_1 rfl uw_8 (by decide) rfl tw_359 rfl dX11_farmsOnLine_18 ?_
  refine x_get (T := TX4) (pc := 21) B 5 oi_2 rfl uw_4 (by decide) rfl tw_154 rfl dX11_farmsOnLine_21 ?_
  obtain ⟨q1, hq1, h⟩ := bnd h
  refine x_callV (rest := [.ref (ad 2)]) (st' := [.long q1, .ref (ad 2)]) (pc := 24) B oi_24 rfl (C_Line_cells_24 (M0.1 2 5) M0 _ hq1) tw_1019 tw_1016 tw_1017 tw_1018 tw_103 hd_Line_cells_24 ⟨Nat.le_of_ble_eq_true rfl, Nat.le_of_ble_eq_true rfl⟩ rfl rfl (Nat.le_of_ble_eq_true rfl) rfl dX11_farmsOnLine_24 ?_
  obtain ⟨q2, hq2, h⟩ := bnd h
  refine x_callV (rest := []) (st' := [.int q2]) (pc := 27) B oi_2 rfl (C_Land_farmsOn_2 q1 M0 _ hq2) tw_579 tw_576 tw_577 tw_578 tw_100 hd_Land_farmsOn_2 ⟨Nat.le_of_ble_eq_true rfl, Nat.le_of_ble_eq_true rfl⟩ rfl rfl (Nat.le_of_ble_eq_true rfl) rfl dX11_farmsOnLine_27 ?_
  obtain rfl := Option.some.inj h
  exact x_iret (pc := 30) B hQ dX11_farmsOnLine_30
-- CurrentFarms.isEnough(I)Z [0]
abbrev y_CF_isEnough_0 : MethodName := ⟨"CurrentFarms", "isEnough", "(I)Z"⟩
abbrev cX11_isEnough : ByteArray := prog_1_method_51_code
theorem dX11_isEnough_0 : decode cX11_isEnough 0 = .ok (.aload_n 0, 1) := by decide +kernel
theorem dX11_isEnough_1 : decode cX11_isEnough 1 = .ok (.getfield 12, 3) := by decide +kernel
theorem dX11_isEnough_4 : decode cX11_isEnough 4 = .ok (.getfield 107, 3) := by decide +kernel
theorem dX11_isEnough_7 : decode cX11_isEnough 7 = .ok (.getfield 110, 3) := by decide +kernel
theorem dX11_isEnough_10 : decode cX11_isEnough 10 = .ok (.aload_n 0, 1) := by decide +kernel
theorem dX11_isEnough_11 : decode cX11_isEnough 11 = .ok (.getfield 37, 3) := by decide +kernel
theorem dX11_isEnough_14 : decode cX11_isEnough 14 = .ok (.iconst 0, 1) := by decide +kernel
theorem dX11_isEnough_15 : decode cX11_isEnough 15 = .ok (.iconst (-1), 1) := by decide +kernel
theorem dX11_isEnough_16 : decode cX11_isEnough 16 = .ok (.aload_n 0, 1) := by decide +kernel
theorem dX11_isEnough_17 : decode cX11_isEnough 17 = .ok (.getfield 12, 3) := by decide +kernel
theorem dX11_isEnough_20 : decode cX11_isEnough 20 = .ok (.getfield 123, 3) := by decide +kernel
theorem dX11_isEnough_23 : decode cX11_isEnough 23 = .ok (.iconst 0, 1) := by decide +kernel
theorem dX11_isEnough_24 : decode cX11_isEnough 24 = .ok (.invokevirtual 189, 3) := by decide +kernel
theorem dX11_isEnough_27 : decode cX11_isEnough 27 = .ok (.imul, 1) := by decide +kernel
theorem dX11_isEnough_28 : decode cX11_isEnough 28 = .ok (.bipush 10, 2) := by decide +kernel
theorem dX11_isEnough_30 : decode cX11_isEnough 30 = .ok (.idiv, 1) := by decide +kernel
theorem dX11_isEnough_31 : decode cX11_isEnough 31 = .ok (.istore_n 2, 1) := by decide +kernel
theorem dX11_isEnough_32 : decode cX11_isEnough 32 = .ok (.iload_n 1, 1) := by decide +kernel
theorem dX11_isEnough_33 : decode cX11_isEnough 33 = .ok (.aload_n 0, 1) := by decide +kernel
theorem dX11_isEnough_34 : decode cX11_isEnough 34 = .ok (.invokevirtual 219, 3) := by decide +kernel
theorem dX11_isEnough_37 : decode cX11_isEnough 37 = .ok (.iand, 1) := by decide +kernel
theorem dX11_isEnough_38 : decode cX11_isEnough 38 = .ok (.invokestatic 166, 3) := by decide +kernel
theorem dX11_isEnough_41 : decode cX11_isEnough 41 = .ok (.iload_n 2, 1) := by decide +kernel
theorem dX11_isEnough_42 : decode cX11_isEnough 42 = .ok (.if_icmp .lt 7, 3) := by decide +kernel
theorem dX11_isEnough_45 : decode cX11_isEnough 45 = .ok (.iconst 1, 1) := by decide +kernel
theorem dX11_isEnough_46 : decode cX11_isEnough 46 = .ok (.goto 4, 3) := by decide +kernel
theorem dX11_isEnough_49 : decode cX11_isEnough 49 = .ok (.iconst 0, 1) := by decide +kernel
theorem dX11_isEnough_50 : decode cX11_isEnough 50 = .ok (.ireturn, 1) := by decide +kernel
theorem hd_CF_isEnough_0 : y_CF_isEnough_0.cls ≠ "java/lang/invoke/MethodHandle" ∧ y_CF_isEnough_0.cls ≠ "java/lang/invoke/VarHandle" ∧ (parseMethodDescriptor y_CF_isEnough_0.desc).map (fun d => d.parameters.length) = some 1 := by decide +kernel
def f_CF_isEnough_0 (a1 : Int32) (M0 : Mem) : Option (Bool × Mem) :=
  (f_Account_ruled_79 0 (-1) (M0.1 1 6) 0 M0).bind fun q1 => (f_CF_farmsOnLine_0 q1.2).bind fun q2 => if decide ((bcnt (a1 &&& q2)) < (((M0.1 24 2) * q1.1) / 10)) then (some (false, q1.2)) else (some (true, q1.2))
set_option maxHeartbeats 4000000 in
set_option maxRecDepth 20000 in
theorem C_CF_isEnough_0 {D : va_G} {ad adK adV : Nat → Nat} {cI cJ : ClassId} {l : Launch} (a1 : Int32) (M0 : Mem) (o : Bool × Mem) (h : f_CF_isEnough_0 a1 M0 = some o) : Ct D ad adK adV cI cJ l y_CF_isEnough_0 cX11_isEnough 3 (some .boolean) 6 153 [.ref (ad 0), .int a1] M0 (some (.int (bI o.1))) o.2 := by
  refine x_start (lv := [(0, .ref (ad 0)), (1, .int a1)]) (own := "CurrentFarms") rfl (by decide) (Nat.le_of_ble_eq_true rfl) rfl ?_
  intro p e s m args below meth c Q hQ B
  unfold f_CF_isEnough_0 at h
  refine x_aload_n (pc := 0) B 0 dX11_isEnough_0 rfl rfl ?_
  refine x_get (T := TX11) (pc := 1) B 0 oi_0 rfl uw_11 (by decide) rfl tw_525 rfl dX11_isEnough_1 ?_
  refine x_get (T := TX8) (pc := 4) B 3 oi_1 rfl uw_8 (by decide) rfl tw_374 rfl dX11_isEnough_4 ?_
  refine x_get (T := TX5) (pc := 7) B 2 oi_24 rfl uw_5 (by decide) rfl tw_268 rfl dX11_isEnough_7 ?_
  refine x_aload_n (pc := 10) B 0 dX11_isEnough_10 rfl rfl ?_
  refine x_get (T := TX11) (pc := 11) B 4 oi_0 rfl uw_11 (by decide) rfl tw_529 rfl dX11_isEnough_11 ?_
  refine x_iconst (v := 0) (pc := 14) B dX11_isEnough_14 rfl ?_
  refine x_iconst (v := (-1)) (pc := 15) B dX11_isEnough_15 rfl ?_
  refine x_aload_n (pc := 16) B 0 dX11_isEnough_16 rfl rfl ?_
  refine x_get (T := TX11) (pc := 17) B 0 oi_0 rfl uw_11 (by decide) rfl tw_525 rfl dX11_isEnough_17 ?_
  refine x_get (T := TX8) (pc := 20) B 6 oi_1 rfl uw_8 (by decide) rfl tw_384 rfl dX11_isEnough_20 ?_
  refine x_iconst (v := 0) (pc := 23) B dX11_isEnough_23 rfl ?_
  obtain ⟨q1, hq1, h⟩ := bnd h
  refine x_callV (rest := [.int (M0.1 24 2)]) (st' := [.int q1.1, .int (M0.1 24 2)]) (pc := 24) B oi_79 rfl (C_Account_ruled_79 0 (-1) (M0.1 1 6) 0 M0 _ hq1) tw_944 tw_941 tw_942 tw_943 tw_108 hd_Account_ruled_79 ⟨Nat.le_of_ble_eq_true rfl, Nat.le_of_ble_eq_true rfl⟩ rfl rfl (Nat.le_of_ble_eq_true rfl) rfl dX11_isEnough_24 ?_
  refine x_imul (pc := 27) B dX11_isEnough_27 ?_
  refine x_bipush (v := 10) (pc := 28) B dX11_isEnough_28 rfl ?_
  refine x_idiv (pc := 30) B dX11_isEnough_30 (by decide) ?_
  refine x_istore_n (lv' := [(2, .int (((M0.1 24 2) * q1.1) / 10)), (0, .ref (ad 0)), (1, .int a1)]) (pc := 31) B dX11_isEnough_31 rfl (by decide) rfl ?_
  refine x_iload_n (pc := 32) B 2 dX11_isEnough_32 rfl rfl ?_
  refine x_aload_n (pc := 33) B 1 dX11_isEnough_33 rfl rfl ?_
  obtain ⟨q2, hq2, h⟩ := bnd h
  refine x_callV (rest := [.int a1]) (st' := [.int q2, .int a1]) (pc := 34) B oi_0 rfl (C_CF_farmsOnLine_0  q1.2 _ hq2) tw_1015 tw_1012 tw_1014 tw_30 tw_98 hd_CF_farmsOnLine_0 ⟨Nat.le_of_ble_eq_true rfl, Nat.le_of_ble_eq_true rfl⟩ rfl rfl (Nat.le_of_ble_eq_true rfl) rfl dX11_isEnough_34 ?_
  refine x_iand (pc := 37) B dX11_isEnough_37 ?_
  refine x_callS (rest := []) (st' := [.int (bcnt (a1 &&& q2))]) (pc := 38) B (T_bitCount (a1 &&& q2) q1.2) tw_689 tw_792 tw_688 tw_113 hd_Integer_bitCount_0f7a4 ⟨Nat.le_of_ble_eq_true rfl, Nat.le_of_ble_eq_true rfl⟩ rfl rfl (Nat.le_of_ble_eq_true rfl) rfl dX11_isEnough_38 ?_
  refine x_iload_n (pc := 41) B 0 dX11_isEnough_41 rfl rfl ?_
  refine x_icmp_lt (tgt := 49) (pc := 42) B dX11_isEnough_42 rfl (fun hc3 => ?_) (fun hc3 => ?_)
  · have h := ift hc3 h
    refine x_iconst (v := 0) (pc := 49) B dX11_isEnough_49 rfl ?_
    obtain rfl := Option.some.inj h
    exact x_zret (v := false) (pc := 50) B hQ dX11_isEnough_50
  · have h := iff_ hc3 h
    refine x_iconst (v := 1) (pc := 45) B dX11_isEnough_45 rfl ?_
    refine x_goto (tgt := 50) (pc := 46) B dX11_isEnough_46 rfl ?_
    obtain rfl := Option.some.inj h
    exact x_zret (v := true) (pc := 50) B hQ dX11_isEnough_50
-- CurrentFarms.mile(I)I [0]
abbrev y_CF_mile_0 : MethodName := ⟨"CurrentFarms", "mile", "(I)I"⟩
abbrev cX11_mile : ByteArray := prog_1_method_19_code
theorem dX11_mile_0 : decode cX11_mile 0 = .ok (.iload_n 1, 1) := by decide +kernel
theorem dX11_mile_1 : decode cX11_mile 1 = .ok (.iconst 0, 1) := by decide +kernel
theorem dX11_mile_2 : decode cX11_mile 2 = .ok (.iconst 3, 1) := by decide +kernel
theorem dX11_mile_3 : decode cX11_mile 3 = .ok (.invokestatic 72, 3) := by decide +kernel
theorem dX11_mile_6 : decode cX11_mile 6 = .ok (.ifCond .ne 5, 3) := by decide +kernel
theorem dX11_mile_9 : decode cX11_mile 9 = .ok (.iconst (-1), 1) := by decide +kernel
theorem dX11_mile_10 : decode cX11_mile 10 = .ok (.ireturn, 1) := by decide +kernel
theorem dX11_mile_11 : decode cX11_mile 11 = .ok (.iload_n 1, 1) := by decide +kernel
theorem dX11_mile_12 : decode cX11_mile 12 = .ok (.iconst 1, 1) := by decide +kernel
theorem dX11_mile_13 : decode cX11_mile 13 = .ok (.if_icmp .ne 14, 3) := by decide +kernel
theorem dX11_mile_16 : decode cX11_mile 16 = .ok (.aload_n 0, 1) := by decide +kernel
theorem dX11_mile_17 : decode cX11_mile 17 = .ok (.getfield 12, 3) := by decide +kernel
theorem dX11_mile_20 : decode cX11_mile 20 = .ok (.getfield 107, 3) := by decide +kernel
theorem dX11_mile_23 : decode cX11_mile 23 = .ok (.getfield 110, 3) := by decide +kernel
theorem dX11_mile_26 : decode cX11_mile 26 = .ok (.ireturn, 1) := by decide +kernel
theorem dX11_mile_27 : decode cX11_mile 27 = .ok (.iload_n 1, 1) := by decide +kernel
theorem dX11_mile_28 : decode cX11_mile 28 = .ok (.iconst 3, 1) := by decide +kernel
theorem dX11_mile_29 : decode cX11_mile 29 = .ok (.if_icmp .ne 21, 3) := by decide +kernel
theorem dX11_mile_32 : decode cX11_mile 32 = .ok (.aload_n 0, 1) := by decide +kernel
theorem dX11_mile_33 : decode cX11_mile 33 = .ok (.getfield 12, 3) := by decide +kernel
theorem dX11_mile_36 : decode cX11_mile 36 = .ok (.getfield 107, 3) := by decide +kernel
theorem dX11_mile_39 : decode cX11_mile 39 = .ok (.aload_n 0, 1) := by decide +kernel
theorem dX11_mile_40 : decode cX11_mile 40 = .ok (.getfield 12, 3) := by decide +kernel
theorem dX11_mile_43 : decode cX11_mile 43 = .ok (.getfield 43, 3) := by decide +kernel
theorem dX11_mile_46 : decode cX11_mile 46 = .ok (.invokevirtual 215, 3) := by decide +kernel
theorem dX11_mile_49 : decode cX11_mile 49 = .ok (.ireturn, 1) := by decide +kernel
theorem dX11_mile_50 : decode cX11_mile 50 = .ok (.aload_n 0, 1) := by decide +kernel
theorem dX11_mile_51 : decode cX11_mile 51 = .ok (.getfield 12, 3) := by decide +kernel
theorem dX11_mile_54 : decode cX11_mile 54 = .ok (.getfield 132, 3) := by decide +kernel
theorem dX11_mile_57 : decode cX11_mile 57 = .ok (.aload_n 0, 1) := by decide +kernel
theorem dX11_mile_58 : decode cX11_mile 58 = .ok (.getfield 12, 3) := by decide +kernel
theorem dX11_mile_61 : decode cX11_mile 61 = .ok (.getfield 123, 3) := by decide +kernel
theorem dX11_mile_64 : decode cX11_mile 64 = .ok (.iconst 0, 1) := by decide +kernel
theorem dX11_mile_65 : decode cX11_mile 65 = .ok (.iconst 0, 1) := by decide +kernel
theorem dX11_mile_66 : decode cX11_mile 66 = .ok (.invokevirtual 163, 3) := by decide +kernel
theorem dX11_mile_69 : decode cX11_mile 69 = .ok (.istore_n 2, 1) := by decide +kernel
theorem dX11_mile_70 : decode cX11_mile 70 = .ok (.iload_n 1, 1) := by decide +kernel
theorem dX11_mile_71 : decode cX11_mile 71 = .ok (.iconst 2, 1) := by decide +kernel
theorem dX11_mile_72 : decode cX11_mile 72 = .ok (.if_icmp .ne 13, 3) := by decide +kernel
theorem dX11_mile_75 : decode cX11_mile 75 = .ok (.iload_n 2, 1) := by decide +kernel
theorem dX11_mile_76 : decode cX11_mile 76 = .ok (.aload_n 0, 1) := by decide +kernel
theorem dX11_mile_77 : decode cX11_mile 77 = .ok (.invokevirtual 219, 3) := by decide +kernel
theorem dX11_mile_80 : decode cX11_mile 80 = .ok (.iand, 1) := by decide +kernel
theorem dX11_mile_81 : decode cX11_mile 81 = .ok (.invokestatic 166, 3) := by decide +kernel
theorem dX11_mile_84 : decode cX11_mile 84 = .ok (.ireturn, 1) := by decide +kernel
theorem dX11_mile_85 : decode cX11_mile 85 = .ok (.aload_n 0, 1) := by decide +kernel
theorem dX11_mile_86 : decode cX11_mile 86 = .ok (.iload_n 2, 1) := by decide +kernel
theorem dX11_mile_87 : decode cX11_mile 87 = .ok (.invokevirtual 223, 3) := by decide +kernel
theorem dX11_mile_90 : decode cX11_mile 90 = .ok (.invokestatic 226, 3) := by decide +kernel
theorem dX11_mile_93 : decode cX11_mile 93 = .ok (.ireturn, 1) := by decide +kernel
theorem hd_CF_mile_0 : y_CF_mile_0.cls ≠ "java/lang/invoke/MethodHandle" ∧ y_CF_mile_0.cls ≠ "java/lang/invoke/VarHandle" ∧ (parseMethodDescriptor y_CF_mile_0.desc).map (fun d => d.parameters.length) = some 1 := by decide +kernel
def f_CF_mile_0 (a1 : Int32) (M0 : Mem) : Option (Int32 × Mem) :=
  if wthn a1 0 3 then (if decide (a1 = 1) then (some (M0.1 24 2, M0)) else (if decide (a1 = 3) then ((f_Line_costOn_24_2 M0).bind fun q4 => some (q4, M0)) else ((f_Book_membersIn_7 (M0.1 1 6) 0 0 M0).bind fun q5 => if decide (a1 = 2) then ((f_CF_farmsOnLine_0 q5.2).bind fun q7 => some (bcnt (q5.1 &&& q7), q5.2)) else ((f_CF_isEnough_0 q5.1 q5.2).bind fun q8 => some (bI q8.1, q8.2))))) else (some ((-1), M0))
set_option maxHeartbeats 4000000 in
set_option maxRecDepth 20000 in
theorem C_CF_mile_0 {D : va_G} {ad adK adV : Nat → Nat} {cI cJ : ClassId} {l : Launch} (a1 : Int32) (M0 : Mem) (o : Int32 × Mem) (h : f_CF_mile_0 a1 M0 = some o) : Ct D ad adK adV cI cJ l y_CF_mile_0 cX11_mile 3 (some .int) 7 175 [.ref (ad 0), .int a1] M0 (some (.int o.1)) o.2 := by
  refine x_start (lv := [(0, .ref (ad 0)), (1, .int a1)]) (own := "CurrentFarms") rfl (by decide) (Nat.le_of_ble_eq_true rfl) rfl ?_
  intro p e s m args below meth c Q hQ B
  unfold f_CF_mile_0 at h
  refine x_iload_n (pc := 0) B 1 dX11_mile_0 rfl rfl ?_
  refine x_iconst (v := 0) (pc := 1) B dX11_mile_1 rfl ?_
  refine x_iconst (v := 3) (pc := 2) B dX11_mile_2 rfl ?_
  refine x_callS (rest := []) (st' := [.int (bI (wthn a1 0 3))]) (pc := 3) B (T_CF_within a1 0 3 M0) tw_559 tw_557 tw_558 tw_98 hd_CF_within ⟨Nat.le_of_ble_eq_true rfl, Nat.le_of_ble_eq_true rfl⟩ rfl rfl (Nat.le_of_ble_eq_true rfl) rfl dX11_mile_3 ?_
  refine x_if_ne_b (tgt := 11) (pc := 6) B dX11_mile_6 rfl (fun hc1 => ?_) (fun hc1 => ?_)
  · have h := ift hc1 h
    refine x_iload_n (pc := 11) B 1 dX11_mile_11 rfl rfl ?_
    refine x_iconst (v := 1) (pc := 12) B dX11_mile_12 rfl ?_
    refine x_icmp_ne (tgt := 27) (pc := 13) B dX11_mile_13 rfl (fun hc2 => ?_) (fun hc2 => ?_)
    · have h := iff_ hc2 h
      refine x_iload_n (pc := 27) B 1 dX11_mile_27 rfl rfl ?_
      refine x_iconst (v := 3) (pc := 28) B dX11_mile_28 rfl ?_
      refine x_icmp_ne (tgt := 50) (pc := 29) B dX11_mile_29 rfl (fun hc3 => ?_) (fun hc3 => ?_)
      · have h := iff_ hc3 h
        refine x_aload_n (pc := 50) B 0 dX11_mile_50 rfl rfl ?_
        refine x_get (T := TX11) (pc := 51) B 0 oi_0 rfl uw_11 (by decide) rfl tw_525 rfl dX11_mile_51 ?_
        refine x_get (T := TX8) (pc := 54) B 1 oi_1 rfl uw_8 (by decide) rfl tw_367 rfl dX11_mile_54 ?_
        refine x_aload_n (pc := 57) B 0 dX11_mile_57 rfl rfl ?_
        refine x_get (T := TX11) (pc := 58) B 0 oi_0 rfl uw_11 (by decide) rfl tw_525 rfl dX11_mile_58 ?_
        refine x_get (T := TX8) (pc := 61) B 6 oi_1 rfl uw_8 (by decide) rfl tw_384 rfl dX11_mile_61 ?_
        refine x_iconst (v := 0) (pc := 64) B dX11_mile_64 rfl ?_
        refine x_iconst (v := 0) (pc := 65) B dX11_mile_65 rfl ?_
        obtain ⟨q5, hq5, h⟩ := bnd h
        refine x_callV (rest := []) (st' := [.int q5.1]) (pc := 66) B oi_7 rfl (C_Book_membersIn_7 (M0.1 1 6) 0 0 M0 _ hq5) tw_791 tw_788 tw_789 tw_790 tw_101 hd_Book_membersIn_7 ⟨Nat.le_of_ble_eq_true rfl, Nat.le_of_ble_eq_true rfl⟩ rfl rfl (Nat.le_of_ble_eq_true rfl) rfl dX11_mile_66 ?_
        refine x_istore_n (lv' := [(2, .int q5.1), (0, .ref (ad 0)), (1, .int a1)]) (pc := 69) B dX11_mile_69 rfl (by decide) rfl ?_
        refine x_iload_n (pc := 70) B 2 dX11_mile_70 rfl rfl ?_
        refine x_iconst (v := 2) (pc := 71) B dX11_mile_71 rfl ?_
        refine x_icmp_ne (tgt := 85) (pc := 72) B dX11_mile_72 rfl (fun hc6 => ?_) (fun hc6 => ?_)
        · have h := iff_ hc6 h
          refine x_aload_n (pc := 85) B 1 dX11_mile_85 rfl rfl ?_
          refine x_iload_n (pc := 86) B 0 dX11_mile_86 rfl rfl ?_
          obtain ⟨q8, hq8, h⟩ := bnd h
          refine x_callV (rest := []) (st' := [.int (bI q8.1)]) (pc := 87) B oi_0 rfl (C_CF_isEnough_0 q5.1 q5.2 _ hq8) tw_1023 tw_1020 tw_1022 tw_31 tw_98 hd_CF_isEnough_0 ⟨Nat.le_of_ble_eq_true rfl, Nat.le_of_ble_eq_true rfl⟩ rfl rfl (Nat.le_of_ble_eq_true rfl) rfl dX11_mile_87 ?_
          refine x_callS (rest := []) (st' := [.int (bI q8.1)]) (pc := 90) B (T_CF_flag q8.1 q8.2) tw_606 tw_1024 tw_605 tw_98 hd_CF_flag ⟨Nat.le_of_ble_eq_true rfl, Nat.le_of_ble_eq_true rfl⟩ rfl rfl (Nat.le_of_ble_eq_true rfl) rfl dX11_mile_90 ?_
          obtain rfl := Option.some.inj h
          exact x_iret (pc := 93) B hQ dX11_mile_93
        · have h := ift hc6 h
          refine x_iload_n (pc := 75) B 0 dX11_mile_75 rfl rfl ?_
          refine x_aload_n (pc := 76) B 1 dX11_mile_76 rfl rfl ?_
          obtain ⟨q7, hq7, h⟩ := bnd h
          refine x_callV (rest := [.int q5.1]) (st' := [.int q7, .int q5.1]) (pc := 77) B oi_0 rfl (C_CF_farmsOnLine_0  q5.2 _ hq7) tw_1015 tw_1012 tw_1014 tw_30 tw_98 hd_CF_farmsOnLine_0 ⟨Nat.le_of_ble_eq_true rfl, Nat.le_of_ble_eq_true rfl⟩ rfl rfl (Nat.le_of_ble_eq_true rfl) rfl dX11_mile_77 ?_
          refine x_iand (pc := 80) B dX11_mile_80 ?_
          refine x_callS (rest := []) (st' := [.int (bcnt (q5.1 &&& q7))]) (pc := 81) B (T_bitCount (q5.1 &&& q7) q5.2) tw_689 tw_792 tw_688 tw_113 hd_Integer_bitCount_0f7a4 ⟨Nat.le_of_ble_eq_true rfl, Nat.le_of_ble_eq_true rfl⟩ rfl rfl (Nat.le_of_ble_eq_true rfl) rfl dX11_mile_81 ?_
          obtain rfl := Option.some.inj h
          exact x_iret (pc := 84) B hQ dX11_mile_84
      · have h := ift hc3 h
        refine x_aload_n (pc := 32) B 0 dX11_mile_32 rfl rfl ?_
        refine x_get (T := TX11) (pc := 33) B 0 oi_0 rfl uw_11 (by decide) rfl tw_525 rfl dX11_mile_33 ?_
        refine x_get (T := TX8) (pc := 36) B 3 oi_1 rfl uw_8 (by decide) rfl tw_374 rfl dX11_mile_36 ?_
        refine x_aload_n (pc := 39) B 0 dX11_mile_39 rfl rfl ?_
        refine x_get (T := TX11) (pc := 40) B 0 oi_0 rfl uw_11 (by decide) rfl tw_525 rfl dX11_mile_40 ?_
        refine x_get (T := TX8) (pc := 43) B 0 oi_1 rfl uw_8 (by decide) rfl tw_359 rfl dX11_mile_43 ?_
        obtain ⟨q4, hq4, h⟩ := bnd h
        refine x_callV (rest := []) (st' := [.int q4]) (pc := 46) B oi_24 rfl (C_Line_costOn_24_2  M0 _ hq4) tw_1010 tw_1007 tw_1008 tw_1009 tw_103 hd_Line_costOn_24_2 ⟨Nat.le_of_ble_eq_true rfl, Nat.le_of_ble_eq_true rfl⟩ rfl rfl (Nat.le_of_ble_eq_true rfl) rfl dX11_mile_46 ?_
        obtain rfl := Option.some.inj h
        exact x_iret (pc := 49) B hQ dX11_mile_49
    · have h := ift hc2 h
      refine x_aload_n (pc := 16) B 0 dX11_mile_16 rfl rfl ?_
      refine x_get (T := TX11) (pc := 17) B 0 oi_0 rfl uw_11 (by decide) rfl tw_525 rfl dX11_mile_17 ?_
      refine x_get (T := TX8) (pc := 20) B 3 oi_1 rfl uw_8 (by decide) rfl tw_374 rfl dX11_mile_20 ?_
      refine x_get (T := TX5) (pc := 23) B 2 oi_24 rfl uw_5 (by decide) rfl tw_268 rfl dX11_mile_23 ?_
      obtain rfl := Option.some.inj h
      exact x_iret (pc := 26) B hQ dX11_mile_26
  · have h := iff_ hc1 h
    refine x_iconst (v := (-1)) (pc := 9) B dX11_mile_9 rfl ?_
    obtain rfl := Option.some.inj h
    exact x_iret (pc := 10) B hQ dX11_mile_10
-- CurrentFarms.span(I)I [0]
abbrev y_CF_span_0 : MethodName := ⟨"CurrentFarms", "span", "(I)I"⟩
abbrev cX11_span : ByteArray := prog_1_method_20_code
theorem dX11_span_0 : decode cX11_span 0 = .ok (.iload_n 1, 1) := by decide +kernel
theorem dX11_span_1 : decode cX11_span 1 = .ok (.iconst 1, 1) := by decide +kernel
theorem dX11_span_2 : decode cX11_span 2 = .ok (.iconst 5, 1) := by decide +kernel
theorem dX11_span_3 : decode cX11_span 3 = .ok (.invokestatic 72, 3) := by decide +kernel
theorem dX11_span_6 : decode cX11_span 6 = .ok (.ifCond .ne 6, 3) := by decide +kernel
theorem dX11_span_9 : decode cX11_span 9 = .ok (.bipush (-2), 2) := by decide +kernel
theorem dX11_span_11 : decode cX11_span 11 = .ok (.ireturn, 1) := by decide +kernel
theorem dX11_span_12 : decode cX11_span 12 = .ok (.aload_n 0, 1) := by decide +kernel
theorem dX11_span_13 : decode cX11_span 13 = .ok (.getfield 12, 3) := by decide +kernel
theorem dX11_span_16 : decode cX11_span 16 = .ok (.getfield 107, 3) := by decide +kernel
theorem dX11_span_19 : decode cX11_span 19 = .ok (.getfield 230, 3) := by decide +kernel
theorem dX11_span_22 : decode cX11_span 22 = .ok (.istore_n 2, 1) := by decide +kernel
theorem dX11_span_23 : decode cX11_span 23 = .ok (.aload_n 0, 1) := by decide +kernel
theorem dX11_span_24 : decode cX11_span 24 = .ok (.getfield 12, 3) := by decide +kernel
theorem dX11_span_27 : decode cX11_span 27 = .ok (.getfield 107, 3) := by decide +kernel
theorem dX11_span_30 : decode cX11_span 30 = .ok (.iload_n 1, 1) := by decide +kernel
theorem dX11_span_31 : decode cX11_span 31 = .ok (.putfield 230, 3) := by decide +kernel
theorem dX11_span_34 : decode cX11_span 34 = .ok (.iload_n 2, 1) := by decide +kernel
theorem dX11_span_35 : decode cX11_span 35 = .ok (.ireturn, 1) := by decide +kernel
theorem hd_CF_span_0 : y_CF_span_0.cls ≠ "java/lang/invoke/MethodHandle" ∧ y_CF_span_0.cls ≠ "java/lang/invoke/VarHandle" ∧ (parseMethodDescriptor y_CF_span_0.desc).map (fun d => d.parameters.length) = some 1 := by decide +kernel
def f_CF_span_0 (a1 : Int32) (M0 : Mem) : Option (Int32 × Mem) :=
  if wthn a1 1 5 then (jv_ (wI M0 24 3 a1) fun M2 => some (M0.1 24 3, M2)) else (some ((-2), M0))
set_option maxHeartbeats 4000000 in
set_option maxRecDepth 20000 in
theorem C_CF_span_0 {D : va_G} {ad adK adV : Nat → Nat} {cI cJ : ClassId} {l : Launch} (a1 : Int32) (M0 : Mem) (o : Int32 × Mem) (h : f_CF_span_0 a1 M0 = some o) : Ct D ad adK adV cI cJ l y_CF_span_0 cX11_span 3 (some .int) 1 22 [.ref (ad 0), .int a1] M0 (some (.int o.1)) o.2 := by
  refine x_start (lv := [(0, .ref (ad 0)), (1, .int a1)]) (own := "CurrentFarms") rfl (by decide) (Nat.le_of_ble_eq_true rfl) rfl ?_
  intro p e s m args below meth c Q hQ B
  unfold f_CF_span_0 at h
  refine x_iload_n (pc := 0) B 1 dX11_span_0 rfl rfl ?_
  refine x_iconst (v := 1) (pc := 1) B dX11_span_1 rfl ?_
  refine x_iconst (v := 5) (pc := 2) B dX11_span_2 rfl ?_
  refine x_callS (rest := []) (st' := [.int (bI (wthn a1 1 5))]) (pc := 3) B (T_CF_within a1 1 5 M0) tw_559 tw_557 tw_558 tw_98 hd_CF_within ⟨Nat.le_of_ble_eq_true rfl, Nat.le_of_ble_eq_true rfl⟩ rfl rfl (Nat.le_of_ble_eq_true rfl) rfl dX11_span_3 ?_
  refine x_if_ne_b (tgt := 12) (pc := 6) B dX11_span_6 rfl (fun hc1 => ?_) (fun hc1 => ?_)
  · have h := ift hc1 h
    refine x_aload_n (pc := 12) B 0 dX11_span_12 rfl rfl ?_
    refine x_get (T := TX11) (pc := 13) B 0 oi_0 rfl uw_11 (by decide) rfl tw_525 rfl dX11_span_13 ?_
    refine x_get (T := TX8) (pc := 16) B 3 oi_1 rfl uw_8 (by decide) rfl tw_374 rfl dX11_span_16 ?_
    refine x_get (T := TX5) (pc := 19) B 3 oi_24 rfl uw_5 (by decide) rfl tw_270 rfl dX11_span_19 ?_
    refine x_istore_n (lv' := [(2, .int (M0.1 24 3)), (0, .ref (ad 0)), (1, .int a1)]) (pc := 22) B dX11_span_22 rfl (by decide) rfl ?_
    refine x_aload_n (pc := 23) B 1 dX11_span_23 rfl rfl ?_
    refine x_get (T := TX11) (pc := 24) B 0 oi_0 rfl uw_11 (by decide) rfl tw_525 rfl dX11_span_24 ?_
    refine x_get (T := TX8) (pc := 27) B 3 oi_1 rfl uw_8 (by decide) rfl tw_374 rfl dX11_span_27 ?_
    refine x_iload_n (pc := 30) B 2 dX11_span_30 rfl rfl ?_
    refine x_put (T := TX5) (pc := 31) B 3 oi_24 of_24_3 rfl uw_5 tyX5_ok nmX5 (by decide) rfl tw_270 rfl rfl rfl (Nat.le_of_ble_eq_true rfl) dX11_span_31 ?_
    refine jv_m (P := fun M2 => XX D ad cI cJ p l e (Rm 1 22) s m args below meth c Q 3 M2 34 [(2, .int (M0.1 24 3)), (0, .ref (ad 0)), (1, .int a1)] []) h (fun M2 h => ?_)
    refine x_iload_n (pc := 34) B 0 dX11_span_34 rfl rfl ?_
    obtain rfl := Option.some.inj h
    exact x_iret (pc := 35) B hQ dX11_span_35
  · have h := iff_ hc1 h
    refine x_bipush (v := (-2)) (pc := 9) B dX11_span_9 rfl ?_
    obtain rfl := Option.some.inj h
    exact x_iret (pc := 11) B hQ dX11_span_11
-- CurrentFarms$Line.polesTo(ILCurrentFarms$Land;)I [24, 2]
abbrev y_Line_polesTo_24_2 : MethodName := ⟨"CurrentFarms$Line", "polesTo", "(ILCurrentFarms$Land;)I"⟩
abbrev cX5_polesTo : ByteArray := prog_7_method_11_code
theorem dX5_polesTo_0 : decode cX5_polesTo 0 = .ok (.aload_n 0, 1) := by decide +kernel
theorem dX5_polesTo_1 : decode cX5_polesTo 1 = .ok (.iload_n 1, 1) := by decide +kernel
theorem dX5_polesTo_2 : decode cX5_polesTo 2 = .ok (.invokevirtual 66, 3) := by decide +kernel
theorem dX5_polesTo_5 : decode cX5_polesTo 5 = .ok (.istore_n 3, 1) := by decide +kernel
theorem dX5_polesTo_6 : decode cX5_polesTo 6 = .ok (.aload_n 0, 1) := by decide +kernel
theorem dX5_polesTo_7 : decode cX5_polesTo 7 = .ok (.getfield 28, 3) := by decide +kernel
theorem dX5_polesTo_10 : decode cX5_polesTo 10 = .ok (.iconst 0, 1) := by decide +kernel
theorem dX5_polesTo_11 : decode cX5_polesTo 11 = .ok (.iconst 1, 1) := by decide +kernel
theorem dX5_polesTo_12 : decode cX5_polesTo 12 = .ok (.invokestatic 44, 3) := by decide +kernel
theorem dX5_polesTo_15 : decode cX5_polesTo 15 = .ok (.iconst 1, 1) := by decide +kernel
theorem dX5_polesTo_16 : decode cX5_polesTo 16 = .ok (.istore 4, 2) := by decide +kernel
theorem dX5_polesTo_18 : decode cX5_polesTo 18 = .ok (.iload 4, 2) := by decide +kernel
theorem dX5_polesTo_20 : decode cX5_polesTo 20 = .ok (.iload_n 3, 1) := by decide +kernel
theorem dX5_polesTo_21 : decode cX5_polesTo 21 = .ok (.if_icmp .gt 131, 3) := by decide +kernel
theorem dX5_polesTo_24 : decode cX5_polesTo 24 = .ok (.aload_n 2, 1) := by decide +kernel
theorem dX5_polesTo_25 : decode cX5_polesTo 25 = .ok (.getfield 73, 3) := by decide +kernel
theorem dX5_polesTo_28 : decode cX5_polesTo 28 = .ok (.aload_n 0, 1) := by decide +kernel
theorem dX5_polesTo_29 : decode cX5_polesTo 29 = .ok (.getfield 25, 3) := by decide +kernel
theorem dX5_polesTo_32 : decode cX5_polesTo 32 = .ok (.iload 4, 2) := by decide +kernel
theorem dX5_polesTo_34 : decode cX5_polesTo 34 = .ok (.invokestatic 52, 3) := by decide +kernel
theorem dX5_polesTo_37 : decode cX5_polesTo 37 = .ok (.invokestatic 52, 3) := by decide +kernel
theorem dX5_polesTo_40 : decode cX5_polesTo 40 = .ok (.istore 5, 2) := by decide +kernel
theorem dX5_polesTo_42 : decode cX5_polesTo 42 = .ok (.bipush 48, 2) := by decide +kernel
theorem dX5_polesTo_44 : decode cX5_polesTo 44 = .ok (.istore 6, 2) := by decide +kernel
theorem dX5_polesTo_46 : decode cX5_polesTo 46 = .ok (.iconst 0, 1) := by decide +kernel
theorem dX5_polesTo_47 : decode cX5_polesTo 47 = .ok (.istore 7, 2) := by decide +kernel
theorem dX5_polesTo_49 : decode cX5_polesTo 49 = .ok (.iload 4, 2) := by decide +kernel
theorem dX5_polesTo_51 : decode cX5_polesTo 51 = .ok (.iconst 1, 1) := by decide +kernel
theorem dX5_polesTo_52 : decode cX5_polesTo 52 = .ok (.isub, 1) := by decide +kernel
theorem dX5_polesTo_53 : decode cX5_polesTo 53 = .ok (.istore 8, 2) := by decide +kernel
theorem dX5_polesTo_55 : decode cX5_polesTo 55 = .ok (.iload 8, 2) := by decide +kernel
theorem dX5_polesTo_57 : decode cX5_polesTo 57 = .ok (.ifCond .lt 78, 3) := by decide +kernel
theorem dX5_polesTo_60 : decode cX5_polesTo 60 = .ok (.iload 4, 2) := by decide +kernel
theorem dX5_polesTo_62 : decode cX5_polesTo 62 = .ok (.iload 8, 2) := by decide +kernel
theorem dX5_polesTo_64 : decode cX5_polesTo 64 = .ok (.isub, 1) := by decide +kernel
theorem dX5_polesTo_65 : decode cX5_polesTo 65 = .ok (.aload_n 0, 1) := by decide +kernel
theorem dX5_polesTo_66 : decode cX5_polesTo 66 = .ok (.getfield 18, 3) := by decide +kernel
theorem dX5_polesTo_69 : decode cX5_polesTo 69 = .ok (.if_icmp .gt 66, 3) := by decide +kernel
theorem dX5_polesTo_72 : decode cX5_polesTo 72 = .ok (.aload_n 2, 1) := by decide +kernel
theorem dX5_polesTo_73 : decode cX5_polesTo 73 = .ok (.getfield 73, 3) := by decide +kernel
theorem dX5_polesTo_76 : decode cX5_polesTo 76 = .ok (.aload_n 0, 1) := by decide +kernel
theorem dX5_polesTo_77 : decode cX5_polesTo 77 = .ok (.getfield 25, 3) := by decide +kernel
theorem dX5_polesTo_80 : decode cX5_polesTo 80 = .ok (.iload 8, 2) := by decide +kernel
theorem dX5_polesTo_82 : decode cX5_polesTo 82 = .ok (.invokestatic 52, 3) := by decide +kernel
theorem dX5_polesTo_85 : decode cX5_polesTo 85 = .ok (.invokestatic 52, 3) := by decide +kernel
theorem dX5_polesTo_88 : decode cX5_polesTo 88 = .ok (.istore 9, 2) := by decide +kernel
theorem dX5_polesTo_90 : decode cX5_polesTo 90 = .ok (.iload 7, 2) := by decide +kernel
theorem dX5_polesTo_92 : decode cX5_polesTo 92 = .ok (.iload 5, 2) := by decide +kernel
theorem dX5_polesTo_94 : decode cX5_polesTo 94 = .ok (.iload 9, 2) := by decide +kernel
theorem dX5_polesTo_96 : decode cX5_polesTo 96 = .ok (.invokestatic 76, 3) := by decide +kernel
theorem dX5_polesTo_99 : decode cX5_polesTo 99 = .ok (.if_icmp .gt 21, 3) := by decide +kernel
theorem dX5_polesTo_102 : decode cX5_polesTo 102 = .ok (.iload 6, 2) := by decide +kernel
theorem dX5_polesTo_104 : decode cX5_polesTo 104 = .ok (.aload_n 0, 1) := by decide +kernel
theorem dX5_polesTo_105 : decode cX5_polesTo 105 = .ok (.getfield 28, 3) := by decide +kernel
theorem dX5_polesTo_108 : decode cX5_polesTo 108 = .ok (.iload 8, 2) := by decide +kernel
theorem dX5_polesTo_110 : decode cX5_polesTo 110 = .ok (.invokestatic 52, 3) := by decide +kernel
theorem dX5_polesTo_113 : decode cX5_polesTo 113 = .ok (.iconst 1, 1) := by decide +kernel
theorem dX5_polesTo_114 : decode cX5_polesTo 114 = .ok (.iadd, 1) := by decide +kernel
theorem dX5_polesTo_115 : decode cX5_polesTo 115 = .ok (.invokestatic 81, 3) := by decide +kernel
theorem dX5_polesTo_118 : decode cX5_polesTo 118 = .ok (.istore 6, 2) := by decide +kernel
theorem dX5_polesTo_120 : decode cX5_polesTo 120 = .ok (.iload 7, 2) := by decide +kernel
theorem dX5_polesTo_122 : decode cX5_polesTo 122 = .ok (.iload 9, 2) := by decide +kernel
theorem dX5_polesTo_124 : decode cX5_polesTo 124 = .ok (.invokestatic 76, 3) := by decide +kernel
theorem dX5_polesTo_127 : decode cX5_polesTo 127 = .ok (.istore 7, 2) := by decide +kernel
theorem dX5_polesTo_129 : decode cX5_polesTo 129 = .ok (.iinc 8 (-1), 3) := by decide +kernel
theorem dX5_polesTo_132 : decode cX5_polesTo 132 = .ok (.goto (-77), 3) := by decide +kernel
theorem dX5_polesTo_135 : decode cX5_polesTo 135 = .ok (.aload_n 0, 1) := by decide +kernel
theorem dX5_polesTo_136 : decode cX5_polesTo 136 = .ok (.getfield 28, 3) := by decide +kernel
theorem dX5_polesTo_139 : decode cX5_polesTo 139 = .ok (.iload 4, 2) := by decide +kernel
theorem dX5_polesTo_141 : decode cX5_polesTo 141 = .ok (.iload 6, 2) := by decide +kernel
theorem dX5_polesTo_143 : decode cX5_polesTo 143 = .ok (.invokestatic 44, 3) := by decide +kernel
theorem dX5_polesTo_146 : decode cX5_polesTo 146 = .ok (.iinc 4 1, 3) := by decide +kernel
theorem dX5_polesTo_149 : decode cX5_polesTo 149 = .ok (.goto (-131), 3) := by decide +kernel
theorem dX5_polesTo_152 : decode cX5_polesTo 152 = .ok (.aload_n 0, 1) := by decide +kernel
theorem dX5_polesTo_153 : decode cX5_polesTo 153 = .ok (.getfield 28, 3) := by decide +kernel
theorem dX5_polesTo_156 : decode cX5_polesTo 156 = .ok (.iload_n 3, 1) := by decide +kernel
theorem dX5_polesTo_157 : decode cX5_polesTo 157 = .ok (.invokestatic 52, 3) := by decide +kernel
theorem dX5_polesTo_160 : decode cX5_polesTo 160 = .ok (.ireturn, 1) := by decide +kernel
theorem hd_Line_polesTo_24_2 : y_Line_polesTo_24_2.cls ≠ "java/lang/invoke/MethodHandle" ∧ y_Line_polesTo_24_2.cls ≠ "java/lang/invoke/VarHandle" ∧ (parseMethodDescriptor y_Line_polesTo_24_2.desc).map (fun d => d.parameters.length) = some 2 := by decide +kernel
def b_Line_polesTo_24_2_55 (y3 : Int32 × Mem) (y5 : Int32 × Int32 × Int32) : Option ((Int32 × Int32 × Int32) ⊕ (Int32)) :=
  if decide (y5.2.2 < 0) then (some (.inr y5.1)) else (if decide ((y3.1 - y5.2.2) ≤ (y3.2.1 24 3)) then (jv_ ((if decide (y5.2.1 ≤ (jmax (atv (y3.2.1 3) 48 (atv (y3.2.1 27) 48 y3.1)) (atv (y3.2.1 3) 48 (atv (y3.2.1 27) 48 y5.2.2)))) then jmin y5.1 ((atv (y3.2.1 28) 48 y5.2.2) + 1) else y5.1) : Int32) fun u10 => some (.inl (u10, jmax y5.2.1 (atv (y3.2.1 3) 48 (atv (y3.2.1 27) 48 y5.2.2)), y5.2.2 + (-1)))) else (some (.inr y5.1)))
def b_Line_polesTo_24_2_18 (q1 : Int32 × Mem) (y3 : Int32 × Mem) : Option ((Int32 × Mem) ⊕ (Mem)) :=
  if decide (y3.1 ≤ q1.1) then ((itr (b_Line_polesTo_24_2_55 y3) FU (48, 0, y3.1 - 1)).bind fun q11 => jv_ (putv y3.2 28 48 y3.1 q11) fun M12 => some (.inl (y3.1 + 1, M12))) else (some (.inr y3.2))
def f_Line_polesTo_24_2 (a1 : Int32) (M0 : Mem) : Option (Int32 × Mem) :=
  (f_Line_climb_24 a1 M0).bind fun q1 => jv_ (putv q1.2 28 48 0 1) fun M2 => (itr (b_Line_polesTo_24_2_18 q1) FU (1, M2)).bind fun q13 => some (atv (q13.1 28) 48 q1.1, q13)
set_option maxHeartbeats 4000000 in
set_option maxRecDepth 20000 in
theorem C_Line_polesTo_24_2 {D : va_G} {ad adK adV : Nat → Nat} {cI cJ : ClassId} {l : Launch} (a1 : Int32) (M0 : Mem) (o : Int32 × Mem) (h : f_Line_polesTo_24_2 a1 M0 = some o) : Ct D ad adK adV cI cJ l y_Line_polesTo_24_2 cX5_polesTo 10 (some .int) 4 86 [.ref (ad 24), .int a1, .ref (ad 2)] M0 (some (.int o.1)) o.2 := by
  refine x_start (lv := [(0, .ref (ad 24)), (1, .int a1), (2, .ref (ad 2))]) (own := "CurrentFarms$Line") rfl (by decide) (Nat.le_of_ble_eq_true rfl) rfl ?_
  intro p e s m args below meth c Q hQ B
  unfold f_Line_polesTo_24_2 at h
  refine x_aload_n (pc := 0) B 0 dX5_polesTo_0 rfl rfl ?_
  refine x_iload_n (pc := 1) B 1 dX5_polesTo_1 rfl rfl ?_
  obtain ⟨q1, hq1, h⟩ := bnd h
  refine x_callV (rest := []) (st' := [.int q1.1]) (pc := 2) B oi_24 rfl (C_Line_climb_24 a1 M0 _ hq1) tw_718 tw_1038 tw_716 tw_717 tw_103 hd_Line_climb_24 ⟨Nat.le_of_ble_eq_true rfl, Nat.le_of_ble_eq_true rfl⟩ rfl rfl (Nat.le_of_ble_eq_true rfl) rfl dX5_polesTo_2 ?_
  refine x_istore_n (lv' := [(3, .int q1.1), (0, .ref (ad 24)), (1, .int a1), (2, .ref (ad 2))]) (pc := 5) B dX5_polesTo_5 rfl (by decide) rfl ?_
  refine x_aload_n (pc := 6) B 1 dX5_polesTo_6 rfl rfl ?_
  refine x_get (T := TX5) (pc := 7) B 6 oi_24 rfl uw_5 (by decide) rfl tw_275 rfl dX5_polesTo_7 ?_
  refine x_iconst (v := 0) (pc := 10) B dX5_polesTo_10 rfl ?_
  refine x_iconst (v := 1) (pc := 11) B dX5_polesTo_11 rfl ?_
  refine x_callSN (rest := []) (st' := []) (pc := 12) B (T_CF_put 28 48 0 1 ai_28 (by decide) q1.2) tw_588 tw_719 tw_587 tw_98 hd_CF_put ⟨Nat.le_of_ble_eq_true rfl, Nat.le_of_ble_eq_true rfl⟩ rfl rfl (Nat.le_of_ble_eq_true rfl) rfl dX5_polesTo_12 ?_
  refine jv_m (P := fun M2 => XX D ad cI cJ p l e (Rm 4 86) s m args below meth c Q 10 M2 15 [(3, .int q1.1), (0, .ref (ad 24)), (1, .int a1), (2, .ref (ad 2))] []) h (fun M2 h => ?_)
  refine x_iconst (v := 1) (pc := 15) B dX5_polesTo_15 rfl ?_
  refine x_istore (lv' := [(4, .int 1), (3, .int q1.1), (0, .ref (ad 24)), (1, .int a1), (2, .ref (ad 2))]) (pc := 16) B dX5_polesTo_16 (by decide) rfl ?_
  refine x_pick (lv' := [(0, .ref (ad 24)), (2, .ref (ad 2)), (3, .int q1.1), (4, .int 1)]) [2, 4, 1, 0] rfl ?_
  obtain ⟨q13, hq13, h⟩ := bnd h
  refine x_loop (Head := fun (y3 : Int32 × Mem) => XX D ad cI cJ p l e (Rm 4 86) s m args below meth c Q 10 y3.2 18 [(0, .ref (ad 24)), (2, .ref (ad 2)), (3, .int q1.1), (4, .int y3.1)] []) (Ex := fun (q13 : Mem) => XX D ad cI cJ p l e (Rm 4 86) s m args below meth c Q 10 q13 152 [(0, .ref (ad 24)), (3, .int q1.1)] []) (fun y3 r h hback hexit => ?_) FU _ q13 hq13 ?_
  · unfold b_Line_polesTo_24_2_18 at h
    refine x_iload (pc := 18) B 3 dX5_polesTo_18 rfl ?_
    refine x_iload_n (pc := 20) B 2 dX5_polesTo_20 rfl rfl ?_
    refine x_icmp_gt (tgt := 152) (pc := 21) B dX5_polesTo_21 rfl (fun hc4 => ?_) (fun hc4 => ?_)
    · have h := iff_ hc4 h
      refine x_pick (lv' := [(0, .ref (ad 24)), (3, .int q1.1)]) [0, 2] rfl ?_
      have z := hexit y3.2 (Option.some.inj h).symm
      exact z
    · have h := ift hc4 h
      refine x_aload_n (pc := 24) B 1 dX5_polesTo_24 rfl rfl ?_
      refine x_get (T := TX4) (pc := 25) B 0 oi_2 rfl uw_4 (by decide) rfl tw_141 rfl dX5_polesTo_25 ?_
      refine x_aload_n (pc := 28) B 0 dX5_polesTo_28 rfl rfl ?_
      refine x_get (T := TX5) (pc := 29) B 5 oi_24 rfl uw_5 (by decide) rfl tw_274 rfl dX5_polesTo_29 ?_
      refine x_iload (pc := 32) B 3 dX5_polesTo_32 rfl ?_
      refine x_callSN (rest := [.ref (ad 3)]) (st' := [.int (atv (y3.2.1 27) 48 y3.1), .ref (ad 3)]) (pc := 34) B (T_CF_at 27 48 y3.1 ai_27 (by decide) y3.2) tw_575 tw_573 tw_574 tw_98 hd_CF_at ⟨Nat.le_of_ble_eq_true rfl, Nat.le_of_ble_eq_true rfl⟩ rfl rfl (Nat.le_of_ble_eq_true rfl) rfl dX5_polesTo_34 ?_
      refine x_callSN (rest := []) (st' := [.int (atv (y3.2.1 3) 48 (atv (y3.2.1 27) 48 y3.1))]) (pc := 37) B (T_CF_at 3 48 (atv (y3.2.1 27) 48 y3.1) ai_3 (by decide) y3.2) tw_575 tw_573 tw_574 tw_98 hd_CF_at ⟨Nat.le_of_ble_eq_true rfl, Nat.le_of_ble_eq_true rfl⟩ rfl rfl (Nat.le_of_ble_eq_true rfl) rfl dX5_polesTo_37 ?_
      refine x_istore (lv' := [(5, .int (atv (y3.2.1 3) 48 (atv (y3.2.1 27) 48 y3.1))), (0, .ref (ad 24)), (2, .ref (ad 2)), (3, .int q1.1), (4, .int y3.1)]) (pc := 40) B dX5_polesTo_40 (by decide) rfl ?_
      refine x_bipush (v := 48) (pc := 42) B dX5_polesTo_42 rfl ?_
      refine x_istore (lv' := [(6, .int 48), (5, .int (atv (y3.2.1 3) 48 (atv (y3.2.1 27) 48 y3.1))), (0, .ref (ad 24)), (2, .ref (ad 2)), (3, .int q1.1), (4, .int y3.1)]) (pc := 44) B dX5_polesTo_44 (by decide) rfl ?_
      refine x_iconst (v := 0) (pc := 46) B dX5_polesTo_46 rfl ?_
      refine x_istore (lv' := [(7, .int 0), (6, .int 48), (5, .int (atv (y3.2.1 3) 48 (atv (y3.2.1 27) 48 y3.1))), (0, .ref (ad 24)), (2, .ref (ad 2)), (3, .int q1.1), (4, .int y3.1)]) (pc := 47) B dX5_polesTo_47 (by decide) rfl ?_
      refine x_iload (pc := 49) B 6 dX5_polesTo_49 rfl ?_
      refine x_iconst (v := 1) (pc := 51) B dX5_polesTo_51 rfl ?_
      refine x_isub (pc := 52) B dX5_polesTo_52 ?_
      refine x_istore (lv' := [(8, .int (y3.1 - 1)), (7, .int 0), (6, .int 48), (5, .int (atv (y3.2.1 3) 48 (atv (y3.2.1 27) 48 y3.1))), (0, .ref (ad 24)), (2, .ref (ad 2)), (3, .int q1.1), (4, .int y3.1)]) (pc := 53) B dX5_polesTo_53 (by decide) rfl ?_
      refine x_pick (lv' := [(0, .ref (ad 24)), (2, .ref (ad 2)), (3, .int q1.1), (4, .int y3.1), (5, .int (atv (y3.2.1 3) 48 (atv (y3.2.1 27) 48 y3.1))), (6, .int 48), (7, .int 0), (8, .int (y3.1 - 1))]) [4, 5, 6, 7, 3, 2, 1, 0] rfl ?_
      obtain ⟨q11, hq11, h⟩ := bnd h
      refine x_loop (Head := fun (y5 : Int32 × Int32 × Int32) => XX D ad cI cJ p l e (Rm 4 86) s m args below meth c Q 10 y3.2 55 [(0, .ref (ad 24)), (2, .ref (ad 2)), (3, .int q1.1), (4, .int y3.1), (5, .int (atv (y3.2.1 3) 48 (atv (y3.2.1 27) 48 y3.1))), (6, .int y5.1), (7, .int y5.2.1), (8, .int y5.2.2)] []) (Ex := fun (q11 : Int32) => XX D ad cI cJ p l e (Rm 4 86) s m args below meth c Q 10 y3.2 135 [(0, .ref (ad 24)), (2, .ref (ad 2)), (3, .int q1.1), (4, .int y3.1), (6, .int q11)] []) (fun y5 r h hback hexit => ?_) FU _ q11 hq11 ?_
      · unfold b_Line_polesTo_24_2_55 at h
        refine x_iload (pc := 55) B 7 dX5_polesTo_55 rfl ?_
        refine x_if_lt (tgt := 135) (pc := 57) B dX5_polesTo_57 rfl (fun hc6 => ?_) (fun hc6 => ?_)
        · have h := ift hc6 h
          refine x_pick (lv' := [(0, .ref (ad 24)), (2, .ref (ad 2)), (3, .int q1.1), (4, .int y3.1), (6, .int y5.1)]) [0, 1, 2, 3, 5] rfl ?_
          have z := hexit y5.1 (Option.some.inj h).symm
          exact z
        · have h := iff_ hc6 h
          refine x_iload (pc := 60) B 3 dX5_polesTo_60 rfl ?_
          refine x_iload (pc := 62) B 7 dX5_polesTo_62 rfl ?_
          refine x_isub (pc := 64) B dX5_polesTo_64 ?_
          refine x_aload_n (pc := 65) B 0 dX5_polesTo_65 rfl rfl ?_
          refine x_get (T := TX5) (pc := 66) B 3 oi_24 rfl uw_5 (by decide) rfl tw_269 rfl dX5_polesTo_66 ?_
          refine x_icmp_gt (tgt := 135) (pc := 69) B dX5_polesTo_69 rfl (fun hc7 => ?_) (fun hc7 => ?_)
          · have h := iff_ hc7 h
            refine x_pick (lv' := [(0, .ref (ad 24)), (2, .ref (ad 2)), (3, .int q1.1), (4, .int y3.1), (6, .int y5.1)]) [0, 1, 2, 3, 5] rfl ?_
            have z := hexit y5.1 (Option.some.inj h).symm
            exact z
          · have h := ift hc7 h
            refine x_aload_n (pc := 72) B 1 dX5_polesTo_72 rfl rfl ?_
            refine x_get (T := TX4) (pc := 73) B 0 oi_2 rfl uw_4 (by decide) rfl tw_141 rfl dX5_polesTo_73 ?_
            refine x_aload_n (pc := 76) B 0 dX5_polesTo_76 rfl rfl ?_
            refine x_get (T := TX5) (pc := 77) B 5 oi_24 rfl uw_5 (by decide) rfl tw_274 rfl dX5_polesTo_77 ?_
            refine x_iload (pc := 80) B 7 dX5_polesTo_80 rfl ?_
            refine x_callSN (rest := [.ref (ad 3)]) (st' := [.int (atv (y3.2.1 27) 48 y5.2.2), .ref (ad 3)]) (pc := 82) B (T_CF_at 27 48 y5.2.2 ai_27 (by decide) y3.2) tw_575 tw_573 tw_574 tw_98 hd_CF_at ⟨Nat.le_of_ble_eq_true rfl, Nat.le_of_ble_eq_true rfl⟩ rfl rfl (Nat.le_of_ble_eq_true rfl) rfl dX5_polesTo_82 ?_
            refine x_callSN (rest := []) (st' := [.int (atv (y3.2.1 3) 48 (atv (y3.2.1 27) 48 y5.2.2))]) (pc := 85) B (T_CF_at 3 48 (atv (y3.2.1 27) 48 y5.2.2) ai_3 (by decide) y3.2) tw_575 tw_573 tw_574 tw_98 hd_CF_at ⟨Nat.le_of_ble_eq_true rfl, Nat.le_of_ble_eq_true rfl⟩ rfl rfl (Nat.le_of_ble_eq_true rfl) rfl dX5_polesTo_85 ?_
            refine x_istore (lv' := [(9, .int (atv (y3.2.1 3) 48 (atv (y3.2.1 27) 48 y5.2.2))), (0, .ref (ad 24)), (2, .ref (ad 2)), (3, .int q1.1), (4, .int y3.1), (5, .int (atv (y3.2.1 3) 48 (atv (y3.2.1 27) 48 y3.1))), (6, .int y5.1), (7, .int y5.2.1), (8, .int y5.2.2)]) (pc := 88) B dX5_polesTo_88 (by decide) rfl ?_
            refine x_iload (pc := 90) B 7 dX5_polesTo_90 rfl ?_
            refine x_iload (pc := 92) B 5 dX5_polesTo_92 rfl ?_
            refine x_iload (pc := 94) B 0 dX5_polesTo_94 rfl ?_
            refine x_mmax (pc := 96) B tw_1039 tw_608 tw_112 tw_609 (by decide) (Nat.le_of_ble_eq_true rfl) dX5_polesTo_96 ?_
            refine jv_k h (fun (u10 : Int32) => XX D ad cI cJ p l e (Rm 4 86) s m args below meth c Q 10 y3.2 120 [(0, .ref (ad 24)), (2, .ref (ad 2)), (3, .int q1.1), (4, .int y3.1), (5, .int (atv (y3.2.1 3) 48 (atv (y3.2.1 27) 48 y3.1))), (6, .int u10), (7, .int y5.2.1), (8, .int y5.2.2), (9, .int (atv (y3.2.1 3) 48 (atv (y3.2.1 27) 48 y5.2.2)))] []) (fun u10 h => ?_) (fun JJ => ?_)
            · refine x_iload (pc := 120) B 6 dX5_polesTo_120 rfl ?_
              refine x_iload (pc := 122) B 8 dX5_polesTo_122 rfl ?_
              refine x_mmax (pc := 124) B tw_1039 tw_608 tw_112 tw_609 (by decide) (Nat.le_of_ble_eq_true rfl) dX5_polesTo_124 ?_
              refine x_istore (lv' := [(7, .int (jmax y5.2.1 (atv (y3.2.1 3) 48 (atv (y3.2.1 27) 48 y5.2.2)))), (0, .ref (ad 24)), (2, .ref (ad 2)), (3, .int q1.1), (4, .int y3.1), (5, .int (atv (y3.2.1 3) 48 (atv (y3.2.1 27) 48 y3.1))), (6, .int u10), (8, .int y5.2.2), (9, .int (atv (y3.2.1 3) 48 (atv (y3.2.1 27) 48 y5.2.2)))]) (pc := 127) B dX5_polesTo_127 (by decide) rfl ?_
              refine x_iinc (k := 7) (v := y5.2.2 + (-1)) (lv' := [(8, .int (y5.2.2 + (-1))), (7, .int (jmax y5.2.1 (atv (y3.2.1 3) 48 (atv (y3.2.1 27) 48 y5.2.2)))), (0, .ref (ad 24)), (2, .ref (ad 2)), (3, .int q1.1), (4, .int y3.1), (5, .int (atv (y3.2.1 3) 48 (atv (y3.2.1 27) 48 y3.1))), (6, .int u10), (9, .int (atv (y3.2.1 3) 48 (atv (y3.2.1 27) 48 y5.2.2)))]) (pc := 129) B dX5_polesTo_129 rfl rfl (by decide) rfl ?_
              refine x_goto (tgt := 55) (pc := 132) B dX5_polesTo_132 rfl ?_
              refine x_pick (lv' := [(0, .ref (ad 24)), (2, .ref (ad 2)), (3, .int q1.1), (4, .int y3.1), (5, .int (atv (y3.2.1 3) 48 (atv (y3.2.1 27) 48 y3.1))), (6, .int u10), (7, .int (jmax y5.2.1 (atv (y3.2.1 3) 48 (atv (y3.2.1 27) 48 y5.2.2)))), (8, .int (y5.2.2 + (-1)))]) [2, 3, 4, 5, 6, 7, 1, 0] rfl ?_
              have z := hback (u10, jmax y5.2.1 (atv (y3.2.1 3) 48 (atv (y3.2.1 27) 48 y5.2.2)), y5.2.2 + (-1)) (Option.some.inj h).symm
              exact z
            · refine x_icmp_gt (tgt := 120) (pc := 99) B dX5_polesTo_99 rfl (fun hc8 => ?_) (fun hc8 => ?_)
              · refine x_pick (lv' := [(0, .ref (ad 24)), (2, .ref (ad 2)), (3, .int q1.1), (4, .int y3.1), (5, .int (atv (y3.2.1 3) 48 (atv (y3.2.1 27) 48 y3.1))), (6, .int y5.1), (7, .int y5.2.1), (8, .int y5.2.2), (9, .int (atv (y3.2.1 3) 48 (atv (y3.2.1 27) 48 y5.2.2)))]) [1, 2, 3, 4, 5, 6, 7, 8, 0] rfl ?_
                have z := JJ y5.1 ((zif_f hc8).trans rfl)
                exact z
              · refine x_iload (pc := 102) B 6 dX5_polesTo_102 rfl ?_
                refine x_aload_n (pc := 104) B 1 dX5_polesTo_104 rfl rfl ?_
                refine x_get (T := TX5) (pc := 105) B 6 oi_24 rfl uw_5 (by decide) rfl tw_275 rfl dX5_polesTo_105 ?_
                refine x_iload (pc := 108) B 8 dX5_polesTo_108 rfl ?_
                refine x_callSN (rest := [.int y5.1]) (st' := [.int (atv (y3.2.1 28) 48 y5.2.2), .int y5.1]) (pc := 110) B (T_CF_at 28 48 y5.2.2 ai_28 (by decide) y3.2) tw_575 tw_573 tw_574 tw_98 hd_CF_at ⟨Nat.le_of_ble_eq_true rfl, Nat.le_of_ble_eq_true rfl⟩ rfl rfl (Nat.le_of_ble_eq_true rfl) rfl dX5_polesTo_110 ?_
                refine x_iconst (v := 1) (pc := 113) B dX5_polesTo_113 rfl ?_
                refine x_iadd (pc := 114) B dX5_polesTo_114 ?_
                refine x_mmin (pc := 115) B tw_1040 tw_753 tw_112 tw_754 (by decide) (Nat.le_of_ble_eq_true rfl) dX5_polesTo_115 ?_
                refine x_istore (lv' := [(6, .int (jmin y5.1 ((atv (y3.2.1 28) 48 y5.2.2) + 1))), (9, .int (atv (y3.2.1 3) 48 (atv (y3.2.1 27) 48 y5.2.2))), (0, .ref (ad 24)), (2, .ref (ad 2)), (3, .int q1.1), (4, .int y3.1), (5, .int (atv (y3.2.1 3) 48 (atv (y3.2.1 27) 48 y3.1))), (7, .int y5.2.1), (8, .int y5.2.2)]) (pc := 118) B dX5_polesTo_118 (by decide) rfl ?_
                refine x_pick (lv' := [(0, .ref (ad 24)), (2, .ref (ad 2)), (3, .int q1.1), (4, .int y3.1), (5, .int (atv (y3.2.1 3) 48 (atv (y3.2.1 27) 48 y3.1))), (6, .int (jmin y5.1 ((atv (y3.2.1 28) 48 y5.2.2) + 1))), (7, .int y5.2.1), (8, .int y5.2.2), (9, .int (atv (y3.2.1 3) 48 (atv (y3.2.1 27) 48 y5.2.2)))]) [2, 3, 4, 5, 6, 0, 7, 8, 1] rfl ?_
                have z := JJ (jmin y5.1 ((atv (y3.2.1 28) 48 y5.2.2) + 1)) ((zif_t hc8).trans rfl)
                exact z
      · refine x_aload_n (pc := 135) B 0 dX5_polesTo_135 rfl rfl ?_
        refine x_get (T := TX5) (pc := 136) B 6 oi_24 rfl uw_5 (by decide) rfl tw_275 rfl dX5_polesTo_136 ?_
        refine x_iload (pc := 139) B 3 dX5_polesTo_139 rfl ?_
        refine x_iload (pc := 141) B 4 dX5_polesTo_141 rfl ?_
        refine x_callSN (rest := []) (st' := []) (pc := 143) B (T_CF_put 28 48 y3.1 q11 ai_28 (by decide) y3.2) tw_588 tw_719 tw_587 tw_98 hd_CF_put ⟨Nat.le_of_ble_eq_true rfl, Nat.le_of_ble_eq_true rfl⟩ rfl rfl (Nat.le_of_ble_eq_true rfl) rfl dX5_polesTo_143 ?_
        refine jv_m (P := fun M12 => XX D ad cI cJ p l e (Rm 4 86) s m args below meth c Q 10 M12 146 [(0, .ref (ad 24)), (2, .ref (ad 2)), (3, .int q1.1), (4, .int y3.1), (6, .int q11)] []) h (fun M12 h => ?_)
        refine x_iinc (k := 3) (v := y3.1 + 1) (lv' := [(4, .int (y3.1 + 1)), (0, .ref (ad 24)), (2, .ref (ad 2)), (3, .int q1.1), (6, .int q11)]) (pc := 146) B dX5_polesTo_146 rfl rfl (by decide) rfl ?_
        refine x_goto (tgt := 18) (pc := 149) B dX5_polesTo_149 rfl ?_
        refine x_pick (lv' := [(0, .ref (ad 24)), (2, .ref (ad 2)), (3, .int q1.1), (4, .int (y3.1 + 1))]) [1, 2, 3, 0] rfl ?_
        have z := hback (y3.1 + 1, M12) (Option.some.inj h).symm
        exact z
  · refine x_aload_n (pc := 152) B 0 dX5_polesTo_152 rfl rfl ?_
    refine x_get (T := TX5) (pc := 153) B 6 oi_24 rfl uw_5 (by decide) rfl tw_275 rfl dX5_polesTo_153 ?_
    refine x_iload_n (pc := 156) B 1 dX5_polesTo_156 rfl rfl ?_
    refine x_callSN (rest := []) (st' := [.int (atv (q13.1 28) 48 q1.1)]) (pc := 157) B (T_CF_at 28 48 q1.1 ai_28 (by decide) q13) tw_575 tw_573 tw_574 tw_98 hd_CF_at ⟨Nat.le_of_ble_eq_true rfl, Nat.le_of_ble_eq_true rfl⟩ rfl rfl (Nat.le_of_ble_eq_true rfl) rfl dX5_polesTo_157 ?_
    obtain rfl := Option.some.inj h
    exact x_iret (pc := 160) B hQ dX5_polesTo_160
-- CurrentFarms.pole(I)I [0]
abbrev y_CF_pole_0 : MethodName := ⟨"CurrentFarms", "pole", "(I)I"⟩
abbrev cX11_pole : ByteArray := prog_1_method_21_code
theorem dX11_pole_0 : decode cX11_pole 0 = .ok (.aload_n 0, 1) := by decide +kernel
theorem dX11_pole_1 : decode cX11_pole 1 = .ok (.iload_n 1, 1) := by decide +kernel
theorem dX11_pole_2 : decode cX11_pole 2 = .ok (.invokevirtual 126, 3) := by decide +kernel
theorem dX11_pole_5 : decode cX11_pole 5 = .ok (.ifCond .ne 5, 3) := by decide +kernel
theorem dX11_pole_8 : decode cX11_pole 8 = .ok (.iconst (-1), 1) := by decide +kernel
theorem dX11_pole_9 : decode cX11_pole 9 = .ok (.ireturn, 1) := by decide +kernel
theorem dX11_pole_10 : decode cX11_pole 10 = .ok (.aload_n 0, 1) := by decide +kernel
theorem dX11_pole_11 : decode cX11_pole 11 = .ok (.getfield 12, 3) := by decide +kernel
theorem dX11_pole_14 : decode cX11_pole 14 = .ok (.getfield 43, 3) := by decide +kernel
theorem dX11_pole_17 : decode cX11_pole 17 = .ok (.iload_n 1, 1) := by decide +kernel
theorem dX11_pole_18 : decode cX11_pole 18 = .ok (.invokevirtual 233, 3) := by decide +kernel
theorem dX11_pole_21 : decode cX11_pole 21 = .ok (.istore_n 2, 1) := by decide +kernel
theorem dX11_pole_22 : decode cX11_pole 22 = .ok (.aload_n 0, 1) := by decide +kernel
theorem dX11_pole_23 : decode cX11_pole 23 = .ok (.iload_n 2, 1) := by decide +kernel
theorem dX11_pole_24 : decode cX11_pole 24 = .ok (.invokevirtual 195, 3) := by decide +kernel
theorem dX11_pole_27 : decode cX11_pole 27 = .ok (.ifCond .eq 24, 3) := by decide +kernel
theorem dX11_pole_30 : decode cX11_pole 30 = .ok (.aload_n 0, 1) := by decide +kernel
theorem dX11_pole_31 : decode cX11_pole 31 = .ok (.getfield 12, 3) := by decide +kernel
theorem dX11_pole_34 : decode cX11_pole 34 = .ok (.getfield 107, 3) := by decide +kernel
theorem dX11_pole_37 : decode cX11_pole 37 = .ok (.iload_n 2, 1) := by decide +kernel
theorem dX11_pole_38 : decode cX11_pole 38 = .ok (.aload_n 0, 1) := by decide +kernel
theorem dX11_pole_39 : decode cX11_pole 39 = .ok (.getfield 12, 3) := by decide +kernel
theorem dX11_pole_42 : decode cX11_pole 42 = .ok (.getfield 43, 3) := by decide +kernel
theorem dX11_pole_45 : decode cX11_pole 45 = .ok (.invokevirtual 236, 3) := by decide +kernel
theorem dX11_pole_48 : decode cX11_pole 48 = .ok (.goto 5, 3) := by decide +kernel
theorem dX11_pole_51 : decode cX11_pole 51 = .ok (.bipush (-3), 2) := by decide +kernel
theorem dX11_pole_53 : decode cX11_pole 53 = .ok (.ireturn, 1) := by decide +kernel
theorem hd_CF_pole_0 : y_CF_pole_0.cls ≠ "java/lang/invoke/MethodHandle" ∧ y_CF_pole_0.cls ≠ "java/lang/invoke/VarHandle" ∧ (parseMethodDescriptor y_CF_pole_0.desc).map (fun d => d.parameters.length) = some 1 := by decide +kernel
def f_CF_pole_0 (a1 : Int32) (M0 : Mem) : Option (Int32 × Mem) :=
  (f_CF_isFarm_0 a1 M0).bind fun q1 => if q1 then ((f_Land_cellOf_2 a1 M0).bind fun q3 => (f_CF_isOnLine_0 q3 M0).bind fun q4 => if q4 then ((f_Line_polesTo_24_2 q3 M0).bind fun q6 => some (q6.1, q6.2)) else (some ((-3), M0))) else (some ((-1), M0))
set_option maxHeartbeats 4000000 in
set_option maxRecDepth 20000 in
theorem C_CF_pole_0 {D : va_G} {ad adK adV : Nat → Nat} {cI cJ : ClassId} {l : Launch} (a1 : Int32) (M0 : Mem) (o : Int32 × Mem) (h : f_CF_pole_0 a1 M0 = some o) : Ct D ad adK adV cI cJ l y_CF_pole_0 cX11_pole 3 (some .int) 5 115 [.ref (ad 0), .int a1] M0 (some (.int o.1)) o.2 := by
  refine x_start (lv := [(0, .ref (ad 0)), (1, .int a1)]) (own := "CurrentFarms") rfl (by decide) (Nat.le_of_ble_eq_true rfl) rfl ?_
  intro p e s m args below meth c Q hQ B
  unfold f_CF_pole_0 at h
  refine x_aload_n (pc := 0) B 0 dX11_pole_0 rfl rfl ?_
  refine x_iload_n (pc := 1) B 1 dX11_pole_1 rfl rfl ?_
  obtain ⟨q1, hq1, h⟩ := bnd h
  refine x_callV (rest := []) (st' := [.int (bI q1)]) (pc := 2) B oi_0 rfl (C_CF_isFarm_0 a1 M0 _ hq1) tw_638 tw_635 tw_637 tw_2 tw_98 hd_CF_isFarm_0 ⟨Nat.le_of_ble_eq_true rfl, Nat.le_of_ble_eq_true rfl⟩ rfl rfl (Nat.le_of_ble_eq_true rfl) rfl dX11_pole_2 ?_
  refine x_if_ne_b (tgt := 10) (pc := 5) B dX11_pole_5 rfl (fun hc2 => ?_) (fun hc2 => ?_)
  · have h := ift hc2 h
    refine x_aload_n (pc := 10) B 0 dX11_pole_10 rfl rfl ?_
    refine x_get (T := TX11) (pc := 11) B 0 oi_0 rfl uw_11 (by decide) rfl tw_525 rfl dX11_pole_11 ?_
    refine x_get (T := TX8) (pc := 14) B 0 oi_1 rfl uw_8 (by decide) rfl tw_359 rfl dX11_pole_14 ?_
    refine x_iload_n (pc := 17) B 1 dX11_pole_17 rfl rfl ?_
    obtain ⟨q3, hq3, h⟩ := bnd h
    refine x_callV (rest := []) (st' := [.int q3]) (pc := 18) B oi_2 rfl (C_Land_cellOf_2 a1 M0 _ hq3) tw_583 tw_1033 tw_581 tw_582 tw_100 hd_Land_cellOf_2 ⟨Nat.le_of_ble_eq_true rfl, Nat.le_of_ble_eq_true rfl⟩ rfl rfl (Nat.le_of_ble_eq_true rfl) rfl dX11_pole_18 ?_
    refine x_istore_n (lv' := [(2, .int q3), (0, .ref (ad 0)), (1, .int a1)]) (pc := 21) B dX11_pole_21 rfl (by decide) rfl ?_
    refine x_aload_n (pc := 22) B 1 dX11_pole_22 rfl rfl ?_
    refine x_iload_n (pc := 23) B 0 dX11_pole_23 rfl rfl ?_
    obtain ⟨q4, hq4, h⟩ := bnd h
    refine x_callV (rest := []) (st' := [.int (bI q4)]) (pc := 24) B oi_0 rfl (C_CF_isOnLine_0 q3 M0 _ hq4) tw_567 tw_564 tw_566 tw_1 tw_98 hd_CF_isOnLine_0 ⟨Nat.le_of_ble_eq_true rfl, Nat.le_of_ble_eq_true rfl⟩ rfl rfl (Nat.le_of_ble_eq_true rfl) rfl dX11_pole_24 ?_
    refine x_if_eq_b (tgt := 51) (pc := 27) B dX11_pole_27 rfl (fun hc5 => ?_) (fun hc5 => ?_)
    · have h := iff_ hc5 h
      refine x_bipush (v := (-3)) (pc := 51) B dX11_pole_51 rfl ?_
      obtain rfl := Option.some.inj h
      exact x_iret (pc := 53) B hQ dX11_pole_53
    · have h := ift hc5 h
      refine x_aload_n (pc := 30) B 1 dX11_pole_30 rfl rfl ?_
      refine x_get (T := TX11) (pc := 31) B 0 oi_0 rfl uw_11 (by decide) rfl tw_525 rfl dX11_pole_31 ?_
      refine x_get (T := TX8) (pc := 34) B 3 oi_1 rfl uw_8 (by decide) rfl tw_374 rfl dX11_pole_34 ?_
      refine x_iload_n (pc := 37) B 0 dX11_pole_37 rfl rfl ?_
      refine x_aload_n (pc := 38) B 1 dX11_pole_38 rfl rfl ?_
      refine x_get (T := TX11) (pc := 39) B 0 oi_0 rfl uw_11 (by decide) rfl tw_525 rfl dX11_pole_39 ?_
      refine x_get (T := TX8) (pc := 42) B 0 oi_1 rfl uw_8 (by decide) rfl tw_359 rfl dX11_pole_42 ?_
      obtain ⟨q6, hq6, h⟩ := bnd h
      refine x_callV (rest := []) (st' := [.int q6.1]) (pc := 45) B oi_24 rfl (C_Line_polesTo_24_2 q3 M0 _ hq6) tw_1037 tw_1034 tw_1035 tw_1036 tw_103 hd_Line_polesTo_24_2 ⟨Nat.le_of_ble_eq_true rfl, Nat.le_of_ble_eq_true rfl⟩ rfl rfl (Nat.le_of_ble_eq_true rfl) rfl dX11_pole_45 ?_
      refine x_goto (tgt := 53) (pc := 48) B dX11_pole_48 rfl ?_
      obtain rfl := Option.some.inj h
      exact x_iret (pc := 53) B hQ dX11_pole_53
  · have h := iff_ hc2 h
    refine x_iconst (v := (-1)) (pc := 8) B dX11_pole_8 rfl ?_
    obtain rfl := Option.some.inj h
    exact x_iret (pc := 9) B hQ dX11_pole_9
-- CurrentFarms.left()I [0]
abbrev y_CF_left_0 : MethodName := ⟨"CurrentFarms", "left", "()I"⟩
abbrev cX11_left : ByteArray := prog_1_method_22_code
theorem dX11_left_0 : decode cX11_left 0 = .ok (.aload_n 0, 1) := by decide +kernel
theorem dX11_left_1 : decode cX11_left 1 = .ok (.getfield 12, 3) := by decide +kernel
theorem dX11_left_4 : decode cX11_left 4 = .ok (.getfield 132, 3) := by decide +kernel
theorem dX11_left_7 : decode cX11_left 7 = .ok (.aload_n 0, 1) := by decide +kernel
theorem dX11_left_8 : decode cX11_left 8 = .ok (.getfield 12, 3) := by decide +kernel
theorem dX11_left_11 : decode cX11_left 11 = .ok (.getfield 123, 3) := by decide +kernel
theorem dX11_left_14 : decode cX11_left 14 = .ok (.iconst 0, 1) := by decide +kernel
theorem dX11_left_15 : decode cX11_left 15 = .ok (.iconst 0, 1) := by decide +kernel
theorem dX11_left_16 : decode cX11_left 16 = .ok (.invokevirtual 163, 3) := by decide +kernel
theorem dX11_left_19 : decode cX11_left 19 = .ok (.aload_n 0, 1) := by decide +kernel
theorem dX11_left_20 : decode cX11_left 20 = .ok (.invokevirtual 219, 3) := by decide +kernel
theorem dX11_left_23 : decode cX11_left 23 = .ok (.iconst (-1), 1) := by decide +kernel
theorem dX11_left_24 : decode cX11_left 24 = .ok (.ixor, 1) := by decide +kernel
theorem dX11_left_25 : decode cX11_left 25 = .ok (.iand, 1) := by decide +kernel
theorem dX11_left_26 : decode cX11_left 26 = .ok (.ireturn, 1) := by decide +kernel
theorem hd_CF_left_0 : y_CF_left_0.cls ≠ "java/lang/invoke/MethodHandle" ∧ y_CF_left_0.cls ≠ "java/lang/invoke/VarHandle" ∧ (parseMethodDescriptor y_CF_left_0.desc).map (fun d => d.parameters.length) = some 0 := by decide +kernel
def f_CF_left_0  (M0 : Mem) : Option (Int32 × Mem) :=
  (f_Book_membersIn_7 (M0.1 1 6) 0 0 M0).bind fun q1 => (f_CF_farmsOnLine_0 q1.2).bind fun q2 => some (q1.1 &&& (q2 ^^^ (-1)), q1.2)
set_option maxHeartbeats 4000000 in
set_option maxRecDepth 20000 in
theorem C_CF_left_0 {D : va_G} {ad adK adV : Nat → Nat} {cI cJ : ClassId} {l : Launch}  (M0 : Mem) (o : Int32 × Mem) (h : f_CF_left_0  M0 = some o) : Ct D ad adK adV cI cJ l y_CF_left_0 cX11_left 1 (some .int) 4 94 [.ref (ad 0)] M0 (some (.int o.1)) o.2 := by
  refine x_start (lv := [(0, .ref (ad 0))]) (own := "CurrentFarms") rfl (by decide) (Nat.le_of_ble_eq_true rfl) rfl ?_
  intro p e s m args below meth c Q hQ B
  unfold f_CF_left_0 at h
  refine x_aload_n (pc := 0) B 0 dX11_left_0 rfl rfl ?_
  refine x_get (T := TX11) (pc := 1) B 0 oi_0 rfl uw_11 (by decide) rfl tw_525 rfl dX11_left_1 ?_
  refine x_get (T := TX8) (pc := 4) B 1 oi_1 rfl uw_8 (by decide) rfl tw_367 rfl dX11_left_4 ?_
  refine x_aload_n (pc := 7) B 0 dX11_left_7 rfl rfl ?_
  refine x_get (T := TX11) (pc := 8) B 0 oi_0 rfl uw_11 (by decide) rfl tw_525 rfl dX11_left_8 ?_
  refine x_get (T := TX8) (pc := 11) B 6 oi_1 rfl uw_8 (by decide) rfl tw_384 rfl dX11_left_11 ?_
  refine x_iconst (v := 0) (pc := 14) B dX11_left_14 rfl ?_
  refine x_iconst (v := 0) (pc := 15) B dX11_left_15 rfl ?_
  obtain ⟨q1, hq1, h⟩ := bnd h
  refine x_callV (rest := []) (st' := [.int q1.1]) (pc := 16) B oi_7 rfl (C_Book_membersIn_7 (M0.1 1 6) 0 0 M0 _ hq1) tw_791 tw_788 tw_789 tw_790 tw_101 hd_Book_membersIn_7 ⟨Nat.le_of_ble_eq_true rfl, Nat.le_of_ble_eq_true rfl⟩ rfl rfl (Nat.le_of_ble_eq_true rfl) rfl dX11_left_16 ?_
  refine x_aload_n (pc := 19) B 0 dX11_left_19 rfl rfl ?_
  obtain ⟨q2, hq2, h⟩ := bnd h
  refine x_callV (rest := [.int q1.1]) (st' := [.int q2, .int q1.1]) (pc := 20) B oi_0 rfl (C_CF_farmsOnLine_0  q1.2 _ hq2) tw_1015 tw_1012 tw_1014 tw_30 tw_98 hd_CF_farmsOnLine_0 ⟨Nat.le_of_ble_eq_true rfl, Nat.le_of_ble_eq_true rfl⟩ rfl rfl (Nat.le_of_ble_eq_true rfl) rfl dX11_left_20 ?_
  refine x_iconst (v := (-1)) (pc := 23) B dX11_left_23 rfl ?_
  refine x_ixor (pc := 24) B dX11_left_24 ?_
  refine x_iand (pc := 25) B dX11_left_25 ?_
  obtain rfl := Option.some.inj h
  exact x_iret (pc := 26) B hQ dX11_left_26
-- CurrentFarms$Ways.ahead(I)I [81]
abbrev y_Ways_ahead_81 : MethodName := ⟨"CurrentFarms$Ways", "ahead", "(I)I"⟩
abbrev cX10_ahead : ByteArray := prog_12_method_10_code
theorem dX10_ahead_0 : decode cX10_ahead 0 = .ok (.iconst 0, 1) := by decide +kernel
theorem dX10_ahead_1 : decode cX10_ahead 1 = .ok (.istore_n 2, 1) := by decide +kernel
theorem dX10_ahead_2 : decode cX10_ahead 2 = .ok (.iload_n 2, 1) := by decide +kernel
theorem dX10_ahead_3 : decode cX10_ahead 3 = .ok (.iconst 4, 1) := by decide +kernel
theorem dX10_ahead_4 : decode cX10_ahead 4 = .ok (.if_icmp .ge 59, 3) := by decide +kernel
theorem dX10_ahead_7 : decode cX10_ahead 7 = .ok (.aload_n 0, 1) := by decide +kernel
theorem dX10_ahead_8 : decode cX10_ahead 8 = .ok (.getfield 11, 3) := by decide +kernel
theorem dX10_ahead_11 : decode cX10_ahead 11 = .ok (.iload_n 1, 1) := by decide +kernel
theorem dX10_ahead_12 : decode cX10_ahead 12 = .ok (.iconst 4, 1) := by decide +kernel
theorem dX10_ahead_13 : decode cX10_ahead 13 = .ok (.imul, 1) := by decide +kernel
theorem dX10_ahead_14 : decode cX10_ahead 14 = .ok (.iload_n 2, 1) := by decide +kernel
theorem dX10_ahead_15 : decode cX10_ahead 15 = .ok (.iadd, 1) := by decide +kernel
theorem dX10_ahead_16 : decode cX10_ahead 16 = .ok (.invokestatic 62, 3) := by decide +kernel
theorem dX10_ahead_19 : decode cX10_ahead 19 = .ok (.istore_n 3, 1) := by decide +kernel
theorem dX10_ahead_20 : decode cX10_ahead 20 = .ok (.iload_n 1, 1) := by decide +kernel
theorem dX10_ahead_21 : decode cX10_ahead 21 = .ok (.iload_n 2, 1) := by decide +kernel
theorem dX10_ahead_22 : decode cX10_ahead 22 = .ok (.invokestatic 70, 3) := by decide +kernel
theorem dX10_ahead_25 : decode cX10_ahead 25 = .ok (.istore 4, 2) := by decide +kernel
theorem dX10_ahead_27 : decode cX10_ahead 27 = .ok (.iload 4, 2) := by decide +kernel
theorem dX10_ahead_29 : decode cX10_ahead 29 = .ok (.ifCond .lt 28, 3) := by decide +kernel
theorem dX10_ahead_32 : decode cX10_ahead 32 = .ok (.aload_n 0, 1) := by decide +kernel
theorem dX10_ahead_33 : decode cX10_ahead 33 = .ok (.getfield 15, 3) := by decide +kernel
theorem dX10_ahead_36 : decode cX10_ahead 36 = .ok (.iload 4, 2) := by decide +kernel
theorem dX10_ahead_38 : decode cX10_ahead 38 = .ok (.invokestatic 62, 3) := by decide +kernel
theorem dX10_ahead_41 : decode cX10_ahead 41 = .ok (.iload_n 3, 1) := by decide +kernel
theorem dX10_ahead_42 : decode cX10_ahead 42 = .ok (.iadd, 1) := by decide +kernel
theorem dX10_ahead_43 : decode cX10_ahead 43 = .ok (.aload_n 0, 1) := by decide +kernel
theorem dX10_ahead_44 : decode cX10_ahead 44 = .ok (.getfield 15, 3) := by decide +kernel
theorem dX10_ahead_47 : decode cX10_ahead 47 = .ok (.iload_n 1, 1) := by decide +kernel
theorem dX10_ahead_48 : decode cX10_ahead 48 = .ok (.invokestatic 62, 3) := by decide +kernel
theorem dX10_ahead_51 : decode cX10_ahead 51 = .ok (.if_icmp .ne 6, 3) := by decide +kernel
theorem dX10_ahead_54 : decode cX10_ahead 54 = .ok (.iload 4, 2) := by decide +kernel
theorem dX10_ahead_56 : decode cX10_ahead 56 = .ok (.ireturn, 1) := by decide +kernel
theorem dX10_ahead_57 : decode cX10_ahead 57 = .ok (.iinc 2 1, 3) := by decide +kernel
theorem dX10_ahead_60 : decode cX10_ahead 60 = .ok (.goto (-58), 3) := by decide +kernel
theorem dX10_ahead_63 : decode cX10_ahead 63 = .ok (.iload_n 1, 1) := by decide +kernel
theorem dX10_ahead_64 : decode cX10_ahead 64 = .ok (.ireturn, 1) := by decide +kernel
theorem hd_Ways_ahead_81 : y_Ways_ahead_81.cls ≠ "java/lang/invoke/MethodHandle" ∧ y_Ways_ahead_81.cls ≠ "java/lang/invoke/VarHandle" ∧ (parseMethodDescriptor y_Ways_ahead_81.desc).map (fun d => d.parameters.length) = some 1 := by decide +kernel
def b_Ways_ahead_81_2 (a1 : Int32) (M0 : Mem) (y1 : Int32) : Option ((Int32) ⊕ ((Unit) ⊕ (Int32))) :=
  if decide (y1 < 4) then ((f_Ways_neighbour a1 y1).bind fun q3 => if decide (q3 < 0) then (some (.inl (y1 + 1))) else (if decide (((atv (M0.1 83) 3072 q3) + (atv (M0.1 82) 192 ((a1 * 4) + y1))) = (atv (M0.1 83) 3072 a1)) then (some (.inr (.inr (q3)))) else (some (.inl (y1 + 1))))) else (some (.inr (.inl ())))
def f_Ways_ahead_81 (a1 : Int32) (M0 : Mem) : Option (Int32) :=
  (itr (b_Ways_ahead_81_2 a1 M0) FU 0).bind fun q6 => (Sum.elim (fun (y7 : Unit) => some a1) (fun (y8 : Int32) => some y8)) q6
set_option maxHeartbeats 4000000 in
set_option maxRecDepth 20000 in
theorem C_Ways_ahead_81 {D : va_G} {ad adK adV : Nat → Nat} {cI cJ : ClassId} {l : Launch} (a1 : Int32) (M0 : Mem) (o : Int32) (h : f_Ways_ahead_81 a1 M0 = some o) : Ct D ad adK adV cI cJ l y_Ways_ahead_81 cX10_ahead 5 (some .int) 3 65 [.ref (ad 81), .int a1] M0 (some (.int o)) M0 := by
  refine x_start (lv := [(0, .ref (ad 81)), (1, .int a1)]) (own := "CurrentFarms$Ways") rfl (by decide) (Nat.le_of_ble_eq_true rfl) rfl ?_
  intro p e s m args below meth c Q hQ B
  unfold f_Ways_ahead_81 at h
  refine x_iconst (v := 0) (pc := 0) B dX10_ahead_0 rfl ?_
  refine x_istore_n (lv' := [(2, .int 0), (0, .ref (ad 81)), (1, .int a1)]) (pc := 1) B dX10_ahead_1 rfl (by decide) rfl ?_
  refine x_pick (lv' := [(0, .ref (ad 81)), (1, .int a1), (2, .int 0)]) [1, 2, 0] rfl ?_
  obtain ⟨q6, hq6, h⟩ := bnd h
  refine x_loop (Head := fun (y1 : Int32) => XX D ad cI cJ p l e (Rm 3 65) s m args below meth c Q 5 M0 2 [(0, .ref (ad 81)), (1, .int a1), (2, .int y1)] []) (Ex := (Sum.elim (fun (y7 : Unit) => XX D ad cI cJ p l e (Rm 3 65) s m args below meth c Q 5 M0 63 [(1, .int a1)] []) (fun (y8 : Int32) => XX D ad cI cJ p l e (Rm 3 65) s m args below meth c Q 5 M0 54 [(4, .int y8)] []))) (fun y1 r h hback hexit => ?_) FU _ q6 hq6 ?_
  · unfold b_Ways_ahead_81_2 at h
    refine x_iload_n (pc := 2) B 2 dX10_ahead_2 rfl rfl ?_
    refine x_iconst (v := 4) (pc := 3) B dX10_ahead_3 rfl ?_
    refine x_icmp_ge (tgt := 63) (pc := 4) B dX10_ahead_4 rfl (fun hc2 => ?_) (fun hc2 => ?_)
    · have h := iff_ hc2 h
      refine x_pick (lv' := [(1, .int a1)]) [1] rfl ?_
      have z := hexit (.inl ()) (Option.some.inj h).symm
      exact z
    · have h := ift hc2 h
      refine x_aload_n (pc := 7) B 0 dX10_ahead_7 rfl rfl ?_
      refine x_get (T := TX10) (pc := 8) B 1 oi_81 rfl uw_10 (by decide) rfl tw_472 rfl dX10_ahead_8 ?_
      refine x_iload_n (pc := 11) B 1 dX10_ahead_11 rfl rfl ?_
      refine x_iconst (v := 4) (pc := 12) B dX10_ahead_12 rfl ?_
      refine x_imul (pc := 13) B dX10_ahead_13 ?_
      refine x_iload_n (pc := 14) B 2 dX10_ahead_14 rfl rfl ?_
      refine x_iadd (pc := 15) B dX10_ahead_15 ?_
      refine x_callSN (rest := []) (st' := [.int (atv (M0.1 82) 192 ((a1 * 4) + y1))]) (pc := 16) B (T_CF_at 82 192 ((a1 * 4) + y1) ai_82 (by decide) M0) tw_575 tw_998 tw_574 tw_98 hd_CF_at ⟨Nat.le_of_ble_eq_true rfl, Nat.le_of_ble_eq_true rfl⟩ rfl rfl (Nat.le_of_ble_eq_true rfl) rfl dX10_ahead_16 ?_
      refine x_istore_n (lv' := [(3, .int (atv (M0.1 82) 192 ((a1 * 4) + y1))), (0, .ref (ad 81)), (1, .int a1), (2, .int y1)]) (pc := 19) B dX10_ahead_19 rfl (by decide) rfl ?_
      refine x_iload_n (pc := 20) B 2 dX10_ahead_20 rfl rfl ?_
      refine x_iload_n (pc := 21) B 3 dX10_ahead_21 rfl rfl ?_
      obtain ⟨q3, hq3, h⟩ := bnd h
      refine x_callS (rest := []) (st' := [.int q3]) (pc := 22) B (C_Ways_neighbour a1 y1 M0 _ hq3) tw_984 tw_982 tw_983 tw_109 hd_Ways_neighbour ⟨Nat.le_of_ble_eq_true rfl, Nat.le_of_ble_eq_true rfl⟩ rfl rfl (Nat.le_of_ble_eq_true rfl) rfl dX10_ahead_22 ?_
      refine x_istore (lv' := [(4, .int q3), (3, .int (atv (M0.1 82) 192 ((a1 * 4) + y1))), (0, .ref (ad 81)), (1, .int a1), (2, .int y1)]) (pc := 25) B dX10_ahead_25 (by decide) rfl ?_
      refine x_iload (pc := 27) B 0 dX10_ahead_27 rfl ?_
      refine x_if_lt (tgt := 57) (pc := 29) B dX10_ahead_29 rfl (fun hc4 => ?_) (fun hc4 => ?_)
      · have h := ift hc4 h
        refine x_iinc (k := 4) (v := y1 + 1) (lv' := [(2, .int (y1 + 1)), (4, .int q3), (3, .int (atv (M0.1 82) 192 ((a1 * 4) + y1))), (0, .ref (ad 81)), (1, .int a1)]) (pc := 57) B dX10_ahead_57 rfl rfl (by decide) rfl ?_
        refine x_goto (tgt := 2) (pc := 60) B dX10_ahead_60 rfl ?_
        refine x_pick (lv' := [(0, .ref (ad 81)), (1, .int a1), (2, .int (y1 + 1))]) [3, 4, 0] rfl ?_
        have z := hback (y1 + 1) (Option.some.inj h).symm
        exact z
      · have h := iff_ hc4 h
        refine x_aload_n (pc := 32) B 2 dX10_ahead_32 rfl rfl ?_
        refine x_get (T := TX10) (pc := 33) B 2 oi_81 rfl uw_10 (by decide) rfl tw_473 rfl dX10_ahead_33 ?_
        refine x_iload (pc := 36) B 0 dX10_ahead_36 rfl ?_
        refine x_callSN (rest := []) (st' := [.int (atv (M0.1 83) 3072 q3)]) (pc := 38) B (T_CF_at 83 3072 q3 ai_83 (by decide) M0) tw_575 tw_998 tw_574 tw_98 hd_CF_at ⟨Nat.le_of_ble_eq_true rfl, Nat.le_of_ble_eq_true rfl⟩ rfl rfl (Nat.le_of_ble_eq_true rfl) rfl dX10_ahead_38 ?_
        refine x_iload_n (pc := 41) B 1 dX10_ahead_41 rfl rfl ?_
        refine x_iadd (pc := 42) B dX10_ahead_42 ?_
        refine x_aload_n (pc := 43) B 2 dX10_ahead_43 rfl rfl ?_
        refine x_get (T := TX10) (pc := 44) B 2 oi_81 rfl uw_10 (by decide) rfl tw_473 rfl dX10_ahead_44 ?_
        refine x_iload_n (pc := 47) B 3 dX10_ahead_47 rfl rfl ?_
        refine x_callSN (rest := [.int ((atv (M0.1 83) 3072 q3) + (atv (M0.1 82) 192 ((a1 * 4) + y1)))]) (st' := [.int (atv (M0.1 83) 3072 a1), .int ((atv (M0.1 83) 3072 q3) + (atv (M0.1 82) 192 ((a1 * 4) + y1)))]) (pc := 48) B (T_CF_at 83 3072 a1 ai_83 (by decide) M0) tw_575 tw_998 tw_574 tw_98 hd_CF_at ⟨Nat.le_of_ble_eq_true rfl, Nat.le_of_ble_eq_true rfl⟩ rfl rfl (Nat.le_of_ble_eq_true rfl) rfl dX10_ahead_48 ?_
        refine x_icmp_ne (tgt := 57) (pc := 51) B dX10_ahead_51 rfl (fun hc5 => ?_) (fun hc5 => ?_)
        · have h := iff_ hc5 h
          refine x_iinc (k := 4) (v := y1 + 1) (lv' := [(2, .int (y1 + 1)), (4, .int q3), (3, .int (atv (M0.1 82) 192 ((a1 * 4) + y1))), (0, .ref (ad 81)), (1, .int a1)]) (pc := 57) B dX10_ahead_57 rfl rfl (by decide) rfl ?_
          refine x_goto (tgt := 2) (pc := 60) B dX10_ahead_60 rfl ?_
          refine x_pick (lv' := [(0, .ref (ad 81)), (1, .int a1), (2, .int (y1 + 1))]) [3, 4, 0] rfl ?_
          have z := hback (y1 + 1) (Option.some.inj h).symm
          exact z
        · have h := ift hc5 h
          refine x_pick (lv' := [(4, .int q3)]) [0] rfl ?_
          have z := hexit (.inr (q3)) (Option.some.inj h).symm
          exact z
  · rcases q6 with y7 | rest0_8
    · have h := selL h
      refine x_iload_n (pc := 63) B 0 dX10_ahead_63 rfl rfl ?_
      obtain rfl := Option.some.inj h
      exact x_iret (pc := 64) B hQ dX10_ahead_64
    · have h := selR h
      obtain ⟨y8, rfl⟩ : ∃ z_, z_ = rest0_8 := ⟨_, rfl⟩
      refine x_iload (pc := 54) B 0 dX10_ahead_54 rfl ?_
      obtain rfl := Option.some.inj h
      exact x_iret (pc := 56) B hQ dX10_ahead_56
-- CurrentFarms$Ways.trace(I)V [81]
abbrev y_Ways_trace_81 : MethodName := ⟨"CurrentFarms$Ways", "trace", "(I)V"⟩
abbrev cX10_trace : ByteArray := prog_12_method_9_code
theorem dX10_trace_0 : decode cX10_trace 0 = .ok (.aload_n 0, 1) := by decide +kernel
theorem dX10_trace_1 : decode cX10_trace 1 = .ok (.lconst 0, 1) := by decide +kernel
theorem dX10_trace_2 : decode cX10_trace 2 = .ok (.putfield 95, 3) := by decide +kernel
theorem dX10_trace_5 : decode cX10_trace 5 = .ok (.aload_n 0, 1) := by decide +kernel
theorem dX10_trace_6 : decode cX10_trace 6 = .ok (.iconst 0, 1) := by decide +kernel
theorem dX10_trace_7 : decode cX10_trace 7 = .ok (.putfield 99, 3) := by decide +kernel
theorem dX10_trace_10 : decode cX10_trace 10 = .ok (.aload_n 0, 1) := by decide +kernel
theorem dX10_trace_11 : decode cX10_trace 11 = .ok (.getfield 21, 3) := by decide +kernel
theorem dX10_trace_14 : decode cX10_trace 14 = .ok (.iconst 0, 1) := by decide +kernel
theorem dX10_trace_15 : decode cX10_trace 15 = .ok (.iload_n 1, 1) := by decide +kernel
theorem dX10_trace_16 : decode cX10_trace 16 = .ok (.invokestatic 38, 3) := by decide +kernel
theorem dX10_trace_19 : decode cX10_trace 19 = .ok (.iload_n 1, 1) := by decide +kernel
theorem dX10_trace_20 : decode cX10_trace 20 = .ok (.istore_n 2, 1) := by decide +kernel
theorem dX10_trace_21 : decode cX10_trace 21 = .ok (.aload_n 0, 1) := by decide +kernel
theorem dX10_trace_22 : decode cX10_trace 22 = .ok (.getfield 15, 3) := by decide +kernel
theorem dX10_trace_25 : decode cX10_trace 25 = .ok (.iload_n 2, 1) := by decide +kernel
theorem dX10_trace_26 : decode cX10_trace 26 = .ok (.invokestatic 62, 3) := by decide +kernel
theorem dX10_trace_29 : decode cX10_trace 29 = .ok (.ifCond .le 67, 3) := by decide +kernel
theorem dX10_trace_32 : decode cX10_trace 32 = .ok (.aload_n 0, 1) := by decide +kernel
theorem dX10_trace_33 : decode cX10_trace 33 = .ok (.getfield 99, 3) := by decide +kernel
theorem dX10_trace_36 : decode cX10_trace 36 = .ok (.bipush 47, 2) := by decide +kernel
theorem dX10_trace_38 : decode cX10_trace 38 = .ok (.if_icmp .ge 58, 3) := by decide +kernel
theorem dX10_trace_41 : decode cX10_trace 41 = .ok (.aload_n 0, 1) := by decide +kernel
theorem dX10_trace_42 : decode cX10_trace 42 = .ok (.dup, 1) := by decide +kernel
theorem dX10_trace_43 : decode cX10_trace 43 = .ok (.getfield 95, 3) := by decide +kernel
theorem dX10_trace_46 : decode cX10_trace 46 = .ok (.lconst 1, 1) := by decide +kernel
theorem dX10_trace_47 : decode cX10_trace 47 = .ok (.iload_n 2, 1) := by decide +kernel
theorem dX10_trace_48 : decode cX10_trace 48 = .ok (.lshl, 1) := by decide +kernel
theorem dX10_trace_49 : decode cX10_trace 49 = .ok (.lor, 1) := by decide +kernel
theorem dX10_trace_50 : decode cX10_trace 50 = .ok (.putfield 95, 3) := by decide +kernel
theorem dX10_trace_53 : decode cX10_trace 53 = .ok (.aload_n 0, 1) := by decide +kernel
theorem dX10_trace_54 : decode cX10_trace 54 = .ok (.iload_n 2, 1) := by decide +kernel
theorem dX10_trace_55 : decode cX10_trace 55 = .ok (.invokevirtual 102, 3) := by decide +kernel
theorem dX10_trace_58 : decode cX10_trace 58 = .ok (.istore_n 3, 1) := by decide +kernel
theorem dX10_trace_59 : decode cX10_trace 59 = .ok (.aload_n 0, 1) := by decide +kernel
theorem dX10_trace_60 : decode cX10_trace 60 = .ok (.dup, 1) := by decide +kernel
theorem dX10_trace_61 : decode cX10_trace 61 = .ok (.getfield 99, 3) := by decide +kernel
theorem dX10_trace_64 : decode cX10_trace 64 = .ok (.iconst 1, 1) := by decide +kernel
theorem dX10_trace_65 : decode cX10_trace 65 = .ok (.iadd, 1) := by decide +kernel
theorem dX10_trace_66 : decode cX10_trace 66 = .ok (.putfield 99, 3) := by decide +kernel
theorem dX10_trace_69 : decode cX10_trace 69 = .ok (.aload_n 0, 1) := by decide +kernel
theorem dX10_trace_70 : decode cX10_trace 70 = .ok (.getfield 21, 3) := by decide +kernel
theorem dX10_trace_73 : decode cX10_trace 73 = .ok (.aload_n 0, 1) := by decide +kernel
theorem dX10_trace_74 : decode cX10_trace 74 = .ok (.getfield 99, 3) := by decide +kernel
theorem dX10_trace_77 : decode cX10_trace 77 = .ok (.iload_n 3, 1) := by decide +kernel
theorem dX10_trace_78 : decode cX10_trace 78 = .ok (.invokestatic 38, 3) := by decide +kernel
theorem dX10_trace_81 : decode cX10_trace 81 = .ok (.aload_n 0, 1) := by decide +kernel
theorem dX10_trace_82 : decode cX10_trace 82 = .ok (.getfield 21, 3) := by decide +kernel
theorem dX10_trace_85 : decode cX10_trace 85 = .ok (.aload_n 0, 1) := by decide +kernel
theorem dX10_trace_86 : decode cX10_trace 86 = .ok (.getfield 99, 3) := by decide +kernel
theorem dX10_trace_89 : decode cX10_trace 89 = .ok (.invokestatic 62, 3) := by decide +kernel
theorem dX10_trace_92 : decode cX10_trace 92 = .ok (.istore_n 2, 1) := by decide +kernel
theorem dX10_trace_93 : decode cX10_trace 93 = .ok (.goto (-72), 3) := by decide +kernel
theorem dX10_trace_96 : decode cX10_trace 96 = .ok (.return_, 1) := by decide +kernel
theorem hd_Ways_trace_81 : y_Ways_trace_81.cls ≠ "java/lang/invoke/MethodHandle" ∧ y_Ways_trace_81.cls ≠ "java/lang/invoke/VarHandle" ∧ (parseMethodDescriptor y_Ways_trace_81.desc).map (fun d => d.parameters.length) = some 1 := by decide +kernel
def b_Ways_trace_81_21  (y4 : Int32 × Mem) : Option ((Int32 × Mem) ⊕ (Mem)) :=
  if decide ((atv (y4.2.1 83) 3072 y4.1) ≤ 0) then (some (.inr y4.2)) else (if decide ((y4.2.1 81 5) < 47) then (jv_ (wL y4.2 81 7 ((y4.2.2 81 7) ||| (1 <<< (y4.1.toInt64 &&& 63)))) fun M7 => (f_Ways_ahead_81 y4.1 M7).bind fun q8 => jv_ (wI M7 81 5 ((M7.1 81 5) + 1)) fun M9 => jv_ (putv M9 85 48 (M9.1 81 5) q8) fun M10 => some (.inl (atv (M10.1 85) 48 (M10.1 81 5), M10))) else (some (.inr y4.2)))
def f_Ways_trace_81 (a1 : Int32) (M0 : Mem) : Option (Mem) :=
  jv_ (wL M0 81 7 0) fun M1 => jv_ (wI M1 81 5 0) fun M2 => jv_ (putv M2 85 48 0 a1) fun M3 => (itr (b_Ways_trace_81_21) FU (a1, M3)).bind fun q11 => some q11
set_option maxHeartbeats 4000000 in
set_option maxRecDepth 20000 in
theorem C_Ways_trace_81 {D : va_G} {ad adK adV : Nat → Nat} {cI cJ : ClassId} {l : Launch} (a1 : Int32) (M0 : Mem) (o : Mem) (h : f_Ways_trace_81 a1 M0 = some o) : Ct D ad adK adV cI cJ l y_Ways_trace_81 cX10_trace 4 none 4 89 [.ref (ad 81), .int a1] M0 none o := by
  refine x_start (lv := [(0, .ref (ad 81)), (1, .int a1)]) (own := "CurrentFarms$Ways") rfl (by decide) (Nat.le_of_ble_eq_true rfl) rfl ?_
  intro p e s m args below meth c Q hQ B
  unfold f_Ways_trace_81 at h
  refine x_aload_n (pc := 0) B 0 dX10_trace_0 rfl rfl ?_
  refine x_lconst (v := 0) (pc := 1) B dX10_trace_1 rfl ?_
  refine x_putJ (T := TX10) (pc := 2) B 7 oi_81 of_81_7 rfl uw_10 tyX10_ok nmX10 (by decide) rfl tw_479 rfl rfl rfl (Nat.le_of_ble_eq_true rfl) dX10_trace_2 ?_
  refine jv_m (P := fun M1 => XX D ad cI cJ p l e (Rm 4 89) s m args below meth c Q 4 M1 5 [(0, .ref (ad 81)), (1, .int a1)] []) h (fun M1 h => ?_)
  refine x_aload_n (pc := 5) B 0 dX10_trace_5 rfl rfl ?_
  refine x_iconst (v := 0) (pc := 6) B dX10_trace_6 rfl ?_
  refine x_put (T := TX10) (pc := 7) B 5 oi_81 of_81_5 rfl uw_10 tyX10_ok nmX10 (by decide) rfl tw_476 rfl rfl rfl (Nat.le_of_ble_eq_true rfl) dX10_trace_7 ?_
  refine jv_m (P := fun M2 => XX D ad cI cJ p l e (Rm 4 89) s m args below meth c Q 4 M2 10 [(0, .ref (ad 81)), (1, .int a1)] []) h (fun M2 h => ?_)
  refine x_aload_n (pc := 10) B 0 dX10_trace_10 rfl rfl ?_
  refine x_get (T := TX10) (pc := 11) B 4 oi_81 rfl uw_10 (by decide) rfl tw_475 rfl dX10_trace_11 ?_
  refine x_iconst (v := 0) (pc := 14) B dX10_trace_14 rfl ?_
  refine x_iload_n (pc := 15) B 1 dX10_trace_15 rfl rfl ?_
  refine x_callSN (rest := []) (st' := []) (pc := 16) B (T_CF_put 85 48 0 a1 ai_85 (by decide) M2) tw_588 tw_977 tw_587 tw_98 hd_CF_put ⟨Nat.le_of_ble_eq_true rfl, Nat.le_of_ble_eq_true rfl⟩ rfl rfl (Nat.le_of_ble_eq_true rfl) rfl dX10_trace_16 ?_
  refine jv_m (P := fun M3 => XX D ad cI cJ p l e (Rm 4 89) s m args below meth c Q 4 M3 19 [(0, .ref (ad 81)), (1, .int a1)] []) h (fun M3 h => ?_)
  refine x_iload_n (pc := 19) B 1 dX10_trace_19 rfl rfl ?_
  refine x_istore_n (lv' := [(2, .int a1), (0, .ref (ad 81)), (1, .int a1)]) (pc := 20) B dX10_trace_20 rfl (by decide) rfl ?_
  refine x_pick (lv' := [(0, .ref (ad 81)), (2, .int a1)]) [1, 0] rfl ?_
  obtain ⟨q11, hq11, h⟩ := bnd h
  refine x_loop (Head := fun (y4 : Int32 × Mem) => XX D ad cI cJ p l e (Rm 4 89) s m args below meth c Q 4 y4.2 21 [(0, .ref (ad 81)), (2, .int y4.1)] []) (Ex := fun (q11 : Mem) => XX D ad cI cJ p l e (Rm 4 89) s m args below meth c Q 4 q11 96 [] []) (fun y4 r h hback hexit => ?_) FU _ q11 hq11 ?_
  · unfold b_Ways_trace_81_21 at h
    refine x_aload_n (pc := 21) B 0 dX10_trace_21 rfl rfl ?_
    refine x_get (T := TX10) (pc := 22) B 2 oi_81 rfl uw_10 (by decide) rfl tw_473 rfl dX10_trace_22 ?_
    refine x_iload_n (pc := 25) B 1 dX10_trace_25 rfl rfl ?_
    refine x_callSN (rest := []) (st' := [.int (atv (y4.2.1 83) 3072 y4.1)]) (pc := 26) B (T_CF_at 83 3072 y4.1 ai_83 (by decide) y4.2) tw_575 tw_998 tw_574 tw_98 hd_CF_at ⟨Nat.le_of_ble_eq_true rfl, Nat.le_of_ble_eq_true rfl⟩ rfl rfl (Nat.le_of_ble_eq_true rfl) rfl dX10_trace_26 ?_
    refine x_if_le (tgt := 96) (pc := 29) B dX10_trace_29 rfl (fun hc5 => ?_) (fun hc5 => ?_)
    · have h := ift hc5 h
      refine x_pick (lv' := []) [] rfl ?_
      have z := hexit y4.2 (Option.some.inj h).symm
      exact z
    · have h := iff_ hc5 h
      refine x_aload_n (pc := 32) B 0 dX10_trace_32 rfl rfl ?_
      refine x_get (T := TX10) (pc := 33) B 5 oi_81 rfl uw_10 (by decide) rfl tw_476 rfl dX10_trace_33 ?_
      refine x_bipush (v := 47) (pc := 36) B dX10_trace_36 rfl ?_
      refine x_icmp_ge (tgt := 96) (pc := 38) B dX10_trace_38 rfl (fun hc6 => ?_) (fun hc6 => ?_)
      · have h := iff_ hc6 h
        refine x_pick (lv' := []) [] rfl ?_
        have z := hexit y4.2 (Option.some.inj h).symm
        exact z
      · have h := ift hc6 h
        refine x_aload_n (pc := 41) B 0 dX10_trace_41 rfl rfl ?_
        refine x_dup (pc := 42) B dX10_trace_42 rfl ?_
        refine x_get (T := TX10) (pc := 43) B 7 oi_81 rfl uw_10 (by decide) rfl tw_479 rfl dX10_trace_43 ?_
        refine x_lconst (v := 1) (pc := 46) B dX10_trace_46 rfl ?_
        refine x_iload_n (pc := 47) B 1 dX10_trace_47 rfl rfl ?_
        refine x_lshl (pc := 48) B dX10_trace_48 ?_
        refine x_lor (pc := 49) B dX10_trace_49 ?_
        refine x_putJ (T := TX10) (pc := 50) B 7 oi_81 of_81_7 rfl uw_10 tyX10_ok nmX10 (by decide) rfl tw_479 rfl rfl rfl (Nat.le_of_ble_eq_true rfl) dX10_trace_50 ?_
        refine jv_m (P := fun M7 => XX D ad cI cJ p l e (Rm 4 89) s m args below meth c Q 4 M7 53 [(0, .ref (ad 81)), (2, .int y4.1)] []) h (fun M7 h => ?_)
        refine x_aload_n (pc := 53) B 0 dX10_trace_53 rfl rfl ?_
        refine x_iload_n (pc := 54) B 1 dX10_trace_54 rfl rfl ?_
        obtain ⟨q8, hq8, h⟩ := bnd h
        refine x_callV (rest := []) (st' := [.int q8]) (pc := 55) B oi_81 rfl (C_Ways_ahead_81 y4.1 M7 _ hq8) tw_1062 tw_1059 tw_1061 tw_33 tw_109 hd_Ways_ahead_81 ⟨Nat.le_of_ble_eq_true rfl, Nat.le_of_ble_eq_true rfl⟩ rfl rfl (Nat.le_of_ble_eq_true rfl) rfl dX10_trace_55 ?_
        refine x_istore_n (lv' := [(3, .int q8), (0, .ref (ad 81)), (2, .int y4.1)]) (pc := 58) B dX10_trace_58 rfl (by decide) rfl ?_
        refine x_aload_n (pc := 59) B 1 dX10_trace_59 rfl rfl ?_
        refine x_dup (pc := 60) B dX10_trace_60 rfl ?_
        refine x_get (T := TX10) (pc := 61) B 5 oi_81 rfl uw_10 (by decide) rfl tw_476 rfl dX10_trace_61 ?_
        refine x_iconst (v := 1) (pc := 64) B dX10_trace_64 rfl ?_
        refine x_iadd (pc := 65) B dX10_trace_65 ?_
        refine x_put (T := TX10) (pc := 66) B 5 oi_81 of_81_5 rfl uw_10 tyX10_ok nmX10 (by decide) rfl tw_476 rfl rfl rfl (Nat.le_of_ble_eq_true rfl) dX10_trace_66 ?_
        refine jv_m (P := fun M9 => XX D ad cI cJ p l e (Rm 4 89) s m args below meth c Q 4 M9 69 [(3, .int q8), (0, .ref (ad 81)), (2, .int y4.1)] []) h (fun M9 h => ?_)
        refine x_aload_n (pc := 69) B 1 dX10_trace_69 rfl rfl ?_
        refine x_get (T := TX10) (pc := 70) B 4 oi_81 rfl uw_10 (by decide) rfl tw_475 rfl dX10_trace_70 ?_
        refine x_aload_n (pc := 73) B 1 dX10_trace_73 rfl rfl ?_
        refine x_get (T := TX10) (pc := 74) B 5 oi_81 rfl uw_10 (by decide) rfl tw_476 rfl dX10_trace_74 ?_
        refine x_iload_n (pc := 77) B 0 dX10_trace_77 rfl rfl ?_
        refine x_callSN (rest := []) (st' := []) (pc := 78) B (T_CF_put 85 48 (M9.1 81 5) q8 ai_85 (by decide) M9) tw_588 tw_977 tw_587 tw_98 hd_CF_put ⟨Nat.le_of_ble_eq_true rfl, Nat.le_of_ble_eq_true rfl⟩ rfl rfl (Nat.le_of_ble_eq_true rfl) rfl dX10_trace_78 ?_
        refine jv_m (P := fun M10 => XX D ad cI cJ p l e (Rm 4 89) s m args below meth c Q 4 M10 81 [(3, .int q8), (0, .ref (ad 81)), (2, .int y4.1)] []) h (fun M10 h => ?_)
        refine x_aload_n (pc := 81) B 1 dX10_trace_81 rfl rfl ?_
        refine x_get (T := TX10) (pc := 82) B 4 oi_81 rfl uw_10 (by decide) rfl tw_475 rfl dX10_trace_82 ?_
        refine x_aload_n (pc := 85) B 1 dX10_trace_85 rfl rfl ?_
        refine x_get (T := TX10) (pc := 86) B 5 oi_81 rfl uw_10 (by decide) rfl tw_476 rfl dX10_trace_86 ?_
        refine x_callSN (rest := []) (st' := [.int (atv (M10.1 85) 48 (M10.1 81 5))]) (pc := 89) B (T_CF_at 85 48 (M10.1 81 5) ai_85 (by decide) M10) tw_575 tw_998 tw_574 tw_98 hd_CF_at ⟨Nat.le_of_ble_eq_true rfl, Nat.le_of_ble_eq_true rfl⟩ rfl rfl (Nat.le_of_ble_eq_true rfl) rfl dX10_trace_89 ?_
        refine x_istore_n (lv' := [(2, .int (atv (M10.1 85) 48 (M10.1 81 5))), (3, .int q8), (0, .ref (ad 81))]) (pc := 92) B dX10_trace_92 rfl (by decide) rfl ?_
        refine x_goto (tgt := 21) (pc := 93) B dX10_trace_93 rfl ?_
        refine x_pick (lv' := [(0, .ref (ad 81)), (2, .int (atv (M10.1 85) 48 (M10.1 81 5)))]) [2, 0] rfl ?_
        have z := hback (atv (M10.1 85) 48 (M10.1 81 5), M10) (Option.some.inj h).symm
        exact z
  · obtain rfl := Option.some.inj h
    exact x_vret (pc := 96) B hQ dX10_trace_96
