-- ===== PART A: goes FIRST, ahead of the names: the tables' words, and 'selects' of the private methods out of them =====
/-- a private method of a class that the tables say can be made, by its rows of tables_1 -/
def lw_okq (q : MethodName × Nat) : Prop := (q.1.cls ≠ "java/lang/invoke/MethodHandle" ∧ q.1.cls ≠ "java/lang/invoke/VarHandle") ∧ Cond.instantiable q.1.cls q.2 ∈ tables_1 ∧ Cond.privateMethod q.1 ∈ tables_1 ∧ Cond.instanceMethod q.1 ∈ tables_1
theorem lw_p0 : lw_okq (⟨"CurrentFarms", "isNeeded", "(I)Z"⟩, 8) := ⟨⟨by decide +kernel, by decide +kernel⟩, List.mem_of_getElem? (i := 23) (by decide +kernel), List.mem_of_getElem? (i := 464) (by decide +kernel), List.mem_of_getElem? (i := 465) (by decide +kernel)⟩
theorem lw_p1 : lw_okq (⟨"CurrentFarms", "isOnLine", "(I)Z"⟩, 8) := ⟨⟨by decide +kernel, by decide +kernel⟩, List.mem_of_getElem? (i := 23) (by decide +kernel), List.mem_of_getElem? (i := 468) (by decide +kernel), List.mem_of_getElem? (i := 469) (by decide +kernel)⟩
theorem lw_p2 : lw_okq (⟨"CurrentFarms", "isFarm", "(I)Z"⟩, 8) := ⟨⟨by decide +kernel, by decide +kernel⟩, List.mem_of_getElem? (i := 23) (by decide +kernel), List.mem_of_getElem? (i := 539) (by decide +kernel), List.mem_of_getElem? (i := 540) (by decide +kernel)⟩
theorem lw_p3 : lw_okq (⟨"CurrentFarms", "isPast", "(I)Z"⟩, 8) := ⟨⟨by decide +kernel, by decide +kernel⟩, List.mem_of_getElem? (i := 23) (by decide +kernel), List.mem_of_getElem? (i := 543) (by decide +kernel), List.mem_of_getElem? (i := 544) (by decide +kernel)⟩
theorem lw_p4 : lw_okq (⟨"CurrentFarms", "isBefore", "(I)Z"⟩, 8) := ⟨⟨by decide +kernel, by decide +kernel⟩, List.mem_of_getElem? (i := 23) (by decide +kernel), List.mem_of_getElem? (i := 570) (by decide +kernel), List.mem_of_getElem? (i := 571) (by decide +kernel)⟩
theorem lw_p5 : lw_okq (⟨"CurrentFarms$Book", "look", "(II)V"⟩, 7) := ⟨⟨by decide +kernel, by decide +kernel⟩, List.mem_of_getElem? (i := 73) (by decide +kernel), List.mem_of_getElem? (i := 578) (by decide +kernel), List.mem_of_getElem? (i := 579) (by decide +kernel)⟩
theorem lw_p6 : lw_okq (⟨"CurrentFarms$Book", "decided", "(I)I"⟩, 7) := ⟨⟨by decide +kernel, by decide +kernel⟩, List.mem_of_getElem? (i := 73) (by decide +kernel), List.mem_of_getElem? (i := 583) (by decide +kernel), List.mem_of_getElem? (i := 584) (by decide +kernel)⟩
theorem lw_p7 : lw_okq (⟨"CurrentFarms$Book", "members", "(II)I"⟩, 7) := ⟨⟨by decide +kernel, by decide +kernel⟩, List.mem_of_getElem? (i := 73) (by decide +kernel), List.mem_of_getElem? (i := 587) (by decide +kernel), List.mem_of_getElem? (i := 588) (by decide +kernel)⟩
theorem lw_p8 : lw_okq (⟨"CurrentFarms$Book", "reached", "(I)I"⟩, 7) := ⟨⟨by decide +kernel, by decide +kernel⟩, List.mem_of_getElem? (i := 73) (by decide +kernel), List.mem_of_getElem? (i := 597) (by decide +kernel), List.mem_of_getElem? (i := 598) (by decide +kernel)⟩
theorem lw_p9 : lw_okq (⟨"CurrentFarms", "owing", "(III)I"⟩, 8) := ⟨⟨by decide +kernel, by decide +kernel⟩, List.mem_of_getElem? (i := 23) (by decide +kernel), List.mem_of_getElem? (i := 604) (by decide +kernel), List.mem_of_getElem? (i := 605) (by decide +kernel)⟩
theorem lw_p10 : lw_okq (⟨"CurrentFarms$Account", "startMeter", "()V"⟩, 11) := ⟨⟨by decide +kernel, by decide +kernel⟩, List.mem_of_getElem? (i := 326) (by decide +kernel), List.mem_of_getElem? (i := 612) (by decide +kernel), List.mem_of_getElem? (i := 613) (by decide +kernel)⟩
theorem lw_p11 : lw_okq (⟨"CurrentFarms$Account", "metered", "(II)I"⟩, 11) := ⟨⟨by decide +kernel, by decide +kernel⟩, List.mem_of_getElem? (i := 326) (by decide +kernel), List.mem_of_getElem? (i := 634) (by decide +kernel), List.mem_of_getElem? (i := 635) (by decide +kernel)⟩
theorem lw_p12 : lw_okq (⟨"CurrentFarms$Rules", "run", "(II[I)I"⟩, 12) := ⟨⟨by decide +kernel, by decide +kernel⟩, List.mem_of_getElem? (i := 102) (by decide +kernel), List.mem_of_getElem? (i := 647) (by decide +kernel), List.mem_of_getElem? (i := 648) (by decide +kernel)⟩
theorem lw_p13 : lw_okq (⟨"CurrentFarms$Rules", "stepped", "(II)I"⟩, 12) := ⟨⟨by decide +kernel, by decide +kernel⟩, List.mem_of_getElem? (i := 102) (by decide +kernel), List.mem_of_getElem? (i := 651) (by decide +kernel), List.mem_of_getElem? (i := 652) (by decide +kernel)⟩
theorem lw_p14 : lw_okq (⟨"CurrentFarms$Reader", "clause", "(I)Z"⟩, 5) := ⟨⟨by decide +kernel, by decide +kernel⟩, List.mem_of_getElem? (i := 304) (by decide +kernel), List.mem_of_getElem? (i := 715) (by decide +kernel), List.mem_of_getElem? (i := 716) (by decide +kernel)⟩
theorem lw_p15 : lw_okq (⟨"CurrentFarms$Reader", "oneOf", "(II)I"⟩, 5) := ⟨⟨by decide +kernel, by decide +kernel⟩, List.mem_of_getElem? (i := 304) (by decide +kernel), List.mem_of_getElem? (i := 719) (by decide +kernel), List.mem_of_getElem? (i := 720) (by decide +kernel)⟩
def lw_privs_1 : List (MethodName × Nat) := [(⟨"CurrentFarms", "isNeeded", "(I)Z"⟩, 8), (⟨"CurrentFarms", "isOnLine", "(I)Z"⟩, 8), (⟨"CurrentFarms", "isFarm", "(I)Z"⟩, 8), (⟨"CurrentFarms", "isPast", "(I)Z"⟩, 8), (⟨"CurrentFarms", "isBefore", "(I)Z"⟩, 8), (⟨"CurrentFarms$Book", "look", "(II)V"⟩, 7), (⟨"CurrentFarms$Book", "decided", "(I)I"⟩, 7), (⟨"CurrentFarms$Book", "members", "(II)I"⟩, 7), (⟨"CurrentFarms$Book", "reached", "(I)I"⟩, 7), (⟨"CurrentFarms", "owing", "(III)I"⟩, 8), (⟨"CurrentFarms$Account", "startMeter", "()V"⟩, 11), (⟨"CurrentFarms$Account", "metered", "(II)I"⟩, 11), (⟨"CurrentFarms$Rules", "run", "(II[I)I"⟩, 12), (⟨"CurrentFarms$Rules", "stepped", "(II)I"⟩, 12), (⟨"CurrentFarms$Reader", "clause", "(I)Z"⟩, 5), (⟨"CurrentFarms$Reader", "oneOf", "(II)I"⟩, 5)]
theorem lw_r1 : ∀ q ∈ lw_privs_1, lw_okq q := List.forall_mem_cons.mpr ⟨lw_p0, List.forall_mem_cons.mpr ⟨lw_p1, List.forall_mem_cons.mpr ⟨lw_p2, List.forall_mem_cons.mpr ⟨lw_p3, List.forall_mem_cons.mpr ⟨lw_p4, List.forall_mem_cons.mpr ⟨lw_p5, List.forall_mem_cons.mpr ⟨lw_p6, List.forall_mem_cons.mpr ⟨lw_p7, List.forall_mem_cons.mpr ⟨lw_p8, List.forall_mem_cons.mpr ⟨lw_p9, List.forall_mem_cons.mpr ⟨lw_p10, List.forall_mem_cons.mpr ⟨lw_p11, List.forall_mem_cons.mpr ⟨lw_p12, List.forall_mem_cons.mpr ⟨lw_p13, List.forall_mem_cons.mpr ⟨lw_p14, List.forall_mem_cons.mpr ⟨lw_p15, fun _ h => absurd h List.not_mem_nil⟩⟩⟩⟩⟩⟩⟩⟩⟩⟩⟩⟩⟩⟩⟩⟩
theorem lw_p16 : lw_okq (⟨"CurrentFarms$Reader", "coming", "()I"⟩, 5) := ⟨⟨by decide +kernel, by decide +kernel⟩, List.mem_of_getElem? (i := 304) (by decide +kernel), List.mem_of_getElem? (i := 742) (by decide +kernel), List.mem_of_getElem? (i := 743) (by decide +kernel)⟩
theorem lw_p17 : lw_okq (⟨"CurrentFarms$Reader", "passes", "(Ljava/lang/String;)Z"⟩, 5) := ⟨⟨by decide +kernel, by decide +kernel⟩, List.mem_of_getElem? (i := 304) (by decide +kernel), List.mem_of_getElem? (i := 787) (by decide +kernel), List.mem_of_getElem? (i := 788) (by decide +kernel)⟩
theorem lw_p18 : lw_okq (⟨"CurrentFarms$Reader", "sum", "()Z"⟩, 5) := ⟨⟨by decide +kernel, by decide +kernel⟩, List.mem_of_getElem? (i := 304) (by decide +kernel), List.mem_of_getElem? (i := 800) (by decide +kernel), List.mem_of_getElem? (i := 801) (by decide +kernel)⟩
theorem lw_p19 : lw_okq (⟨"CurrentFarms$Reader", "await", "(I)V"⟩, 5) := ⟨⟨by decide +kernel, by decide +kernel⟩, List.mem_of_getElem? (i := 304) (by decide +kernel), List.mem_of_getElem? (i := 804) (by decide +kernel), List.mem_of_getElem? (i := 805) (by decide +kernel)⟩
theorem lw_p20 : lw_okq (⟨"CurrentFarms$Reader", "number", "(I)Z"⟩, 5) := ⟨⟨by decide +kernel, by decide +kernel⟩, List.mem_of_getElem? (i := 304) (by decide +kernel), List.mem_of_getElem? (i := 808) (by decide +kernel), List.mem_of_getElem? (i := 809) (by decide +kernel)⟩
theorem lw_p21 : lw_okq (⟨"CurrentFarms$Reader", "emit", "(I)V"⟩, 5) := ⟨⟨by decide +kernel, by decide +kernel⟩, List.mem_of_getElem? (i := 304) (by decide +kernel), List.mem_of_getElem? (i := 813) (by decide +kernel), List.mem_of_getElem? (i := 814) (by decide +kernel)⟩
theorem lw_p22 : lw_okq (⟨"CurrentFarms$Reader", "unload", "(I)V"⟩, 5) := ⟨⟨by decide +kernel, by decide +kernel⟩, List.mem_of_getElem? (i := 304) (by decide +kernel), List.mem_of_getElem? (i := 820) (by decide +kernel), List.mem_of_getElem? (i := 821) (by decide +kernel)⟩
theorem lw_p23 : lw_okq (⟨"CurrentFarms$Reader", "goesOn", "(II)Z"⟩, 5) := ⟨⟨by decide +kernel, by decide +kernel⟩, List.mem_of_getElem? (i := 304) (by decide +kernel), List.mem_of_getElem? (i := 827) (by decide +kernel), List.mem_of_getElem? (i := 828) (by decide +kernel)⟩
theorem lw_p24 : lw_okq (⟨"CurrentFarms$Reader", "emptied", "(I)I"⟩, 5) := ⟨⟨by decide +kernel, by decide +kernel⟩, List.mem_of_getElem? (i := 304) (by decide +kernel), List.mem_of_getElem? (i := 832) (by decide +kernel), List.mem_of_getElem? (i := 833) (by decide +kernel)⟩
theorem lw_p25 : lw_okq (⟨"CurrentFarms", "refusedOfWord", "(IIII)I"⟩, 8) := ⟨⟨by decide +kernel, by decide +kernel⟩, List.mem_of_getElem? (i := 23) (by decide +kernel), List.mem_of_getElem? (i := 841) (by decide +kernel), List.mem_of_getElem? (i := 842) (by decide +kernel)⟩
theorem lw_p26 : lw_okq (⟨"CurrentFarms$Ways", "measure", "()V"⟩, 8) := ⟨⟨by decide +kernel, by decide +kernel⟩, List.mem_of_getElem? (i := 369) (by decide +kernel), List.mem_of_getElem? (i := 882) (by decide +kernel), List.mem_of_getElem? (i := 883) (by decide +kernel)⟩
theorem lw_p27 : lw_okq (⟨"CurrentFarms$Ways", "join", "(I)V"⟩, 8) := ⟨⟨by decide +kernel, by decide +kernel⟩, List.mem_of_getElem? (i := 369) (by decide +kernel), List.mem_of_getElem? (i := 894) (by decide +kernel), List.mem_of_getElem? (i := 895) (by decide +kernel)⟩
theorem lw_p28 : lw_okq (⟨"CurrentFarms$Ways", "fillRow", "(I)V"⟩, 8) := ⟨⟨by decide +kernel, by decide +kernel⟩, List.mem_of_getElem? (i := 369) (by decide +kernel), List.mem_of_getElem? (i := 898) (by decide +kernel), List.mem_of_getElem? (i := 899) (by decide +kernel)⟩
theorem lw_p29 : lw_okq (⟨"CurrentFarms$Ways", "spread", "(I)V"⟩, 8) := ⟨⟨by decide +kernel, by decide +kernel⟩, List.mem_of_getElem? (i := 369) (by decide +kernel), List.mem_of_getElem? (i := 903) (by decide +kernel), List.mem_of_getElem? (i := 904) (by decide +kernel)⟩
theorem lw_p30 : lw_okq (⟨"CurrentFarms", "farmsOnLine", "()I"⟩, 8) := ⟨⟨by decide +kernel, by decide +kernel⟩, List.mem_of_getElem? (i := 23) (by decide +kernel), List.mem_of_getElem? (i := 916) (by decide +kernel), List.mem_of_getElem? (i := 917) (by decide +kernel)⟩
theorem lw_p31 : lw_okq (⟨"CurrentFarms", "isEnough", "(I)Z"⟩, 8) := ⟨⟨by decide +kernel, by decide +kernel⟩, List.mem_of_getElem? (i := 23) (by decide +kernel), List.mem_of_getElem? (i := 924) (by decide +kernel), List.mem_of_getElem? (i := 925) (by decide +kernel)⟩
def lw_privs_2 : List (MethodName × Nat) := [(⟨"CurrentFarms$Reader", "coming", "()I"⟩, 5), (⟨"CurrentFarms$Reader", "passes", "(Ljava/lang/String;)Z"⟩, 5), (⟨"CurrentFarms$Reader", "sum", "()Z"⟩, 5), (⟨"CurrentFarms$Reader", "await", "(I)V"⟩, 5), (⟨"CurrentFarms$Reader", "number", "(I)Z"⟩, 5), (⟨"CurrentFarms$Reader", "emit", "(I)V"⟩, 5), (⟨"CurrentFarms$Reader", "unload", "(I)V"⟩, 5), (⟨"CurrentFarms$Reader", "goesOn", "(II)Z"⟩, 5), (⟨"CurrentFarms$Reader", "emptied", "(I)I"⟩, 5), (⟨"CurrentFarms", "refusedOfWord", "(IIII)I"⟩, 8), (⟨"CurrentFarms$Ways", "measure", "()V"⟩, 8), (⟨"CurrentFarms$Ways", "join", "(I)V"⟩, 8), (⟨"CurrentFarms$Ways", "fillRow", "(I)V"⟩, 8), (⟨"CurrentFarms$Ways", "spread", "(I)V"⟩, 8), (⟨"CurrentFarms", "farmsOnLine", "()I"⟩, 8), (⟨"CurrentFarms", "isEnough", "(I)Z"⟩, 8)]
theorem lw_r2 : ∀ q ∈ lw_privs_2, lw_okq q := List.forall_mem_cons.mpr ⟨lw_p16, List.forall_mem_cons.mpr ⟨lw_p17, List.forall_mem_cons.mpr ⟨lw_p18, List.forall_mem_cons.mpr ⟨lw_p19, List.forall_mem_cons.mpr ⟨lw_p20, List.forall_mem_cons.mpr ⟨lw_p21, List.forall_mem_cons.mpr ⟨lw_p22, List.forall_mem_cons.mpr ⟨lw_p23, List.forall_mem_cons.mpr ⟨lw_p24, List.forall_mem_cons.mpr ⟨lw_p25, List.forall_mem_cons.mpr ⟨lw_p26, List.forall_mem_cons.mpr ⟨lw_p27, List.forall_mem_cons.mpr ⟨lw_p28, List.forall_mem_cons.mpr ⟨lw_p29, List.forall_mem_cons.mpr ⟨lw_p30, List.forall_mem_cons.mpr ⟨lw_p31, fun _ h => absurd h List.not_mem_nil⟩⟩⟩⟩⟩⟩⟩⟩⟩⟩⟩⟩⟩⟩⟩⟩
theorem lw_p32 : lw_okq (⟨"CurrentFarms$Ways", "trace", "(I)V"⟩, 8) := ⟨⟨by decide +kernel, by decide +kernel⟩, List.mem_of_getElem? (i := 369) (by decide +kernel), List.mem_of_getElem? (i := 959) (by decide +kernel), List.mem_of_getElem? (i := 960) (by decide +kernel)⟩
theorem lw_p33 : lw_okq (⟨"CurrentFarms$Ways", "ahead", "(I)I"⟩, 8) := ⟨⟨by decide +kernel, by decide +kernel⟩, List.mem_of_getElem? (i := 369) (by decide +kernel), List.mem_of_getElem? (i := 963) (by decide +kernel), List.mem_of_getElem? (i := 964) (by decide +kernel)⟩
theorem lw_p34 : lw_okq (⟨"CurrentFarms", "signsFor", "(II)I"⟩, 8) := ⟨⟨by decide +kernel, by decide +kernel⟩, List.mem_of_getElem? (i := 23) (by decide +kernel), List.mem_of_getElem? (i := 967) (by decide +kernel), List.mem_of_getElem? (i := 968) (by decide +kernel)⟩
theorem lw_p35 : lw_okq (⟨"CurrentFarms$Volts", "draw", "(I)V"⟩, 5) := ⟨⟨by decide +kernel, by decide +kernel⟩, List.mem_of_getElem? (i := 402) (by decide +kernel), List.mem_of_getElem? (i := 988) (by decide +kernel), List.mem_of_getElem? (i := 989) (by decide +kernel)⟩
theorem lw_p36 : lw_okq (⟨"CurrentFarms$Volts", "drop", "()I"⟩, 5) := ⟨⟨by decide +kernel, by decide +kernel⟩, List.mem_of_getElem? (i := 402) (by decide +kernel), List.mem_of_getElem? (i := 998) (by decide +kernel), List.mem_of_getElem? (i := 999) (by decide +kernel)⟩
theorem lw_p37 : lw_okq (⟨"CurrentFarms$Breaks", "breaksOn", "(J)I"⟩, 8) := ⟨⟨by decide +kernel, by decide +kernel⟩, List.mem_of_getElem? (i := 195) (by decide +kernel), List.mem_of_getElem? (i := 1096) (by decide +kernel), List.mem_of_getElem? (i := 1097) (by decide +kernel)⟩
theorem lw_p38 : lw_okq (⟨"CurrentFarms$Breaks", "milk", "(LCurrentFarms$Land;)I"⟩, 8) := ⟨⟨by decide +kernel, by decide +kernel⟩, List.mem_of_getElem? (i := 195) (by decide +kernel), List.mem_of_getElem? (i := 1101) (by decide +kernel), List.mem_of_getElem? (i := 1102) (by decide +kernel)⟩
theorem lw_p39 : lw_okq (⟨"CurrentFarms$Breaks", "stepRow", "()Z"⟩, 8) := ⟨⟨by decide +kernel, by decide +kernel⟩, List.mem_of_getElem? (i := 195) (by decide +kernel), List.mem_of_getElem? (i := 1113) (by decide +kernel), List.mem_of_getElem? (i := 1114) (by decide +kernel)⟩
theorem lw_p40 : lw_okq (⟨"CurrentFarms$Breaks", "swap", "(II)V"⟩, 8) := ⟨⟨by decide +kernel, by decide +kernel⟩, List.mem_of_getElem? (i := 195) (by decide +kernel), List.mem_of_getElem? (i := 1117) (by decide +kernel), List.mem_of_getElem? (i := 1118) (by decide +kernel)⟩
theorem lw_p41 : lw_okq (⟨"CurrentFarms", "costToBringIn", "(I)I"⟩, 8) := ⟨⟨by decide +kernel, by decide +kernel⟩, List.mem_of_getElem? (i := 23) (by decide +kernel), List.mem_of_getElem? (i := 1139) (by decide +kernel), List.mem_of_getElem? (i := 1140) (by decide +kernel)⟩
theorem lw_p42 : lw_okq (⟨"CurrentFarms", "billsOfNow", "()I"⟩, 8) := ⟨⟨by decide +kernel, by decide +kernel⟩, List.mem_of_getElem? (i := 23) (by decide +kernel), List.mem_of_getElem? (i := 1153) (by decide +kernel), List.mem_of_getElem? (i := 1154) (by decide +kernel)⟩
theorem lw_p43 : lw_okq (⟨"CurrentFarmsModel", "isOnLine", "(I)Z"⟩, 32) := ⟨⟨by decide +kernel, by decide +kernel⟩, List.mem_of_getElem? (i := 1198) (by decide +kernel), List.mem_of_getElem? (i := 1311) (by decide +kernel), List.mem_of_getElem? (i := 1312) (by decide +kernel)⟩
theorem lw_p44 : lw_okq (⟨"CurrentFarmsModel", "costOf", "(II)I"⟩, 32) := ⟨⟨by decide +kernel, by decide +kernel⟩, List.mem_of_getElem? (i := 1198) (by decide +kernel), List.mem_of_getElem? (i := 1322) (by decide +kernel), List.mem_of_getElem? (i := 1323) (by decide +kernel)⟩
theorem lw_p45 : lw_okq (⟨"CurrentFarmsModel", "extra", "(I)I"⟩, 32) := ⟨⟨by decide +kernel, by decide +kernel⟩, List.mem_of_getElem? (i := 1198) (by decide +kernel), List.mem_of_getElem? (i := 1329) (by decide +kernel), List.mem_of_getElem? (i := 1330) (by decide +kernel)⟩
theorem lw_p46 : lw_okq (⟨"CurrentFarmsModel", "isFarm", "(I)Z"⟩, 32) := ⟨⟨by decide +kernel, by decide +kernel⟩, List.mem_of_getElem? (i := 1198) (by decide +kernel), List.mem_of_getElem? (i := 1349) (by decide +kernel), List.mem_of_getElem? (i := 1350) (by decide +kernel)⟩
theorem lw_p47 : lw_okq (⟨"CurrentFarmsModel", "enters", "(IIII)I"⟩, 32) := ⟨⟨by decide +kernel, by decide +kernel⟩, List.mem_of_getElem? (i := 1198) (by decide +kernel), List.mem_of_getElem? (i := 1353) (by decide +kernel), List.mem_of_getElem? (i := 1354) (by decide +kernel)⟩
def lw_privs_3 : List (MethodName × Nat) := [(⟨"CurrentFarms$Ways", "trace", "(I)V"⟩, 8), (⟨"CurrentFarms$Ways", "ahead", "(I)I"⟩, 8), (⟨"CurrentFarms", "signsFor", "(II)I"⟩, 8), (⟨"CurrentFarms$Volts", "draw", "(I)V"⟩, 5), (⟨"CurrentFarms$Volts", "drop", "()I"⟩, 5), (⟨"CurrentFarms$Breaks", "breaksOn", "(J)I"⟩, 8), (⟨"CurrentFarms$Breaks", "milk", "(LCurrentFarms$Land;)I"⟩, 8), (⟨"CurrentFarms$Breaks", "stepRow", "()Z"⟩, 8), (⟨"CurrentFarms$Breaks", "swap", "(II)V"⟩, 8), (⟨"CurrentFarms", "costToBringIn", "(I)I"⟩, 8), (⟨"CurrentFarms", "billsOfNow", "()I"⟩, 8), (⟨"CurrentFarmsModel", "isOnLine", "(I)Z"⟩, 32), (⟨"CurrentFarmsModel", "costOf", "(II)I"⟩, 32), (⟨"CurrentFarmsModel", "extra", "(I)I"⟩, 32), (⟨"CurrentFarmsModel", "isFarm", "(I)Z"⟩, 32), (⟨"CurrentFarmsModel", "enters", "(IIII)I"⟩, 32)]
theorem lw_r3 : ∀ q ∈ lw_privs_3, lw_okq q := List.forall_mem_cons.mpr ⟨lw_p32, List.forall_mem_cons.mpr ⟨lw_p33, List.forall_mem_cons.mpr ⟨lw_p34, List.forall_mem_cons.mpr ⟨lw_p35, List.forall_mem_cons.mpr ⟨lw_p36, List.forall_mem_cons.mpr ⟨lw_p37, List.forall_mem_cons.mpr ⟨lw_p38, List.forall_mem_cons.mpr ⟨lw_p39, List.forall_mem_cons.mpr ⟨lw_p40, List.forall_mem_cons.mpr ⟨lw_p41, List.forall_mem_cons.mpr ⟨lw_p42, List.forall_mem_cons.mpr ⟨lw_p43, List.forall_mem_cons.mpr ⟨lw_p44, List.forall_mem_cons.mpr ⟨lw_p45, List.forall_mem_cons.mpr ⟨lw_p46, List.forall_mem_cons.mpr ⟨lw_p47, fun _ h => absurd h List.not_mem_nil⟩⟩⟩⟩⟩⟩⟩⟩⟩⟩⟩⟩⟩⟩⟩⟩
theorem lw_p48 : lw_okq (⟨"CurrentFarmsModel", "isBy", "(I)Z"⟩, 32) := ⟨⟨by decide +kernel, by decide +kernel⟩, List.mem_of_getElem? (i := 1198) (by decide +kernel), List.mem_of_getElem? (i := 1365) (by decide +kernel), List.mem_of_getElem? (i := 1366) (by decide +kernel)⟩
theorem lw_p49 : lw_okq (⟨"CurrentFarmsModel", "kindOf", "(III)I"⟩, 32) := ⟨⟨by decide +kernel, by decide +kernel⟩, List.mem_of_getElem? (i := 1198) (by decide +kernel), List.mem_of_getElem? (i := 1372) (by decide +kernel), List.mem_of_getElem? (i := 1373) (by decide +kernel)⟩
theorem lw_p50 : lw_okq (⟨"CurrentFarmsModel", "looks", "(IIII)V"⟩, 32) := ⟨⟨by decide +kernel, by decide +kernel⟩, List.mem_of_getElem? (i := 1198) (by decide +kernel), List.mem_of_getElem? (i := 1376) (by decide +kernel), List.mem_of_getElem? (i := 1377) (by decide +kernel)⟩
theorem lw_p51 : lw_okq (⟨"CurrentFarmsModel", "decides", "(III)I"⟩, 32) := ⟨⟨by decide +kernel, by decide +kernel⟩, List.mem_of_getElem? (i := 1198) (by decide +kernel), List.mem_of_getElem? (i := 1380) (by decide +kernel), List.mem_of_getElem? (i := 1381) (by decide +kernel)⟩
theorem lw_p52 : lw_okq (⟨"CurrentFarmsModel", "arrears", "(II)I"⟩, 32) := ⟨⟨by decide +kernel, by decide +kernel⟩, List.mem_of_getElem? (i := 1198) (by decide +kernel), List.mem_of_getElem? (i := 1384) (by decide +kernel), List.mem_of_getElem? (i := 1385) (by decide +kernel)⟩
theorem lw_p53 : lw_okq (⟨"CurrentFarmsModel", "billOf", "(III)I"⟩, 32) := ⟨⟨by decide +kernel, by decide +kernel⟩, List.mem_of_getElem? (i := 1198) (by decide +kernel), List.mem_of_getElem? (i := 1388) (by decide +kernel), List.mem_of_getElem? (i := 1389) (by decide +kernel)⟩
theorem lw_p54 : lw_okq (⟨"CurrentFarmsModel", "isServed", "(II)Z"⟩, 32) := ⟨⟨by decide +kernel, by decide +kernel⟩, List.mem_of_getElem? (i := 1198) (by decide +kernel), List.mem_of_getElem? (i := 1392) (by decide +kernel), List.mem_of_getElem? (i := 1393) (by decide +kernel)⟩
theorem lw_p55 : lw_okq (⟨"CurrentFarmsModel", "unitsIn", "(II)I"⟩, 32) := ⟨⟨by decide +kernel, by decide +kernel⟩, List.mem_of_getElem? (i := 1198) (by decide +kernel), List.mem_of_getElem? (i := 1396) (by decide +kernel), List.mem_of_getElem? (i := 1397) (by decide +kernel)⟩
theorem lw_p56 : lw_okq (⟨"CurrentFarmsModel", "measures", "(I)V"⟩, 32) := ⟨⟨by decide +kernel, by decide +kernel⟩, List.mem_of_getElem? (i := 1198) (by decide +kernel), List.mem_of_getElem? (i := 1400) (by decide +kernel), List.mem_of_getElem? (i := 1401) (by decide +kernel)⟩
theorem lw_p57 : lw_okq (⟨"CurrentFarmsModel", "names", "(IIII)V"⟩, 32) := ⟨⟨by decide +kernel, by decide +kernel⟩, List.mem_of_getElem? (i := 1198) (by decide +kernel), List.mem_of_getElem? (i := 1404) (by decide +kernel), List.mem_of_getElem? (i := 1405) (by decide +kernel)⟩
theorem lw_p58 : lw_okq (⟨"CurrentFarmsModel", "milesTo", "(I)I"⟩, 32) := ⟨⟨by decide +kernel, by decide +kernel⟩, List.mem_of_getElem? (i := 1198) (by decide +kernel), List.mem_of_getElem? (i := 1408) (by decide +kernel), List.mem_of_getElem? (i := 1409) (by decide +kernel)⟩
theorem lw_p59 : lw_okq (⟨"CurrentFarmsModel", "ruleBy", "(II)I"⟩, 32) := ⟨⟨by decide +kernel, by decide +kernel⟩, List.mem_of_getElem? (i := 1198) (by decide +kernel), List.mem_of_getElem? (i := 1412) (by decide +kernel), List.mem_of_getElem? (i := 1413) (by decide +kernel)⟩
theorem lw_p60 : lw_okq (⟨"CurrentFarmsModel", "clauseOf", "(II)I"⟩, 32) := ⟨⟨by decide +kernel, by decide +kernel⟩, List.mem_of_getElem? (i := 1198) (by decide +kernel), List.mem_of_getElem? (i := 1416) (by decide +kernel), List.mem_of_getElem? (i := 1417) (by decide +kernel)⟩
theorem lw_p61 : lw_okq (⟨"CurrentFarmsModel", "holds", "(I)Z"⟩, 32) := ⟨⟨by decide +kernel, by decide +kernel⟩, List.mem_of_getElem? (i := 1198) (by decide +kernel), List.mem_of_getElem? (i := 1420) (by decide +kernel), List.mem_of_getElem? (i := 1421) (by decide +kernel)⟩
theorem lw_p62 : lw_okq (⟨"CurrentFarmsModel", "worth", "(II)I"⟩, 32) := ⟨⟨by decide +kernel, by decide +kernel⟩, List.mem_of_getElem? (i := 1198) (by decide +kernel), List.mem_of_getElem? (i := 1424) (by decide +kernel), List.mem_of_getElem? (i := 1425) (by decide +kernel)⟩
theorem lw_p63 : lw_okq (⟨"CurrentFarmsModel", "sum", "()I"⟩, 32) := ⟨⟨by decide +kernel, by decide +kernel⟩, List.mem_of_getElem? (i := 1198) (by decide +kernel), List.mem_of_getElem? (i := 1428) (by decide +kernel), List.mem_of_getElem? (i := 1429) (by decide +kernel)⟩
def lw_privs_4 : List (MethodName × Nat) := [(⟨"CurrentFarmsModel", "isBy", "(I)Z"⟩, 32), (⟨"CurrentFarmsModel", "kindOf", "(III)I"⟩, 32), (⟨"CurrentFarmsModel", "looks", "(IIII)V"⟩, 32), (⟨"CurrentFarmsModel", "decides", "(III)I"⟩, 32), (⟨"CurrentFarmsModel", "arrears", "(II)I"⟩, 32), (⟨"CurrentFarmsModel", "billOf", "(III)I"⟩, 32), (⟨"CurrentFarmsModel", "isServed", "(II)Z"⟩, 32), (⟨"CurrentFarmsModel", "unitsIn", "(II)I"⟩, 32), (⟨"CurrentFarmsModel", "measures", "(I)V"⟩, 32), (⟨"CurrentFarmsModel", "names", "(IIII)V"⟩, 32), (⟨"CurrentFarmsModel", "milesTo", "(I)I"⟩, 32), (⟨"CurrentFarmsModel", "ruleBy", "(II)I"⟩, 32), (⟨"CurrentFarmsModel", "clauseOf", "(II)I"⟩, 32), (⟨"CurrentFarmsModel", "holds", "(I)Z"⟩, 32), (⟨"CurrentFarmsModel", "worth", "(II)I"⟩, 32), (⟨"CurrentFarmsModel", "sum", "()I"⟩, 32)]
theorem lw_r4 : ∀ q ∈ lw_privs_4, lw_okq q := List.forall_mem_cons.mpr ⟨lw_p48, List.forall_mem_cons.mpr ⟨lw_p49, List.forall_mem_cons.mpr ⟨lw_p50, List.forall_mem_cons.mpr ⟨lw_p51, List.forall_mem_cons.mpr ⟨lw_p52, List.forall_mem_cons.mpr ⟨lw_p53, List.forall_mem_cons.mpr ⟨lw_p54, List.forall_mem_cons.mpr ⟨lw_p55, List.forall_mem_cons.mpr ⟨lw_p56, List.forall_mem_cons.mpr ⟨lw_p57, List.forall_mem_cons.mpr ⟨lw_p58, List.forall_mem_cons.mpr ⟨lw_p59, List.forall_mem_cons.mpr ⟨lw_p60, List.forall_mem_cons.mpr ⟨lw_p61, List.forall_mem_cons.mpr ⟨lw_p62, List.forall_mem_cons.mpr ⟨lw_p63, fun _ h => absurd h List.not_mem_nil⟩⟩⟩⟩⟩⟩⟩⟩⟩⟩⟩⟩⟩⟩⟩⟩
theorem lw_p64 : lw_okq (⟨"CurrentFarmsModel", "term", "()I"⟩, 32) := ⟨⟨by decide +kernel, by decide +kernel⟩, List.mem_of_getElem? (i := 1198) (by decide +kernel), List.mem_of_getElem? (i := 1432) (by decide +kernel), List.mem_of_getElem? (i := 1433) (by decide +kernel)⟩
theorem lw_p65 : lw_okq (⟨"CurrentFarmsModel", "one", "()I"⟩, 32) := ⟨⟨by decide +kernel, by decide +kernel⟩, List.mem_of_getElem? (i := 1198) (by decide +kernel), List.mem_of_getElem? (i := 1436) (by decide +kernel), List.mem_of_getElem? (i := 1437) (by decide +kernel)⟩
theorem lw_p66 : lw_okq (⟨"CurrentFarmsModel", "here", "()I"⟩, 32) := ⟨⟨by decide +kernel, by decide +kernel⟩, List.mem_of_getElem? (i := 1198) (by decide +kernel), List.mem_of_getElem? (i := 1440) (by decide +kernel), List.mem_of_getElem? (i := 1441) (by decide +kernel)⟩
theorem lw_p67 : lw_okq (⟨"CurrentFarmsModel", "number", "()I"⟩, 32) := ⟨⟨by decide +kernel, by decide +kernel⟩, List.mem_of_getElem? (i := 1198) (by decide +kernel), List.mem_of_getElem? (i := 1444) (by decide +kernel), List.mem_of_getElem? (i := 1445) (by decide +kernel)⟩
theorem lw_p68 : lw_okq (⟨"CurrentFarmsModel", "must", "(I)V"⟩, 32) := ⟨⟨by decide +kernel, by decide +kernel⟩, List.mem_of_getElem? (i := 1198) (by decide +kernel), List.mem_of_getElem? (i := 1448) (by decide +kernel), List.mem_of_getElem? (i := 1449) (by decide +kernel)⟩
theorem lw_p69 : lw_okq (⟨"CurrentFarmsModel", "steps", "()I"⟩, 32) := ⟨⟨by decide +kernel, by decide +kernel⟩, List.mem_of_getElem? (i := 1198) (by decide +kernel), List.mem_of_getElem? (i := 1452) (by decide +kernel), List.mem_of_getElem? (i := 1453) (by decide +kernel)⟩
theorem lw_p70 : lw_okq (⟨"CurrentFarmsModel", "name", "(ILjava/lang/String;)I"⟩, 32) := ⟨⟨by decide +kernel, by decide +kernel⟩, List.mem_of_getElem? (i := 1198) (by decide +kernel), List.mem_of_getElem? (i := 1457) (by decide +kernel), List.mem_of_getElem? (i := 1458) (by decide +kernel)⟩
theorem lw_p71 : lw_okq (⟨"CurrentFarmsModel", "spells", "(Ljava/lang/String;)V"⟩, 32) := ⟨⟨by decide +kernel, by decide +kernel⟩, List.mem_of_getElem? (i := 1198) (by decide +kernel), List.mem_of_getElem? (i := 1461) (by decide +kernel), List.mem_of_getElem? (i := 1462) (by decide +kernel)⟩
theorem lw_p72 : lw_okq (⟨"CurrentFarmsModel", "members", "()I"⟩, 32) := ⟨⟨by decide +kernel, by decide +kernel⟩, List.mem_of_getElem? (i := 1198) (by decide +kernel), List.mem_of_getElem? (i := 1486) (by decide +kernel), List.mem_of_getElem? (i := 1487) (by decide +kernel)⟩
theorem lw_p73 : lw_okq (⟨"CurrentFarmsModel", "readsRule", "(II)Z"⟩, 32) := ⟨⟨by decide +kernel, by decide +kernel⟩, List.mem_of_getElem? (i := 1198) (by decide +kernel), List.mem_of_getElem? (i := 1502) (by decide +kernel), List.mem_of_getElem? (i := 1503) (by decide +kernel)⟩
theorem lw_p74 : lw_okq (⟨"CurrentFarmsModel", "reads", "(I)V"⟩, 32) := ⟨⟨by decide +kernel, by decide +kernel⟩, List.mem_of_getElem? (i := 1198) (by decide +kernel), List.mem_of_getElem? (i := 1506) (by decide +kernel), List.mem_of_getElem? (i := 1507) (by decide +kernel)⟩
theorem lw_p75 : lw_okq (⟨"CurrentFarmsModel", "word", "()I"⟩, 32) := ⟨⟨by decide +kernel, by decide +kernel⟩, List.mem_of_getElem? (i := 1198) (by decide +kernel), List.mem_of_getElem? (i := 1510) (by decide +kernel), List.mem_of_getElem? (i := 1511) (by decide +kernel)⟩
theorem lw_p76 : lw_okq (⟨"CurrentFarmsModel", "refuses", "(IIII)I"⟩, 32) := ⟨⟨by decide +kernel, by decide +kernel⟩, List.mem_of_getElem? (i := 1198) (by decide +kernel), List.mem_of_getElem? (i := 1525) (by decide +kernel), List.mem_of_getElem? (i := 1526) (by decide +kernel)⟩
theorem lw_p77 : lw_okq (⟨"CurrentFarmsModel", "ruleFor", "(IIII)I"⟩, 32) := ⟨⟨by decide +kernel, by decide +kernel⟩, List.mem_of_getElem? (i := 1198) (by decide +kernel), List.mem_of_getElem? (i := 1529) (by decide +kernel), List.mem_of_getElem? (i := 1530) (by decide +kernel)⟩
theorem lw_p78 : lw_okq (⟨"CurrentFarmsModel", "goesOn", "(I)V"⟩, 32) := ⟨⟨by decide +kernel, by decide +kernel⟩, List.mem_of_getElem? (i := 1198) (by decide +kernel), List.mem_of_getElem? (i := 1550) (by decide +kernel), List.mem_of_getElem? (i := 1551) (by decide +kernel)⟩
theorem lw_p79 : lw_okq (⟨"CurrentFarmsModel", "isEnough", "()Z"⟩, 32) := ⟨⟨by decide +kernel, by decide +kernel⟩, List.mem_of_getElem? (i := 1198) (by decide +kernel), List.mem_of_getElem? (i := 1558) (by decide +kernel), List.mem_of_getElem? (i := 1559) (by decide +kernel)⟩
def lw_privs_5 : List (MethodName × Nat) := [(⟨"CurrentFarmsModel", "term", "()I"⟩, 32), (⟨"CurrentFarmsModel", "one", "()I"⟩, 32), (⟨"CurrentFarmsModel", "here", "()I"⟩, 32), (⟨"CurrentFarmsModel", "number", "()I"⟩, 32), (⟨"CurrentFarmsModel", "must", "(I)V"⟩, 32), (⟨"CurrentFarmsModel", "steps", "()I"⟩, 32), (⟨"CurrentFarmsModel", "name", "(ILjava/lang/String;)I"⟩, 32), (⟨"CurrentFarmsModel", "spells", "(Ljava/lang/String;)V"⟩, 32), (⟨"CurrentFarmsModel", "members", "()I"⟩, 32), (⟨"CurrentFarmsModel", "readsRule", "(II)Z"⟩, 32), (⟨"CurrentFarmsModel", "reads", "(I)V"⟩, 32), (⟨"CurrentFarmsModel", "word", "()I"⟩, 32), (⟨"CurrentFarmsModel", "refuses", "(IIII)I"⟩, 32), (⟨"CurrentFarmsModel", "ruleFor", "(IIII)I"⟩, 32), (⟨"CurrentFarmsModel", "goesOn", "(I)V"⟩, 32), (⟨"CurrentFarmsModel", "isEnough", "()Z"⟩, 32)]
theorem lw_r5 : ∀ q ∈ lw_privs_5, lw_okq q := List.forall_mem_cons.mpr ⟨lw_p64, List.forall_mem_cons.mpr ⟨lw_p65, List.forall_mem_cons.mpr ⟨lw_p66, List.forall_mem_cons.mpr ⟨lw_p67, List.forall_mem_cons.mpr ⟨lw_p68, List.forall_mem_cons.mpr ⟨lw_p69, List.forall_mem_cons.mpr ⟨lw_p70, List.forall_mem_cons.mpr ⟨lw_p71, List.forall_mem_cons.mpr ⟨lw_p72, List.forall_mem_cons.mpr ⟨lw_p73, List.forall_mem_cons.mpr ⟨lw_p74, List.forall_mem_cons.mpr ⟨lw_p75, List.forall_mem_cons.mpr ⟨lw_p76, List.forall_mem_cons.mpr ⟨lw_p77, List.forall_mem_cons.mpr ⟨lw_p78, List.forall_mem_cons.mpr ⟨lw_p79, fun _ h => absurd h List.not_mem_nil⟩⟩⟩⟩⟩⟩⟩⟩⟩⟩⟩⟩⟩⟩⟩⟩
theorem lw_p80 : lw_okq (⟨"CurrentFarmsModel", "onLine", "()I"⟩, 32) := ⟨⟨by decide +kernel, by decide +kernel⟩, List.mem_of_getElem? (i := 1198) (by decide +kernel), List.mem_of_getElem? (i := 1562) (by decide +kernel), List.mem_of_getElem? (i := 1563) (by decide +kernel)⟩
theorem lw_p81 : lw_okq (⟨"CurrentFarmsModel", "leftOut", "()I"⟩, 32) := ⟨⟨by decide +kernel, by decide +kernel⟩, List.mem_of_getElem? (i := 1198) (by decide +kernel), List.mem_of_getElem? (i := 1578) (by decide +kernel), List.mem_of_getElem? (i := 1579) (by decide +kernel)⟩
theorem lw_p82 : lw_okq (⟨"CurrentFarmsModel", "leads", "(I)V"⟩, 32) := ⟨⟨by decide +kernel, by decide +kernel⟩, List.mem_of_getElem? (i := 1198) (by decide +kernel), List.mem_of_getElem? (i := 1586) (by decide +kernel), List.mem_of_getElem? (i := 1587) (by decide +kernel)⟩
theorem lw_p83 : lw_okq (⟨"CurrentFarmsModel", "works", "()V"⟩, 32) := ⟨⟨by decide +kernel, by decide +kernel⟩, List.mem_of_getElem? (i := 1198) (by decide +kernel), List.mem_of_getElem? (i := 1590) (by decide +kernel), List.mem_of_getElem? (i := 1591) (by decide +kernel)⟩
theorem lw_p84 : lw_okq (⟨"CurrentFarmsModel", "lacks", "(I)I"⟩, 32) := ⟨⟨by decide +kernel, by decide +kernel⟩, List.mem_of_getElem? (i := 1198) (by decide +kernel), List.mem_of_getElem? (i := 1594) (by decide +kernel), List.mem_of_getElem? (i := 1595) (by decide +kernel)⟩
theorem lw_p85 : lw_okq (⟨"CurrentFarmsModel", "onWay", "(Z)I"⟩, 32) := ⟨⟨by decide +kernel, by decide +kernel⟩, List.mem_of_getElem? (i := 1198) (by decide +kernel), List.mem_of_getElem? (i := 1598) (by decide +kernel), List.mem_of_getElem? (i := 1599) (by decide +kernel)⟩
theorem lw_p86 : lw_okq (⟨"CurrentFarmsModel", "settles", "()I"⟩, 32) := ⟨⟨by decide +kernel, by decide +kernel⟩, List.mem_of_getElem? (i := 1198) (by decide +kernel), List.mem_of_getElem? (i := 1610) (by decide +kernel), List.mem_of_getElem? (i := 1611) (by decide +kernel)⟩
theorem lw_p87 : lw_okq (⟨"CurrentFarmsModel", "rows", "()I"⟩, 32) := ⟨⟨by decide +kernel, by decide +kernel⟩, List.mem_of_getElem? (i := 1198) (by decide +kernel), List.mem_of_getElem? (i := 1614) (by decide +kernel), List.mem_of_getElem? (i := 1615) (by decide +kernel)⟩
theorem lw_p88 : lw_okq (⟨"CurrentFarmsModel", "sweep", "(I)Z"⟩, 32) := ⟨⟨by decide +kernel, by decide +kernel⟩, List.mem_of_getElem? (i := 1198) (by decide +kernel), List.mem_of_getElem? (i := 1618) (by decide +kernel), List.mem_of_getElem? (i := 1619) (by decide +kernel)⟩
theorem lw_p89 : lw_okq (⟨"CurrentFarmsModel", "isGone", "(I)Z"⟩, 32) := ⟨⟨by decide +kernel, by decide +kernel⟩, List.mem_of_getElem? (i := 1198) (by decide +kernel), List.mem_of_getElem? (i := 1633) (by decide +kernel), List.mem_of_getElem? (i := 1634) (by decide +kernel)⟩
theorem lw_p90 : lw_okq (⟨"CurrentFarmsModel", "billIn", "(II)I"⟩, 32) := ⟨⟨by decide +kernel, by decide +kernel⟩, List.mem_of_getElem? (i := 1198) (by decide +kernel), List.mem_of_getElem? (i := 1645) (by decide +kernel), List.mem_of_getElem? (i := 1646) (by decide +kernel)⟩
theorem lw_p91 : lw_okq (⟨"CurrentFarmsModel", "dueIn", "(I)I"⟩, 32) := ⟨⟨by decide +kernel, by decide +kernel⟩, List.mem_of_getElem? (i := 1198) (by decide +kernel), List.mem_of_getElem? (i := 1665) (by decide +kernel), List.mem_of_getElem? (i := 1666) (by decide +kernel)⟩
theorem lw_p92 : lw_okq (⟨"CurrentFarmsModel", "breaksOf", "()V"⟩, 32) := ⟨⟨by decide +kernel, by decide +kernel⟩, List.mem_of_getElem? (i := 1198) (by decide +kernel), List.mem_of_getElem? (i := 1681) (by decide +kernel), List.mem_of_getElem? (i := 1682) (by decide +kernel)⟩
theorem lw_p93 : lw_okq (⟨"CurrentFarmsModel", "mends", "(III)V"⟩, 32) := ⟨⟨by decide +kernel, by decide +kernel⟩, List.mem_of_getElem? (i := 1198) (by decide +kernel), List.mem_of_getElem? (i := 1686) (by decide +kernel), List.mem_of_getElem? (i := 1687) (by decide +kernel)⟩
theorem lw_p94 : lw_okq (⟨"CurrentFarmsModel", "isBetween", "(III)Z"⟩, 32) := ⟨⟨by decide +kernel, by decide +kernel⟩, List.mem_of_getElem? (i := 1198) (by decide +kernel), List.mem_of_getElem? (i := 1698) (by decide +kernel), List.mem_of_getElem? (i := 1699) (by decide +kernel)⟩
theorem lw_p95 : lw_okq (⟨"CurrentFarmsModel", "isOnWayHome", "(II)Z"⟩, 32) := ⟨⟨by decide +kernel, by decide +kernel⟩, List.mem_of_getElem? (i := 1198) (by decide +kernel), List.mem_of_getElem? (i := 1702) (by decide +kernel), List.mem_of_getElem? (i := 1703) (by decide +kernel)⟩
def lw_privs_6 : List (MethodName × Nat) := [(⟨"CurrentFarmsModel", "onLine", "()I"⟩, 32), (⟨"CurrentFarmsModel", "leftOut", "()I"⟩, 32), (⟨"CurrentFarmsModel", "leads", "(I)V"⟩, 32), (⟨"CurrentFarmsModel", "works", "()V"⟩, 32), (⟨"CurrentFarmsModel", "lacks", "(I)I"⟩, 32), (⟨"CurrentFarmsModel", "onWay", "(Z)I"⟩, 32), (⟨"CurrentFarmsModel", "settles", "()I"⟩, 32), (⟨"CurrentFarmsModel", "rows", "()I"⟩, 32), (⟨"CurrentFarmsModel", "sweep", "(I)Z"⟩, 32), (⟨"CurrentFarmsModel", "isGone", "(I)Z"⟩, 32), (⟨"CurrentFarmsModel", "billIn", "(II)I"⟩, 32), (⟨"CurrentFarmsModel", "dueIn", "(I)I"⟩, 32), (⟨"CurrentFarmsModel", "breaksOf", "()V"⟩, 32), (⟨"CurrentFarmsModel", "mends", "(III)V"⟩, 32), (⟨"CurrentFarmsModel", "isBetween", "(III)Z"⟩, 32), (⟨"CurrentFarmsModel", "isOnWayHome", "(II)Z"⟩, 32)]
theorem lw_r6 : ∀ q ∈ lw_privs_6, lw_okq q := List.forall_mem_cons.mpr ⟨lw_p80, List.forall_mem_cons.mpr ⟨lw_p81, List.forall_mem_cons.mpr ⟨lw_p82, List.forall_mem_cons.mpr ⟨lw_p83, List.forall_mem_cons.mpr ⟨lw_p84, List.forall_mem_cons.mpr ⟨lw_p85, List.forall_mem_cons.mpr ⟨lw_p86, List.forall_mem_cons.mpr ⟨lw_p87, List.forall_mem_cons.mpr ⟨lw_p88, List.forall_mem_cons.mpr ⟨lw_p89, List.forall_mem_cons.mpr ⟨lw_p90, List.forall_mem_cons.mpr ⟨lw_p91, List.forall_mem_cons.mpr ⟨lw_p92, List.forall_mem_cons.mpr ⟨lw_p93, List.forall_mem_cons.mpr ⟨lw_p94, List.forall_mem_cons.mpr ⟨lw_p95, fun _ h => absurd h List.not_mem_nil⟩⟩⟩⟩⟩⟩⟩⟩⟩⟩⟩⟩⟩⟩⟩⟩
theorem lw_p96 : lw_okq (⟨"CurrentFarmsModel", "brings", "()I"⟩, 32) := ⟨⟨by decide +kernel, by decide +kernel⟩, List.mem_of_getElem? (i := 1198) (by decide +kernel), List.mem_of_getElem? (i := 1711) (by decide +kernel), List.mem_of_getElem? (i := 1712) (by decide +kernel)⟩
def lw_privs_7 : List (MethodName × Nat) := [(⟨"CurrentFarmsModel", "brings", "()I"⟩, 32)]
theorem lw_r7 : ∀ q ∈ lw_privs_7, lw_okq q := List.forall_mem_cons.mpr ⟨lw_p96, fun _ h => absurd h List.not_mem_nil⟩
def lw_privs : List (MethodName × Nat) := lw_privs_1 ++ (lw_privs_2 ++ (lw_privs_3 ++ (lw_privs_4 ++ (lw_privs_5 ++ (lw_privs_6 ++ (lw_privs_7))))))
def lw_tbl : List Cond := k2_sels lw_privs ++ tables_1
theorem lw_privs_ok : ∀ q ∈ lw_privs, lw_okq q := by
  show ∀ q ∈ lw_privs_1 ++ (lw_privs_2 ++ (lw_privs_3 ++ (lw_privs_4 ++ (lw_privs_5 ++ (lw_privs_6 ++ (lw_privs_7)))))), lw_okq q
  exact List.forall_mem_append.mpr ⟨lw_r1, List.forall_mem_append.mpr ⟨lw_r2, List.forall_mem_append.mpr ⟨lw_r3, List.forall_mem_append.mpr ⟨lw_r4, List.forall_mem_append.mpr ⟨lw_r5, List.forall_mem_append.mpr ⟨lw_r6, lw_r7⟩⟩⟩⟩⟩⟩
def TX0 : u_T := fun k => match k with
  | 0 => ("CurrentFarms$Account", "state", "LCurrentFarms$State;", true)
  | 1 => ("CurrentFarms$Account", "names", "[I", true)
  | 2 => ("CurrentFarms$Account", "units", "I", false)
  | 3 => ("CurrentFarms$Account", "bill", "I", false)
  | 4 => ("CurrentFarms$Account", "arrears", "I", false)
  | 5 => ("CurrentFarms$Account", "lastRead", "I", false)
  | 6 => ("CurrentFarms$Account", "lastMonth", "I", false)
  | 7 => ("CurrentFarms$Account", "lastUnits", "I", false)
  | 8 => ("CurrentFarms$Account", "monthsRead", "I", false)
  | 9 => ("CurrentFarms$Account", "guessed", "I", false)
  | _ => ("CurrentFarms$Account", "tooMuch", "I", false)
def tyX0 : Nat → FieldType := fun k => match k with
  | 0 => .object "CurrentFarms$State"
  | 1 => .array .int
  | 2 => .int
  | 3 => .int
  | 4 => .int
  | 5 => .int
  | 6 => .int
  | 7 => .int
  | 8 => .int
  | 9 => .int
  | _ => .int
theorem nmX0 : ∀ a, a < 11 → ∀ b, b < 11 → a ≠ b → (TX0 a).2.1 ≠ (TX0 b).2.1 := by decide +kernel
theorem tyX0_ok : ∀ k, k < 11 → parseFieldDescriptor (TX0 k).2.2.1 = some (tyX0 k) := by decide +kernel
def TX1 : u_T := fun k => match k with
  | 0 => ("CurrentFarms$Book", "farms", "[I", true)
  | 1 => ("CurrentFarms$Book", "whats", "[I", true)
  | 2 => ("CurrentFarms$Book", "months", "[I", true)
  | 3 => ("CurrentFarms$Book", "needs", "[I", true)
  | 4 => ("CurrentFarms$Book", "strikers", "[I", true)
  | 5 => ("CurrentFarms$Book", "size", "I", false)
  | _ => ("CurrentFarms$Book", "deciders", "[I", true)
def tyX1 : Nat → FieldType := fun k => match k with
  | 0 => .array .int
  | 1 => .array .int
  | 2 => .array .int
  | 3 => .array .int
  | 4 => .array .int
  | 5 => .int
  | _ => .array .int
theorem nmX1 : ∀ a, a < 7 → ∀ b, b < 7 → a ≠ b → (TX1 a).2.1 ≠ (TX1 b).2.1 := by decide +kernel
theorem tyX1_ok : ∀ k, k < 7 → parseFieldDescriptor (TX1 k).2.2.1 = some (tyX1 k) := by decide +kernel
def TX2 : u_T := fun k => match k with
  | 0 => ("CurrentFarms$Breaks", "cells", "[I", true)
  | 1 => ("CurrentFarms$Breaks", "hours", "[I", true)
  | 2 => ("CurrentFarms$Breaks", "size", "I", false)
  | 3 => ("CurrentFarms$Breaks", "row", "[I", true)
  | 4 => ("CurrentFarms$Breaks", "chosen", "[I", true)
  | 5 => ("CurrentFarms$Breaks", "lost", "I", false)
  | 6 => ("CurrentFarms$Breaks", "onWay", "[I", true)
  | _ => ("CurrentFarms$Breaks", "dark", "[I", true)
def tyX2 : Nat → FieldType := fun k => match k with
  | 0 => .array .int
  | 1 => .array .int
  | 2 => .int
  | 3 => .array .int
  | 4 => .array .int
  | 5 => .int
  | 6 => .array .int
  | _ => .array .int
theorem nmX2 : ∀ a, a < 8 → ∀ b, b < 8 → a ≠ b → (TX2 a).2.1 ≠ (TX2 b).2.1 := by decide +kernel
theorem tyX2_ok : ∀ k, k < 8 → parseFieldDescriptor (TX2 k).2.2.1 = some (tyX2 k) := by decide +kernel
def TX3 : u_T := fun k => match k with
  | 0 => ("CurrentFarms$Coins", "reads", "[I", true)
  | 1 => ("CurrentFarms$Coins", "paid", "[I", true)
  | 2 => ("CurrentFarms$Coins", "lent", "I", false)
  | 3 => ("CurrentFarms$Coins", "since", "I", false)
  | 4 => ("CurrentFarms$Coins", "hundredths", "I", false)
  | 5 => ("CurrentFarms$Coins", "months", "I", false)
  | _ => ("CurrentFarms$Coins", "sum", "I", false)
def tyX3 : Nat → FieldType := fun k => match k with
  | 0 => .array .int
  | 1 => .array .int
  | 2 => .int
  | 3 => .int
  | 4 => .int
  | 5 => .int
  | _ => .int
theorem nmX3 : ∀ a, a < 7 → ∀ b, b < 7 → a ≠ b → (TX3 a).2.1 ≠ (TX3 b).2.1 := by decide +kernel
theorem tyX3_ok : ∀ k, k < 7 → parseFieldDescriptor (TX3 k).2.2.1 = some (tyX3 k) := by decide +kernel
def TX4 : u_T := fun k => match k with
  | 0 => ("CurrentFarms$Land", "height", "[I", true)
  | 1 => ("CurrentFarms$Land", "ground", "[I", true)
  | 2 => ("CurrentFarms$Land", "farmCells", "[I", true)
  | 3 => ("CurrentFarms$Land", "loads", "[I", true)
  | 4 => ("CurrentFarms$Land", "farms", "I", false)
  | _ => ("CurrentFarms$Land", "power", "I", false)
def tyX4 : Nat → FieldType := fun k => match k with
  | 0 => .array .int
  | 1 => .array .int
  | 2 => .array .int
  | 3 => .array .int
  | 4 => .int
  | _ => .int
theorem nmX4 : ∀ a, a < 6 → ∀ b, b < 6 → a ≠ b → (TX4 a).2.1 ≠ (TX4 b).2.1 := by decide +kernel
theorem tyX4_ok : ∀ k, k < 6 → parseFieldDescriptor (TX4 k).2.2.1 = some (tyX4 k) := by decide +kernel
def TX5 : u_T := fun k => match k with
  | 0 => ("CurrentFarms$Line", "up", "[I", true)
  | 1 => ("CurrentFarms$Line", "told", "[I", true)
  | 2 => ("CurrentFarms$Line", "size", "I", false)
  | 3 => ("CurrentFarms$Line", "span", "I", false)
  | 4 => ("CurrentFarms$Line", "resistance", "I", false)
  | 5 => ("CurrentFarms$Line", "way", "[I", true)
  | _ => ("CurrentFarms$Line", "fewest", "[I", true)
def tyX5 : Nat → FieldType := fun k => match k with
  | 0 => .array .int
  | 1 => .array .int
  | 2 => .int
  | 3 => .int
  | 4 => .int
  | 5 => .array .int
  | _ => .array .int
theorem nmX5 : ∀ a, a < 7 → ∀ b, b < 7 → a ≠ b → (TX5 a).2.1 ≠ (TX5 b).2.1 := by decide +kernel
theorem tyX5_ok : ∀ k, k < 7 → parseFieldDescriptor (TX5 k).2.2.1 = some (tyX5 k) := by decide +kernel
def TX6 : u_T := fun k => match k with
  | 0 => ("CurrentFarms$Reader", "rules", "LCurrentFarms$Rules;", true)
  | 1 => ("CurrentFarms$Reader", "waiting", "[I", true)
  | 2 => ("CurrentFarms$Reader", "depth", "I", false)
  | 3 => ("CurrentFarms$Reader", "place", "I", false)
  | _ => ("CurrentFarms$Reader", "codesEnd", "I", false)
def tyX6 : Nat → FieldType := fun k => match k with
  | 0 => .object "CurrentFarms$Rules"
  | 1 => .array .int
  | 2 => .int
  | 3 => .int
  | _ => .int
theorem nmX6 : ∀ a, a < 5 → ∀ b, b < 5 → a ≠ b → (TX6 a).2.1 ≠ (TX6 b).2.1 := by decide +kernel
theorem tyX6_ok : ∀ k, k < 5 → parseFieldDescriptor (TX6 k).2.2.1 = some (tyX6 k) := by decide +kernel
def TX7 : u_T := fun k => match k with
  | 0 => ("CurrentFarms$Rules", "tape", "[I", true)
  | 1 => ("CurrentFarms$Rules", "tapeSize", "I", false)
  | 2 => ("CurrentFarms$Rules", "codes", "[I", true)
  | 3 => ("CurrentFarms$Rules", "clauses", "[I", true)
  | 4 => ("CurrentFarms$Rules", "months", "[I", true)
  | 5 => ("CurrentFarms$Rules", "words", "[I", true)
  | 6 => ("CurrentFarms$Rules", "starts", "[I", true)
  | 7 => ("CurrentFarms$Rules", "middles", "[I", true)
  | 8 => ("CurrentFarms$Rules", "ends", "[I", true)
  | 9 => ("CurrentFarms$Rules", "size", "I", false)
  | 10 => ("CurrentFarms$Rules", "stack", "[I", true)
  | _ => ("CurrentFarms$Rules", "by", "I", false)
def tyX7 : Nat → FieldType := fun k => match k with
  | 0 => .array .int
  | 1 => .int
  | 2 => .array .int
  | 3 => .array .int
  | 4 => .array .int
  | 5 => .array .int
  | 6 => .array .int
  | 7 => .array .int
  | 8 => .array .int
  | 9 => .int
  | 10 => .array .int
  | _ => .int
theorem nmX7 : ∀ a, a < 12 → ∀ b, b < 12 → a ≠ b → (TX7 a).2.1 ≠ (TX7 b).2.1 := by decide +kernel
theorem tyX7_ok : ∀ k, k < 12 → parseFieldDescriptor (TX7 k).2.2.1 = some (tyX7 k) := by decide +kernel
def TX8 : u_T := fun k => match k with
  | 0 => ("CurrentFarms$State", "land", "LCurrentFarms$Land;", true)
  | 1 => ("CurrentFarms$State", "book", "LCurrentFarms$Book;", true)
  | 2 => ("CurrentFarms$State", "rules", "LCurrentFarms$Rules;", true)
  | 3 => ("CurrentFarms$State", "line", "LCurrentFarms$Line;", true)
  | 4 => ("CurrentFarms$State", "breaks", "LCurrentFarms$Breaks;", true)
  | 5 => ("CurrentFarms$State", "coins", "LCurrentFarms$Coins;", true)
  | _ => ("CurrentFarms$State", "now", "I", false)
def tyX8 : Nat → FieldType := fun k => match k with
  | 0 => .object "CurrentFarms$Land"
  | 1 => .object "CurrentFarms$Book"
  | 2 => .object "CurrentFarms$Rules"
  | 3 => .object "CurrentFarms$Line"
  | 4 => .object "CurrentFarms$Breaks"
  | 5 => .object "CurrentFarms$Coins"
  | _ => .int
theorem nmX8 : ∀ a, a < 7 → ∀ b, b < 7 → a ≠ b → (TX8 a).2.1 ≠ (TX8 b).2.1 := by decide +kernel
theorem tyX8_ok : ∀ k, k < 7 → parseFieldDescriptor (TX8 k).2.2.1 = some (tyX8 k) := by decide +kernel
def TX9 : u_T := fun k => match k with
  | 0 => ("CurrentFarms$Volts", "state", "LCurrentFarms$State;", true)
  | 1 => ("CurrentFarms$Volts", "volts", "[I", true)
  | 2 => ("CurrentFarms$Volts", "carried", "[I", true)
  | 3 => ("CurrentFarms$Volts", "sweeps", "I", false)
  | _ => ("CurrentFarms$Volts", "settled", "Z", false)
def tyX9 : Nat → FieldType := fun k => match k with
  | 0 => .object "CurrentFarms$State"
  | 1 => .array .int
  | 2 => .array .int
  | 3 => .int
  | _ => .boolean
theorem nmX9 : ∀ a, a < 5 → ∀ b, b < 5 → a ≠ b → (TX9 a).2.1 ≠ (TX9 b).2.1 := by decide +kernel
theorem tyX9_ok : ∀ k, k < 5 → parseFieldDescriptor (TX9 k).2.2.1 = some (tyX9 k) := by decide +kernel
def TX10 : u_T := fun k => match k with
  | 0 => ("CurrentFarms$Ways", "land", "LCurrentFarms$Land;", true)
  | 1 => ("CurrentFarms$Ways", "costs", "[I", true)
  | 2 => ("CurrentFarms$Ways", "least", "[I", true)
  | 3 => ("CurrentFarms$Ways", "ends", "[I", true)
  | 4 => ("CurrentFarms$Ways", "path", "[I", true)
  | 5 => ("CurrentFarms$Ways", "steps", "I", false)
  | 6 => ("CurrentFarms$Ways", "cost", "I", false)
  | _ => ("CurrentFarms$Ways", "fresh", "J", false)
def tyX10 : Nat → FieldType := fun k => match k with
  | 0 => .object "CurrentFarms$Land"
  | 1 => .array .int
  | 2 => .array .int
  | 3 => .array .int
  | 4 => .array .int
  | 5 => .int
  | 6 => .int
  | _ => .long
theorem nmX10 : ∀ a, a < 8 → ∀ b, b < 8 → a ≠ b → (TX10 a).2.1 ≠ (TX10 b).2.1 := by decide +kernel
theorem tyX10_ok : ∀ k, k < 8 → parseFieldDescriptor (TX10 k).2.2.1 = some (tyX10 k) := by decide +kernel
def TX11 : u_T := fun k => match k with
  | 0 => ("CurrentFarms", "here", "LCurrentFarms$State;", true)
  | 1 => ("CurrentFarms", "kept", "LCurrentFarms$State;", true)
  | 2 => ("CurrentFarms", "imaged", "Z", false)
  | 3 => ("CurrentFarms", "reader", "LCurrentFarms$Reader;", true)
  | 4 => ("CurrentFarms", "account", "LCurrentFarms$Account;", true)
  | 5 => ("CurrentFarms", "ways", "LCurrentFarms$Ways;", true)
  | 6 => ("CurrentFarms", "volts", "LCurrentFarms$Volts;", true)
  | _ => ("CurrentFarms", "trial", "LCurrentFarms$Line;", true)
def tyX11 : Nat → FieldType := fun k => match k with
  | 0 => .object "CurrentFarms$State"
  | 1 => .object "CurrentFarms$State"
  | 2 => .boolean
  | 3 => .object "CurrentFarms$Reader"
  | 4 => .object "CurrentFarms$Account"
  | 5 => .object "CurrentFarms$Ways"
  | 6 => .object "CurrentFarms$Volts"
  | _ => .object "CurrentFarms$Line"
theorem nmX11 : ∀ a, a < 8 → ∀ b, b < 8 → a ≠ b → (TX11 a).2.1 ≠ (TX11 b).2.1 := by decide +kernel
theorem tyX11_ok : ∀ k, k < 8 → parseFieldDescriptor (TX11 k).2.2.1 = some (tyX11 k) := by decide +kernel
def TX12 : u_T := fun k => match k with
  | 0 => ("CurrentFarmsModel", "thrown", "I", false)
  | 1 => ("CurrentFarmsModel", "s", "[I", true)
  | 2 => ("CurrentFarmsModel", "image", "[I", true)
  | 3 => ("CurrentFarmsModel", "hasImage", "Z", false)
  | 4 => ("CurrentFarmsModel", "kinds", "[I", true)
  | 5 => ("CurrentFarmsModel", "waits", "[I", true)
  | 6 => ("CurrentFarmsModel", "act", "I", false)
  | 7 => ("CurrentFarmsModel", "spot", "I", false)
  | 8 => ("CurrentFarmsModel", "isWrong", "Z", false)
  | 9 => ("CurrentFarmsModel", "names", "[I", true)
  | 10 => ("CurrentFarmsModel", "least", "[I", true)
  | 11 => ("CurrentFarmsModel", "heights", "[I", true)
  | 12 => ("CurrentFarmsModel", "poles", "[I", true)
  | 13 => ("CurrentFarmsModel", "far", "[I", true)
  | 14 => ("CurrentFarmsModel", "path", "[I", true)
  | 15 => ("CurrentFarmsModel", "pathLong", "I", false)
  | 16 => ("CurrentFarmsModel", "volts", "[I", true)
  | 17 => ("CurrentFarmsModel", "row", "[I", true)
  | 18 => ("CurrentFarmsModel", "carries", "[J", true)
  | 19 => ("CurrentFarmsModel", "sweeps", "I", false)
  | 20 => ("CurrentFarmsModel", "isSettled", "Z", false)
  | 21 => ("CurrentFarmsModel", "stamp", "I", false)
  | 22 => ("CurrentFarmsModel", "unitsOf", "[I", true)
  | 23 => ("CurrentFarmsModel", "unitsStamp", "[I", true)
  | 24 => ("CurrentFarmsModel", "arrearsOf", "[I", true)
  | 25 => ("CurrentFarmsModel", "arrearsStamp", "[I", true)
  | 26 => ("CurrentFarmsModel", "tried6", "[I", true)
  | 27 => ("CurrentFarmsModel", "best6", "[I", true)
  | 28 => ("CurrentFarmsModel", "done", "[I", true)
  | 29 => ("CurrentFarmsModel", "way10", "[I", true)
  | 30 => ("CurrentFarmsModel", "leastMilk", "J", false)
  | _ => ("CurrentFarmsModel", "parents", "[I", true)
def tyX12 : Nat → FieldType := fun k => match k with
  | 0 => .int
  | 1 => .array .int
  | 2 => .array .int
  | 3 => .boolean
  | 4 => .array .int
  | 5 => .array .int
  | 6 => .int
  | 7 => .int
  | 8 => .boolean
  | 9 => .array .int
  | 10 => .array .int
  | 11 => .array .int
  | 12 => .array .int
  | 13 => .array .int
  | 14 => .array .int
  | 15 => .int
  | 16 => .array .int
  | 17 => .array .int
  | 18 => .array .long
  | 19 => .int
  | 20 => .boolean
  | 21 => .int
  | 22 => .array .int
  | 23 => .array .int
  | 24 => .array .int
  | 25 => .array .int
  | 26 => .array .int
  | 27 => .array .int
  | 28 => .array .int
  | 29 => .array .int
  | 30 => .long
  | _ => .array .int
theorem nmX12 : ∀ a, a < 32 → ∀ b, b < 32 → a ≠ b → (TX12 a).2.1 ≠ (TX12 b).2.1 := by decide +kernel
theorem tyX12_ok : ∀ k, k < 32 → parseFieldDescriptor (TX12 k).2.2.1 = some (tyX12 k) := by decide +kernel
abbrev vcl : List vw_C := [("CurrentFarms$Account", TX0, 11), ("CurrentFarms$Book", TX1, 7), ("CurrentFarms$Breaks", TX2, 8), ("CurrentFarms$Coins", TX3, 7), ("CurrentFarms$Land", TX4, 6), ("CurrentFarms$Line", TX5, 7), ("CurrentFarms$Reader", TX6, 5), ("CurrentFarms$Rules", TX7, 12), ("CurrentFarms$State", TX8, 7), ("CurrentFarms$Volts", TX9, 5), ("CurrentFarms$Ways", TX10, 8), ("CurrentFarms", TX11, 8), ("CurrentFarmsModel", TX12, 32)]
abbrev Mem : Type := (Nat → Nat → Int32) × (Nat → Nat → Int64)
def wR (m : Mem) (k : Nat) (f : Nat → Int32) : Mem := (fun a => if a = k then f else m.1 a, m.2)
def wI (m : Mem) (k i : Nat) (v : Int32) : Mem := wR m k (upd (m.1 k) i v)
def wLr (m : Mem) (k : Nat) (f : Nat → Int64) : Mem := (m.1, fun a => if a = k then f else m.2 a)
def wL (m : Mem) (k i : Nat) (v : Int64) : Mem := wLr m k (vp_updL (m.2 k) i v)
def tb (ad : Nat → Nat) (cI cJ : ClassId) (m : Mem) : va_W := [(ad 0, .inr (11, [.ref (ad 1), .ref (ad 39), .int (m.1 0 2), .ref (ad 77), .ref (ad 79), .ref (ad 81), .ref (ad 86), .ref (ad 89)])), (ad 1, .inr (8, [.ref (ad 2), .ref (ad 7), .ref (ad 14), .ref (ad 24), .ref (ad 29), .ref (ad 36), .int (m.1 1 6)])), (ad 2, .inr (4, [.ref (ad 3), .ref (ad 4), .ref (ad 5), .ref (ad 6), .int (m.1 2 4), .int (m.1 2 5)])), (ad 3, .inl (cI, 48, .inl (m.1 3))), (ad 4, .inl (cI, 48, .inl (m.1 4))), (ad 5, .inl (cI, 10, .inl (m.1 5))), (ad 6, .inl (cI, 10, .inl (m.1 6))), (ad 7, .inr (1, [.ref (ad 8), .ref (ad 9), .ref (ad 10), .ref (ad 11), .ref (ad 12), .int (m.1 7 5), .ref (ad 13)])), (ad 8, .inl (cI, 120, .inl (m.1 8))), (ad 9, .inl (cI, 120, .inl (m.1 9))), (ad 10, .inl (cI, 120, .inl (m.1 10))), (ad 11, .inl (cI, 120, .inl (m.1 11))), (ad 12, .inl (cI, 120, .inl (m.1 12))), (ad 13, .inl (cI, 10, .inl (m.1 13))), (ad 14, .inr (7, [.ref (ad 15), .int (m.1 14 1), .ref (ad 16), .ref (ad 17), .ref (ad 18), .ref (ad 19), .ref (ad 20), .ref (ad 21), .ref (ad 22), .int (m.1 14 9), .ref (ad 23), .int (m.1 14 11)])), (ad 15, .inl (cI, 120, .inl (m.1 15))), (ad 16, .inl (cI, 1080, .inl (m.1 16))), (ad 17, .inl (cI, 9, .inl (m.1 17))), (ad 18, .inl (cI, 9, .inl (m.1 18))), (ad 19, .inl (cI, 72, .inl (m.1 19))), (ad 20, .inl (cI, 72, .inl (m.1 20))), (ad 21, .inl (cI, 72, .inl (m.1 21))), (ad 22, .inl (cI, 72, .inl (m.1 22))), (ad 23, .inl (cI, 60, .inl (m.1 23))), (ad 24, .inr (5, [.ref (ad 25), .ref (ad 26), .int (m.1 24 2), .int (m.1 24 3), .int (m.1 24 4), .ref (ad 27), .ref (ad 28)])), (ad 25, .inl (cI, 48, .inl (m.1 25))), (ad 26, .inl (cI, 48, .inl (m.1 26))), (ad 27, .inl (cI, 48, .inl (m.1 27))), (ad 28, .inl (cI, 48, .inl (m.1 28))), (ad 29, .inr (2, [.ref (ad 30), .ref (ad 31), .int (m.1 29 2), .ref (ad 32), .ref (ad 33), .int (m.1 29 5), .ref (ad 34), .ref (ad 35)])), (ad 30, .inl (cI, 6, .inl (m.1 30))), (ad 31, .inl (cI, 6, .inl (m.1 31))), (ad 32, .inl (cI, 6, .inl (m.1 32))), (ad 33, .inl (cI, 6, .inl (m.1 33))), (ad 34, .inl (cI, 10, .inl (m.1 34))), (ad 35, .inl (cI, 10, .inl (m.1 35))), (ad 36, .inr (3, [.ref (ad 37), .ref (ad 38), .int (m.1 36 2), .int (m.1 36 3), .int (m.1 36 4), .int (m.1 36 5), .int (m.1 36 6)])), (ad 37, .inl (cI, 1210, .inl (m.1 37))), (ad 38, .inl (cI, 1210, .inl (m.1 38))), (ad 39, .inr (8, [.ref (ad 40), .ref (ad 45), .ref (ad 52), .ref (ad 62), .ref (ad 67), .ref (ad 74), .int (m.1 39 6)])), (ad 40, .inr (4, [.ref (ad 41), .ref (ad 42), .ref (ad 43), .ref (ad 44), .int (m.1 40 4), .int (m.1 40 5)])), (ad 41, .inl (cI, 48, .inl (m.1 41))), (ad 42, .inl (cI, 48, .inl (m.1 42))), (ad 43, .inl (cI, 10, .inl (m.1 43))), (ad 44, .inl (cI, 10, .inl (m.1 44))), (ad 45, .inr (1, [.ref (ad 46), .ref (ad 47), .ref (ad 48), .ref (ad 49), .ref (ad 50), .int (m.1 45 5), .ref (ad 51)])), (ad 46, .inl (cI, 120, .inl (m.1 46))), (ad 47, .inl (cI, 120, .inl (m.1 47))), (ad 48, .inl (cI, 120, .inl (m.1 48))), (ad 49, .inl (cI, 120, .inl (m.1 49))), (ad 50, .inl (cI, 120, .inl (m.1 50))), (ad 51, .inl (cI, 10, .inl (m.1 51))), (ad 52, .inr (7, [.ref (ad 53), .int (m.1 52 1), .ref (ad 54), .ref (ad 55), .ref (ad 56), .ref (ad 57), .ref (ad 58), .ref (ad 59), .ref (ad 60), .int (m.1 52 9), .ref (ad 61), .int (m.1 52 11)])), (ad 53, .inl (cI, 120, .inl (m.1 53))), (ad 54, .inl (cI, 1080, .inl (m.1 54))), (ad 55, .inl (cI, 9, .inl (m.1 55))), (ad 56, .inl (cI, 9, .inl (m.1 56))), (ad 57, .inl (cI, 72, .inl (m.1 57))), (ad 58, .inl (cI, 72, .inl (m.1 58))), (ad 59, .inl (cI, 72, .inl (m.1 59))), (ad 60, .inl (cI, 72, .inl (m.1 60))), (ad 61, .inl (cI, 60, .inl (m.1 61))), (ad 62, .inr (5, [.ref (ad 63), .ref (ad 64), .int (m.1 62 2), .int (m.1 62 3), .int (m.1 62 4), .ref (ad 65), .ref (ad 66)])), (ad 63, .inl (cI, 48, .inl (m.1 63))), (ad 64, .inl (cI, 48, .inl (m.1 64))), (ad 65, .inl (cI, 48, .inl (m.1 65))), (ad 66, .inl (cI, 48, .inl (m.1 66))), (ad 67, .inr (2, [.ref (ad 68), .ref (ad 69), .int (m.1 67 2), .ref (ad 70), .ref (ad 71), .int (m.1 67 5), .ref (ad 72), .ref (ad 73)])), (ad 68, .inl (cI, 6, .inl (m.1 68))), (ad 69, .inl (cI, 6, .inl (m.1 69))), (ad 70, .inl (cI, 6, .inl (m.1 70))), (ad 71, .inl (cI, 6, .inl (m.1 71))), (ad 72, .inl (cI, 10, .inl (m.1 72))), (ad 73, .inl (cI, 10, .inl (m.1 73))), (ad 74, .inr (3, [.ref (ad 75), .ref (ad 76), .int (m.1 74 2), .int (m.1 74 3), .int (m.1 74 4), .int (m.1 74 5), .int (m.1 74 6)])), (ad 75, .inl (cI, 1210, .inl (m.1 75))), (ad 76, .inl (cI, 1210, .inl (m.1 76))), (ad 77, .inr (6, [.ref (ad 14), .ref (ad 78), .int (m.1 77 2), .int (m.1 77 3), .int (m.1 77 4)])), (ad 78, .inl (cI, 120, .inl (m.1 78))), (ad 79, .inr (0, [.ref (ad 1), .ref (ad 80), .int (m.1 79 2), .int (m.1 79 3), .int (m.1 79 4), .int (m.1 79 5), .int (m.1 79 6), .int (m.1 79 7), .int (m.1 79 8), .int (m.1 79 9), .int (m.1 79 10)])), (ad 80, .inl (cI, 5, .inl (m.1 80))), (ad 81, .inr (10, [.ref (ad 2), .ref (ad 82), .ref (ad 83), .ref (ad 84), .ref (ad 85), .int (m.1 81 5), .int (m.1 81 6), .long (m.2 81 7)])), (ad 82, .inl (cI, 192, .inl (m.1 82))), (ad 83, .inl (cI, 3072, .inl (m.1 83))), (ad 84, .inl (cI, 6, .inl (m.1 84))), (ad 85, .inl (cI, 48, .inl (m.1 85))), (ad 86, .inr (9, [.ref (ad 1), .ref (ad 87), .ref (ad 88), .int (m.1 86 3), .int (m.1 86 4)])), (ad 87, .inl (cI, 48, .inl (m.1 87))), (ad 88, .inl (cI, 48, .inl (m.1 88))), (ad 89, .inr (5, [.ref (ad 90), .ref (ad 91), .int (m.1 89 2), .int (m.1 89 3), .int (m.1 89 4), .ref (ad 92), .ref (ad 93)])), (ad 90, .inl (cI, 48, .inl (m.1 90))), (ad 91, .inl (cI, 48, .inl (m.1 91))), (ad 92, .inl (cI, 48, .inl (m.1 92))), (ad 93, .inl (cI, 48, .inl (m.1 93))), (ad 94, .inr (12, [.int (m.1 94 0), .ref (ad 95), .ref (ad 96), .int (m.1 94 3), .ref (ad 97), .ref (ad 98), .int (m.1 94 6), .int (m.1 94 7), .int (m.1 94 8), .ref (ad 99), .ref (ad 100), .ref (ad 101), .ref (ad 102), .ref (ad 103), .ref (ad 104), .int (m.1 94 15), .ref (ad 105), .ref (ad 106), .ref (ad 107), .int (m.1 94 19), .int (m.1 94 20), .int (m.1 94 21), .ref (ad 108), .ref (ad 109), .ref (ad 110), .ref (ad 111), .ref (ad 112), .ref (ad 113), .ref (ad 114), .ref (ad 115), .long (m.2 94 30), .ref (ad 116)])), (ad 95, .inl (cI, 4700, .inl (m.1 95))), (ad 96, .inl (cI, 4700, .inl (m.1 96))), (ad 97, .inl (cI, 10, .inl (m.1 97))), (ad 98, .inl (cI, 10, .inl (m.1 98))), (ad 99, .inl (cI, 5, .inl (m.1 99))), (ad 100, .inl (cI, 3072, .inl (m.1 100))), (ad 101, .inl (cI, 48, .inl (m.1 101))), (ad 102, .inl (cI, 48, .inl (m.1 102))), (ad 103, .inl (cI, 48, .inl (m.1 103))), (ad 104, .inl (cI, 48, .inl (m.1 104))), (ad 105, .inl (cI, 48, .inl (m.1 105))), (ad 106, .inl (cI, 48, .inl (m.1 106))), (ad 107, .inl (cJ, 48, .inr (.inl (m.2 107)))), (ad 108, .inl (cI, 1210, .inl (m.1 108))), (ad 109, .inl (cI, 10, .inl (m.1 109))), (ad 110, .inl (cI, 1210, .inl (m.1 110))), (ad 111, .inl (cI, 10, .inl (m.1 111))), (ad 112, .inl (cI, 6, .inl (m.1 112))), (ad 113, .inl (cI, 6, .inl (m.1 113))), (ad 114, .inl (cI, 6, .inl (m.1 114))), (ad 115, .inl (cI, 10, .inl (m.1 115))), (ad 116, .inl (cI, 48, .inl (m.1 116)))]
def ArrI (k n : Nat) : Prop := (∀ (ad : Nat → Nat) (cI cJ : ClassId) (m : Mem), (tb ad cI cJ m)[k]? = some (ad k, .inl (cI, n, .inl (m.1 k)))) ∧ ∀ (ad : Nat → Nat) (cI cJ : ClassId) (m : Mem) (f : Nat → Int32), (tb ad cI cJ m).set k (ad k, .inl (cI, n, .inl f)) = tb ad cI cJ (wR m k f)
def ArrJ (k n : Nat) : Prop := (∀ (ad : Nat → Nat) (cI cJ : ClassId) (m : Mem), (tb ad cI cJ m)[k]? = some (ad k, .inl (cJ, n, .inr (.inl (m.2 k))))) ∧ ∀ (ad : Nat → Nat) (cI cJ : ClassId) (m : Mem) (f : Nat → Int64), (tb ad cI cJ m).set k (ad k, .inl (cJ, n, .inr (.inl f))) = tb ad cI cJ (wLr m k f)
def ObjI (k ci : Nat) (fs : (Nat → Nat) → Mem → List Value) : Prop := ∀ (ad : Nat → Nat) (cI cJ : ClassId) (m : Mem), (tb ad cI cJ m)[k]? = some (ad k, .inr (ci, fs ad m))
def FldI (k ci : Nat) (fs : (Nat → Nat) → Mem → List Value) (j : Nat) : Prop := ∀ (ad : Nat → Nat) (cI cJ : ClassId) (m : Mem) (v : Int32), (tb ad cI cJ m).set k (ad k, .inr (ci, (fs ad m).set j (.int v))) = tb ad cI cJ (wI m k j v)
def FldJ (k ci : Nat) (fs : (Nat → Nat) → Mem → List Value) (j : Nat) : Prop := ∀ (ad : Nat → Nat) (cI cJ : ClassId) (m : Mem) (v : Int64), (tb ad cI cJ m).set k (ad k, .inr (ci, (fs ad m).set j (.long v))) = tb ad cI cJ (wL m k j v)
abbrev fs_0 (ad : Nat → Nat) (m : Mem) : List Value := [.ref (ad 1), .ref (ad 39), .int (m.1 0 2), .ref (ad 77), .ref (ad 79), .ref (ad 81), .ref (ad 86), .ref (ad 89)]
abbrev fs_1 (ad : Nat → Nat) (m : Mem) : List Value := [.ref (ad 2), .ref (ad 7), .ref (ad 14), .ref (ad 24), .ref (ad 29), .ref (ad 36), .int (m.1 1 6)]
abbrev fs_2 (ad : Nat → Nat) (m : Mem) : List Value := [.ref (ad 3), .ref (ad 4), .ref (ad 5), .ref (ad 6), .int (m.1 2 4), .int (m.1 2 5)]
abbrev fs_7 (ad : Nat → Nat) (m : Mem) : List Value := [.ref (ad 8), .ref (ad 9), .ref (ad 10), .ref (ad 11), .ref (ad 12), .int (m.1 7 5), .ref (ad 13)]
abbrev fs_14 (ad : Nat → Nat) (m : Mem) : List Value := [.ref (ad 15), .int (m.1 14 1), .ref (ad 16), .ref (ad 17), .ref (ad 18), .ref (ad 19), .ref (ad 20), .ref (ad 21), .ref (ad 22), .int (m.1 14 9), .ref (ad 23), .int (m.1 14 11)]
abbrev fs_24 (ad : Nat → Nat) (m : Mem) : List Value := [.ref (ad 25), .ref (ad 26), .int (m.1 24 2), .int (m.1 24 3), .int (m.1 24 4), .ref (ad 27), .ref (ad 28)]
abbrev fs_29 (ad : Nat → Nat) (m : Mem) : List Value := [.ref (ad 30), .ref (ad 31), .int (m.1 29 2), .ref (ad 32), .ref (ad 33), .int (m.1 29 5), .ref (ad 34), .ref (ad 35)]
abbrev fs_36 (ad : Nat → Nat) (m : Mem) : List Value := [.ref (ad 37), .ref (ad 38), .int (m.1 36 2), .int (m.1 36 3), .int (m.1 36 4), .int (m.1 36 5), .int (m.1 36 6)]
abbrev fs_39 (ad : Nat → Nat) (m : Mem) : List Value := [.ref (ad 40), .ref (ad 45), .ref (ad 52), .ref (ad 62), .ref (ad 67), .ref (ad 74), .int (m.1 39 6)]
abbrev fs_40 (ad : Nat → Nat) (m : Mem) : List Value := [.ref (ad 41), .ref (ad 42), .ref (ad 43), .ref (ad 44), .int (m.1 40 4), .int (m.1 40 5)]
abbrev fs_45 (ad : Nat → Nat) (m : Mem) : List Value := [.ref (ad 46), .ref (ad 47), .ref (ad 48), .ref (ad 49), .ref (ad 50), .int (m.1 45 5), .ref (ad 51)]
abbrev fs_52 (ad : Nat → Nat) (m : Mem) : List Value := [.ref (ad 53), .int (m.1 52 1), .ref (ad 54), .ref (ad 55), .ref (ad 56), .ref (ad 57), .ref (ad 58), .ref (ad 59), .ref (ad 60), .int (m.1 52 9), .ref (ad 61), .int (m.1 52 11)]
abbrev fs_62 (ad : Nat → Nat) (m : Mem) : List Value := [.ref (ad 63), .ref (ad 64), .int (m.1 62 2), .int (m.1 62 3), .int (m.1 62 4), .ref (ad 65), .ref (ad 66)]
abbrev fs_67 (ad : Nat → Nat) (m : Mem) : List Value := [.ref (ad 68), .ref (ad 69), .int (m.1 67 2), .ref (ad 70), .ref (ad 71), .int (m.1 67 5), .ref (ad 72), .ref (ad 73)]
abbrev fs_74 (ad : Nat → Nat) (m : Mem) : List Value := [.ref (ad 75), .ref (ad 76), .int (m.1 74 2), .int (m.1 74 3), .int (m.1 74 4), .int (m.1 74 5), .int (m.1 74 6)]
abbrev fs_77 (ad : Nat → Nat) (m : Mem) : List Value := [.ref (ad 14), .ref (ad 78), .int (m.1 77 2), .int (m.1 77 3), .int (m.1 77 4)]
abbrev fs_79 (ad : Nat → Nat) (m : Mem) : List Value := [.ref (ad 1), .ref (ad 80), .int (m.1 79 2), .int (m.1 79 3), .int (m.1 79 4), .int (m.1 79 5), .int (m.1 79 6), .int (m.1 79 7), .int (m.1 79 8), .int (m.1 79 9), .int (m.1 79 10)]
abbrev fs_81 (ad : Nat → Nat) (m : Mem) : List Value := [.ref (ad 2), .ref (ad 82), .ref (ad 83), .ref (ad 84), .ref (ad 85), .int (m.1 81 5), .int (m.1 81 6), .long (m.2 81 7)]
abbrev fs_86 (ad : Nat → Nat) (m : Mem) : List Value := [.ref (ad 1), .ref (ad 87), .ref (ad 88), .int (m.1 86 3), .int (m.1 86 4)]
abbrev fs_89 (ad : Nat → Nat) (m : Mem) : List Value := [.ref (ad 90), .ref (ad 91), .int (m.1 89 2), .int (m.1 89 3), .int (m.1 89 4), .ref (ad 92), .ref (ad 93)]
abbrev fs_94 (ad : Nat → Nat) (m : Mem) : List Value := [.int (m.1 94 0), .ref (ad 95), .ref (ad 96), .int (m.1 94 3), .ref (ad 97), .ref (ad 98), .int (m.1 94 6), .int (m.1 94 7), .int (m.1 94 8), .ref (ad 99), .ref (ad 100), .ref (ad 101), .ref (ad 102), .ref (ad 103), .ref (ad 104), .int (m.1 94 15), .ref (ad 105), .ref (ad 106), .ref (ad 107), .int (m.1 94 19), .int (m.1 94 20), .int (m.1 94 21), .ref (ad 108), .ref (ad 109), .ref (ad 110), .ref (ad 111), .ref (ad 112), .ref (ad 113), .ref (ad 114), .ref (ad 115), .long (m.2 94 30), .ref (ad 116)]
