theorem oi_0 : ObjI 0 11 fs_0 := fun _ _ _ _ => rfl
theorem of_0_2 : FldI 0 11 fs_0 2 := fun _ _ _ _ _ => rfl
theorem oi_1 : ObjI 1 8 fs_1 := fun _ _ _ _ => rfl
theorem of_1_6 : FldI 1 8 fs_1 6 := fun _ _ _ _ _ => rfl
theorem oi_2 : ObjI 2 4 fs_2 := fun _ _ _ _ => rfl
theorem of_2_4 : FldI 2 4 fs_2 4 := fun _ _ _ _ _ => rfl
theorem of_2_5 : FldI 2 4 fs_2 5 := fun _ _ _ _ _ => rfl
theorem ai_3 : ArrI 3 48 := ⟨fun _ _ _ _ => rfl, fun _ _ _ _ _ => rfl⟩
theorem ai_4 : ArrI 4 48 := ⟨fun _ _ _ _ => rfl, fun _ _ _ _ _ => rfl⟩
theorem ai_5 : ArrI 5 10 := ⟨fun _ _ _ _ => rfl, fun _ _ _ _ _ => rfl⟩
theorem ai_6 : ArrI 6 10 := ⟨fun _ _ _ _ => rfl, fun _ _ _ _ _ => rfl⟩
theorem oi_7 : ObjI 7 1 fs_7 := fun _ _ _ _ => rfl
theorem of_7_5 : FldI 7 1 fs_7 5 := fun _ _ _ _ _ => rfl
theorem ai_8 : ArrI 8 120 := ⟨fun _ _ _ _ => rfl, fun _ _ _ _ _ => rfl⟩
theorem ai_9 : ArrI 9 120 := ⟨fun _ _ _ _ => rfl, fun _ _ _ _ _ => rfl⟩
theorem ai_10 : ArrI 10 120 := ⟨fun _ _ _ _ => rfl, fun _ _ _ _ _ => rfl⟩
theorem ai_11 : ArrI 11 120 := ⟨fun _ _ _ _ => rfl, fun _ _ _ _ _ => rfl⟩
theorem ai_12 : ArrI 12 120 := ⟨fun _ _ _ _ => rfl, fun _ _ _ _ _ => rfl⟩
theorem ai_13 : ArrI 13 10 := ⟨fun _ _ _ _ => rfl, fun _ _ _ _ _ => rfl⟩
theorem oi_14 : ObjI 14 7 fs_14 := fun _ _ _ _ => rfl
theorem of_14_1 : FldI 14 7 fs_14 1 := fun _ _ _ _ _ => rfl
theorem of_14_9 : FldI 14 7 fs_14 9 := fun _ _ _ _ _ => rfl
theorem of_14_11 : FldI 14 7 fs_14 11 := fun _ _ _ _ _ => rfl
theorem ai_15 : ArrI 15 120 := ⟨fun _ _ _ _ => rfl, fun _ _ _ _ _ => rfl⟩
theorem ai_16 : ArrI 16 1080 := ⟨fun _ _ _ _ => rfl, fun _ _ _ _ _ => rfl⟩
theorem ai_17 : ArrI 17 9 := ⟨fun _ _ _ _ => rfl, fun _ _ _ _ _ => rfl⟩
theorem ai_18 : ArrI 18 9 := ⟨fun _ _ _ _ => rfl, fun _ _ _ _ _ => rfl⟩
theorem ai_19 : ArrI 19 72 := ⟨fun _ _ _ _ => rfl, fun _ _ _ _ _ => rfl⟩
theorem ai_20 : ArrI 20 72 := ⟨fun _ _ _ _ => rfl, fun _ _ _ _ _ => rfl⟩
theorem ai_21 : ArrI 21 72 := ⟨fun _ _ _ _ => rfl, fun _ _ _ _ _ => rfl⟩
theorem ai_22 : ArrI 22 72 := ⟨fun _ _ _ _ => rfl, fun _ _ _ _ _ => rfl⟩
theorem ai_23 : ArrI 23 60 := ⟨fun _ _ _ _ => rfl, fun _ _ _ _ _ => rfl⟩
theorem oi_24 : ObjI 24 5 fs_24 := fun _ _ _ _ => rfl
theorem of_24_2 : FldI 24 5 fs_24 2 := fun _ _ _ _ _ => rfl
theorem of_24_3 : FldI 24 5 fs_24 3 := fun _ _ _ _ _ => rfl
theorem of_24_4 : FldI 24 5 fs_24 4 := fun _ _ _ _ _ => rfl
theorem ai_25 : ArrI 25 48 := ⟨fun _ _ _ _ => rfl, fun _ _ _ _ _ => rfl⟩
theorem ai_26 : ArrI 26 48 := ⟨fun _ _ _ _ => rfl, fun _ _ _ _ _ => rfl⟩
theorem ai_27 : ArrI 27 48 := ⟨fun _ _ _ _ => rfl, fun _ _ _ _ _ => rfl⟩
theorem ai_28 : ArrI 28 48 := ⟨fun _ _ _ _ => rfl, fun _ _ _ _ _ => rfl⟩
theorem oi_29 : ObjI 29 2 fs_29 := fun _ _ _ _ => rfl
theorem of_29_2 : FldI 29 2 fs_29 2 := fun _ _ _ _ _ => rfl
theorem of_29_5 : FldI 29 2 fs_29 5 := fun _ _ _ _ _ => rfl
theorem ai_30 : ArrI 30 6 := ⟨fun _ _ _ _ => rfl, fun _ _ _ _ _ => rfl⟩
theorem ai_31 : ArrI 31 6 := ⟨fun _ _ _ _ => rfl, fun _ _ _ _ _ => rfl⟩
theorem ai_32 : ArrI 32 6 := ⟨fun _ _ _ _ => rfl, fun _ _ _ _ _ => rfl⟩
theorem ai_33 : ArrI 33 6 := ⟨fun _ _ _ _ => rfl, fun _ _ _ _ _ => rfl⟩
theorem ai_34 : ArrI 34 10 := ⟨fun _ _ _ _ => rfl, fun _ _ _ _ _ => rfl⟩
theorem ai_35 : ArrI 35 10 := ⟨fun _ _ _ _ => rfl, fun _ _ _ _ _ => rfl⟩
theorem oi_36 : ObjI 36 3 fs_36 := fun _ _ _ _ => rfl
theorem of_36_2 : FldI 36 3 fs_36 2 := fun _ _ _ _ _ => rfl
theorem of_36_3 : FldI 36 3 fs_36 3 := fun _ _ _ _ _ => rfl
theorem of_36_4 : FldI 36 3 fs_36 4 := fun _ _ _ _ _ => rfl
theorem of_36_5 : FldI 36 3 fs_36 5 := fun _ _ _ _ _ => rfl
theorem of_36_6 : FldI 36 3 fs_36 6 := fun _ _ _ _ _ => rfl
theorem ai_37 : ArrI 37 1210 := ⟨fun _ _ _ _ => rfl, fun _ _ _ _ _ => rfl⟩
theorem ai_38 : ArrI 38 1210 := ⟨fun _ _ _ _ => rfl, fun _ _ _ _ _ => rfl⟩
theorem oi_39 : ObjI 39 8 fs_39 := fun _ _ _ _ => rfl
theorem of_39_6 : FldI 39 8 fs_39 6 := fun _ _ _ _ _ => rfl
theorem oi_40 : ObjI 40 4 fs_40 := fun _ _ _ _ => rfl
theorem of_40_4 : FldI 40 4 fs_40 4 := fun _ _ _ _ _ => rfl
theorem of_40_5 : FldI 40 4 fs_40 5 := fun _ _ _ _ _ => rfl
theorem ai_41 : ArrI 41 48 := ⟨fun _ _ _ _ => rfl, fun _ _ _ _ _ => rfl⟩
theorem ai_42 : ArrI 42 48 := ⟨fun _ _ _ _ => rfl, fun _ _ _ _ _ => rfl⟩
theorem ai_43 : ArrI 43 10 := ⟨fun _ _ _ _ => rfl, fun _ _ _ _ _ => rfl⟩
theorem ai_44 : ArrI 44 10 := ⟨fun _ _ _ _ => rfl, fun _ _ _ _ _ => rfl⟩
theorem oi_45 : ObjI 45 1 fs_45 := fun _ _ _ _ => rfl
theorem of_45_5 : FldI 45 1 fs_45 5 := fun _ _ _ _ _ => rfl
theorem ai_46 : ArrI 46 120 := ⟨fun _ _ _ _ => rfl, fun _ _ _ _ _ => rfl⟩
theorem ai_47 : ArrI 47 120 := ⟨fun _ _ _ _ => rfl, fun _ _ _ _ _ => rfl⟩
theorem ai_48 : ArrI 48 120 := ⟨fun _ _ _ _ => rfl, fun _ _ _ _ _ => rfl⟩
theorem ai_49 : ArrI 49 120 := ⟨fun _ _ _ _ => rfl, fun _ _ _ _ _ => rfl⟩
theorem ai_50 : ArrI 50 120 := ⟨fun _ _ _ _ => rfl, fun _ _ _ _ _ => rfl⟩
theorem ai_51 : ArrI 51 10 := ⟨fun _ _ _ _ => rfl, fun _ _ _ _ _ => rfl⟩
theorem oi_52 : ObjI 52 7 fs_52 := fun _ _ _ _ => rfl
theorem of_52_1 : FldI 52 7 fs_52 1 := fun _ _ _ _ _ => rfl
theorem of_52_9 : FldI 52 7 fs_52 9 := fun _ _ _ _ _ => rfl
theorem of_52_11 : FldI 52 7 fs_52 11 := fun _ _ _ _ _ => rfl
theorem ai_53 : ArrI 53 120 := ⟨fun _ _ _ _ => rfl, fun _ _ _ _ _ => rfl⟩
theorem ai_54 : ArrI 54 1080 := ⟨fun _ _ _ _ => rfl, fun _ _ _ _ _ => rfl⟩
theorem ai_55 : ArrI 55 9 := ⟨fun _ _ _ _ => rfl, fun _ _ _ _ _ => rfl⟩
theorem ai_56 : ArrI 56 9 := ⟨fun _ _ _ _ => rfl, fun _ _ _ _ _ => rfl⟩
theorem ai_57 : ArrI 57 72 := ⟨fun _ _ _ _ => rfl, fun _ _ _ _ _ => rfl⟩
theorem ai_58 : ArrI 58 72 := ⟨fun _ _ _ _ => rfl, fun _ _ _ _ _ => rfl⟩
theorem ai_59 : ArrI 59 72 := ⟨fun _ _ _ _ => rfl, fun _ _ _ _ _ => rfl⟩
theorem ai_60 : ArrI 60 72 := ⟨fun _ _ _ _ => rfl, fun _ _ _ _ _ => rfl⟩
theorem ai_61 : ArrI 61 60 := ⟨fun _ _ _ _ => rfl, fun _ _ _ _ _ => rfl⟩
theorem oi_62 : ObjI 62 5 fs_62 := fun _ _ _ _ => rfl
theorem of_62_2 : FldI 62 5 fs_62 2 := fun _ _ _ _ _ => rfl
theorem of_62_3 : FldI 62 5 fs_62 3 := fun _ _ _ _ _ => rfl
theorem of_62_4 : FldI 62 5 fs_62 4 := fun _ _ _ _ _ => rfl
theorem ai_63 : ArrI 63 48 := ⟨fun _ _ _ _ => rfl, fun _ _ _ _ _ => rfl⟩
theorem ai_64 : ArrI 64 48 := ⟨fun _ _ _ _ => rfl, fun _ _ _ _ _ => rfl⟩
theorem ai_65 : ArrI 65 48 := ⟨fun _ _ _ _ => rfl, fun _ _ _ _ _ => rfl⟩
theorem ai_66 : ArrI 66 48 := ⟨fun _ _ _ _ => rfl, fun _ _ _ _ _ => rfl⟩
theorem oi_67 : ObjI 67 2 fs_67 := fun _ _ _ _ => rfl
theorem of_67_2 : FldI 67 2 fs_67 2 := fun _ _ _ _ _ => rfl
theorem of_67_5 : FldI 67 2 fs_67 5 := fun _ _ _ _ _ => rfl
theorem ai_68 : ArrI 68 6 := ⟨fun _ _ _ _ => rfl, fun _ _ _ _ _ => rfl⟩
theorem ai_69 : ArrI 69 6 := ⟨fun _ _ _ _ => rfl, fun _ _ _ _ _ => rfl⟩
theorem ai_70 : ArrI 70 6 := ⟨fun _ _ _ _ => rfl, fun _ _ _ _ _ => rfl⟩
theorem ai_71 : ArrI 71 6 := ⟨fun _ _ _ _ => rfl, fun _ _ _ _ _ => rfl⟩
theorem ai_72 : ArrI 72 10 := ⟨fun _ _ _ _ => rfl, fun _ _ _ _ _ => rfl⟩
theorem ai_73 : ArrI 73 10 := ⟨fun _ _ _ _ => rfl, fun _ _ _ _ _ => rfl⟩
theorem oi_74 : ObjI 74 3 fs_74 := fun _ _ _ _ => rfl
theorem of_74_2 : FldI 74 3 fs_74 2 := fun _ _ _ _ _ => rfl
theorem of_74_3 : FldI 74 3 fs_74 3 := fun _ _ _ _ _ => rfl
theorem of_74_4 : FldI 74 3 fs_74 4 := fun _ _ _ _ _ => rfl
theorem of_74_5 : FldI 74 3 fs_74 5 := fun _ _ _ _ _ => rfl
theorem of_74_6 : FldI 74 3 fs_74 6 := fun _ _ _ _ _ => rfl
theorem ai_75 : ArrI 75 1210 := ⟨fun _ _ _ _ => rfl, fun _ _ _ _ _ => rfl⟩
theorem ai_76 : ArrI 76 1210 := ⟨fun _ _ _ _ => rfl, fun _ _ _ _ _ => rfl⟩
theorem oi_77 : ObjI 77 6 fs_77 := fun _ _ _ _ => rfl
theorem of_77_2 : FldI 77 6 fs_77 2 := fun _ _ _ _ _ => rfl
theorem of_77_3 : FldI 77 6 fs_77 3 := fun _ _ _ _ _ => rfl
theorem of_77_4 : FldI 77 6 fs_77 4 := fun _ _ _ _ _ => rfl
theorem ai_78 : ArrI 78 120 := ⟨fun _ _ _ _ => rfl, fun _ _ _ _ _ => rfl⟩
theorem oi_79 : ObjI 79 0 fs_79 := fun _ _ _ _ => rfl
theorem of_79_2 : FldI 79 0 fs_79 2 := fun _ _ _ _ _ => rfl
theorem of_79_3 : FldI 79 0 fs_79 3 := fun _ _ _ _ _ => rfl
theorem of_79_4 : FldI 79 0 fs_79 4 := fun _ _ _ _ _ => rfl
theorem of_79_5 : FldI 79 0 fs_79 5 := fun _ _ _ _ _ => rfl
theorem of_79_6 : FldI 79 0 fs_79 6 := fun _ _ _ _ _ => rfl
theorem of_79_7 : FldI 79 0 fs_79 7 := fun _ _ _ _ _ => rfl
theorem of_79_8 : FldI 79 0 fs_79 8 := fun _ _ _ _ _ => rfl
theorem of_79_9 : FldI 79 0 fs_79 9 := fun _ _ _ _ _ => rfl
theorem of_79_10 : FldI 79 0 fs_79 10 := fun _ _ _ _ _ => rfl
theorem ai_80 : ArrI 80 5 := ⟨fun _ _ _ _ => rfl, fun _ _ _ _ _ => rfl⟩
theorem oi_81 : ObjI 81 10 fs_81 := fun _ _ _ _ => rfl
theorem of_81_5 : FldI 81 10 fs_81 5 := fun _ _ _ _ _ => rfl
theorem of_81_6 : FldI 81 10 fs_81 6 := fun _ _ _ _ _ => rfl
theorem of_81_7 : FldJ 81 10 fs_81 7 := fun _ _ _ _ _ => rfl
theorem ai_82 : ArrI 82 192 := ⟨fun _ _ _ _ => rfl, fun _ _ _ _ _ => rfl⟩
theorem ai_83 : ArrI 83 3072 := ⟨fun _ _ _ _ => rfl, fun _ _ _ _ _ => rfl⟩
theorem ai_84 : ArrI 84 6 := ⟨fun _ _ _ _ => rfl, fun _ _ _ _ _ => rfl⟩
theorem ai_85 : ArrI 85 48 := ⟨fun _ _ _ _ => rfl, fun _ _ _ _ _ => rfl⟩
theorem oi_86 : ObjI 86 9 fs_86 := fun _ _ _ _ => rfl
theorem of_86_3 : FldI 86 9 fs_86 3 := fun _ _ _ _ _ => rfl
theorem of_86_4 : FldI 86 9 fs_86 4 := fun _ _ _ _ _ => rfl
theorem ai_87 : ArrI 87 48 := ⟨fun _ _ _ _ => rfl, fun _ _ _ _ _ => rfl⟩
theorem ai_88 : ArrI 88 48 := ⟨fun _ _ _ _ => rfl, fun _ _ _ _ _ => rfl⟩
theorem oi_89 : ObjI 89 5 fs_89 := fun _ _ _ _ => rfl
theorem of_89_2 : FldI 89 5 fs_89 2 := fun _ _ _ _ _ => rfl
theorem of_89_3 : FldI 89 5 fs_89 3 := fun _ _ _ _ _ => rfl
theorem of_89_4 : FldI 89 5 fs_89 4 := fun _ _ _ _ _ => rfl
theorem ai_90 : ArrI 90 48 := ⟨fun _ _ _ _ => rfl, fun _ _ _ _ _ => rfl⟩
theorem ai_91 : ArrI 91 48 := ⟨fun _ _ _ _ => rfl, fun _ _ _ _ _ => rfl⟩
theorem ai_92 : ArrI 92 48 := ⟨fun _ _ _ _ => rfl, fun _ _ _ _ _ => rfl⟩
theorem ai_93 : ArrI 93 48 := ⟨fun _ _ _ _ => rfl, fun _ _ _ _ _ => rfl⟩
theorem oi_94 : ObjI 94 12 fs_94 := fun _ _ _ _ => rfl
theorem of_94_0 : FldI 94 12 fs_94 0 := fun _ _ _ _ _ => rfl
theorem of_94_3 : FldI 94 12 fs_94 3 := fun _ _ _ _ _ => rfl
theorem of_94_6 : FldI 94 12 fs_94 6 := fun _ _ _ _ _ => rfl
theorem of_94_7 : FldI 94 12 fs_94 7 := fun _ _ _ _ _ => rfl
theorem of_94_8 : FldI 94 12 fs_94 8 := fun _ _ _ _ _ => rfl
theorem of_94_15 : FldI 94 12 fs_94 15 := fun _ _ _ _ _ => rfl
theorem of_94_19 : FldI 94 12 fs_94 19 := fun _ _ _ _ _ => rfl
theorem of_94_20 : FldI 94 12 fs_94 20 := fun _ _ _ _ _ => rfl
theorem of_94_21 : FldI 94 12 fs_94 21 := fun _ _ _ _ _ => rfl
theorem of_94_30 : FldJ 94 12 fs_94 30 := fun _ _ _ _ _ => rfl
theorem ai_95 : ArrI 95 4700 := ⟨fun _ _ _ _ => rfl, fun _ _ _ _ _ => rfl⟩
theorem ai_96 : ArrI 96 4700 := ⟨fun _ _ _ _ => rfl, fun _ _ _ _ _ => rfl⟩
theorem ai_97 : ArrI 97 10 := ⟨fun _ _ _ _ => rfl, fun _ _ _ _ _ => rfl⟩
theorem ai_98 : ArrI 98 10 := ⟨fun _ _ _ _ => rfl, fun _ _ _ _ _ => rfl⟩
theorem ai_99 : ArrI 99 5 := ⟨fun _ _ _ _ => rfl, fun _ _ _ _ _ => rfl⟩
theorem ai_100 : ArrI 100 3072 := ⟨fun _ _ _ _ => rfl, fun _ _ _ _ _ => rfl⟩
theorem ai_101 : ArrI 101 48 := ⟨fun _ _ _ _ => rfl, fun _ _ _ _ _ => rfl⟩
theorem ai_102 : ArrI 102 48 := ⟨fun _ _ _ _ => rfl, fun _ _ _ _ _ => rfl⟩
theorem ai_103 : ArrI 103 48 := ⟨fun _ _ _ _ => rfl, fun _ _ _ _ _ => rfl⟩
theorem ai_104 : ArrI 104 48 := ⟨fun _ _ _ _ => rfl, fun _ _ _ _ _ => rfl⟩
theorem ai_105 : ArrI 105 48 := ⟨fun _ _ _ _ => rfl, fun _ _ _ _ _ => rfl⟩
theorem ai_106 : ArrI 106 48 := ⟨fun _ _ _ _ => rfl, fun _ _ _ _ _ => rfl⟩
theorem ai_107 : ArrJ 107 48 := ⟨fun _ _ _ _ => rfl, fun _ _ _ _ _ => rfl⟩
theorem ai_108 : ArrI 108 1210 := ⟨fun _ _ _ _ => rfl, fun _ _ _ _ _ => rfl⟩
theorem ai_109 : ArrI 109 10 := ⟨fun _ _ _ _ => rfl, fun _ _ _ _ _ => rfl⟩
theorem ai_110 : ArrI 110 1210 := ⟨fun _ _ _ _ => rfl, fun _ _ _ _ _ => rfl⟩
theorem ai_111 : ArrI 111 10 := ⟨fun _ _ _ _ => rfl, fun _ _ _ _ _ => rfl⟩
theorem ai_112 : ArrI 112 6 := ⟨fun _ _ _ _ => rfl, fun _ _ _ _ _ => rfl⟩
theorem ai_113 : ArrI 113 6 := ⟨fun _ _ _ _ => rfl, fun _ _ _ _ _ => rfl⟩
theorem ai_114 : ArrI 114 6 := ⟨fun _ _ _ _ => rfl, fun _ _ _ _ _ => rfl⟩
theorem ai_115 : ArrI 115 10 := ⟨fun _ _ _ _ => rfl, fun _ _ _ _ _ => rfl⟩
theorem ai_116 : ArrI 116 48 := ⟨fun _ _ _ _ => rfl, fun _ _ _ _ _ => rfl⟩
theorem tb_ad (ad : Nat → Nat) (cI cJ : ClassId) (m : Mem) : (tb ad cI cJ m).map (fun q => q.1) = (List.range 117).map ad := rfl
