abbrev zy_LassoFinderModel_measure : MethodName := ⟨"LassoFinderModel", "measure", "(II)V"⟩
abbrev zy_LassoFinderModel_settled : MethodName := ⟨"LassoFinderModel", "settled", "(II)I"⟩
abbrev zy_LassoFinderModel_ahead : MethodName := ⟨"LassoFinderModel", "ahead", "(IJI)J"⟩
theorem zm_373 : Cond.methodLink "LassoFinderModel" 419 ⟨"LassoFinderModel", "settled", "(II)I"⟩ ∈ zTB := z_in (zt_8 _ (List.mem_of_getElem? (i := 83) rfl)) rfl
theorem zm_375 : Cond.methodLink "LassoFinderModel" 422 ⟨"LassoFinderModel", "truthAt", "(II)I"⟩ ∈ zTB := z_in (zt_8 _ (List.mem_of_getElem? (i := 87) rfl)) rfl
theorem zm_376 : Cond.methodLink "LassoFinderModel" 425 ⟨"LassoFinderModel", "away", "(I)I"⟩ ∈ zTB := z_in (zt_8 _ (List.mem_of_getElem? (i := 95) rfl)) rfl
theorem zm_472 : Cond.code ⟨"LassoFinderModel", "away", "(I)I"⟩ prog_14_method_55_code 2 (some .int) ∈ zTB := z_in (zt_8 _ (List.mem_of_getElem? (i := 98) rfl)) rfl
theorem zm_473 : Cond.instanceMethod ⟨"LassoFinderModel", "away", "(I)I"⟩ ∈ zTB := z_in (zt_8 _ (List.mem_of_getElem? (i := 97) rfl)) rfl
theorem zm_474 : Cond.code ⟨"LassoFinderModel", "truthAt", "(II)I"⟩ prog_14_method_52_code 6 (some .int) ∈ zTB := z_in (zt_8 _ (List.mem_of_getElem? (i := 90) rfl)) rfl
theorem zm_475 : Cond.instanceMethod ⟨"LassoFinderModel", "truthAt", "(II)I"⟩ ∈ zTB := z_in (zt_8 _ (List.mem_of_getElem? (i := 89) rfl)) rfl
theorem zm_476 : Cond.code ⟨"LassoFinderModel", "settled", "(II)I"⟩ prog_14_method_53_code 9 (some .int) ∈ zTB := z_in (zt_8 _ (List.mem_of_getElem? (i := 86) rfl)) rfl
theorem zm_477 : Cond.instanceMethod ⟨"LassoFinderModel", "settled", "(II)I"⟩ ∈ zTB := z_in (zt_8 _ (List.mem_of_getElem? (i := 85) rfl)) rfl
theorem zf_LassoFinderModel_away : zFaceV zy_LassoFinderModel_away prog_14_method_55_code 2 (some .int) 1 := ⟨zm_473, (z_in (zp_8 _ (List.mem_of_getElem? (i := 8) rfl)) rfl), zm_25, zm_472, by decide +kernel, by decide +kernel, by decide +kernel⟩
theorem zf_LassoFinderModel_truthAt : zFaceV zy_LassoFinderModel_truthAt prog_14_method_52_code 6 (some .int) 2 := ⟨zm_475, (z_in (zp_8 _ (List.mem_of_getElem? (i := 6) rfl)) rfl), zm_25, zm_474, by decide +kernel, by decide +kernel, by decide +kernel⟩
theorem zf_LassoFinderModel_settled : zFaceV zy_LassoFinderModel_settled prog_14_method_53_code 9 (some .int) 2 := ⟨zm_477, (z_in (zp_8 _ (List.mem_of_getElem? (i := 5) rfl)) rfl), zm_25, zm_476, by decide +kernel, by decide +kernel, by decide +kernel⟩
theorem zd_LassoFinderModel_ahead_0 : decode prog_14_method_63_code 0 = .ok (.lconst 0, 1) := by decide +kernel
theorem zd_LassoFinderModel_ahead_1 : decode prog_14_method_63_code 1 = .ok (.lstore 5, 2) := by decide +kernel
theorem zd_LassoFinderModel_ahead_3 : decode prog_14_method_63_code 3 = .ok (.iconst 0, 1) := by decide +kernel
theorem zd_LassoFinderModel_ahead_4 : decode prog_14_method_63_code 4 = .ok (.istore 7, 2) := by decide +kernel
theorem zd_LassoFinderModel_ahead_6 : decode prog_14_method_63_code 6 = .ok (.iload 7, 2) := by decide +kernel
theorem zd_LassoFinderModel_ahead_8 : decode prog_14_method_63_code 8 = .ok (.iconst 1, 1) := by decide +kernel
theorem zd_LassoFinderModel_ahead_9 : decode prog_14_method_63_code 9 = .ok (.aload_n 0, 1) := by decide +kernel
theorem zd_LassoFinderModel_ahead_10 : decode prog_14_method_63_code 10 = .ok (.getfield 376, 3) := by decide +kernel
theorem zd_LassoFinderModel_ahead_13 : decode prog_14_method_63_code 13 = .ok (.ishl, 1) := by decide +kernel
theorem zd_LassoFinderModel_ahead_14 : decode prog_14_method_63_code 14 = .ok (.if_icmp .ge 123, 3) := by decide +kernel
theorem zd_LassoFinderModel_ahead_17 : decode prog_14_method_63_code 17 = .ok (.aload_n 0, 1) := by decide +kernel
theorem zd_LassoFinderModel_ahead_18 : decode prog_14_method_63_code 18 = .ok (.aload_n 0, 1) := by decide +kernel
theorem zd_LassoFinderModel_ahead_19 : decode prog_14_method_63_code 19 = .ok (.getfield 115, 3) := by decide +kernel
theorem zd_LassoFinderModel_ahead_22 : decode prog_14_method_63_code 22 = .ok (.iload_n 1, 1) := by decide +kernel
theorem zd_LassoFinderModel_ahead_23 : decode prog_14_method_63_code 23 = .ok (.iaload, 1) := by decide +kernel
theorem zd_LassoFinderModel_ahead_24 : decode prog_14_method_63_code 24 = .ok (.iload 7, 2) := by decide +kernel
theorem zd_LassoFinderModel_ahead_26 : decode prog_14_method_63_code 26 = .ok (.invokevirtual 422, 3) := by decide +kernel
theorem zd_LassoFinderModel_ahead_29 : decode prog_14_method_63_code 29 = .ok (.istore 8, 2) := by decide +kernel
theorem zd_LassoFinderModel_ahead_31 : decode prog_14_method_63_code 31 = .ok (.aload_n 0, 1) := by decide +kernel
theorem zd_LassoFinderModel_ahead_32 : decode prog_14_method_63_code 32 = .ok (.aload_n 0, 1) := by decide +kernel
theorem zd_LassoFinderModel_ahead_33 : decode prog_14_method_63_code 33 = .ok (.getfield 112, 3) := by decide +kernel
theorem zd_LassoFinderModel_ahead_36 : decode prog_14_method_63_code 36 = .ok (.iload_n 1, 1) := by decide +kernel
theorem zd_LassoFinderModel_ahead_37 : decode prog_14_method_63_code 37 = .ok (.iaload, 1) := by decide +kernel
theorem zd_LassoFinderModel_ahead_38 : decode prog_14_method_63_code 38 = .ok (.iload 7, 2) := by decide +kernel
theorem zd_LassoFinderModel_ahead_40 : decode prog_14_method_63_code 40 = .ok (.invokevirtual 419, 3) := by decide +kernel
theorem zd_LassoFinderModel_ahead_43 : decode prog_14_method_63_code 43 = .ok (.istore 9, 2) := by decide +kernel
theorem zd_LassoFinderModel_ahead_45 : decode prog_14_method_63_code 45 = .ok (.iconst 0, 1) := by decide +kernel
theorem zd_LassoFinderModel_ahead_46 : decode prog_14_method_63_code 46 = .ok (.istore 10, 2) := by decide +kernel
theorem zd_LassoFinderModel_ahead_48 : decode prog_14_method_63_code 48 = .ok (.iload 10, 2) := by decide +kernel
theorem zd_LassoFinderModel_ahead_50 : decode prog_14_method_63_code 50 = .ok (.iconst 1, 1) := by decide +kernel
theorem zd_LassoFinderModel_ahead_51 : decode prog_14_method_63_code 51 = .ok (.aload_n 0, 1) := by decide +kernel
theorem zd_LassoFinderModel_ahead_52 : decode prog_14_method_63_code 52 = .ok (.getfield 376, 3) := by decide +kernel
theorem zd_LassoFinderModel_ahead_55 : decode prog_14_method_63_code 55 = .ok (.ishl, 1) := by decide +kernel
theorem zd_LassoFinderModel_ahead_56 : decode prog_14_method_63_code 56 = .ok (.if_icmp .ge 75, 3) := by decide +kernel
theorem zd_LassoFinderModel_ahead_59 : decode prog_14_method_63_code 59 = .ok (.iload 10, 2) := by decide +kernel
theorem zd_LassoFinderModel_ahead_61 : decode prog_14_method_63_code 61 = .ok (.iload 9, 2) := by decide +kernel
theorem zd_LassoFinderModel_ahead_63 : decode prog_14_method_63_code 63 = .ok (.ior, 1) := by decide +kernel
theorem zd_LassoFinderModel_ahead_64 : decode prog_14_method_63_code 64 = .ok (.istore 11, 2) := by decide +kernel
theorem zd_LassoFinderModel_ahead_66 : decode prog_14_method_63_code 66 = .ok (.lload_n 2, 1) := by decide +kernel
theorem zd_LassoFinderModel_ahead_67 : decode prog_14_method_63_code 67 = .ok (.bipush 8, 2) := by decide +kernel
theorem zd_LassoFinderModel_ahead_69 : decode prog_14_method_63_code 69 = .ok (.iload 8, 2) := by decide +kernel
theorem zd_LassoFinderModel_ahead_71 : decode prog_14_method_63_code 71 = .ok (.imul, 1) := by decide +kernel
theorem zd_LassoFinderModel_ahead_72 : decode prog_14_method_63_code 72 = .ok (.iload 10, 2) := by decide +kernel
theorem zd_LassoFinderModel_ahead_74 : decode prog_14_method_63_code 74 = .ok (.iadd, 1) := by decide +kernel
theorem zd_LassoFinderModel_ahead_75 : decode prog_14_method_63_code 75 = .ok (.lshr, 1) := by decide +kernel
theorem zd_LassoFinderModel_ahead_76 : decode prog_14_method_63_code 76 = .ok (.lconst 1, 1) := by decide +kernel
theorem zd_LassoFinderModel_ahead_77 : decode prog_14_method_63_code 77 = .ok (.land, 1) := by decide +kernel
theorem zd_LassoFinderModel_ahead_78 : decode prog_14_method_63_code 78 = .ok (.lconst 1, 1) := by decide +kernel
theorem zd_LassoFinderModel_ahead_79 : decode prog_14_method_63_code 79 = .ok (.lcmp, 1) := by decide +kernel
theorem zd_LassoFinderModel_ahead_80 : decode prog_14_method_63_code 80 = .ok (.ifCond .ne 45, 3) := by decide +kernel
theorem zd_LassoFinderModel_ahead_83 : decode prog_14_method_63_code 83 = .ok (.aload_n 0, 1) := by decide +kernel
theorem zd_LassoFinderModel_ahead_84 : decode prog_14_method_63_code 84 = .ok (.bipush 64, 2) := by decide +kernel
theorem zd_LassoFinderModel_ahead_86 : decode prog_14_method_63_code 86 = .ok (.aload_n 0, 1) := by decide +kernel
theorem zd_LassoFinderModel_ahead_87 : decode prog_14_method_63_code 87 = .ok (.getfield 112, 3) := by decide +kernel
theorem zd_LassoFinderModel_ahead_90 : decode prog_14_method_63_code 90 = .ok (.iload_n 1, 1) := by decide +kernel
theorem zd_LassoFinderModel_ahead_91 : decode prog_14_method_63_code 91 = .ok (.iaload, 1) := by decide +kernel
theorem zd_LassoFinderModel_ahead_92 : decode prog_14_method_63_code 92 = .ok (.imul, 1) := by decide +kernel
theorem zd_LassoFinderModel_ahead_93 : decode prog_14_method_63_code 93 = .ok (.bipush 8, 2) := by decide +kernel
theorem zd_LassoFinderModel_ahead_95 : decode prog_14_method_63_code 95 = .ok (.iload 7, 2) := by decide +kernel
theorem zd_LassoFinderModel_ahead_97 : decode prog_14_method_63_code 97 = .ok (.imul, 1) := by decide +kernel
theorem zd_LassoFinderModel_ahead_98 : decode prog_14_method_63_code 98 = .ok (.iadd, 1) := by decide +kernel
theorem zd_LassoFinderModel_ahead_99 : decode prog_14_method_63_code 99 = .ok (.iload 11, 2) := by decide +kernel
theorem zd_LassoFinderModel_ahead_101 : decode prog_14_method_63_code 101 = .ok (.iadd, 1) := by decide +kernel
theorem zd_LassoFinderModel_ahead_102 : decode prog_14_method_63_code 102 = .ok (.invokevirtual 425, 3) := by decide +kernel
theorem zd_LassoFinderModel_ahead_105 : decode prog_14_method_63_code 105 = .ok (.iload 4, 2) := by decide +kernel
theorem zd_LassoFinderModel_ahead_107 : decode prog_14_method_63_code 107 = .ok (.if_icmp .ne 18, 3) := by decide +kernel
theorem zd_LassoFinderModel_ahead_110 : decode prog_14_method_63_code 110 = .ok (.lload 5, 2) := by decide +kernel
theorem zd_LassoFinderModel_ahead_112 : decode prog_14_method_63_code 112 = .ok (.lconst 1, 1) := by decide +kernel
theorem zd_LassoFinderModel_ahead_113 : decode prog_14_method_63_code 113 = .ok (.bipush 8, 2) := by decide +kernel
theorem zd_LassoFinderModel_ahead_115 : decode prog_14_method_63_code 115 = .ok (.iload 7, 2) := by decide +kernel
theorem zd_LassoFinderModel_ahead_117 : decode prog_14_method_63_code 117 = .ok (.imul, 1) := by decide +kernel
theorem zd_LassoFinderModel_ahead_118 : decode prog_14_method_63_code 118 = .ok (.iload 11, 2) := by decide +kernel
theorem zd_LassoFinderModel_ahead_120 : decode prog_14_method_63_code 120 = .ok (.iadd, 1) := by decide +kernel
theorem zd_LassoFinderModel_ahead_121 : decode prog_14_method_63_code 121 = .ok (.lshl, 1) := by decide +kernel
theorem zd_LassoFinderModel_ahead_122 : decode prog_14_method_63_code 122 = .ok (.lor, 1) := by decide +kernel
theorem zd_LassoFinderModel_ahead_123 : decode prog_14_method_63_code 123 = .ok (.lstore 5, 2) := by decide +kernel
theorem zd_LassoFinderModel_ahead_125 : decode prog_14_method_63_code 125 = .ok (.iinc 10 1, 3) := by decide +kernel
theorem zd_LassoFinderModel_ahead_128 : decode prog_14_method_63_code 128 = .ok (.goto (-80), 3) := by decide +kernel
theorem zd_LassoFinderModel_ahead_131 : decode prog_14_method_63_code 131 = .ok (.iinc 7 1, 3) := by decide +kernel
theorem zd_LassoFinderModel_ahead_134 : decode prog_14_method_63_code 134 = .ok (.goto (-128), 3) := by decide +kernel
theorem zd_LassoFinderModel_ahead_137 : decode prog_14_method_63_code 137 = .ok (.lload 5, 2) := by decide +kernel
theorem zd_LassoFinderModel_ahead_139 : decode prog_14_method_63_code 139 = .ok (.lreturn, 1) := by decide +kernel
theorem zd_LassoFinderModel_measure_0 : decode prog_14_method_56_code 0 = .ok (.iconst 1, 1) := by decide +kernel
theorem zd_LassoFinderModel_measure_1 : decode prog_14_method_56_code 1 = .ok (.aload_n 0, 1) := by decide +kernel
theorem zd_LassoFinderModel_measure_2 : decode prog_14_method_56_code 2 = .ok (.getfield 376, 3) := by decide +kernel
theorem zd_LassoFinderModel_measure_5 : decode prog_14_method_56_code 5 = .ok (.ishl, 1) := by decide +kernel
theorem zd_LassoFinderModel_measure_6 : decode prog_14_method_56_code 6 = .ok (.iconst 1, 1) := by decide +kernel
theorem zd_LassoFinderModel_measure_7 : decode prog_14_method_56_code 7 = .ok (.isub, 1) := by decide +kernel
theorem zd_LassoFinderModel_measure_8 : decode prog_14_method_56_code 8 = .ok (.istore_n 3, 1) := by decide +kernel
theorem zd_LassoFinderModel_measure_9 : decode prog_14_method_56_code 9 = .ok (.iconst 0, 1) := by decide +kernel
theorem zd_LassoFinderModel_measure_10 : decode prog_14_method_56_code 10 = .ok (.istore 4, 2) := by decide +kernel
theorem zd_LassoFinderModel_measure_12 : decode prog_14_method_56_code 12 = .ok (.iload 4, 2) := by decide +kernel
theorem zd_LassoFinderModel_measure_14 : decode prog_14_method_56_code 14 = .ok (.bipush 64, 2) := by decide +kernel
theorem zd_LassoFinderModel_measure_16 : decode prog_14_method_56_code 16 = .ok (.aload_n 0, 1) := by decide +kernel
theorem zd_LassoFinderModel_measure_17 : decode prog_14_method_56_code 17 = .ok (.getfield 345, 3) := by decide +kernel
theorem zd_LassoFinderModel_measure_20 : decode prog_14_method_56_code 20 = .ok (.imul, 1) := by decide +kernel
theorem zd_LassoFinderModel_measure_21 : decode prog_14_method_56_code 21 = .ok (.if_icmp .ge 17, 3) := by decide +kernel
theorem zd_LassoFinderModel_measure_24 : decode prog_14_method_56_code 24 = .ok (.aload_n 0, 1) := by decide +kernel
theorem zd_LassoFinderModel_measure_25 : decode prog_14_method_56_code 25 = .ok (.getfield 175, 3) := by decide +kernel
theorem zd_LassoFinderModel_measure_28 : decode prog_14_method_56_code 28 = .ok (.iload 4, 2) := by decide +kernel
theorem zd_LassoFinderModel_measure_30 : decode prog_14_method_56_code 30 = .ok (.iconst (-1), 1) := by decide +kernel
theorem zd_LassoFinderModel_measure_31 : decode prog_14_method_56_code 31 = .ok (.iastore, 1) := by decide +kernel
theorem zd_LassoFinderModel_measure_32 : decode prog_14_method_56_code 32 = .ok (.iinc 4 1, 3) := by decide +kernel
theorem zd_LassoFinderModel_measure_35 : decode prog_14_method_56_code 35 = .ok (.goto (-23), 3) := by decide +kernel
theorem zd_LassoFinderModel_measure_38 : decode prog_14_method_56_code 38 = .ok (.bipush 64, 2) := by decide +kernel
theorem zd_LassoFinderModel_measure_40 : decode prog_14_method_56_code 40 = .ok (.iload_n 1, 1) := by decide +kernel
theorem zd_LassoFinderModel_measure_41 : decode prog_14_method_56_code 41 = .ok (.imul, 1) := by decide +kernel
theorem zd_LassoFinderModel_measure_42 : decode prog_14_method_56_code 42 = .ok (.bipush 8, 2) := by decide +kernel
theorem zd_LassoFinderModel_measure_44 : decode prog_14_method_56_code 44 = .ok (.iload_n 2, 1) := by decide +kernel
theorem zd_LassoFinderModel_measure_45 : decode prog_14_method_56_code 45 = .ok (.imul, 1) := by decide +kernel
theorem zd_LassoFinderModel_measure_46 : decode prog_14_method_56_code 46 = .ok (.iadd, 1) := by decide +kernel
theorem zd_LassoFinderModel_measure_47 : decode prog_14_method_56_code 47 = .ok (.iload_n 3, 1) := by decide +kernel
theorem zd_LassoFinderModel_measure_48 : decode prog_14_method_56_code 48 = .ok (.iadd, 1) := by decide +kernel
theorem zd_LassoFinderModel_measure_49 : decode prog_14_method_56_code 49 = .ok (.istore 4, 2) := by decide +kernel
theorem zd_LassoFinderModel_measure_51 : decode prog_14_method_56_code 51 = .ok (.aload_n 0, 1) := by decide +kernel
theorem zd_LassoFinderModel_measure_52 : decode prog_14_method_56_code 52 = .ok (.getfield 175, 3) := by decide +kernel
theorem zd_LassoFinderModel_measure_55 : decode prog_14_method_56_code 55 = .ok (.iload 4, 2) := by decide +kernel
theorem zd_LassoFinderModel_measure_57 : decode prog_14_method_56_code 57 = .ok (.iconst 0, 1) := by decide +kernel
theorem zd_LassoFinderModel_measure_58 : decode prog_14_method_56_code 58 = .ok (.iastore, 1) := by decide +kernel
theorem zd_LassoFinderModel_measure_59 : decode prog_14_method_56_code 59 = .ok (.bipush 64, 2) := by decide +kernel
theorem zd_LassoFinderModel_measure_61 : decode prog_14_method_56_code 61 = .ok (.aload_n 0, 1) := by decide +kernel
theorem zd_LassoFinderModel_measure_62 : decode prog_14_method_56_code 62 = .ok (.getfield 345, 3) := by decide +kernel
theorem zd_LassoFinderModel_measure_65 : decode prog_14_method_56_code 65 = .ok (.imul, 1) := by decide +kernel
theorem zd_LassoFinderModel_measure_66 : decode prog_14_method_56_code 66 = .ok (.istore 5, 2) := by decide +kernel
theorem zd_LassoFinderModel_measure_68 : decode prog_14_method_56_code 68 = .ok (.iload 4, 2) := by decide +kernel
theorem zd_LassoFinderModel_measure_70 : decode prog_14_method_56_code 70 = .ok (.istore 6, 2) := by decide +kernel
theorem zd_LassoFinderModel_measure_72 : decode prog_14_method_56_code 72 = .ok (.iload 6, 2) := by decide +kernel
theorem zd_LassoFinderModel_measure_74 : decode prog_14_method_56_code 74 = .ok (.ifCond .lt 220, 3) := by decide +kernel
theorem zd_LassoFinderModel_measure_77 : decode prog_14_method_56_code 77 = .ok (.iload 5, 2) := by decide +kernel
theorem zd_LassoFinderModel_measure_79 : decode prog_14_method_56_code 79 = .ok (.ifCond .le 215, 3) := by decide +kernel
theorem zd_LassoFinderModel_measure_82 : decode prog_14_method_56_code 82 = .ok (.iinc 5 (-1), 3) := by decide +kernel
theorem zd_LassoFinderModel_measure_85 : decode prog_14_method_56_code 85 = .ok (.iload 6, 2) := by decide +kernel
theorem zd_LassoFinderModel_measure_87 : decode prog_14_method_56_code 87 = .ok (.bipush 6, 2) := by decide +kernel
theorem zd_LassoFinderModel_measure_89 : decode prog_14_method_56_code 89 = .ok (.ishr, 1) := by decide +kernel
theorem zd_LassoFinderModel_measure_90 : decode prog_14_method_56_code 90 = .ok (.istore 7, 2) := by decide +kernel
theorem zd_LassoFinderModel_measure_92 : decode prog_14_method_56_code 92 = .ok (.iload 6, 2) := by decide +kernel
theorem zd_LassoFinderModel_measure_94 : decode prog_14_method_56_code 94 = .ok (.iconst 3, 1) := by decide +kernel
theorem zd_LassoFinderModel_measure_95 : decode prog_14_method_56_code 95 = .ok (.ishr, 1) := by decide +kernel
theorem zd_LassoFinderModel_measure_96 : decode prog_14_method_56_code 96 = .ok (.bipush 7, 2) := by decide +kernel
theorem zd_LassoFinderModel_measure_98 : decode prog_14_method_56_code 98 = .ok (.iand, 1) := by decide +kernel
theorem zd_LassoFinderModel_measure_99 : decode prog_14_method_56_code 99 = .ok (.istore 8, 2) := by decide +kernel
theorem zd_LassoFinderModel_measure_101 : decode prog_14_method_56_code 101 = .ok (.aload_n 0, 1) := by decide +kernel
theorem zd_LassoFinderModel_measure_102 : decode prog_14_method_56_code 102 = .ok (.iload 7, 2) := by decide +kernel
theorem zd_LassoFinderModel_measure_104 : decode prog_14_method_56_code 104 = .ok (.iload 8, 2) := by decide +kernel
theorem zd_LassoFinderModel_measure_106 : decode prog_14_method_56_code 106 = .ok (.invokevirtual 419, 3) := by decide +kernel
theorem zd_LassoFinderModel_measure_109 : decode prog_14_method_56_code 109 = .ok (.istore 9, 2) := by decide +kernel
theorem zd_LassoFinderModel_measure_111 : decode prog_14_method_56_code 111 = .ok (.aload_n 0, 1) := by decide +kernel
theorem zd_LassoFinderModel_measure_112 : decode prog_14_method_56_code 112 = .ok (.getfield 124, 3) := by decide +kernel
theorem zd_LassoFinderModel_measure_115 : decode prog_14_method_56_code 115 = .ok (.iload 7, 2) := by decide +kernel
theorem zd_LassoFinderModel_measure_117 : decode prog_14_method_56_code 117 = .ok (.iaload, 1) := by decide +kernel
theorem zd_LassoFinderModel_measure_118 : decode prog_14_method_56_code 118 = .ok (.istore 10, 2) := by decide +kernel
theorem zd_LassoFinderModel_measure_120 : decode prog_14_method_56_code 120 = .ok (.iload 10, 2) := by decide +kernel
theorem zd_LassoFinderModel_measure_122 : decode prog_14_method_56_code 122 = .ok (.aload_n 0, 1) := by decide +kernel
theorem zd_LassoFinderModel_measure_123 : decode prog_14_method_56_code 123 = .ok (.getfield 124, 3) := by decide +kernel
theorem zd_LassoFinderModel_measure_126 : decode prog_14_method_56_code 126 = .ok (.iload 7, 2) := by decide +kernel
theorem zd_LassoFinderModel_measure_128 : decode prog_14_method_56_code 128 = .ok (.iconst 1, 1) := by decide +kernel
theorem zd_LassoFinderModel_measure_129 : decode prog_14_method_56_code 129 = .ok (.iadd, 1) := by decide +kernel
theorem zd_LassoFinderModel_measure_130 : decode prog_14_method_56_code 130 = .ok (.iaload, 1) := by decide +kernel
theorem zd_LassoFinderModel_measure_131 : decode prog_14_method_56_code 131 = .ok (.if_icmp .ge 146, 3) := by decide +kernel
theorem zd_LassoFinderModel_measure_134 : decode prog_14_method_56_code 134 = .ok (.aload_n 0, 1) := by decide +kernel
theorem zd_LassoFinderModel_measure_135 : decode prog_14_method_56_code 135 = .ok (.getfield 115, 3) := by decide +kernel
theorem zd_LassoFinderModel_measure_138 : decode prog_14_method_56_code 138 = .ok (.aload_n 0, 1) := by decide +kernel
theorem zd_LassoFinderModel_measure_139 : decode prog_14_method_56_code 139 = .ok (.getfield 127, 3) := by decide +kernel
theorem zd_LassoFinderModel_measure_142 : decode prog_14_method_56_code 142 = .ok (.iload 10, 2) := by decide +kernel
theorem zd_LassoFinderModel_measure_144 : decode prog_14_method_56_code 144 = .ok (.iaload, 1) := by decide +kernel
theorem zd_LassoFinderModel_measure_145 : decode prog_14_method_56_code 145 = .ok (.iaload, 1) := by decide +kernel
theorem zd_LassoFinderModel_measure_146 : decode prog_14_method_56_code 146 = .ok (.istore 11, 2) := by decide +kernel
theorem zd_LassoFinderModel_measure_148 : decode prog_14_method_56_code 148 = .ok (.aload_n 0, 1) := by decide +kernel
theorem zd_LassoFinderModel_measure_149 : decode prog_14_method_56_code 149 = .ok (.iload 11, 2) := by decide +kernel
theorem zd_LassoFinderModel_measure_151 : decode prog_14_method_56_code 151 = .ok (.iload 8, 2) := by decide +kernel
theorem zd_LassoFinderModel_measure_153 : decode prog_14_method_56_code 153 = .ok (.invokevirtual 422, 3) := by decide +kernel
theorem zd_LassoFinderModel_measure_156 : decode prog_14_method_56_code 156 = .ok (.istore 12, 2) := by decide +kernel
theorem zd_LassoFinderModel_measure_158 : decode prog_14_method_56_code 158 = .ok (.aload_n 0, 1) := by decide +kernel
theorem zd_LassoFinderModel_measure_159 : decode prog_14_method_56_code 159 = .ok (.iload 11, 2) := by decide +kernel
theorem zd_LassoFinderModel_measure_161 : decode prog_14_method_56_code 161 = .ok (.iload 12, 2) := by decide +kernel
theorem zd_LassoFinderModel_measure_163 : decode prog_14_method_56_code 163 = .ok (.invokevirtual 419, 3) := by decide +kernel
theorem zd_LassoFinderModel_measure_166 : decode prog_14_method_56_code 166 = .ok (.istore 13, 2) := by decide +kernel
theorem zd_LassoFinderModel_measure_168 : decode prog_14_method_56_code 168 = .ok (.iconst 0, 1) := by decide +kernel
theorem zd_LassoFinderModel_measure_169 : decode prog_14_method_56_code 169 = .ok (.istore 14, 2) := by decide +kernel
theorem zd_LassoFinderModel_measure_171 : decode prog_14_method_56_code 171 = .ok (.iload 14, 2) := by decide +kernel
theorem zd_LassoFinderModel_measure_173 : decode prog_14_method_56_code 173 = .ok (.iload_n 3, 1) := by decide +kernel
theorem zd_LassoFinderModel_measure_174 : decode prog_14_method_56_code 174 = .ok (.if_icmp .gt 97, 3) := by decide +kernel
theorem zd_LassoFinderModel_measure_177 : decode prog_14_method_56_code 177 = .ok (.bipush 64, 2) := by decide +kernel
theorem zd_LassoFinderModel_measure_179 : decode prog_14_method_56_code 179 = .ok (.iload 11, 2) := by decide +kernel
theorem zd_LassoFinderModel_measure_181 : decode prog_14_method_56_code 181 = .ok (.imul, 1) := by decide +kernel
theorem zd_LassoFinderModel_measure_182 : decode prog_14_method_56_code 182 = .ok (.bipush 8, 2) := by decide +kernel
theorem zd_LassoFinderModel_measure_184 : decode prog_14_method_56_code 184 = .ok (.iload 12, 2) := by decide +kernel
theorem zd_LassoFinderModel_measure_186 : decode prog_14_method_56_code 186 = .ok (.imul, 1) := by decide +kernel
theorem zd_LassoFinderModel_measure_187 : decode prog_14_method_56_code 187 = .ok (.iadd, 1) := by decide +kernel
theorem zd_LassoFinderModel_measure_188 : decode prog_14_method_56_code 188 = .ok (.iload 14, 2) := by decide +kernel
theorem zd_LassoFinderModel_measure_190 : decode prog_14_method_56_code 190 = .ok (.iadd, 1) := by decide +kernel
theorem zd_LassoFinderModel_measure_191 : decode prog_14_method_56_code 191 = .ok (.istore 15, 2) := by decide +kernel
theorem zd_LassoFinderModel_measure_193 : decode prog_14_method_56_code 193 = .ok (.iload 14, 2) := by decide +kernel
theorem zd_LassoFinderModel_measure_195 : decode prog_14_method_56_code 195 = .ok (.iload 9, 2) := by decide +kernel
theorem zd_LassoFinderModel_measure_197 : decode prog_14_method_56_code 197 = .ok (.ior, 1) := by decide +kernel
theorem zd_LassoFinderModel_measure_198 : decode prog_14_method_56_code 198 = .ok (.iload 6, 2) := by decide +kernel
theorem zd_LassoFinderModel_measure_200 : decode prog_14_method_56_code 200 = .ok (.bipush 7, 2) := by decide +kernel
theorem zd_LassoFinderModel_measure_202 : decode prog_14_method_56_code 202 = .ok (.iand, 1) := by decide +kernel
theorem zd_LassoFinderModel_measure_203 : decode prog_14_method_56_code 203 = .ok (.if_icmp .ne 62, 3) := by decide +kernel
theorem zd_LassoFinderModel_measure_206 : decode prog_14_method_56_code 206 = .ok (.iload 13, 2) := by decide +kernel
theorem zd_LassoFinderModel_measure_208 : decode prog_14_method_56_code 208 = .ok (.iload 14, 2) := by decide +kernel
theorem zd_LassoFinderModel_measure_210 : decode prog_14_method_56_code 210 = .ok (.iconst (-1), 1) := by decide +kernel
theorem zd_LassoFinderModel_measure_211 : decode prog_14_method_56_code 211 = .ok (.ixor, 1) := by decide +kernel
theorem zd_LassoFinderModel_measure_212 : decode prog_14_method_56_code 212 = .ok (.iand, 1) := by decide +kernel
theorem zd_LassoFinderModel_measure_213 : decode prog_14_method_56_code 213 = .ok (.ifCond .ne 52, 3) := by decide +kernel
theorem zd_LassoFinderModel_measure_216 : decode prog_14_method_56_code 216 = .ok (.aload_n 0, 1) := by decide +kernel
theorem zd_LassoFinderModel_measure_217 : decode prog_14_method_56_code 217 = .ok (.getfield 175, 3) := by decide +kernel
theorem zd_LassoFinderModel_measure_220 : decode prog_14_method_56_code 220 = .ok (.iload 15, 2) := by decide +kernel
theorem zd_LassoFinderModel_measure_222 : decode prog_14_method_56_code 222 = .ok (.iaload, 1) := by decide +kernel
theorem zd_LassoFinderModel_measure_223 : decode prog_14_method_56_code 223 = .ok (.ifCond .lt 6, 3) := by decide +kernel
theorem zd_LassoFinderModel_measure_226 : decode prog_14_method_56_code 226 = .ok (.goto 39, 3) := by decide +kernel
theorem zd_LassoFinderModel_measure_229 : decode prog_14_method_56_code 229 = .ok (.aload_n 0, 1) := by decide +kernel
theorem zd_LassoFinderModel_measure_230 : decode prog_14_method_56_code 230 = .ok (.getfield 175, 3) := by decide +kernel
theorem zd_LassoFinderModel_measure_233 : decode prog_14_method_56_code 233 = .ok (.iload 15, 2) := by decide +kernel
theorem zd_LassoFinderModel_measure_235 : decode prog_14_method_56_code 235 = .ok (.aload_n 0, 1) := by decide +kernel
theorem zd_LassoFinderModel_measure_236 : decode prog_14_method_56_code 236 = .ok (.iload 6, 2) := by decide +kernel
theorem zd_LassoFinderModel_measure_238 : decode prog_14_method_56_code 238 = .ok (.invokevirtual 425, 3) := by decide +kernel
theorem zd_LassoFinderModel_measure_241 : decode prog_14_method_56_code 241 = .ok (.iconst 1, 1) := by decide +kernel
theorem zd_LassoFinderModel_measure_242 : decode prog_14_method_56_code 242 = .ok (.iadd, 1) := by decide +kernel
theorem zd_LassoFinderModel_measure_243 : decode prog_14_method_56_code 243 = .ok (.iastore, 1) := by decide +kernel
theorem zd_LassoFinderModel_measure_244 : decode prog_14_method_56_code 244 = .ok (.aload_n 0, 1) := by decide +kernel
theorem zd_LassoFinderModel_measure_245 : decode prog_14_method_56_code 245 = .ok (.getfield 175, 3) := by decide +kernel
theorem zd_LassoFinderModel_measure_248 : decode prog_14_method_56_code 248 = .ok (.iload 4, 2) := by decide +kernel
theorem zd_LassoFinderModel_measure_250 : decode prog_14_method_56_code 250 = .ok (.dup2, 1) := by decide +kernel
theorem zd_LassoFinderModel_measure_251 : decode prog_14_method_56_code 251 = .ok (.iaload, 1) := by decide +kernel
theorem zd_LassoFinderModel_measure_252 : decode prog_14_method_56_code 252 = .ok (.iload 15, 2) := by decide +kernel
theorem zd_LassoFinderModel_measure_254 : decode prog_14_method_56_code 254 = .ok (.iconst 1, 1) := by decide +kernel
theorem zd_LassoFinderModel_measure_255 : decode prog_14_method_56_code 255 = .ok (.iadd, 1) := by decide +kernel
theorem zd_LassoFinderModel_measure_256 : decode prog_14_method_56_code 256 = .ok (.bipush 12, 2) := by decide +kernel
theorem zd_LassoFinderModel_measure_258 : decode prog_14_method_56_code 258 = .ok (.ishl, 1) := by decide +kernel
theorem zd_LassoFinderModel_measure_259 : decode prog_14_method_56_code 259 = .ok (.iadd, 1) := by decide +kernel
theorem zd_LassoFinderModel_measure_260 : decode prog_14_method_56_code 260 = .ok (.iastore, 1) := by decide +kernel
theorem zd_LassoFinderModel_measure_261 : decode prog_14_method_56_code 261 = .ok (.iload 15, 2) := by decide +kernel
theorem zd_LassoFinderModel_measure_263 : decode prog_14_method_56_code 263 = .ok (.istore 4, 2) := by decide +kernel
theorem zd_LassoFinderModel_measure_265 : decode prog_14_method_56_code 265 = .ok (.iinc 14 1, 3) := by decide +kernel
theorem zd_LassoFinderModel_measure_268 : decode prog_14_method_56_code 268 = .ok (.goto (-97), 3) := by decide +kernel
theorem zd_LassoFinderModel_measure_271 : decode prog_14_method_56_code 271 = .ok (.iinc 10 1, 3) := by decide +kernel
theorem zd_LassoFinderModel_measure_274 : decode prog_14_method_56_code 274 = .ok (.goto (-154), 3) := by decide +kernel
theorem zd_LassoFinderModel_measure_277 : decode prog_14_method_56_code 277 = .ok (.aload_n 0, 1) := by decide +kernel
theorem zd_LassoFinderModel_measure_278 : decode prog_14_method_56_code 278 = .ok (.getfield 175, 3) := by decide +kernel
theorem zd_LassoFinderModel_measure_281 : decode prog_14_method_56_code 281 = .ok (.iload 6, 2) := by decide +kernel
theorem zd_LassoFinderModel_measure_283 : decode prog_14_method_56_code 283 = .ok (.iaload, 1) := by decide +kernel
theorem zd_LassoFinderModel_measure_284 : decode prog_14_method_56_code 284 = .ok (.bipush 12, 2) := by decide +kernel
theorem zd_LassoFinderModel_measure_286 : decode prog_14_method_56_code 286 = .ok (.ishr, 1) := by decide +kernel
theorem zd_LassoFinderModel_measure_287 : decode prog_14_method_56_code 287 = .ok (.iconst 1, 1) := by decide +kernel
theorem zd_LassoFinderModel_measure_288 : decode prog_14_method_56_code 288 = .ok (.isub, 1) := by decide +kernel
theorem zd_LassoFinderModel_measure_289 : decode prog_14_method_56_code 289 = .ok (.istore 6, 2) := by decide +kernel
theorem zd_LassoFinderModel_measure_291 : decode prog_14_method_56_code 291 = .ok (.goto (-219), 3) := by decide +kernel
theorem zd_LassoFinderModel_measure_294 : decode prog_14_method_56_code 294 = .ok (.return_, 1) := by decide +kernel
theorem zd_LassoFinderModel_settled_0 : decode prog_14_method_53_code 0 = .ok (.iconst 0, 1) := by decide +kernel
theorem zd_LassoFinderModel_settled_1 : decode prog_14_method_53_code 1 = .ok (.istore_n 3, 1) := by decide +kernel
theorem zd_LassoFinderModel_settled_2 : decode prog_14_method_53_code 2 = .ok (.iconst 0, 1) := by decide +kernel
theorem zd_LassoFinderModel_settled_3 : decode prog_14_method_53_code 3 = .ok (.istore 4, 2) := by decide +kernel
theorem zd_LassoFinderModel_settled_5 : decode prog_14_method_53_code 5 = .ok (.iload 4, 2) := by decide +kernel
theorem zd_LassoFinderModel_settled_7 : decode prog_14_method_53_code 7 = .ok (.aload_n 0, 1) := by decide +kernel
theorem zd_LassoFinderModel_settled_8 : decode prog_14_method_53_code 8 = .ok (.getfield 376, 3) := by decide +kernel
theorem zd_LassoFinderModel_settled_11 : decode prog_14_method_53_code 11 = .ok (.if_icmp .ge 167, 3) := by decide +kernel
theorem zd_LassoFinderModel_settled_14 : decode prog_14_method_53_code 14 = .ok (.aload_n 0, 1) := by decide +kernel
theorem zd_LassoFinderModel_settled_15 : decode prog_14_method_53_code 15 = .ok (.getfield 166, 3) := by decide +kernel
theorem zd_LassoFinderModel_settled_18 : decode prog_14_method_53_code 18 = .ok (.bipush 8, 2) := by decide +kernel
theorem zd_LassoFinderModel_settled_20 : decode prog_14_method_53_code 20 = .ok (.iload_n 1, 1) := by decide +kernel
theorem zd_LassoFinderModel_settled_21 : decode prog_14_method_53_code 21 = .ok (.imul, 1) := by decide +kernel
theorem zd_LassoFinderModel_settled_22 : decode prog_14_method_53_code 22 = .ok (.iload_n 2, 1) := by decide +kernel
theorem zd_LassoFinderModel_settled_23 : decode prog_14_method_53_code 23 = .ok (.iadd, 1) := by decide +kernel
theorem zd_LassoFinderModel_settled_24 : decode prog_14_method_53_code 24 = .ok (.iaload, 1) := by decide +kernel
theorem zd_LassoFinderModel_settled_25 : decode prog_14_method_53_code 25 = .ok (.istore 5, 2) := by decide +kernel
theorem zd_LassoFinderModel_settled_27 : decode prog_14_method_53_code 27 = .ok (.aload_n 0, 1) := by decide +kernel
theorem zd_LassoFinderModel_settled_28 : decode prog_14_method_53_code 28 = .ok (.getfield 145, 3) := by decide +kernel
theorem zd_LassoFinderModel_settled_31 : decode prog_14_method_53_code 31 = .ok (.aload_n 0, 1) := by decide +kernel
theorem zd_LassoFinderModel_settled_32 : decode prog_14_method_53_code 32 = .ok (.getfield 151, 3) := by decide +kernel
theorem zd_LassoFinderModel_settled_35 : decode prog_14_method_53_code 35 = .ok (.iload 4, 2) := by decide +kernel
theorem zd_LassoFinderModel_settled_37 : decode prog_14_method_53_code 37 = .ok (.iaload, 1) := by decide +kernel
theorem zd_LassoFinderModel_settled_38 : decode prog_14_method_53_code 38 = .ok (.iaload, 1) := by decide +kernel
theorem zd_LassoFinderModel_settled_39 : decode prog_14_method_53_code 39 = .ok (.bipush 12, 2) := by decide +kernel
theorem zd_LassoFinderModel_settled_41 : decode prog_14_method_53_code 41 = .ok (.if_icmp .eq 20, 3) := by decide +kernel
theorem zd_LassoFinderModel_settled_44 : decode prog_14_method_53_code 44 = .ok (.aload_n 0, 1) := by decide +kernel
theorem zd_LassoFinderModel_settled_45 : decode prog_14_method_53_code 45 = .ok (.getfield 145, 3) := by decide +kernel
theorem zd_LassoFinderModel_settled_48 : decode prog_14_method_53_code 48 = .ok (.aload_n 0, 1) := by decide +kernel
theorem zd_LassoFinderModel_settled_49 : decode prog_14_method_53_code 49 = .ok (.getfield 151, 3) := by decide +kernel
theorem zd_LassoFinderModel_settled_52 : decode prog_14_method_53_code 52 = .ok (.iload 4, 2) := by decide +kernel
theorem zd_LassoFinderModel_settled_54 : decode prog_14_method_53_code 54 = .ok (.iaload, 1) := by decide +kernel
theorem zd_LassoFinderModel_settled_55 : decode prog_14_method_53_code 55 = .ok (.iaload, 1) := by decide +kernel
theorem zd_LassoFinderModel_settled_56 : decode prog_14_method_53_code 56 = .ok (.bipush 13, 2) := by decide +kernel
theorem zd_LassoFinderModel_settled_58 : decode prog_14_method_53_code 58 = .ok (.if_icmp .ne 17, 3) := by decide +kernel
theorem zd_LassoFinderModel_settled_61 : decode prog_14_method_53_code 61 = .ok (.iload 5, 2) := by decide +kernel
theorem zd_LassoFinderModel_settled_63 : decode prog_14_method_53_code 63 = .ok (.iconst 2, 1) := by decide +kernel
theorem zd_LassoFinderModel_settled_64 : decode prog_14_method_53_code 64 = .ok (.iload 4, 2) := by decide +kernel
theorem zd_LassoFinderModel_settled_66 : decode prog_14_method_53_code 66 = .ok (.imul, 1) := by decide +kernel
theorem zd_LassoFinderModel_settled_67 : decode prog_14_method_53_code 67 = .ok (.iconst 1, 1) := by decide +kernel
theorem zd_LassoFinderModel_settled_68 : decode prog_14_method_53_code 68 = .ok (.iadd, 1) := by decide +kernel
theorem zd_LassoFinderModel_settled_69 : decode prog_14_method_53_code 69 = .ok (.ishr, 1) := by decide +kernel
theorem zd_LassoFinderModel_settled_70 : decode prog_14_method_53_code 70 = .ok (.iconst 1, 1) := by decide +kernel
theorem zd_LassoFinderModel_settled_71 : decode prog_14_method_53_code 71 = .ok (.iand, 1) := by decide +kernel
theorem zd_LassoFinderModel_settled_72 : decode prog_14_method_53_code 72 = .ok (.goto 12, 3) := by decide +kernel
theorem zd_LassoFinderModel_settled_75 : decode prog_14_method_53_code 75 = .ok (.iload 5, 2) := by decide +kernel
theorem zd_LassoFinderModel_settled_77 : decode prog_14_method_53_code 77 = .ok (.iconst 2, 1) := by decide +kernel
theorem zd_LassoFinderModel_settled_78 : decode prog_14_method_53_code 78 = .ok (.iload 4, 2) := by decide +kernel
theorem zd_LassoFinderModel_settled_80 : decode prog_14_method_53_code 80 = .ok (.imul, 1) := by decide +kernel
theorem zd_LassoFinderModel_settled_81 : decode prog_14_method_53_code 81 = .ok (.ishr, 1) := by decide +kernel
theorem zd_LassoFinderModel_settled_82 : decode prog_14_method_53_code 82 = .ok (.iconst 1, 1) := by decide +kernel
theorem zd_LassoFinderModel_settled_83 : decode prog_14_method_53_code 83 = .ok (.iand, 1) := by decide +kernel
theorem zd_LassoFinderModel_settled_84 : decode prog_14_method_53_code 84 = .ok (.istore 6, 2) := by decide +kernel
theorem zd_LassoFinderModel_settled_86 : decode prog_14_method_53_code 86 = .ok (.iload_n 2, 1) := by decide +kernel
theorem zd_LassoFinderModel_settled_87 : decode prog_14_method_53_code 87 = .ok (.iload 4, 2) := by decide +kernel
theorem zd_LassoFinderModel_settled_89 : decode prog_14_method_53_code 89 = .ok (.ishr, 1) := by decide +kernel
theorem zd_LassoFinderModel_settled_90 : decode prog_14_method_53_code 90 = .ok (.iconst 1, 1) := by decide +kernel
theorem zd_LassoFinderModel_settled_91 : decode prog_14_method_53_code 91 = .ok (.iand, 1) := by decide +kernel
theorem zd_LassoFinderModel_settled_92 : decode prog_14_method_53_code 92 = .ok (.istore 7, 2) := by decide +kernel
theorem zd_LassoFinderModel_settled_94 : decode prog_14_method_53_code 94 = .ok (.aload_n 0, 1) := by decide +kernel
theorem zd_LassoFinderModel_settled_95 : decode prog_14_method_53_code 95 = .ok (.getfield 145, 3) := by decide +kernel
theorem zd_LassoFinderModel_settled_98 : decode prog_14_method_53_code 98 = .ok (.aload_n 0, 1) := by decide +kernel
theorem zd_LassoFinderModel_settled_99 : decode prog_14_method_53_code 99 = .ok (.getfield 151, 3) := by decide +kernel
theorem zd_LassoFinderModel_settled_102 : decode prog_14_method_53_code 102 = .ok (.iload 4, 2) := by decide +kernel
theorem zd_LassoFinderModel_settled_104 : decode prog_14_method_53_code 104 = .ok (.iaload, 1) := by decide +kernel
theorem zd_LassoFinderModel_settled_105 : decode prog_14_method_53_code 105 = .ok (.iaload, 1) := by decide +kernel
theorem zd_LassoFinderModel_settled_106 : decode prog_14_method_53_code 106 = .ok (.bipush 12, 2) := by decide +kernel
theorem zd_LassoFinderModel_settled_108 : decode prog_14_method_53_code 108 = .ok (.if_icmp .eq 20, 3) := by decide +kernel
theorem zd_LassoFinderModel_settled_111 : decode prog_14_method_53_code 111 = .ok (.aload_n 0, 1) := by decide +kernel
theorem zd_LassoFinderModel_settled_112 : decode prog_14_method_53_code 112 = .ok (.getfield 145, 3) := by decide +kernel
theorem zd_LassoFinderModel_settled_115 : decode prog_14_method_53_code 115 = .ok (.aload_n 0, 1) := by decide +kernel
theorem zd_LassoFinderModel_settled_116 : decode prog_14_method_53_code 116 = .ok (.getfield 151, 3) := by decide +kernel
theorem zd_LassoFinderModel_settled_119 : decode prog_14_method_53_code 119 = .ok (.iload 4, 2) := by decide +kernel
theorem zd_LassoFinderModel_settled_121 : decode prog_14_method_53_code 121 = .ok (.iaload, 1) := by decide +kernel
theorem zd_LassoFinderModel_settled_122 : decode prog_14_method_53_code 122 = .ok (.iaload, 1) := by decide +kernel
theorem zd_LassoFinderModel_settled_123 : decode prog_14_method_53_code 123 = .ok (.bipush 15, 2) := by decide +kernel
theorem zd_LassoFinderModel_settled_125 : decode prog_14_method_53_code 125 = .ok (.if_icmp .ne 7, 3) := by decide +kernel
theorem zd_LassoFinderModel_settled_128 : decode prog_14_method_53_code 128 = .ok (.iconst 1, 1) := by decide +kernel
theorem zd_LassoFinderModel_settled_129 : decode prog_14_method_53_code 129 = .ok (.goto 4, 3) := by decide +kernel
theorem zd_LassoFinderModel_settled_132 : decode prog_14_method_53_code 132 = .ok (.iconst 0, 1) := by decide +kernel
theorem zd_LassoFinderModel_settled_133 : decode prog_14_method_53_code 133 = .ok (.istore 8, 2) := by decide +kernel
theorem zd_LassoFinderModel_settled_135 : decode prog_14_method_53_code 135 = .ok (.iload 8, 2) := by decide +kernel
theorem zd_LassoFinderModel_settled_137 : decode prog_14_method_53_code 137 = .ok (.ifCond .eq 17, 3) := by decide +kernel
theorem zd_LassoFinderModel_settled_140 : decode prog_14_method_53_code 140 = .ok (.iload 7, 2) := by decide +kernel
theorem zd_LassoFinderModel_settled_142 : decode prog_14_method_53_code 142 = .ok (.ifCond .eq 23, 3) := by decide +kernel
theorem zd_LassoFinderModel_settled_145 : decode prog_14_method_53_code 145 = .ok (.iload 6, 2) := by decide +kernel
theorem zd_LassoFinderModel_settled_147 : decode prog_14_method_53_code 147 = .ok (.iconst 1, 1) := by decide +kernel
theorem zd_LassoFinderModel_settled_148 : decode prog_14_method_53_code 148 = .ok (.if_icmp .ne 24, 3) := by decide +kernel
theorem zd_LassoFinderModel_settled_151 : decode prog_14_method_53_code 151 = .ok (.goto 14, 3) := by decide +kernel
theorem zd_LassoFinderModel_settled_154 : decode prog_14_method_53_code 154 = .ok (.iload 7, 2) := by decide +kernel
theorem zd_LassoFinderModel_settled_156 : decode prog_14_method_53_code 156 = .ok (.iconst 1, 1) := by decide +kernel
theorem zd_LassoFinderModel_settled_157 : decode prog_14_method_53_code 157 = .ok (.if_icmp .eq 8, 3) := by decide +kernel
theorem zd_LassoFinderModel_settled_160 : decode prog_14_method_53_code 160 = .ok (.iload 6, 2) := by decide +kernel
theorem zd_LassoFinderModel_settled_162 : decode prog_14_method_53_code 162 = .ok (.ifCond .ne 10, 3) := by decide +kernel
theorem zd_LassoFinderModel_settled_165 : decode prog_14_method_53_code 165 = .ok (.iload_n 3, 1) := by decide +kernel
theorem zd_LassoFinderModel_settled_166 : decode prog_14_method_53_code 166 = .ok (.iconst 1, 1) := by decide +kernel
theorem zd_LassoFinderModel_settled_167 : decode prog_14_method_53_code 167 = .ok (.iload 4, 2) := by decide +kernel
theorem zd_LassoFinderModel_settled_169 : decode prog_14_method_53_code 169 = .ok (.ishl, 1) := by decide +kernel
theorem zd_LassoFinderModel_settled_170 : decode prog_14_method_53_code 170 = .ok (.ior, 1) := by decide +kernel
theorem zd_LassoFinderModel_settled_171 : decode prog_14_method_53_code 171 = .ok (.istore_n 3, 1) := by decide +kernel
theorem zd_LassoFinderModel_settled_172 : decode prog_14_method_53_code 172 = .ok (.iinc 4 1, 3) := by decide +kernel
theorem zd_LassoFinderModel_settled_175 : decode prog_14_method_53_code 175 = .ok (.goto (-170), 3) := by decide +kernel
theorem zd_LassoFinderModel_settled_178 : decode prog_14_method_53_code 178 = .ok (.iload_n 3, 1) := by decide +kernel
theorem zd_LassoFinderModel_settled_179 : decode prog_14_method_53_code 179 = .ok (.ireturn, 1) := by decide +kernel
def wc_LassoFinderModel_settled_172 (a0 : Int32) (a1 : Int32) (K5 : Int32 → Int32 → Int32 → Int32 → (Nat → Int32) → (Nat → Int64) → (Nat → Nat → Int32) → (Nat → Nat → Int64) → Prop) (Post : Int32 → (Nat → Int32) → (Nat → Int64) → (Nat → Nat → Int32) → (Nat → Nat → Int64) → Prop) (x1 : Int32) (x2 : Int32) (x3 : Int32) (x4 : Int32) (I : Nat → Int32) (J : Nat → Int64) (B : Nat → Nat → Int32) (D : Nat → Nat → Int64) : Prop :=
  ∀ z1 : Int32, z1 = (x4 + 1) → K5 x1 x2 x3 z1 I J B D
def wc_LassoFinderModel_settled_165 (a0 : Int32) (a1 : Int32) (K5 : Int32 → Int32 → Int32 → Int32 → (Nat → Int32) → (Nat → Int64) → (Nat → Nat → Int32) → (Nat → Nat → Int64) → Prop) (Post : Int32 → (Nat → Int32) → (Nat → Int64) → (Nat → Nat → Int32) → (Nat → Nat → Int64) → Prop) (x1 : Int32) (x2 : Int32) (x3 : Int32) (x4 : Int32) (I : Nat → Int32) (J : Nat → Int64) (B : Nat → Nat → Int32) (D : Nat → Nat → Int64) : Prop :=
  ∀ z2 : Int32, z2 = (1 <<< (x4 &&& 31)) → ∀ z3 : Int32, z3 = (x3 ||| z2) → wc_LassoFinderModel_settled_172 a0 a1 K5 Post x1 x2 z3 x4 I J B D
def wc_LassoFinderModel_settled_133 (a0 : Int32) (a1 : Int32) (K5 : Int32 → Int32 → Int32 → Int32 → (Nat → Int32) → (Nat → Int64) → (Nat → Nat → Int32) → (Nat → Nat → Int64) → Prop) (Post : Int32 → (Nat → Int32) → (Nat → Int64) → (Nat → Nat → Int32) → (Nat → Nat → Int64) → Prop) (x1 : Int32) (x2 : Int32) (x3 : Int32) (x4 : Int32) (x6 : Int32) (x7 : Int32) (y0 : Int32) (I : Nat → Int32) (J : Nat → Int64) (B : Nat → Nat → Int32) (D : Nat → Nat → Int64) : Prop :=
  ((y0 = 0 → ((x7 = 1 → wc_LassoFinderModel_settled_165 a0 a1 K5 Post x1 x2 x3 x4 I J B D) ∧ (¬ x7 = 1 → ((¬ x6 = 0 → wc_LassoFinderModel_settled_172 a0 a1 K5 Post x1 x2 x3 x4 I J B D) ∧ (x6 = 0 → wc_LassoFinderModel_settled_165 a0 a1 K5 Post x1 x2 x3 x4 I J B D))))) ∧ (¬ y0 = 0 → ((x7 = 0 → wc_LassoFinderModel_settled_165 a0 a1 K5 Post x1 x2 x3 x4 I J B D) ∧ (¬ x7 = 0 → ((¬ x6 = 1 → wc_LassoFinderModel_settled_172 a0 a1 K5 Post x1 x2 x3 x4 I J B D) ∧ (x6 = 1 → wc_LassoFinderModel_settled_165 a0 a1 K5 Post x1 x2 x3 x4 I J B D))))))
def wc_LassoFinderModel_settled_128 (a0 : Int32) (a1 : Int32) (K5 : Int32 → Int32 → Int32 → Int32 → (Nat → Int32) → (Nat → Int64) → (Nat → Nat → Int32) → (Nat → Nat → Int64) → Prop) (Post : Int32 → (Nat → Int32) → (Nat → Int64) → (Nat → Nat → Int32) → (Nat → Nat → Int64) → Prop) (x1 : Int32) (x2 : Int32) (x3 : Int32) (x4 : Int32) (x6 : Int32) (x7 : Int32) (I : Nat → Int32) (J : Nat → Int64) (B : Nat → Nat → Int32) (D : Nat → Nat → Int64) : Prop :=
  wc_LassoFinderModel_settled_133 a0 a1 K5 Post x1 x2 x3 x4 x6 x7 1 I J B D
def wc_LassoFinderModel_settled_84 (a0 : Int32) (a1 : Int32) (K5 : Int32 → Int32 → Int32 → Int32 → (Nat → Int32) → (Nat → Int64) → (Nat → Nat → Int32) → (Nat → Nat → Int64) → Prop) (Post : Int32 → (Nat → Int32) → (Nat → Int64) → (Nat → Nat → Int32) → (Nat → Nat → Int64) → Prop) (x1 : Int32) (x2 : Int32) (x3 : Int32) (x4 : Int32) (y0 : Int32) (I : Nat → Int32) (J : Nat → Int64) (B : Nat → Nat → Int32) (D : Nat → Nat → Int64) : Prop :=
  ∀ z9 : Int32, z9 = (x2 >>> (x4 &&& 31)) → ∀ z10 : Int32, z10 = (z9 &&& 1) → vp_in x4 3 ∧ ∀ z11 : Int32, z11 = ((B 43) x4.toNatClampNeg) → vp_in z11 240 ∧ ∀ z12 : Int32, z12 = ((B 41) z11.toNatClampNeg) → ((z12 = 12 → wc_LassoFinderModel_settled_128 a0 a1 K5 Post x1 x2 x3 x4 y0 z10 I J B D) ∧ (¬ z12 = 12 → vp_in x4 3 ∧ ∀ z14 : Int32, z14 = ((B 43) x4.toNatClampNeg) → vp_in z14 240 ∧ ∀ z15 : Int32, z15 = ((B 41) z14.toNatClampNeg) → ((¬ z15 = 15 → wc_LassoFinderModel_settled_133 a0 a1 K5 Post x1 x2 x3 x4 y0 z10 0 I J B D) ∧ (z15 = 15 → wc_LassoFinderModel_settled_128 a0 a1 K5 Post x1 x2 x3 x4 y0 z10 I J B D))))
def wc_LassoFinderModel_settled_61 (a0 : Int32) (a1 : Int32) (K5 : Int32 → Int32 → Int32 → Int32 → (Nat → Int32) → (Nat → Int64) → (Nat → Nat → Int32) → (Nat → Nat → Int64) → Prop) (Post : Int32 → (Nat → Int32) → (Nat → Int64) → (Nat → Nat → Int32) → (Nat → Nat → Int64) → Prop) (x1 : Int32) (x2 : Int32) (x3 : Int32) (x4 : Int32) (x5 : Int32) (I : Nat → Int32) (J : Nat → Int64) (B : Nat → Nat → Int32) (D : Nat → Nat → Int64) : Prop :=
  ∀ z17 : Int32, z17 = (2 * x4) → ∀ z18 : Int32, z18 = (z17 + 1) → ∀ z19 : Int32, z19 = (x5 >>> (z18 &&& 31)) → ∀ z20 : Int32, z20 = (z19 &&& 1) → wc_LassoFinderModel_settled_84 a0 a1 K5 Post x1 x2 x3 x4 z20 I J B D
def wb_LassoFinderModel_settled_5 (a0 : Int32) (a1 : Int32) (K5 : Int32 → Int32 → Int32 → Int32 → (Nat → Int32) → (Nat → Int64) → (Nat → Nat → Int32) → (Nat → Nat → Int64) → Prop) (Post : Int32 → (Nat → Int32) → (Nat → Int64) → (Nat → Nat → Int32) → (Nat → Nat → Int64) → Prop) (x1 : Int32) (x2 : Int32) (x3 : Int32) (x4 : Int32) (I : Nat → Int32) (J : Nat → Int64) (B : Nat → Nat → Int32) (D : Nat → Nat → Int64) : Prop :=
  (((I 20) ≤ x4 → Post x3 I J B D) ∧ (¬ (I 20) ≤ x4 → ∀ z22 : Int32, z22 = (8 * x1) → ∀ z23 : Int32, z23 = (z22 + x2) → vp_in z23 768 ∧ ∀ z24 : Int32, z24 = ((B 48) z23.toNatClampNeg) → vp_in x4 3 ∧ ∀ z25 : Int32, z25 = ((B 43) x4.toNatClampNeg) → vp_in z25 240 ∧ ∀ z26 : Int32, z26 = ((B 41) z25.toNatClampNeg) → ((z26 = 12 → wc_LassoFinderModel_settled_61 a0 a1 K5 Post x1 x2 x3 x4 z24 I J B D) ∧ (¬ z26 = 12 → vp_in x4 3 ∧ ∀ z28 : Int32, z28 = ((B 43) x4.toNatClampNeg) → vp_in z28 240 ∧ ∀ z29 : Int32, z29 = ((B 41) z28.toNatClampNeg) → ((¬ z29 = 13 → ∀ z31 : Int32, z31 = (2 * x4) → ∀ z32 : Int32, z32 = (z24 >>> (z31 &&& 31)) → ∀ z33 : Int32, z33 = (z32 &&& 1) → wc_LassoFinderModel_settled_84 a0 a1 K5 Post x1 x2 x3 x4 z33 I J B D) ∧ (z29 = 13 → wc_LassoFinderModel_settled_61 a0 a1 K5 Post x1 x2 x3 x4 z24 I J B D))))))
def wl_LassoFinderModel_settled_5 (a0 : Int32) (a1 : Int32) (Post : Int32 → (Nat → Int32) → (Nat → Int64) → (Nat → Nat → Int32) → (Nat → Nat → Int64) → Prop) (n : Nat) : Int32 → Int32 → Int32 → Int32 → (Nat → Int32) → (Nat → Int64) → (Nat → Nat → Int32) → (Nat → Nat → Int64) → Prop := Nat.rec (fun _ _ _ _ _ _ _ _ => False) (fun _ r => wb_LassoFinderModel_settled_5 a0 a1 r Post) n
def wp_LassoFinderModel_settled (I : Nat → Int32) (J : Nat → Int64) (B : Nat → Nat → Int32) (D : Nat → Nat → Int64) (a0 : Int32) (a1 : Int32) (Post : Int32 → (Nat → Int32) → (Nat → Int64) → (Nat → Nat → Int32) → (Nat → Nat → Int64) → Prop) : Prop :=
  ∃ n : Nat, wl_LassoFinderModel_settled_5 a0 a1 Post n a0 a1 0 0 I J B D
set_option maxHeartbeats 8000000 in
set_option maxRecDepth 100000 in
theorem wJ_LassoFinderModel_settled_172 {p : Program} {l : Launch} {e : Env} {s : State} {m : MethodId} {below : List Frame} {meth : Method} {c : Code} {A : Nat → Prop} (G : va_G) (K : Nat → ClassId) (ad : Nat → Nat) (a0 : Int32) (a1 : Int32) (Post : Int32 → (Nat → Int32) → (Nat → Int64) → (Nat → Nat → Int32) → (Nat → Nat → Int64) → Prop) (C : zCx p s m ([.ref (ad 0), .int a0, .int a1] : List Value).toArray meth c A G K prog_14_method_53_code (some .int) 9 "LassoFinderModel") (K5 : Int32 → Int32 → Int32 → Int32 → (Nat → Int32) → (Nat → Int64) → (Nat → Nat → Int32) → (Nat → Nat → Int64) → Prop) (kh5 : ∀ (x1 : Int32) (x2 : Int32) (x3 : Int32) (x4 : Int32) (I : Nat → Int32) (J : Nat → Int64) (B : Nat → Nat → Int32) (D : Nat → Nat → Int64) (ls : Array Slot) (H : Heap) (locs : List Loc), K5 x1 x2 x3 x4 I J B D → lv_has ls 9 [(0, .ref (ad 0)), (1, .int x1), (2, .int x2), (3, .int x3), (4, .int x4)] → zW G A s.heap (wM ad K I J B D) H locs → W p l e { frames := 0, cells := 0, slots := 0, locals := 0 } s m ([.ref (ad 0), .int a0, .int a1] : List Value).toArray below meth c H locs 0 0 (MQ below (va_Qi (fun (r : Int32) (u : zS) => Post r u.1 u.2.1 u.2.2.1 u.2.2.2) (fun u t => zPost G K A (wM ad K u.1 u.2.1 u.2.2.1 u.2.2.2) t) A) ([.ref (ad 0), .int a0, .int a1] : List Value).toArray s 0 0 A) (F0 m 5 ls [])) : ∀ (x1 : Int32) (x2 : Int32) (x3 : Int32) (x4 : Int32) (I : Nat → Int32) (J : Nat → Int64) (B : Nat → Nat → Int32) (D : Nat → Nat → Int64) (ls : Array Slot) (H : Heap) (locs : List Loc), wc_LassoFinderModel_settled_172 a0 a1 K5 Post x1 x2 x3 x4 I J B D → lv_has ls 9 [(0, .ref (ad 0)), (1, .int x1), (2, .int x2), (3, .int x3), (4, .int x4)] → zW G A s.heap (wM ad K I J B D) H locs → W p l e { frames := 0, cells := 0, slots := 0, locals := 0 } s m ([.ref (ad 0), .int a0, .int a1] : List Value).toArray below meth c H locs 0 0 (MQ below (va_Qi (fun (r : Int32) (u : zS) => Post r u.1 u.2.1 u.2.2.1 u.2.2.2) (fun u t => zPost G K A (wM ad K u.1 u.2.1 u.2.2.1 u.2.2.2) t) A) ([.ref (ad 0), .int a0, .int a1] : List Value).toArray s 0 0 A) (F0 m 172 ls []) := by
  obtain ⟨hx, hb, hr, hml, hts, hown, hlocks, hA, hK⟩ := id C
  intro x1 x2 x3 x4 I J B D ls H locs hok hl hw
  unfold wc_LassoFinderModel_settled_172 at hok
  obtain ⟨z1, ez1⟩ : ∃ z : Int32, z = (x4 + 1) := ⟨_, rfl⟩
  have hok := hok z1 ez1
  refine lv_iinc (v := z1) hx hb zd_LassoFinderModel_settled_172 hl (k := 4) rfl ez1.symm (by decide) rfl (fun ls hl => ?_)
  have hl : lv_has ls 9 [(4, .int z1), (0, .ref (ad 0)), (1, .int x1), (2, .int x2), (3, .int x3)] := hl
  refine lv_goto (tgt := 5) hx hb zd_LassoFinderModel_settled_175 (by decide) ?_
  exact kh5 x1 x2 x3 z1 I J B D ls H locs hok (lv_sub hl [1, 2, 3, 4, 0] rfl) hw
set_option maxHeartbeats 8000000 in
set_option maxRecDepth 100000 in
theorem wJ_LassoFinderModel_settled_165 {p : Program} {l : Launch} {e : Env} {s : State} {m : MethodId} {below : List Frame} {meth : Method} {c : Code} {A : Nat → Prop} (G : va_G) (K : Nat → ClassId) (ad : Nat → Nat) (a0 : Int32) (a1 : Int32) (Post : Int32 → (Nat → Int32) → (Nat → Int64) → (Nat → Nat → Int32) → (Nat → Nat → Int64) → Prop) (C : zCx p s m ([.ref (ad 0), .int a0, .int a1] : List Value).toArray meth c A G K prog_14_method_53_code (some .int) 9 "LassoFinderModel") (K5 : Int32 → Int32 → Int32 → Int32 → (Nat → Int32) → (Nat → Int64) → (Nat → Nat → Int32) → (Nat → Nat → Int64) → Prop) (kh5 : ∀ (x1 : Int32) (x2 : Int32) (x3 : Int32) (x4 : Int32) (I : Nat → Int32) (J : Nat → Int64) (B : Nat → Nat → Int32) (D : Nat → Nat → Int64) (ls : Array Slot) (H : Heap) (locs : List Loc), K5 x1 x2 x3 x4 I J B D → lv_has ls 9 [(0, .ref (ad 0)), (1, .int x1), (2, .int x2), (3, .int x3), (4, .int x4)] → zW G A s.heap (wM ad K I J B D) H locs → W p l e { frames := 0, cells := 0, slots := 0, locals := 0 } s m ([.ref (ad 0), .int a0, .int a1] : List Value).toArray below meth c H locs 0 0 (MQ below (va_Qi (fun (r : Int32) (u : zS) => Post r u.1 u.2.1 u.2.2.1 u.2.2.2) (fun u t => zPost G K A (wM ad K u.1 u.2.1 u.2.2.1 u.2.2.2) t) A) ([.ref (ad 0), .int a0, .int a1] : List Value).toArray s 0 0 A) (F0 m 5 ls [])) : ∀ (x1 : Int32) (x2 : Int32) (x3 : Int32) (x4 : Int32) (I : Nat → Int32) (J : Nat → Int64) (B : Nat → Nat → Int32) (D : Nat → Nat → Int64) (ls : Array Slot) (H : Heap) (locs : List Loc), wc_LassoFinderModel_settled_165 a0 a1 K5 Post x1 x2 x3 x4 I J B D → lv_has ls 9 [(0, .ref (ad 0)), (1, .int x1), (2, .int x2), (3, .int x3), (4, .int x4)] → zW G A s.heap (wM ad K I J B D) H locs → W p l e { frames := 0, cells := 0, slots := 0, locals := 0 } s m ([.ref (ad 0), .int a0, .int a1] : List Value).toArray below meth c H locs 0 0 (MQ below (va_Qi (fun (r : Int32) (u : zS) => Post r u.1 u.2.1 u.2.2.1 u.2.2.2) (fun u t => zPost G K A (wM ad K u.1 u.2.1 u.2.2.1 u.2.2.2) t) A) ([.ref (ad 0), .int a0, .int a1] : List Value).toArray s 0 0 A) (F0 m 165 ls []) := by
  obtain ⟨hx, hb, hr, hml, hts, hown, hlocks, hA, hK⟩ := id C
  intro x1 x2 x3 x4 I J B D ls H locs hok hl hw
  unfold wc_LassoFinderModel_settled_165 at hok
  refine lv_iload_n hx hb zd_LassoFinderModel_settled_165 rfl (lv_at hl 3 rfl) ?_
  refine lv_iconst (v := 1) hx hb zd_LassoFinderModel_settled_166 (by decide) ?_
  refine lv_iload hx hb zd_LassoFinderModel_settled_167 (lv_at hl 4 rfl) ?_
  refine lv_ishl hx hb zd_LassoFinderModel_settled_169 ?_
  refine lv_topi (fun z2 ez2 => ?_)
  have hok := hok z2 ez2
  refine lv_ior hx hb zd_LassoFinderModel_settled_170 ?_
  refine lv_topi (fun z3 ez3 => ?_)
  have hok := hok z3 ez3
  refine lv_istore_n hx hb zd_LassoFinderModel_settled_171 rfl hl (by decide) rfl (fun ls hl => ?_)
  have hl : lv_has ls 9 [(3, .int z3), (0, .ref (ad 0)), (1, .int x1), (2, .int x2), (4, .int x4)] := hl
  exact wJ_LassoFinderModel_settled_172 G K ad a0 a1 Post C K5 kh5 x1 x2 z3 x4 I J B D ls H locs hok (lv_sub hl [1, 2, 3, 0, 4] rfl) hw
set_option maxHeartbeats 8000000 in
set_option maxRecDepth 100000 in
theorem wJ_LassoFinderModel_settled_133 {p : Program} {l : Launch} {e : Env} {s : State} {m : MethodId} {below : List Frame} {meth : Method} {c : Code} {A : Nat → Prop} (G : va_G) (K : Nat → ClassId) (ad : Nat → Nat) (a0 : Int32) (a1 : Int32) (Post : Int32 → (Nat → Int32) → (Nat → Int64) → (Nat → Nat → Int32) → (Nat → Nat → Int64) → Prop) (C : zCx p s m ([.ref (ad 0), .int a0, .int a1] : List Value).toArray meth c A G K prog_14_method_53_code (some .int) 9 "LassoFinderModel") (K5 : Int32 → Int32 → Int32 → Int32 → (Nat → Int32) → (Nat → Int64) → (Nat → Nat → Int32) → (Nat → Nat → Int64) → Prop) (kh5 : ∀ (x1 : Int32) (x2 : Int32) (x3 : Int32) (x4 : Int32) (I : Nat → Int32) (J : Nat → Int64) (B : Nat → Nat → Int32) (D : Nat → Nat → Int64) (ls : Array Slot) (H : Heap) (locs : List Loc), K5 x1 x2 x3 x4 I J B D → lv_has ls 9 [(0, .ref (ad 0)), (1, .int x1), (2, .int x2), (3, .int x3), (4, .int x4)] → zW G A s.heap (wM ad K I J B D) H locs → W p l e { frames := 0, cells := 0, slots := 0, locals := 0 } s m ([.ref (ad 0), .int a0, .int a1] : List Value).toArray below meth c H locs 0 0 (MQ below (va_Qi (fun (r : Int32) (u : zS) => Post r u.1 u.2.1 u.2.2.1 u.2.2.2) (fun u t => zPost G K A (wM ad K u.1 u.2.1 u.2.2.1 u.2.2.2) t) A) ([.ref (ad 0), .int a0, .int a1] : List Value).toArray s 0 0 A) (F0 m 5 ls [])) : ∀ (x1 : Int32) (x2 : Int32) (x3 : Int32) (x4 : Int32) (x6 : Int32) (x7 : Int32) (y0 : Int32) (I : Nat → Int32) (J : Nat → Int64) (B : Nat → Nat → Int32) (D : Nat → Nat → Int64) (ls : Array Slot) (H : Heap) (locs : List Loc), wc_LassoFinderModel_settled_133 a0 a1 K5 Post x1 x2 x3 x4 x6 x7 y0 I J B D → lv_has ls 9 [(0, .ref (ad 0)), (1, .int x1), (2, .int x2), (3, .int x3), (4, .int x4), (6, .int x6), (7, .int x7)] → zW G A s.heap (wM ad K I J B D) H locs → W p l e { frames := 0, cells := 0, slots := 0, locals := 0 } s m ([.ref (ad 0), .int a0, .int a1] : List Value).toArray below meth c H locs 0 0 (MQ below (va_Qi (fun (r : Int32) (u : zS) => Post r u.1 u.2.1 u.2.2.1 u.2.2.2) (fun u t => zPost G K A (wM ad K u.1 u.2.1 u.2.2.1 u.2.2.2) t) A) ([.ref (ad 0), .int a0, .int a1] : List Value).toArray s 0 0 A) (F0 m 133 ls [.int y0]) := by
  obtain ⟨hx, hb, hr, hml, hts, hown, hlocks, hA, hK⟩ := id C
  intro x1 x2 x3 x4 x6 x7 y0 I J B D ls H locs hok hl hw
  unfold wc_LassoFinderModel_settled_133 at hok
  refine lv_istore hx hb zd_LassoFinderModel_settled_133 hl (by decide) rfl (fun ls hl => ?_)
  have hl : lv_has ls 9 [(8, .int y0), (0, .ref (ad 0)), (1, .int x1), (2, .int x2), (3, .int x3), (4, .int x4), (6, .int x6), (7, .int x7)] := hl
  refine lv_iload hx hb zd_LassoFinderModel_settled_135 (lv_at hl 0 rfl) ?_
  refine lv_if_eq (tgt := 154) hx hb zd_LassoFinderModel_settled_137 (by decide) (fun hc4 => ?_) (fun hc4 => ?_)
  · have hok := hok.1 hc4
    refine lv_iload hx hb zd_LassoFinderModel_settled_154 (lv_at hl 7 rfl) ?_
    refine lv_iconst (v := 1) hx hb zd_LassoFinderModel_settled_156 (by decide) ?_
    refine lv_icmp_eq (tgt := 165) hx hb zd_LassoFinderModel_settled_157 (by decide) (fun hc5 => ?_) (fun hc5 => ?_)
    · have hok := hok.1 hc5
      exact wJ_LassoFinderModel_settled_165 G K ad a0 a1 Post C K5 kh5 x1 x2 x3 x4 I J B D ls H locs hok (lv_sub hl [1, 2, 3, 4, 5] rfl) hw
    · have hok := hok.2 hc5
      refine lv_iload hx hb zd_LassoFinderModel_settled_160 (lv_at hl 6 rfl) ?_
      refine lv_if_ne (tgt := 172) hx hb zd_LassoFinderModel_settled_162 (by decide) (fun hc6 => ?_) (fun hc6 => ?_)
      · have hok := hok.1 hc6
        exact wJ_LassoFinderModel_settled_172 G K ad a0 a1 Post C K5 kh5 x1 x2 x3 x4 I J B D ls H locs hok (lv_sub hl [1, 2, 3, 4, 5] rfl) hw
      · have hok := hok.2 hc6
        exact wJ_LassoFinderModel_settled_165 G K ad a0 a1 Post C K5 kh5 x1 x2 x3 x4 I J B D ls H locs hok (lv_sub hl [1, 2, 3, 4, 5] rfl) hw
  · have hok := hok.2 hc4
    refine lv_iload hx hb zd_LassoFinderModel_settled_140 (lv_at hl 7 rfl) ?_
    refine lv_if_eq (tgt := 165) hx hb zd_LassoFinderModel_settled_142 (by decide) (fun hc7 => ?_) (fun hc7 => ?_)
    · have hok := hok.1 hc7
      exact wJ_LassoFinderModel_settled_165 G K ad a0 a1 Post C K5 kh5 x1 x2 x3 x4 I J B D ls H locs hok (lv_sub hl [1, 2, 3, 4, 5] rfl) hw
    · have hok := hok.2 hc7
      refine lv_iload hx hb zd_LassoFinderModel_settled_145 (lv_at hl 6 rfl) ?_
      refine lv_iconst (v := 1) hx hb zd_LassoFinderModel_settled_147 (by decide) ?_
      refine lv_icmp_ne (tgt := 172) hx hb zd_LassoFinderModel_settled_148 (by decide) (fun hc8 => ?_) (fun hc8 => ?_)
      · have hok := hok.1 hc8
        exact wJ_LassoFinderModel_settled_172 G K ad a0 a1 Post C K5 kh5 x1 x2 x3 x4 I J B D ls H locs hok (lv_sub hl [1, 2, 3, 4, 5] rfl) hw
      · have hok := hok.2 hc8
        refine lv_goto (tgt := 165) hx hb zd_LassoFinderModel_settled_151 (by decide) ?_
        exact wJ_LassoFinderModel_settled_165 G K ad a0 a1 Post C K5 kh5 x1 x2 x3 x4 I J B D ls H locs hok (lv_sub hl [1, 2, 3, 4, 5] rfl) hw
set_option maxHeartbeats 8000000 in
set_option maxRecDepth 100000 in
theorem wJ_LassoFinderModel_settled_128 {p : Program} {l : Launch} {e : Env} {s : State} {m : MethodId} {below : List Frame} {meth : Method} {c : Code} {A : Nat → Prop} (G : va_G) (K : Nat → ClassId) (ad : Nat → Nat) (a0 : Int32) (a1 : Int32) (Post : Int32 → (Nat → Int32) → (Nat → Int64) → (Nat → Nat → Int32) → (Nat → Nat → Int64) → Prop) (C : zCx p s m ([.ref (ad 0), .int a0, .int a1] : List Value).toArray meth c A G K prog_14_method_53_code (some .int) 9 "LassoFinderModel") (K5 : Int32 → Int32 → Int32 → Int32 → (Nat → Int32) → (Nat → Int64) → (Nat → Nat → Int32) → (Nat → Nat → Int64) → Prop) (kh5 : ∀ (x1 : Int32) (x2 : Int32) (x3 : Int32) (x4 : Int32) (I : Nat → Int32) (J : Nat → Int64) (B : Nat → Nat → Int32) (D : Nat → Nat → Int64) (ls : Array Slot) (H : Heap) (locs : List Loc), K5 x1 x2 x3 x4 I J B D → lv_has ls 9 [(0, .ref (ad 0)), (1, .int x1), (2, .int x2), (3, .int x3), (4, .int x4)] → zW G A s.heap (wM ad K I J B D) H locs → W p l e { frames := 0, cells := 0, slots := 0, locals := 0 } s m ([.ref (ad 0), .int a0, .int a1] : List Value).toArray below meth c H locs 0 0 (MQ below (va_Qi (fun (r : Int32) (u : zS) => Post r u.1 u.2.1 u.2.2.1 u.2.2.2) (fun u t => zPost G K A (wM ad K u.1 u.2.1 u.2.2.1 u.2.2.2) t) A) ([.ref (ad 0), .int a0, .int a1] : List Value).toArray s 0 0 A) (F0 m 5 ls [])) : ∀ (x1 : Int32) (x2 : Int32) (x3 : Int32) (x4 : Int32) (x6 : Int32) (x7 : Int32) (I : Nat → Int32) (J : Nat → Int64) (B : Nat → Nat → Int32) (D : Nat → Nat → Int64) (ls : Array Slot) (H : Heap) (locs : List Loc), wc_LassoFinderModel_settled_128 a0 a1 K5 Post x1 x2 x3 x4 x6 x7 I J B D → lv_has ls 9 [(0, .ref (ad 0)), (1, .int x1), (2, .int x2), (3, .int x3), (4, .int x4), (6, .int x6), (7, .int x7)] → zW G A s.heap (wM ad K I J B D) H locs → W p l e { frames := 0, cells := 0, slots := 0, locals := 0 } s m ([.ref (ad 0), .int a0, .int a1] : List Value).toArray below meth c H locs 0 0 (MQ below (va_Qi (fun (r : Int32) (u : zS) => Post r u.1 u.2.1 u.2.2.1 u.2.2.2) (fun u t => zPost G K A (wM ad K u.1 u.2.1 u.2.2.1 u.2.2.2) t) A) ([.ref (ad 0), .int a0, .int a1] : List Value).toArray s 0 0 A) (F0 m 128 ls []) := by
  obtain ⟨hx, hb, hr, hml, hts, hown, hlocks, hA, hK⟩ := id C
  intro x1 x2 x3 x4 x6 x7 I J B D ls H locs hok hl hw
  unfold wc_LassoFinderModel_settled_128 at hok
  refine lv_iconst (v := 1) hx hb zd_LassoFinderModel_settled_128 (by decide) ?_
  refine lv_goto (tgt := 133) hx hb zd_LassoFinderModel_settled_129 (by decide) ?_
  exact wJ_LassoFinderModel_settled_133 G K ad a0 a1 Post C K5 kh5 x1 x2 x3 x4 x6 x7 1 I J B D ls H locs hok (lv_sub hl [0, 1, 2, 3, 4, 5, 6] rfl) hw
set_option maxHeartbeats 8000000 in
set_option maxRecDepth 100000 in
theorem wJ_LassoFinderModel_settled_84 {p : Program} {l : Launch} {e : Env} {s : State} {m : MethodId} {below : List Frame} {meth : Method} {c : Code} {A : Nat → Prop} (G : va_G) (K : Nat → ClassId) (ad : Nat → Nat) (a0 : Int32) (a1 : Int32) (Post : Int32 → (Nat → Int32) → (Nat → Int64) → (Nat → Nat → Int32) → (Nat → Nat → Int64) → Prop) (C : zCx p s m ([.ref (ad 0), .int a0, .int a1] : List Value).toArray meth c A G K prog_14_method_53_code (some .int) 9 "LassoFinderModel") (K5 : Int32 → Int32 → Int32 → Int32 → (Nat → Int32) → (Nat → Int64) → (Nat → Nat → Int32) → (Nat → Nat → Int64) → Prop) (kh5 : ∀ (x1 : Int32) (x2 : Int32) (x3 : Int32) (x4 : Int32) (I : Nat → Int32) (J : Nat → Int64) (B : Nat → Nat → Int32) (D : Nat → Nat → Int64) (ls : Array Slot) (H : Heap) (locs : List Loc), K5 x1 x2 x3 x4 I J B D → lv_has ls 9 [(0, .ref (ad 0)), (1, .int x1), (2, .int x2), (3, .int x3), (4, .int x4)] → zW G A s.heap (wM ad K I J B D) H locs → W p l e { frames := 0, cells := 0, slots := 0, locals := 0 } s m ([.ref (ad 0), .int a0, .int a1] : List Value).toArray below meth c H locs 0 0 (MQ below (va_Qi (fun (r : Int32) (u : zS) => Post r u.1 u.2.1 u.2.2.1 u.2.2.2) (fun u t => zPost G K A (wM ad K u.1 u.2.1 u.2.2.1 u.2.2.2) t) A) ([.ref (ad 0), .int a0, .int a1] : List Value).toArray s 0 0 A) (F0 m 5 ls [])) : ∀ (x1 : Int32) (x2 : Int32) (x3 : Int32) (x4 : Int32) (y0 : Int32) (I : Nat → Int32) (J : Nat → Int64) (B : Nat → Nat → Int32) (D : Nat → Nat → Int64) (ls : Array Slot) (H : Heap) (locs : List Loc), wc_LassoFinderModel_settled_84 a0 a1 K5 Post x1 x2 x3 x4 y0 I J B D → lv_has ls 9 [(0, .ref (ad 0)), (1, .int x1), (2, .int x2), (3, .int x3), (4, .int x4)] → zW G A s.heap (wM ad K I J B D) H locs → W p l e { frames := 0, cells := 0, slots := 0, locals := 0 } s m ([.ref (ad 0), .int a0, .int a1] : List Value).toArray below meth c H locs 0 0 (MQ below (va_Qi (fun (r : Int32) (u : zS) => Post r u.1 u.2.1 u.2.2.1 u.2.2.2) (fun u t => zPost G K A (wM ad K u.1 u.2.1 u.2.2.1 u.2.2.2) t) A) ([.ref (ad 0), .int a0, .int a1] : List Value).toArray s 0 0 A) (F0 m 84 ls [.int y0]) := by
  obtain ⟨hx, hb, hr, hml, hts, hown, hlocks, hA, hK⟩ := id C
  intro x1 x2 x3 x4 y0 I J B D ls H locs hok hl hw
  unfold wc_LassoFinderModel_settled_84 at hok
  refine lv_istore hx hb zd_LassoFinderModel_settled_84 hl (by decide) rfl (fun ls hl => ?_)
  have hl : lv_has ls 9 [(6, .int y0), (0, .ref (ad 0)), (1, .int x1), (2, .int x2), (3, .int x3), (4, .int x4)] := hl
  refine lv_iload_n hx hb zd_LassoFinderModel_settled_86 rfl (lv_at hl 3 rfl) ?_
  refine lv_iload hx hb zd_LassoFinderModel_settled_87 (lv_at hl 5 rfl) ?_
  refine lv_ishr hx hb zd_LassoFinderModel_settled_89 ?_
  refine lv_topi (fun z9 ez9 => ?_)
  have hok := hok z9 ez9
  refine lv_iconst (v := 1) hx hb zd_LassoFinderModel_settled_90 (by decide) ?_
  refine lv_iand hx hb zd_LassoFinderModel_settled_91 ?_
  refine lv_topi (fun z10 ez10 => ?_)
  have hok := hok z10 ez10
  refine lv_istore hx hb zd_LassoFinderModel_settled_92 hl (by decide) rfl (fun ls hl => ?_)
  have hl : lv_has ls 9 [(7, .int z10), (6, .int y0), (0, .ref (ad 0)), (1, .int x1), (2, .int x2), (3, .int x3), (4, .int x4)] := hl
  refine lv_aload_n hx hb zd_LassoFinderModel_settled_94 rfl (lv_at hl 2 rfl) ?_
  refine z_get (v := .ref (ad 44)) hx hb hts hown hK hw zZ12 0 wM_g0 63 (by decide) zm_278 rfl zd_LassoFinderModel_settled_95 ?_
  refine lv_aload_n hx hb zd_LassoFinderModel_settled_98 rfl (lv_at hl 2 rfl) ?_
  refine z_get (v := .ref (ad 46)) hx hb hts hown hK hw zZ12 0 wM_g0 68 (by decide) zm_280 rfl zd_LassoFinderModel_settled_99 ?_
  refine lv_iload hx hb zd_LassoFinderModel_settled_102 (lv_at hl 6 rfl) ?_
  refine va_iald (f := (B 43)) hx hb hK hw.1 46 0 wM_a46 rfl hok.1 zd_LassoFinderModel_settled_104 ?_
  have hok := hok.2
  refine lv_topi (fun z11 ez11 => ?_)
  have hok := hok z11 ez11
  refine va_iald (f := (B 41)) hx hb hK hw.1 44 0 wM_a44 rfl hok.1 zd_LassoFinderModel_settled_105 ?_
  have hok := hok.2
  refine lv_topi (fun z12 ez12 => ?_)
  have hok := hok z12 ez12
  refine lv_bipush (v := 12) hx hb zd_LassoFinderModel_settled_106 (by decide) ?_
  refine lv_icmp_eq (tgt := 128) hx hb zd_LassoFinderModel_settled_108 (by decide) (fun hc13 => ?_) (fun hc13 => ?_)
  · have hok := hok.1 hc13
    exact wJ_LassoFinderModel_settled_128 G K ad a0 a1 Post C K5 kh5 x1 x2 x3 x4 y0 z10 I J B D ls H locs hok (lv_sub hl [2, 3, 4, 5, 6, 1, 0] rfl) hw
  · have hok := hok.2 hc13
    refine lv_aload_n hx hb zd_LassoFinderModel_settled_111 rfl (lv_at hl 2 rfl) ?_
    refine z_get (v := .ref (ad 44)) hx hb hts hown hK hw zZ12 0 wM_g0 63 (by decide) zm_278 rfl zd_LassoFinderModel_settled_112 ?_
    refine lv_aload_n hx hb zd_LassoFinderModel_settled_115 rfl (lv_at hl 2 rfl) ?_
    refine z_get (v := .ref (ad 46)) hx hb hts hown hK hw zZ12 0 wM_g0 68 (by decide) zm_280 rfl zd_LassoFinderModel_settled_116 ?_
    refine lv_iload hx hb zd_LassoFinderModel_settled_119 (lv_at hl 6 rfl) ?_
    refine va_iald (f := (B 43)) hx hb hK hw.1 46 0 wM_a46 rfl hok.1 zd_LassoFinderModel_settled_121 ?_
    have hok := hok.2
    refine lv_topi (fun z14 ez14 => ?_)
    have hok := hok z14 ez14
    refine va_iald (f := (B 41)) hx hb hK hw.1 44 0 wM_a44 rfl hok.1 zd_LassoFinderModel_settled_122 ?_
    have hok := hok.2
    refine lv_topi (fun z15 ez15 => ?_)
    have hok := hok z15 ez15
    refine lv_bipush (v := 15) hx hb zd_LassoFinderModel_settled_123 (by decide) ?_
    refine lv_icmp_ne (tgt := 132) hx hb zd_LassoFinderModel_settled_125 (by decide) (fun hc16 => ?_) (fun hc16 => ?_)
    · have hok := hok.1 hc16
      refine lv_iconst (v := 0) hx hb zd_LassoFinderModel_settled_132 (by decide) ?_
      exact wJ_LassoFinderModel_settled_133 G K ad a0 a1 Post C K5 kh5 x1 x2 x3 x4 y0 z10 0 I J B D ls H locs hok (lv_sub hl [2, 3, 4, 5, 6, 1, 0] rfl) hw
    · have hok := hok.2 hc16
      exact wJ_LassoFinderModel_settled_128 G K ad a0 a1 Post C K5 kh5 x1 x2 x3 x4 y0 z10 I J B D ls H locs hok (lv_sub hl [2, 3, 4, 5, 6, 1, 0] rfl) hw
set_option maxHeartbeats 8000000 in
set_option maxRecDepth 100000 in
theorem wJ_LassoFinderModel_settled_61 {p : Program} {l : Launch} {e : Env} {s : State} {m : MethodId} {below : List Frame} {meth : Method} {c : Code} {A : Nat → Prop} (G : va_G) (K : Nat → ClassId) (ad : Nat → Nat) (a0 : Int32) (a1 : Int32) (Post : Int32 → (Nat → Int32) → (Nat → Int64) → (Nat → Nat → Int32) → (Nat → Nat → Int64) → Prop) (C : zCx p s m ([.ref (ad 0), .int a0, .int a1] : List Value).toArray meth c A G K prog_14_method_53_code (some .int) 9 "LassoFinderModel") (K5 : Int32 → Int32 → Int32 → Int32 → (Nat → Int32) → (Nat → Int64) → (Nat → Nat → Int32) → (Nat → Nat → Int64) → Prop) (kh5 : ∀ (x1 : Int32) (x2 : Int32) (x3 : Int32) (x4 : Int32) (I : Nat → Int32) (J : Nat → Int64) (B : Nat → Nat → Int32) (D : Nat → Nat → Int64) (ls : Array Slot) (H : Heap) (locs : List Loc), K5 x1 x2 x3 x4 I J B D → lv_has ls 9 [(0, .ref (ad 0)), (1, .int x1), (2, .int x2), (3, .int x3), (4, .int x4)] → zW G A s.heap (wM ad K I J B D) H locs → W p l e { frames := 0, cells := 0, slots := 0, locals := 0 } s m ([.ref (ad 0), .int a0, .int a1] : List Value).toArray below meth c H locs 0 0 (MQ below (va_Qi (fun (r : Int32) (u : zS) => Post r u.1 u.2.1 u.2.2.1 u.2.2.2) (fun u t => zPost G K A (wM ad K u.1 u.2.1 u.2.2.1 u.2.2.2) t) A) ([.ref (ad 0), .int a0, .int a1] : List Value).toArray s 0 0 A) (F0 m 5 ls [])) : ∀ (x1 : Int32) (x2 : Int32) (x3 : Int32) (x4 : Int32) (x5 : Int32) (I : Nat → Int32) (J : Nat → Int64) (B : Nat → Nat → Int32) (D : Nat → Nat → Int64) (ls : Array Slot) (H : Heap) (locs : List Loc), wc_LassoFinderModel_settled_61 a0 a1 K5 Post x1 x2 x3 x4 x5 I J B D → lv_has ls 9 [(0, .ref (ad 0)), (1, .int x1), (2, .int x2), (3, .int x3), (4, .int x4), (5, .int x5)] → zW G A s.heap (wM ad K I J B D) H locs → W p l e { frames := 0, cells := 0, slots := 0, locals := 0 } s m ([.ref (ad 0), .int a0, .int a1] : List Value).toArray below meth c H locs 0 0 (MQ below (va_Qi (fun (r : Int32) (u : zS) => Post r u.1 u.2.1 u.2.2.1 u.2.2.2) (fun u t => zPost G K A (wM ad K u.1 u.2.1 u.2.2.1 u.2.2.2) t) A) ([.ref (ad 0), .int a0, .int a1] : List Value).toArray s 0 0 A) (F0 m 61 ls []) := by
  obtain ⟨hx, hb, hr, hml, hts, hown, hlocks, hA, hK⟩ := id C
  intro x1 x2 x3 x4 x5 I J B D ls H locs hok hl hw
  unfold wc_LassoFinderModel_settled_61 at hok
  refine lv_iload hx hb zd_LassoFinderModel_settled_61 (lv_at hl 5 rfl) ?_
  refine lv_iconst (v := 2) hx hb zd_LassoFinderModel_settled_63 (by decide) ?_
  refine lv_iload hx hb zd_LassoFinderModel_settled_64 (lv_at hl 4 rfl) ?_
  refine lv_imul hx hb zd_LassoFinderModel_settled_66 ?_
  refine lv_topi (fun z17 ez17 => ?_)
  have hok := hok z17 ez17
  refine lv_iconst (v := 1) hx hb zd_LassoFinderModel_settled_67 (by decide) ?_
  refine lv_iadd hx hb zd_LassoFinderModel_settled_68 ?_
  refine lv_topi (fun z18 ez18 => ?_)
  have hok := hok z18 ez18
  refine lv_ishr hx hb zd_LassoFinderModel_settled_69 ?_
  refine lv_topi (fun z19 ez19 => ?_)
  have hok := hok z19 ez19
  refine lv_iconst (v := 1) hx hb zd_LassoFinderModel_settled_70 (by decide) ?_
  refine lv_iand hx hb zd_LassoFinderModel_settled_71 ?_
  refine lv_topi (fun z20 ez20 => ?_)
  have hok := hok z20 ez20
  refine lv_goto (tgt := 84) hx hb zd_LassoFinderModel_settled_72 (by decide) ?_
  exact wJ_LassoFinderModel_settled_84 G K ad a0 a1 Post C K5 kh5 x1 x2 x3 x4 z20 I J B D ls H locs hok (lv_sub hl [0, 1, 2, 3, 4] rfl) hw
set_option maxHeartbeats 8000000 in
set_option maxRecDepth 100000 in
theorem wB_LassoFinderModel_settled_5 {p : Program} {l : Launch} {e : Env} {s : State} {m : MethodId} {below : List Frame} {meth : Method} {c : Code} {A : Nat → Prop} (G : va_G) (K : Nat → ClassId) (ad : Nat → Nat) (a0 : Int32) (a1 : Int32) (Post : Int32 → (Nat → Int32) → (Nat → Int64) → (Nat → Nat → Int32) → (Nat → Nat → Int64) → Prop) (C : zCx p s m ([.ref (ad 0), .int a0, .int a1] : List Value).toArray meth c A G K prog_14_method_53_code (some .int) 9 "LassoFinderModel") (K5 : Int32 → Int32 → Int32 → Int32 → (Nat → Int32) → (Nat → Int64) → (Nat → Nat → Int32) → (Nat → Nat → Int64) → Prop) (kh5 : ∀ (x1 : Int32) (x2 : Int32) (x3 : Int32) (x4 : Int32) (I : Nat → Int32) (J : Nat → Int64) (B : Nat → Nat → Int32) (D : Nat → Nat → Int64) (ls : Array Slot) (H : Heap) (locs : List Loc), K5 x1 x2 x3 x4 I J B D → lv_has ls 9 [(0, .ref (ad 0)), (1, .int x1), (2, .int x2), (3, .int x3), (4, .int x4)] → zW G A s.heap (wM ad K I J B D) H locs → W p l e { frames := 0, cells := 0, slots := 0, locals := 0 } s m ([.ref (ad 0), .int a0, .int a1] : List Value).toArray below meth c H locs 0 0 (MQ below (va_Qi (fun (r : Int32) (u : zS) => Post r u.1 u.2.1 u.2.2.1 u.2.2.2) (fun u t => zPost G K A (wM ad K u.1 u.2.1 u.2.2.1 u.2.2.2) t) A) ([.ref (ad 0), .int a0, .int a1] : List Value).toArray s 0 0 A) (F0 m 5 ls [])) : ∀ (x1 : Int32) (x2 : Int32) (x3 : Int32) (x4 : Int32) (I : Nat → Int32) (J : Nat → Int64) (B : Nat → Nat → Int32) (D : Nat → Nat → Int64) (ls : Array Slot) (H : Heap) (locs : List Loc), wb_LassoFinderModel_settled_5 a0 a1 K5 Post x1 x2 x3 x4 I J B D → lv_has ls 9 [(0, .ref (ad 0)), (1, .int x1), (2, .int x2), (3, .int x3), (4, .int x4)] → zW G A s.heap (wM ad K I J B D) H locs → W p l e { frames := 0, cells := 0, slots := 0, locals := 0 } s m ([.ref (ad 0), .int a0, .int a1] : List Value).toArray below meth c H locs 0 0 (MQ below (va_Qi (fun (r : Int32) (u : zS) => Post r u.1 u.2.1 u.2.2.1 u.2.2.2) (fun u t => zPost G K A (wM ad K u.1 u.2.1 u.2.2.1 u.2.2.2) t) A) ([.ref (ad 0), .int a0, .int a1] : List Value).toArray s 0 0 A) (F0 m 5 ls []) := by
  obtain ⟨hx, hb, hr, hml, hts, hown, hlocks, hA, hK⟩ := id C
  intro x1 x2 x3 x4 I J B D ls H locs hok hl hw
  unfold wb_LassoFinderModel_settled_5 at hok
  refine lv_iload hx hb zd_LassoFinderModel_settled_5 (lv_at hl 4 rfl) ?_
  refine lv_aload_n hx hb zd_LassoFinderModel_settled_7 rfl (lv_at hl 0 rfl) ?_
  refine z_get (v := .int (I 20)) hx hb hts hown hK hw zZ12 0 wM_g0 64 (by decide) zm_356 rfl zd_LassoFinderModel_settled_8 ?_
  refine lv_icmp_ge (tgt := 178) hx hb zd_LassoFinderModel_settled_11 (by decide) (fun hc21 => ?_) (fun hc21 => ?_)
  · have hok := hok.1 hc21
    refine lv_iload_n hx hb zd_LassoFinderModel_settled_178 rfl (lv_at hl 3 rfl) ?_
    exact (z_iret (u := (I, J, B, D)) hx hb hr hlocks rfl hw (List.range 58) wM_all wM_nd hok (Nat.le_of_ble_eq_true rfl) (Nat.le_of_ble_eq_true rfl) zd_LassoFinderModel_settled_179)
  · have hok := hok.2 hc21
    refine lv_aload_n hx hb zd_LassoFinderModel_settled_14 rfl (lv_at hl 0 rfl) ?_
    refine z_get (v := .ref (ad 51)) hx hb hts hown hK hw zZ12 0 wM_g0 74 (by decide) zm_285 rfl zd_LassoFinderModel_settled_15 ?_
    refine lv_bipush (v := 8) hx hb zd_LassoFinderModel_settled_18 (by decide) ?_
    refine lv_iload_n hx hb zd_LassoFinderModel_settled_20 rfl (lv_at hl 1 rfl) ?_
    refine lv_imul hx hb zd_LassoFinderModel_settled_21 ?_
    refine lv_topi (fun z22 ez22 => ?_)
    have hok := hok z22 ez22
    refine lv_iload_n hx hb zd_LassoFinderModel_settled_22 rfl (lv_at hl 2 rfl) ?_
    refine lv_iadd hx hb zd_LassoFinderModel_settled_23 ?_
    refine lv_topi (fun z23 ez23 => ?_)
    have hok := hok z23 ez23
    refine va_iald (f := (B 48)) hx hb hK hw.1 51 0 wM_a51 rfl hok.1 zd_LassoFinderModel_settled_24 ?_
    have hok := hok.2
    refine lv_topi (fun z24 ez24 => ?_)
    have hok := hok z24 ez24
    refine lv_istore hx hb zd_LassoFinderModel_settled_25 hl (by decide) rfl (fun ls hl => ?_)
    have hl : lv_has ls 9 [(5, .int z24), (0, .ref (ad 0)), (1, .int x1), (2, .int x2), (3, .int x3), (4, .int x4)] := hl
    refine lv_aload_n hx hb zd_LassoFinderModel_settled_27 rfl (lv_at hl 1 rfl) ?_
    refine z_get (v := .ref (ad 44)) hx hb hts hown hK hw zZ12 0 wM_g0 63 (by decide) zm_278 rfl zd_LassoFinderModel_settled_28 ?_
    refine lv_aload_n hx hb zd_LassoFinderModel_settled_31 rfl (lv_at hl 1 rfl) ?_
    refine z_get (v := .ref (ad 46)) hx hb hts hown hK hw zZ12 0 wM_g0 68 (by decide) zm_280 rfl zd_LassoFinderModel_settled_32 ?_
    refine lv_iload hx hb zd_LassoFinderModel_settled_35 (lv_at hl 5 rfl) ?_
    refine va_iald (f := (B 43)) hx hb hK hw.1 46 0 wM_a46 rfl hok.1 zd_LassoFinderModel_settled_37 ?_
    have hok := hok.2
    refine lv_topi (fun z25 ez25 => ?_)
    have hok := hok z25 ez25
    refine va_iald (f := (B 41)) hx hb hK hw.1 44 0 wM_a44 rfl hok.1 zd_LassoFinderModel_settled_38 ?_
    have hok := hok.2
    refine lv_topi (fun z26 ez26 => ?_)
    have hok := hok z26 ez26
    refine lv_bipush (v := 12) hx hb zd_LassoFinderModel_settled_39 (by decide) ?_
    refine lv_icmp_eq (tgt := 61) hx hb zd_LassoFinderModel_settled_41 (by decide) (fun hc27 => ?_) (fun hc27 => ?_)
    · have hok := hok.1 hc27
      exact wJ_LassoFinderModel_settled_61 G K ad a0 a1 Post C K5 kh5 x1 x2 x3 x4 z24 I J B D ls H locs hok (lv_sub hl [1, 2, 3, 4, 5, 0] rfl) hw
    · have hok := hok.2 hc27
      refine lv_aload_n hx hb zd_LassoFinderModel_settled_44 rfl (lv_at hl 1 rfl) ?_
      refine z_get (v := .ref (ad 44)) hx hb hts hown hK hw zZ12 0 wM_g0 63 (by decide) zm_278 rfl zd_LassoFinderModel_settled_45 ?_
      refine lv_aload_n hx hb zd_LassoFinderModel_settled_48 rfl (lv_at hl 1 rfl) ?_
      refine z_get (v := .ref (ad 46)) hx hb hts hown hK hw zZ12 0 wM_g0 68 (by decide) zm_280 rfl zd_LassoFinderModel_settled_49 ?_
      refine lv_iload hx hb zd_LassoFinderModel_settled_52 (lv_at hl 5 rfl) ?_
      refine va_iald (f := (B 43)) hx hb hK hw.1 46 0 wM_a46 rfl hok.1 zd_LassoFinderModel_settled_54 ?_
      have hok := hok.2
      refine lv_topi (fun z28 ez28 => ?_)
      have hok := hok z28 ez28
      refine va_iald (f := (B 41)) hx hb hK hw.1 44 0 wM_a44 rfl hok.1 zd_LassoFinderModel_settled_55 ?_
      have hok := hok.2
      refine lv_topi (fun z29 ez29 => ?_)
      have hok := hok z29 ez29
      refine lv_bipush (v := 13) hx hb zd_LassoFinderModel_settled_56 (by decide) ?_
      refine lv_icmp_ne (tgt := 75) hx hb zd_LassoFinderModel_settled_58 (by decide) (fun hc30 => ?_) (fun hc30 => ?_)
      · have hok := hok.1 hc30
        refine lv_iload hx hb zd_LassoFinderModel_settled_75 (lv_at hl 0 rfl) ?_
        refine lv_iconst (v := 2) hx hb zd_LassoFinderModel_settled_77 (by decide) ?_
        refine lv_iload hx hb zd_LassoFinderModel_settled_78 (lv_at hl 5 rfl) ?_
        refine lv_imul hx hb zd_LassoFinderModel_settled_80 ?_
        refine lv_topi (fun z31 ez31 => ?_)
        have hok := hok z31 ez31
        refine lv_ishr hx hb zd_LassoFinderModel_settled_81 ?_
        refine lv_topi (fun z32 ez32 => ?_)
        have hok := hok z32 ez32
        refine lv_iconst (v := 1) hx hb zd_LassoFinderModel_settled_82 (by decide) ?_
        refine lv_iand hx hb zd_LassoFinderModel_settled_83 ?_
        refine lv_topi (fun z33 ez33 => ?_)
        have hok := hok z33 ez33
        exact wJ_LassoFinderModel_settled_84 G K ad a0 a1 Post C K5 kh5 x1 x2 x3 x4 z33 I J B D ls H locs hok (lv_sub hl [1, 2, 3, 4, 5] rfl) hw
      · have hok := hok.2 hc30
        exact wJ_LassoFinderModel_settled_61 G K ad a0 a1 Post C K5 kh5 x1 x2 x3 x4 z24 I J B D ls H locs hok (lv_sub hl [1, 2, 3, 4, 5, 0] rfl) hw
theorem wL_LassoFinderModel_settled_5 {p : Program} {l : Launch} {e : Env} {s : State} {m : MethodId} {below : List Frame} {meth : Method} {c : Code} {A : Nat → Prop} (G : va_G) (K : Nat → ClassId) (ad : Nat → Nat) (a0 : Int32) (a1 : Int32) (Post : Int32 → (Nat → Int32) → (Nat → Int64) → (Nat → Nat → Int32) → (Nat → Nat → Int64) → Prop) (C : zCx p s m ([.ref (ad 0), .int a0, .int a1] : List Value).toArray meth c A G K prog_14_method_53_code (some .int) 9 "LassoFinderModel") : ∀ (n : Nat) (x1 : Int32) (x2 : Int32) (x3 : Int32) (x4 : Int32) (I : Nat → Int32) (J : Nat → Int64) (B : Nat → Nat → Int32) (D : Nat → Nat → Int64) (ls : Array Slot) (H : Heap) (locs : List Loc), wl_LassoFinderModel_settled_5 a0 a1 Post n x1 x2 x3 x4 I J B D → lv_has ls 9 [(0, .ref (ad 0)), (1, .int x1), (2, .int x2), (3, .int x3), (4, .int x4)] → zW G A s.heap (wM ad K I J B D) H locs → W p l e { frames := 0, cells := 0, slots := 0, locals := 0 } s m ([.ref (ad 0), .int a0, .int a1] : List Value).toArray below meth c H locs 0 0 (MQ below (va_Qi (fun (r : Int32) (u : zS) => Post r u.1 u.2.1 u.2.2.1 u.2.2.2) (fun u t => zPost G K A (wM ad K u.1 u.2.1 u.2.2.1 u.2.2.2) t) A) ([.ref (ad 0), .int a0, .int a1] : List Value).toArray s 0 0 A) (F0 m 5 ls []) := by
  intro n
  induction n with
  | zero => intro x1 x2 x3 x4 I J B D ls H locs hok; exact hok.elim
  | succ n ih => exact wB_LassoFinderModel_settled_5 G K ad a0 a1 Post C (wl_LassoFinderModel_settled_5 a0 a1 Post n) ih
set_option maxHeartbeats 8000000 in
set_option maxRecDepth 100000 in
theorem w_LassoFinderModel_settled (l : Launch) (G : va_G) (K : Nat → ClassId) (ad : Nat → Nat) (I : Nat → Int32) (J : Nat → Int64) (B : Nat → Nat → Int32) (D : Nat → Nat → Int64) (a0 : Int32) (a1 : Int32) (Post : Int32 → (Nat → Int32) → (Nat → Int64) → (Nat → Nat → Int32) → (Nat → Nat → Int64) → Prop) (sz : Nat) (hok : wp_LassoFinderModel_settled I J B D a0 a1 Post) : Met l zy_LassoFinderModel_settled (Cond.code zy_LassoFinderModel_settled prog_14_method_53_code 9 (some .int) :: zTB) { frames := 0, cells := 0, slots := 0, locals := 0 } (va_Pc [.ref (ad 0), .int a0, .int a1] (zPre G K (wM ad K I J B D) sz)) (va_Qi (fun (r : Int32) (u : zS) => Post r u.1 u.2.1 u.2.2.1 u.2.2.2) (fun u t => zPost G K (va_A (wM ad K I J B D) sz) (wM ad K u.1 u.2.1 u.2.2.1 u.2.2.2) t) (va_A (wM ad K I J B D) sz)) 0 0 (va_A (wM ad K I J B D) sz) := by
  refine zMet (y := zy_LassoFinderModel_settled) (av := [.ref (ad 0), .int a0, .int a1]) (maxL := 9) (cc := prog_14_method_53_code) (ret := (some .int)) (W0 := (wM ad K I J B D)) (sz := sz) (G := G) (K := K) (wt := zTB) (mc := 0) (ms := 0) (Qf := fun A => va_Qi (fun (r : Int32) (u : zS) => Post r u.1 u.2.1 u.2.2.1 u.2.2.2) (fun u t => zPost G K A (wM ad K u.1 u.2.1 u.2.2.1 u.2.2.2) t) A) (by decide) (Nat.le_of_ble_eq_true rfl) ?_
  intro p e s m below meth c ls A hx hb hr hml hts hown hlocks hin hA hK H locs hw hsz hl
  clear hsz
  have hown : s.vm.findClass "LassoFinderModel" = some m.cls := hown
  have C : zCx p s m ([.ref (ad 0), .int a0, .int a1] : List Value).toArray meth c A G K prog_14_method_53_code (some .int) 9 "LassoFinderModel" := ⟨hx, hb, hr, hml, hts, hown, hlocks, hA, hK⟩
  have hl : lv_has ls 9 [(0, .ref (ad 0)), (1, .int a0), (2, .int a1)] := hl
  have hw : zW G A s.heap (wM ad K I J B D) H locs := hw
  unfold wp_LassoFinderModel_settled at hok
  refine lv_iconst (v := 0) hx hb zd_LassoFinderModel_settled_0 (by decide) ?_
  refine lv_istore_n hx hb zd_LassoFinderModel_settled_1 rfl hl (by decide) rfl (fun ls hl => ?_)
  have hl : lv_has ls 9 [(3, .int 0), (0, .ref (ad 0)), (1, .int a0), (2, .int a1)] := hl
  refine lv_iconst (v := 0) hx hb zd_LassoFinderModel_settled_2 (by decide) ?_
  refine lv_istore hx hb zd_LassoFinderModel_settled_3 hl (by decide) rfl (fun ls hl => ?_)
  have hl : lv_has ls 9 [(4, .int 0), (3, .int 0), (0, .ref (ad 0)), (1, .int a0), (2, .int a1)] := hl
  obtain ⟨n9, hok⟩ := hok
  exact wL_LassoFinderModel_settled_5 G K ad a0 a1 Post C n9 a0 a1 0 0 I J B D ls H locs hok (lv_sub hl [2, 3, 4, 1, 0] rfl) hw
def wc_LassoFinderModel_ahead_125 (a0 : Int32) (a1 : Int64) (a2 : Int32) (K6 : Int32 → Int64 → Int32 → Int64 → Int32 → (Nat → Int32) → (Nat → Int64) → (Nat → Nat → Int32) → (Nat → Nat → Int64) → Prop) (K48 : Int32 → Int64 → Int32 → Int64 → Int32 → Int32 → Int32 → Int32 → (Nat → Int32) → (Nat → Int64) → (Nat → Nat → Int32) → (Nat → Nat → Int64) → Prop) (Post : Int64 → (Nat → Int32) → (Nat → Int64) → (Nat → Nat → Int32) → (Nat → Nat → Int64) → Prop) (x1 : Int32) (x2 : Int64) (x4 : Int32) (x5 : Int64) (x7 : Int32) (x8 : Int32) (x9 : Int32) (x10 : Int32) (I : Nat → Int32) (J : Nat → Int64) (B : Nat → Nat → Int32) (D : Nat → Nat → Int64) : Prop :=
  ∀ z1 : Int32, z1 = (x10 + 1) → K48 x1 x2 x4 x5 x7 x8 x9 z1 I J B D
def wb_LassoFinderModel_ahead_48 (a0 : Int32) (a1 : Int64) (a2 : Int32) (K48 : Int32 → Int64 → Int32 → Int64 → Int32 → Int32 → Int32 → Int32 → (Nat → Int32) → (Nat → Int64) → (Nat → Nat → Int32) → (Nat → Nat → Int64) → Prop) (K6 : Int32 → Int64 → Int32 → Int64 → Int32 → (Nat → Int32) → (Nat → Int64) → (Nat → Nat → Int32) → (Nat → Nat → Int64) → Prop) (Post : Int64 → (Nat → Int32) → (Nat → Int64) → (Nat → Nat → Int32) → (Nat → Nat → Int64) → Prop) (x1 : Int32) (x2 : Int64) (x4 : Int32) (x5 : Int64) (x7 : Int32) (x8 : Int32) (x9 : Int32) (x10 : Int32) (I : Nat → Int32) (J : Nat → Int64) (B : Nat → Nat → Int32) (D : Nat → Nat → Int64) : Prop :=
  ∀ z2 : Int32, z2 = (1 <<< ((I 20) &&& 31)) → ((z2 ≤ x10 → ∀ z4 : Int32, z4 = (x7 + 1) → K6 x1 x2 x4 x5 z4 I J B D) ∧ (¬ z2 ≤ x10 → ∀ z5 : Int32, z5 = (x10 ||| x9) → ∀ z6 : Int32, z6 = (8 * x8) → ∀ z7 : Int32, z7 = (z6 + x10) → ∀ z8 : Int64, z8 = (x2 >>> (z7.toInt64 &&& 63)) → ∀ z9 : Int64, z9 = (z8 &&& 1) → ∀ z10 : Int32, z10 = (lg_cmp z9 1) → ((¬ z10 = 0 → wc_LassoFinderModel_ahead_125 a0 a1 a2 K6 K48 Post x1 x2 x4 x5 x7 x8 x9 x10 I J B D) ∧ (z10 = 0 → vp_in x1 401 ∧ ∀ z12 : Int32, z12 = ((B 30) x1.toNatClampNeg) → ∀ z13 : Int32, z13 = (64 * z12) → ∀ z14 : Int32, z14 = (8 * x7) → ∀ z15 : Int32, z15 = (z13 + z14) → ∀ z16 : Int32, z16 = (z15 + z5) → wp_LassoFinderModel_away I J B D z16 (fun r17 I17 J17 B17 D17 => ((¬ r17 = x4 → wc_LassoFinderModel_ahead_125 a0 a1 a2 K6 K48 Post x1 x2 x4 x5 x7 x8 x9 x10 I17 J17 B17 D17) ∧ (r17 = x4 → ∀ z19 : Int32, z19 = (8 * x7) → ∀ z20 : Int32, z20 = (z19 + z5) → ∀ z21 : Int64, z21 = ((1 : Int64) <<< (z20.toInt64 &&& 63)) → ∀ z22 : Int64, z22 = (x5 ||| z21) → wc_LassoFinderModel_ahead_125 a0 a1 a2 K6 K48 Post x1 x2 x4 z22 x7 x8 x9 x10 I17 J17 B17 D17)))))))
def wl_LassoFinderModel_ahead_48 (a0 : Int32) (a1 : Int64) (a2 : Int32) (K6 : Int32 → Int64 → Int32 → Int64 → Int32 → (Nat → Int32) → (Nat → Int64) → (Nat → Nat → Int32) → (Nat → Nat → Int64) → Prop) (Post : Int64 → (Nat → Int32) → (Nat → Int64) → (Nat → Nat → Int32) → (Nat → Nat → Int64) → Prop) (n : Nat) : Int32 → Int64 → Int32 → Int64 → Int32 → Int32 → Int32 → Int32 → (Nat → Int32) → (Nat → Int64) → (Nat → Nat → Int32) → (Nat → Nat → Int64) → Prop := Nat.rec (fun _ _ _ _ _ _ _ _ _ _ _ _ => False) (fun _ r => wb_LassoFinderModel_ahead_48 a0 a1 a2 r K6 Post) n
def wb_LassoFinderModel_ahead_6 (a0 : Int32) (a1 : Int64) (a2 : Int32) (K6 : Int32 → Int64 → Int32 → Int64 → Int32 → (Nat → Int32) → (Nat → Int64) → (Nat → Nat → Int32) → (Nat → Nat → Int64) → Prop) (Post : Int64 → (Nat → Int32) → (Nat → Int64) → (Nat → Nat → Int32) → (Nat → Nat → Int64) → Prop) (x1 : Int32) (x2 : Int64) (x4 : Int32) (x5 : Int64) (x7 : Int32) (I : Nat → Int32) (J : Nat → Int64) (B : Nat → Nat → Int32) (D : Nat → Nat → Int64) : Prop :=
  ∀ z23 : Int32, z23 = (1 <<< ((I 20) &&& 31)) → ((z23 ≤ x7 → Post x5 I J B D) ∧ (¬ z23 ≤ x7 → vp_in x1 401 ∧ ∀ z25 : Int32, z25 = ((B 31) x1.toNatClampNeg) → wp_LassoFinderModel_truthAt I J B D z25 x7 (fun r26 I26 J26 B26 D26 => vp_in x1 401 ∧ ∀ z27 : Int32, z27 = ((B26 30) x1.toNatClampNeg) → wp_LassoFinderModel_settled I26 J26 B26 D26 z27 x7 (fun r28 I28 J28 B28 D28 => ∃ n : Nat, wl_LassoFinderModel_ahead_48 a0 a1 a2 K6 Post n x1 x2 x4 x5 x7 r26 r28 0 I28 J28 B28 D28))))
def wl_LassoFinderModel_ahead_6 (a0 : Int32) (a1 : Int64) (a2 : Int32) (Post : Int64 → (Nat → Int32) → (Nat → Int64) → (Nat → Nat → Int32) → (Nat → Nat → Int64) → Prop) (n : Nat) : Int32 → Int64 → Int32 → Int64 → Int32 → (Nat → Int32) → (Nat → Int64) → (Nat → Nat → Int32) → (Nat → Nat → Int64) → Prop := Nat.rec (fun _ _ _ _ _ _ _ _ _ => False) (fun _ r => wb_LassoFinderModel_ahead_6 a0 a1 a2 r Post) n
def wp_LassoFinderModel_ahead (I : Nat → Int32) (J : Nat → Int64) (B : Nat → Nat → Int32) (D : Nat → Nat → Int64) (a0 : Int32) (a1 : Int64) (a2 : Int32) (Post : Int64 → (Nat → Int32) → (Nat → Int64) → (Nat → Nat → Int32) → (Nat → Nat → Int64) → Prop) : Prop :=
  ∃ n : Nat, wl_LassoFinderModel_ahead_6 a0 a1 a2 Post n a0 a1 a2 0 0 I J B D
set_option maxHeartbeats 8000000 in
set_option maxRecDepth 100000 in
theorem wJ_LassoFinderModel_ahead_125 {p : Program} {l : Launch} {e : Env} {s : State} {m : MethodId} {below : List Frame} {meth : Method} {c : Code} {A : Nat → Prop} (G : va_G) (K : Nat → ClassId) (ad : Nat → Nat) (a0 : Int32) (a1 : Int64) (a2 : Int32) (Post : Int64 → (Nat → Int32) → (Nat → Int64) → (Nat → Nat → Int32) → (Nat → Nat → Int64) → Prop) (C : zCx p s m ([.ref (ad 0), .int a0, .long a1, .int a2] : List Value).toArray meth c A G K prog_14_method_63_code (some .long) 12 "LassoFinderModel") (K6 : Int32 → Int64 → Int32 → Int64 → Int32 → (Nat → Int32) → (Nat → Int64) → (Nat → Nat → Int32) → (Nat → Nat → Int64) → Prop) (kh6 : ∀ (x1 : Int32) (x2 : Int64) (x4 : Int32) (x5 : Int64) (x7 : Int32) (I : Nat → Int32) (J : Nat → Int64) (B : Nat → Nat → Int32) (D : Nat → Nat → Int64) (ls : Array Slot) (H : Heap) (locs : List Loc), K6 x1 x2 x4 x5 x7 I J B D → lv_has ls 12 [(0, .ref (ad 0)), (1, .int x1), (2, .long x2), (4, .int x4), (5, .long x5), (7, .int x7)] → zW G A s.heap (wM ad K I J B D) H locs → W p l e { frames := 2, cells := 0, slots := 0, locals := 50 } s m ([.ref (ad 0), .int a0, .long a1, .int a2] : List Value).toArray below meth c H locs 0 0 (MQ below (va_Ql (fun (r : Int64) (u : zS) => Post r u.1 u.2.1 u.2.2.1 u.2.2.2) (fun u t => zPost G K A (wM ad K u.1 u.2.1 u.2.2.1 u.2.2.2) t) A) ([.ref (ad 0), .int a0, .long a1, .int a2] : List Value).toArray s 0 0 A) (F0 m 6 ls [])) (K48 : Int32 → Int64 → Int32 → Int64 → Int32 → Int32 → Int32 → Int32 → (Nat → Int32) → (Nat → Int64) → (Nat → Nat → Int32) → (Nat → Nat → Int64) → Prop) (kh48 : ∀ (x1 : Int32) (x2 : Int64) (x4 : Int32) (x5 : Int64) (x7 : Int32) (x8 : Int32) (x9 : Int32) (x10 : Int32) (I : Nat → Int32) (J : Nat → Int64) (B : Nat → Nat → Int32) (D : Nat → Nat → Int64) (ls : Array Slot) (H : Heap) (locs : List Loc), K48 x1 x2 x4 x5 x7 x8 x9 x10 I J B D → lv_has ls 12 [(0, .ref (ad 0)), (1, .int x1), (2, .long x2), (4, .int x4), (5, .long x5), (7, .int x7), (8, .int x8), (9, .int x9), (10, .int x10)] → zW G A s.heap (wM ad K I J B D) H locs → W p l e { frames := 2, cells := 0, slots := 0, locals := 50 } s m ([.ref (ad 0), .int a0, .long a1, .int a2] : List Value).toArray below meth c H locs 0 0 (MQ below (va_Ql (fun (r : Int64) (u : zS) => Post r u.1 u.2.1 u.2.2.1 u.2.2.2) (fun u t => zPost G K A (wM ad K u.1 u.2.1 u.2.2.1 u.2.2.2) t) A) ([.ref (ad 0), .int a0, .long a1, .int a2] : List Value).toArray s 0 0 A) (F0 m 48 ls [])) : ∀ (x1 : Int32) (x2 : Int64) (x4 : Int32) (x5 : Int64) (x7 : Int32) (x8 : Int32) (x9 : Int32) (x10 : Int32) (I : Nat → Int32) (J : Nat → Int64) (B : Nat → Nat → Int32) (D : Nat → Nat → Int64) (ls : Array Slot) (H : Heap) (locs : List Loc), wc_LassoFinderModel_ahead_125 a0 a1 a2 K6 K48 Post x1 x2 x4 x5 x7 x8 x9 x10 I J B D → lv_has ls 12 [(0, .ref (ad 0)), (1, .int x1), (2, .long x2), (4, .int x4), (5, .long x5), (7, .int x7), (8, .int x8), (9, .int x9), (10, .int x10)] → zW G A s.heap (wM ad K I J B D) H locs → W p l e { frames := 2, cells := 0, slots := 0, locals := 50 } s m ([.ref (ad 0), .int a0, .long a1, .int a2] : List Value).toArray below meth c H locs 0 0 (MQ below (va_Ql (fun (r : Int64) (u : zS) => Post r u.1 u.2.1 u.2.2.1 u.2.2.2) (fun u t => zPost G K A (wM ad K u.1 u.2.1 u.2.2.1 u.2.2.2) t) A) ([.ref (ad 0), .int a0, .long a1, .int a2] : List Value).toArray s 0 0 A) (F0 m 125 ls []) := by
  obtain ⟨hx, hb, hr, hml, hts, hown, hlocks, hA, hK⟩ := id C
  intro x1 x2 x4 x5 x7 x8 x9 x10 I J B D ls H locs hok hl hw
  unfold wc_LassoFinderModel_ahead_125 at hok
  obtain ⟨z1, ez1⟩ : ∃ z : Int32, z = (x10 + 1) := ⟨_, rfl⟩
  have hok := hok z1 ez1
  refine lv_iinc (v := z1) hx hb zd_LassoFinderModel_ahead_125 hl (k := 8) rfl ez1.symm (by decide) rfl (fun ls hl => ?_)
  have hl : lv_has ls 12 [(10, .int z1), (0, .ref (ad 0)), (1, .int x1), (2, .long x2), (4, .int x4), (5, .long x5), (7, .int x7), (8, .int x8), (9, .int x9)] := hl
  refine lv_goto (tgt := 48) hx hb zd_LassoFinderModel_ahead_128 (by decide) ?_
  exact kh48 x1 x2 x4 x5 x7 x8 x9 z1 I J B D ls H locs hok (lv_sub hl [1, 2, 3, 4, 5, 6, 7, 8, 0] rfl) hw
set_option maxHeartbeats 8000000 in
set_option maxRecDepth 100000 in
theorem wB_LassoFinderModel_ahead_48 {p : Program} {l : Launch} {e : Env} {s : State} {m : MethodId} {below : List Frame} {meth : Method} {c : Code} {A : Nat → Prop} (G : va_G) (K : Nat → ClassId) (ad : Nat → Nat) (a0 : Int32) (a1 : Int64) (a2 : Int32) (Post : Int64 → (Nat → Int32) → (Nat → Int64) → (Nat → Nat → Int32) → (Nat → Nat → Int64) → Prop) (C : zCx p s m ([.ref (ad 0), .int a0, .long a1, .int a2] : List Value).toArray meth c A G K prog_14_method_63_code (some .long) 12 "LassoFinderModel") (K6 : Int32 → Int64 → Int32 → Int64 → Int32 → (Nat → Int32) → (Nat → Int64) → (Nat → Nat → Int32) → (Nat → Nat → Int64) → Prop) (kh6 : ∀ (x1 : Int32) (x2 : Int64) (x4 : Int32) (x5 : Int64) (x7 : Int32) (I : Nat → Int32) (J : Nat → Int64) (B : Nat → Nat → Int32) (D : Nat → Nat → Int64) (ls : Array Slot) (H : Heap) (locs : List Loc), K6 x1 x2 x4 x5 x7 I J B D → lv_has ls 12 [(0, .ref (ad 0)), (1, .int x1), (2, .long x2), (4, .int x4), (5, .long x5), (7, .int x7)] → zW G A s.heap (wM ad K I J B D) H locs → W p l e { frames := 2, cells := 0, slots := 0, locals := 50 } s m ([.ref (ad 0), .int a0, .long a1, .int a2] : List Value).toArray below meth c H locs 0 0 (MQ below (va_Ql (fun (r : Int64) (u : zS) => Post r u.1 u.2.1 u.2.2.1 u.2.2.2) (fun u t => zPost G K A (wM ad K u.1 u.2.1 u.2.2.1 u.2.2.2) t) A) ([.ref (ad 0), .int a0, .long a1, .int a2] : List Value).toArray s 0 0 A) (F0 m 6 ls [])) (K48 : Int32 → Int64 → Int32 → Int64 → Int32 → Int32 → Int32 → Int32 → (Nat → Int32) → (Nat → Int64) → (Nat → Nat → Int32) → (Nat → Nat → Int64) → Prop) (kh48 : ∀ (x1 : Int32) (x2 : Int64) (x4 : Int32) (x5 : Int64) (x7 : Int32) (x8 : Int32) (x9 : Int32) (x10 : Int32) (I : Nat → Int32) (J : Nat → Int64) (B : Nat → Nat → Int32) (D : Nat → Nat → Int64) (ls : Array Slot) (H : Heap) (locs : List Loc), K48 x1 x2 x4 x5 x7 x8 x9 x10 I J B D → lv_has ls 12 [(0, .ref (ad 0)), (1, .int x1), (2, .long x2), (4, .int x4), (5, .long x5), (7, .int x7), (8, .int x8), (9, .int x9), (10, .int x10)] → zW G A s.heap (wM ad K I J B D) H locs → W p l e { frames := 2, cells := 0, slots := 0, locals := 50 } s m ([.ref (ad 0), .int a0, .long a1, .int a2] : List Value).toArray below meth c H locs 0 0 (MQ below (va_Ql (fun (r : Int64) (u : zS) => Post r u.1 u.2.1 u.2.2.1 u.2.2.2) (fun u t => zPost G K A (wM ad K u.1 u.2.1 u.2.2.1 u.2.2.2) t) A) ([.ref (ad 0), .int a0, .long a1, .int a2] : List Value).toArray s 0 0 A) (F0 m 48 ls [])) : ∀ (x1 : Int32) (x2 : Int64) (x4 : Int32) (x5 : Int64) (x7 : Int32) (x8 : Int32) (x9 : Int32) (x10 : Int32) (I : Nat → Int32) (J : Nat → Int64) (B : Nat → Nat → Int32) (D : Nat → Nat → Int64) (ls : Array Slot) (H : Heap) (locs : List Loc), wb_LassoFinderModel_ahead_48 a0 a1 a2 K48 K6 Post x1 x2 x4 x5 x7 x8 x9 x10 I J B D → lv_has ls 12 [(0, .ref (ad 0)), (1, .int x1), (2, .long x2), (4, .int x4), (5, .long x5), (7, .int x7), (8, .int x8), (9, .int x9), (10, .int x10)] → zW G A s.heap (wM ad K I J B D) H locs → W p l e { frames := 2, cells := 0, slots := 0, locals := 50 } s m ([.ref (ad 0), .int a0, .long a1, .int a2] : List Value).toArray below meth c H locs 0 0 (MQ below (va_Ql (fun (r : Int64) (u : zS) => Post r u.1 u.2.1 u.2.2.1 u.2.2.2) (fun u t => zPost G K A (wM ad K u.1 u.2.1 u.2.2.1 u.2.2.2) t) A) ([.ref (ad 0), .int a0, .long a1, .int a2] : List Value).toArray s 0 0 A) (F0 m 48 ls []) := by
  obtain ⟨hx, hb, hr, hml, hts, hown, hlocks, hA, hK⟩ := id C
  intro x1 x2 x4 x5 x7 x8 x9 x10 I J B D ls H locs hok hl hw
  unfold wb_LassoFinderModel_ahead_48 at hok
  refine lv_iload hx hb zd_LassoFinderModel_ahead_48 (lv_at hl 8 rfl) ?_
  refine lv_iconst (v := 1) hx hb zd_LassoFinderModel_ahead_50 (by decide) ?_
  refine lv_aload_n hx hb zd_LassoFinderModel_ahead_51 rfl (lv_at hl 0 rfl) ?_
  refine z_get (v := .int (I 20)) hx hb hts hown hK hw zZ12 0 wM_g0 64 (by decide) zm_356 rfl zd_LassoFinderModel_ahead_52 ?_
  refine lv_ishl hx hb zd_LassoFinderModel_ahead_55 ?_
  refine lv_topi (fun z2 ez2 => ?_)
  have hok := hok z2 ez2
  refine lv_icmp_ge (tgt := 131) hx hb zd_LassoFinderModel_ahead_56 (by decide) (fun hc3 => ?_) (fun hc3 => ?_)
  · have hok := hok.1 hc3
    obtain ⟨z4, ez4⟩ : ∃ z : Int32, z = (x7 + 1) := ⟨_, rfl⟩
    have hok := hok z4 ez4
    refine lv_iinc (v := z4) hx hb zd_LassoFinderModel_ahead_131 hl (k := 5) rfl ez4.symm (by decide) rfl (fun ls hl => ?_)
    have hl : lv_has ls 12 [(7, .int z4), (0, .ref (ad 0)), (1, .int x1), (2, .long x2), (4, .int x4), (5, .long x5), (8, .int x8), (9, .int x9), (10, .int x10)] := hl
    refine lv_goto (tgt := 6) hx hb zd_LassoFinderModel_ahead_134 (by decide) ?_
    exact kh6 x1 x2 x4 x5 z4 I J B D ls H locs hok (lv_sub hl [1, 2, 3, 4, 5, 0] rfl) hw
  · have hok := hok.2 hc3
    refine lv_iload hx hb zd_LassoFinderModel_ahead_59 (lv_at hl 8 rfl) ?_
    refine lv_iload hx hb zd_LassoFinderModel_ahead_61 (lv_at hl 7 rfl) ?_
    refine lv_ior hx hb zd_LassoFinderModel_ahead_63 ?_
    refine lv_topi (fun z5 ez5 => ?_)
    have hok := hok z5 ez5
    refine lv_istore hx hb zd_LassoFinderModel_ahead_64 hl (by decide) rfl (fun ls hl => ?_)
    have hl : lv_has ls 12 [(11, .int z5), (0, .ref (ad 0)), (1, .int x1), (2, .long x2), (4, .int x4), (5, .long x5), (7, .int x7), (8, .int x8), (9, .int x9), (10, .int x10)] := hl
    refine lv_lload_n hx hb zd_LassoFinderModel_ahead_66 rfl (lv_at hl 3 rfl) ?_
    refine lv_bipush (v := 8) hx hb zd_LassoFinderModel_ahead_67 (by decide) ?_
    refine lv_iload hx hb zd_LassoFinderModel_ahead_69 (lv_at hl 7 rfl) ?_
    refine lv_imul hx hb zd_LassoFinderModel_ahead_71 ?_
    refine lv_topi (fun z6 ez6 => ?_)
    have hok := hok z6 ez6
    refine lv_iload hx hb zd_LassoFinderModel_ahead_72 (lv_at hl 9 rfl) ?_
    refine lv_iadd hx hb zd_LassoFinderModel_ahead_74 ?_
    refine lv_topi (fun z7 ez7 => ?_)
    have hok := hok z7 ez7
    refine lv_lshr hx hb zd_LassoFinderModel_ahead_75 rfl ?_
    refine lv_topl (fun z8 ez8 => ?_)
    have hok := hok z8 ez8
    refine lv_lconst (v := 1) hx hb zd_LassoFinderModel_ahead_76 (by decide) ?_
    refine lv_land hx hb zd_LassoFinderModel_ahead_77 ?_
    refine lv_topl (fun z9 ez9 => ?_)
    have hok := hok z9 ez9
    refine lv_lconst (v := 1) hx hb zd_LassoFinderModel_ahead_78 (by decide) ?_
    refine W.lcmp hx hb zd_LassoFinderModel_ahead_79 ?_
    refine lv_topi (fun z10 ez10 => ?_)
    have hok := hok z10 ez10
    refine lv_if_ne (tgt := 125) hx hb zd_LassoFinderModel_ahead_80 (by decide) (fun hc11 => ?_) (fun hc11 => ?_)
    · have hok := hok.1 hc11
      exact wJ_LassoFinderModel_ahead_125 G K ad a0 a1 a2 Post C K6 kh6 K48 kh48 x1 x2 x4 x5 x7 x8 x9 x10 I J B D ls H locs hok (lv_sub hl [1, 2, 3, 4, 5, 6, 7, 8, 9] rfl) hw
    · have hok := hok.2 hc11
      refine lv_aload_n hx hb zd_LassoFinderModel_ahead_83 rfl (lv_at hl 1 rfl) ?_
      refine lv_bipush (v := 64) hx hb zd_LassoFinderModel_ahead_84 (by decide) ?_
      refine lv_aload_n hx hb zd_LassoFinderModel_ahead_86 rfl (lv_at hl 1 rfl) ?_
      refine z_get (v := .ref (ad 33)) hx hb hts hown hK hw zZ12 0 wM_g0 49 (by decide) zm_267 rfl zd_LassoFinderModel_ahead_87 ?_
      refine lv_iload_n hx hb zd_LassoFinderModel_ahead_90 rfl (lv_at hl 2 rfl) ?_
      refine va_iald (f := (B 30)) hx hb hK hw.1 33 0 wM_a33 rfl hok.1 zd_LassoFinderModel_ahead_91 ?_
      have hok := hok.2
      refine lv_topi (fun z12 ez12 => ?_)
      have hok := hok z12 ez12
      refine lv_imul hx hb zd_LassoFinderModel_ahead_92 ?_
      refine lv_topi (fun z13 ez13 => ?_)
      have hok := hok z13 ez13
      refine lv_bipush (v := 8) hx hb zd_LassoFinderModel_ahead_93 (by decide) ?_
      refine lv_iload hx hb zd_LassoFinderModel_ahead_95 (lv_at hl 6 rfl) ?_
      refine lv_imul hx hb zd_LassoFinderModel_ahead_97 ?_
      refine lv_topi (fun z14 ez14 => ?_)
      have hok := hok z14 ez14
      refine lv_iadd hx hb zd_LassoFinderModel_ahead_98 ?_
      refine lv_topi (fun z15 ez15 => ?_)
      have hok := hok z15 ez15
      refine lv_iload hx hb zd_LassoFinderModel_ahead_99 (lv_at hl 0 rfl) ?_
      refine lv_iadd hx hb zd_LassoFinderModel_ahead_101 ?_
      refine lv_topi (fun z16 ez16 => ?_)
      have hok := hok z16 ez16
      refine z_calli (w1 := fun (u : zS) => wM ad K u.1 u.2.1 u.2.2.1 u.2.2.2) (wr := []) (z_runV (q0 := 0) (wc := (wM ad K I J B D)) (As := [.int z16]) (rest := []) ⟨hx, hb, hml, hown, hts⟩ (w_LassoFinderModel_away l G K ad I J B D z16 _ H.size hok) zf_LassoFinderModel_away zm_376 ⟨Nat.le_of_ble_eq_true rfl, Nat.le_of_ble_eq_true rfl⟩ hK hw (List.range 58) wM_all wM_nd wM_g0 rfl rfl hl.1 rfl (Nat.le_of_ble_eq_true rfl) zd_LassoFinderModel_ahead_102 ⟨Nat.le_of_ble_eq_true rfl, Nat.le_of_ble_eq_true rfl⟩) hw hA (List.range 58) [] wM_all rfl (by decide) (fun i hi => by cases hi) (fun r17 u H locs hok hw => ?_)
      obtain ⟨I17, J17, B17, D17⟩ := u
      dsimp only at hok
      have hw : zW G A s.heap (wM ad K I17 J17 B17 D17) H locs := hw
      refine lv_iload hx hb zd_LassoFinderModel_ahead_105 (lv_at hl 4 rfl) ?_
      refine lv_icmp_ne (tgt := 125) hx hb zd_LassoFinderModel_ahead_107 (by decide) (fun hc18 => ?_) (fun hc18 => ?_)
      · have hok := hok.1 hc18
        exact wJ_LassoFinderModel_ahead_125 G K ad a0 a1 a2 Post C K6 kh6 K48 kh48 x1 x2 x4 x5 x7 x8 x9 x10 I17 J17 B17 D17 ls H locs hok (lv_sub hl [1, 2, 3, 4, 5, 6, 7, 8, 9] rfl) hw
      · have hok := hok.2 hc18
        refine lv_lload hx hb zd_LassoFinderModel_ahead_110 (lv_at hl 5 rfl) ?_
        refine lv_lconst (v := 1) hx hb zd_LassoFinderModel_ahead_112 (by decide) ?_
        refine lv_bipush (v := 8) hx hb zd_LassoFinderModel_ahead_113 (by decide) ?_
        refine lv_iload hx hb zd_LassoFinderModel_ahead_115 (lv_at hl 6 rfl) ?_
        refine lv_imul hx hb zd_LassoFinderModel_ahead_117 ?_
        refine lv_topi (fun z19 ez19 => ?_)
        have hok := hok z19 ez19
        refine lv_iload hx hb zd_LassoFinderModel_ahead_118 (lv_at hl 0 rfl) ?_
        refine lv_iadd hx hb zd_LassoFinderModel_ahead_120 ?_
        refine lv_topi (fun z20 ez20 => ?_)
        have hok := hok z20 ez20
        refine lv_lshl hx hb zd_LassoFinderModel_ahead_121 rfl ?_
        refine lv_topl (fun z21 ez21 => ?_)
        have hok := hok z21 ez21
        refine lv_lor hx hb zd_LassoFinderModel_ahead_122 ?_
        refine lv_topl (fun z22 ez22 => ?_)
        have hok := hok z22 ez22
        refine lv_lstore hx hb zd_LassoFinderModel_ahead_123 hl (by decide) rfl (fun ls hl => ?_)
        have hl : lv_has ls 12 [(5, .long z22), (11, .int z5), (0, .ref (ad 0)), (1, .int x1), (2, .long x2), (4, .int x4), (7, .int x7), (8, .int x8), (9, .int x9), (10, .int x10)] := hl
        exact wJ_LassoFinderModel_ahead_125 G K ad a0 a1 a2 Post C K6 kh6 K48 kh48 x1 x2 x4 z22 x7 x8 x9 x10 I17 J17 B17 D17 ls H locs hok (lv_sub hl [2, 3, 4, 5, 0, 6, 7, 8, 9] rfl) hw
theorem wL_LassoFinderModel_ahead_48 {p : Program} {l : Launch} {e : Env} {s : State} {m : MethodId} {below : List Frame} {meth : Method} {c : Code} {A : Nat → Prop} (G : va_G) (K : Nat → ClassId) (ad : Nat → Nat) (a0 : Int32) (a1 : Int64) (a2 : Int32) (Post : Int64 → (Nat → Int32) → (Nat → Int64) → (Nat → Nat → Int32) → (Nat → Nat → Int64) → Prop) (C : zCx p s m ([.ref (ad 0), .int a0, .long a1, .int a2] : List Value).toArray meth c A G K prog_14_method_63_code (some .long) 12 "LassoFinderModel") (K6 : Int32 → Int64 → Int32 → Int64 → Int32 → (Nat → Int32) → (Nat → Int64) → (Nat → Nat → Int32) → (Nat → Nat → Int64) → Prop) (kh6 : ∀ (x1 : Int32) (x2 : Int64) (x4 : Int32) (x5 : Int64) (x7 : Int32) (I : Nat → Int32) (J : Nat → Int64) (B : Nat → Nat → Int32) (D : Nat → Nat → Int64) (ls : Array Slot) (H : Heap) (locs : List Loc), K6 x1 x2 x4 x5 x7 I J B D → lv_has ls 12 [(0, .ref (ad 0)), (1, .int x1), (2, .long x2), (4, .int x4), (5, .long x5), (7, .int x7)] → zW G A s.heap (wM ad K I J B D) H locs → W p l e { frames := 2, cells := 0, slots := 0, locals := 50 } s m ([.ref (ad 0), .int a0, .long a1, .int a2] : List Value).toArray below meth c H locs 0 0 (MQ below (va_Ql (fun (r : Int64) (u : zS) => Post r u.1 u.2.1 u.2.2.1 u.2.2.2) (fun u t => zPost G K A (wM ad K u.1 u.2.1 u.2.2.1 u.2.2.2) t) A) ([.ref (ad 0), .int a0, .long a1, .int a2] : List Value).toArray s 0 0 A) (F0 m 6 ls [])) : ∀ (n : Nat) (x1 : Int32) (x2 : Int64) (x4 : Int32) (x5 : Int64) (x7 : Int32) (x8 : Int32) (x9 : Int32) (x10 : Int32) (I : Nat → Int32) (J : Nat → Int64) (B : Nat → Nat → Int32) (D : Nat → Nat → Int64) (ls : Array Slot) (H : Heap) (locs : List Loc), wl_LassoFinderModel_ahead_48 a0 a1 a2 K6 Post n x1 x2 x4 x5 x7 x8 x9 x10 I J B D → lv_has ls 12 [(0, .ref (ad 0)), (1, .int x1), (2, .long x2), (4, .int x4), (5, .long x5), (7, .int x7), (8, .int x8), (9, .int x9), (10, .int x10)] → zW G A s.heap (wM ad K I J B D) H locs → W p l e { frames := 2, cells := 0, slots := 0, locals := 50 } s m ([.ref (ad 0), .int a0, .long a1, .int a2] : List Value).toArray below meth c H locs 0 0 (MQ below (va_Ql (fun (r : Int64) (u : zS) => Post r u.1 u.2.1 u.2.2.1 u.2.2.2) (fun u t => zPost G K A (wM ad K u.1 u.2.1 u.2.2.1 u.2.2.2) t) A) ([.ref (ad 0), .int a0, .long a1, .int a2] : List Value).toArray s 0 0 A) (F0 m 48 ls []) := by
  intro n
  induction n with
  | zero => intro x1 x2 x4 x5 x7 x8 x9 x10 I J B D ls H locs hok; exact hok.elim
  | succ n ih => exact wB_LassoFinderModel_ahead_48 G K ad a0 a1 a2 Post C K6 kh6 (wl_LassoFinderModel_ahead_48 a0 a1 a2 K6 Post n) ih
set_option maxHeartbeats 8000000 in
set_option maxRecDepth 100000 in
theorem wB_LassoFinderModel_ahead_6 {p : Program} {l : Launch} {e : Env} {s : State} {m : MethodId} {below : List Frame} {meth : Method} {c : Code} {A : Nat → Prop} (G : va_G) (K : Nat → ClassId) (ad : Nat → Nat) (a0 : Int32) (a1 : Int64) (a2 : Int32) (Post : Int64 → (Nat → Int32) → (Nat → Int64) → (Nat → Nat → Int32) → (Nat → Nat → Int64) → Prop) (C : zCx p s m ([.ref (ad 0), .int a0, .long a1, .int a2] : List Value).toArray meth c A G K prog_14_method_63_code (some .long) 12 "LassoFinderModel") (K6 : Int32 → Int64 → Int32 → Int64 → Int32 → (Nat → Int32) → (Nat → Int64) → (Nat → Nat → Int32) → (Nat → Nat → Int64) → Prop) (kh6 : ∀ (x1 : Int32) (x2 : Int64) (x4 : Int32) (x5 : Int64) (x7 : Int32) (I : Nat → Int32) (J : Nat → Int64) (B : Nat → Nat → Int32) (D : Nat → Nat → Int64) (ls : Array Slot) (H : Heap) (locs : List Loc), K6 x1 x2 x4 x5 x7 I J B D → lv_has ls 12 [(0, .ref (ad 0)), (1, .int x1), (2, .long x2), (4, .int x4), (5, .long x5), (7, .int x7)] → zW G A s.heap (wM ad K I J B D) H locs → W p l e { frames := 2, cells := 0, slots := 0, locals := 50 } s m ([.ref (ad 0), .int a0, .long a1, .int a2] : List Value).toArray below meth c H locs 0 0 (MQ below (va_Ql (fun (r : Int64) (u : zS) => Post r u.1 u.2.1 u.2.2.1 u.2.2.2) (fun u t => zPost G K A (wM ad K u.1 u.2.1 u.2.2.1 u.2.2.2) t) A) ([.ref (ad 0), .int a0, .long a1, .int a2] : List Value).toArray s 0 0 A) (F0 m 6 ls [])) : ∀ (x1 : Int32) (x2 : Int64) (x4 : Int32) (x5 : Int64) (x7 : Int32) (I : Nat → Int32) (J : Nat → Int64) (B : Nat → Nat → Int32) (D : Nat → Nat → Int64) (ls : Array Slot) (H : Heap) (locs : List Loc), wb_LassoFinderModel_ahead_6 a0 a1 a2 K6 Post x1 x2 x4 x5 x7 I J B D → lv_has ls 12 [(0, .ref (ad 0)), (1, .int x1), (2, .long x2), (4, .int x4), (5, .long x5), (7, .int x7)] → zW G A s.heap (wM ad K I J B D) H locs → W p l e { frames := 2, cells := 0, slots := 0, locals := 50 } s m ([.ref (ad 0), .int a0, .long a1, .int a2] : List Value).toArray below meth c H locs 0 0 (MQ below (va_Ql (fun (r : Int64) (u : zS) => Post r u.1 u.2.1 u.2.2.1 u.2.2.2) (fun u t => zPost G K A (wM ad K u.1 u.2.1 u.2.2.1 u.2.2.2) t) A) ([.ref (ad 0), .int a0, .long a1, .int a2] : List Value).toArray s 0 0 A) (F0 m 6 ls []) := by
  obtain ⟨hx, hb, hr, hml, hts, hown, hlocks, hA, hK⟩ := id C
  intro x1 x2 x4 x5 x7 I J B D ls H locs hok hl hw
  unfold wb_LassoFinderModel_ahead_6 at hok
  refine lv_iload hx hb zd_LassoFinderModel_ahead_6 (lv_at hl 5 rfl) ?_
  refine lv_iconst (v := 1) hx hb zd_LassoFinderModel_ahead_8 (by decide) ?_
  refine lv_aload_n hx hb zd_LassoFinderModel_ahead_9 rfl (lv_at hl 0 rfl) ?_
  refine z_get (v := .int (I 20)) hx hb hts hown hK hw zZ12 0 wM_g0 64 (by decide) zm_356 rfl zd_LassoFinderModel_ahead_10 ?_
  refine lv_ishl hx hb zd_LassoFinderModel_ahead_13 ?_
  refine lv_topi (fun z23 ez23 => ?_)
  have hok := hok z23 ez23
  refine lv_icmp_ge (tgt := 137) hx hb zd_LassoFinderModel_ahead_14 (by decide) (fun hc24 => ?_) (fun hc24 => ?_)
  · have hok := hok.1 hc24
    refine lv_lload hx hb zd_LassoFinderModel_ahead_137 (lv_at hl 4 rfl) ?_
    exact (z_lret (u := (I, J, B, D)) hx hb hr hlocks hw (List.range 58) wM_all wM_nd hok (Nat.le_of_ble_eq_true rfl) (Nat.le_of_ble_eq_true rfl) zd_LassoFinderModel_ahead_139)
  · have hok := hok.2 hc24
    refine lv_aload_n hx hb zd_LassoFinderModel_ahead_17 rfl (lv_at hl 0 rfl) ?_
    refine lv_aload_n hx hb zd_LassoFinderModel_ahead_18 rfl (lv_at hl 0 rfl) ?_
    refine z_get (v := .ref (ad 34)) hx hb hts hown hK hw zZ12 0 wM_g0 50 (by decide) zm_268 rfl zd_LassoFinderModel_ahead_19 ?_
    refine lv_iload_n hx hb zd_LassoFinderModel_ahead_22 rfl (lv_at hl 1 rfl) ?_
    refine va_iald (f := (B 31)) hx hb hK hw.1 34 0 wM_a34 rfl hok.1 zd_LassoFinderModel_ahead_23 ?_
    have hok := hok.2
    refine lv_topi (fun z25 ez25 => ?_)
    have hok := hok z25 ez25
    refine lv_iload hx hb zd_LassoFinderModel_ahead_24 (lv_at hl 5 rfl) ?_
    refine z_calli (w1 := fun (u : zS) => wM ad K u.1 u.2.1 u.2.2.1 u.2.2.2) (wr := []) (z_runV (q0 := 0) (wc := (wM ad K I J B D)) (As := [.int z25, .int x7]) (rest := []) ⟨hx, hb, hml, hown, hts⟩ (w_LassoFinderModel_truthAt l G K ad I J B D z25 x7 _ H.size hok) zf_LassoFinderModel_truthAt zm_375 ⟨Nat.le_of_ble_eq_true rfl, Nat.le_of_ble_eq_true rfl⟩ hK hw (List.range 58) wM_all wM_nd wM_g0 rfl rfl hl.1 rfl (Nat.le_of_ble_eq_true rfl) zd_LassoFinderModel_ahead_26 ⟨Nat.le_of_ble_eq_true rfl, Nat.le_of_ble_eq_true rfl⟩) hw hA (List.range 58) [] wM_all rfl (by decide) (fun i hi => by cases hi) (fun r26 u H locs hok hw => ?_)
    obtain ⟨I26, J26, B26, D26⟩ := u
    dsimp only at hok
    have hw : zW G A s.heap (wM ad K I26 J26 B26 D26) H locs := hw
    refine lv_istore hx hb zd_LassoFinderModel_ahead_29 hl (by decide) rfl (fun ls hl => ?_)
    have hl : lv_has ls 12 [(8, .int r26), (0, .ref (ad 0)), (1, .int x1), (2, .long x2), (4, .int x4), (5, .long x5), (7, .int x7)] := hl
    refine lv_aload_n hx hb zd_LassoFinderModel_ahead_31 rfl (lv_at hl 1 rfl) ?_
    refine lv_aload_n hx hb zd_LassoFinderModel_ahead_32 rfl (lv_at hl 1 rfl) ?_
    refine z_get (v := .ref (ad 33)) hx hb hts hown hK hw zZ12 0 wM_g0 49 (by decide) zm_267 rfl zd_LassoFinderModel_ahead_33 ?_
    refine lv_iload_n hx hb zd_LassoFinderModel_ahead_36 rfl (lv_at hl 2 rfl) ?_
    refine va_iald (f := (B26 30)) hx hb hK hw.1 33 0 wM_a33 rfl hok.1 zd_LassoFinderModel_ahead_37 ?_
    have hok := hok.2
    refine lv_topi (fun z27 ez27 => ?_)
    have hok := hok z27 ez27
    refine lv_iload hx hb zd_LassoFinderModel_ahead_38 (lv_at hl 6 rfl) ?_
    refine z_calli (w1 := fun (u : zS) => wM ad K u.1 u.2.1 u.2.2.1 u.2.2.2) (wr := []) (z_runV (q0 := 0) (wc := (wM ad K I26 J26 B26 D26)) (As := [.int z27, .int x7]) (rest := []) ⟨hx, hb, hml, hown, hts⟩ (w_LassoFinderModel_settled l G K ad I26 J26 B26 D26 z27 x7 _ H.size hok) zf_LassoFinderModel_settled zm_373 ⟨Nat.le_of_ble_eq_true rfl, Nat.le_of_ble_eq_true rfl⟩ hK hw (List.range 58) wM_all wM_nd wM_g0 rfl rfl hl.1 rfl (Nat.le_of_ble_eq_true rfl) zd_LassoFinderModel_ahead_40 ⟨Nat.le_of_ble_eq_true rfl, Nat.le_of_ble_eq_true rfl⟩) hw hA (List.range 58) [] wM_all rfl (by decide) (fun i hi => by cases hi) (fun r28 u H locs hok hw => ?_)
    obtain ⟨I28, J28, B28, D28⟩ := u
    dsimp only at hok
    have hw : zW G A s.heap (wM ad K I28 J28 B28 D28) H locs := hw
    refine lv_istore hx hb zd_LassoFinderModel_ahead_43 hl (by decide) rfl (fun ls hl => ?_)
    have hl : lv_has ls 12 [(9, .int r28), (8, .int r26), (0, .ref (ad 0)), (1, .int x1), (2, .long x2), (4, .int x4), (5, .long x5), (7, .int x7)] := hl
    refine lv_iconst (v := 0) hx hb zd_LassoFinderModel_ahead_45 (by decide) ?_
    refine lv_istore hx hb zd_LassoFinderModel_ahead_46 hl (by decide) rfl (fun ls hl => ?_)
    have hl : lv_has ls 12 [(10, .int 0), (9, .int r28), (8, .int r26), (0, .ref (ad 0)), (1, .int x1), (2, .long x2), (4, .int x4), (5, .long x5), (7, .int x7)] := hl
    obtain ⟨n9, hok⟩ := hok
    exact wL_LassoFinderModel_ahead_48 G K ad a0 a1 a2 Post C K6 kh6 n9 x1 x2 x4 x5 x7 r26 r28 0 I28 J28 B28 D28 ls H locs hok (lv_sub hl [3, 4, 5, 6, 7, 8, 2, 1, 0] rfl) hw
theorem wL_LassoFinderModel_ahead_6 {p : Program} {l : Launch} {e : Env} {s : State} {m : MethodId} {below : List Frame} {meth : Method} {c : Code} {A : Nat → Prop} (G : va_G) (K : Nat → ClassId) (ad : Nat → Nat) (a0 : Int32) (a1 : Int64) (a2 : Int32) (Post : Int64 → (Nat → Int32) → (Nat → Int64) → (Nat → Nat → Int32) → (Nat → Nat → Int64) → Prop) (C : zCx p s m ([.ref (ad 0), .int a0, .long a1, .int a2] : List Value).toArray meth c A G K prog_14_method_63_code (some .long) 12 "LassoFinderModel") : ∀ (n : Nat) (x1 : Int32) (x2 : Int64) (x4 : Int32) (x5 : Int64) (x7 : Int32) (I : Nat → Int32) (J : Nat → Int64) (B : Nat → Nat → Int32) (D : Nat → Nat → Int64) (ls : Array Slot) (H : Heap) (locs : List Loc), wl_LassoFinderModel_ahead_6 a0 a1 a2 Post n x1 x2 x4 x5 x7 I J B D → lv_has ls 12 [(0, .ref (ad 0)), (1, .int x1), (2, .long x2), (4, .int x4), (5, .long x5), (7, .int x7)] → zW G A s.heap (wM ad K I J B D) H locs → W p l e { frames := 2, cells := 0, slots := 0, locals := 50 } s m ([.ref (ad 0), .int a0, .long a1, .int a2] : List Value).toArray below meth c H locs 0 0 (MQ below (va_Ql (fun (r : Int64) (u : zS) => Post r u.1 u.2.1 u.2.2.1 u.2.2.2) (fun u t => zPost G K A (wM ad K u.1 u.2.1 u.2.2.1 u.2.2.2) t) A) ([.ref (ad 0), .int a0, .long a1, .int a2] : List Value).toArray s 0 0 A) (F0 m 6 ls []) := by
  intro n
  induction n with
  | zero => intro x1 x2 x4 x5 x7 I J B D ls H locs hok; exact hok.elim
  | succ n ih => exact wB_LassoFinderModel_ahead_6 G K ad a0 a1 a2 Post C (wl_LassoFinderModel_ahead_6 a0 a1 a2 Post n) ih
set_option maxHeartbeats 8000000 in
set_option maxRecDepth 100000 in
theorem w_LassoFinderModel_ahead (l : Launch) (G : va_G) (K : Nat → ClassId) (ad : Nat → Nat) (I : Nat → Int32) (J : Nat → Int64) (B : Nat → Nat → Int32) (D : Nat → Nat → Int64) (a0 : Int32) (a1 : Int64) (a2 : Int32) (Post : Int64 → (Nat → Int32) → (Nat → Int64) → (Nat → Nat → Int32) → (Nat → Nat → Int64) → Prop) (sz : Nat) (hok : wp_LassoFinderModel_ahead I J B D a0 a1 a2 Post) : Met l zy_LassoFinderModel_ahead (Cond.code zy_LassoFinderModel_ahead prog_14_method_63_code 12 (some .long) :: zTB) { frames := 2, cells := 0, slots := 0, locals := 50 } (va_Pc [.ref (ad 0), .int a0, .long a1, .int a2] (zPre G K (wM ad K I J B D) sz)) (va_Ql (fun (r : Int64) (u : zS) => Post r u.1 u.2.1 u.2.2.1 u.2.2.2) (fun u t => zPost G K (va_A (wM ad K I J B D) sz) (wM ad K u.1 u.2.1 u.2.2.1 u.2.2.2) t) (va_A (wM ad K I J B D) sz)) 0 0 (va_A (wM ad K I J B D) sz) := by
  refine zMet (y := zy_LassoFinderModel_ahead) (av := [.ref (ad 0), .int a0, .long a1, .int a2]) (maxL := 12) (cc := prog_14_method_63_code) (ret := (some .long)) (W0 := (wM ad K I J B D)) (sz := sz) (G := G) (K := K) (wt := zTB) (mc := 0) (ms := 0) (Qf := fun A => va_Ql (fun (r : Int64) (u : zS) => Post r u.1 u.2.1 u.2.2.1 u.2.2.2) (fun u t => zPost G K A (wM ad K u.1 u.2.1 u.2.2.1 u.2.2.2) t) A) (by decide) (Nat.le_of_ble_eq_true rfl) ?_
  intro p e s m below meth c ls A hx hb hr hml hts hown hlocks hin hA hK H locs hw hsz hl
  clear hsz
  have hown : s.vm.findClass "LassoFinderModel" = some m.cls := hown
  have C : zCx p s m ([.ref (ad 0), .int a0, .long a1, .int a2] : List Value).toArray meth c A G K prog_14_method_63_code (some .long) 12 "LassoFinderModel" := ⟨hx, hb, hr, hml, hts, hown, hlocks, hA, hK⟩
  have hl : lv_has ls 12 [(0, .ref (ad 0)), (1, .int a0), (2, .long a1), (4, .int a2)] := hl
  have hw : zW G A s.heap (wM ad K I J B D) H locs := hw
  unfold wp_LassoFinderModel_ahead at hok
  refine lv_lconst (v := 0) hx hb zd_LassoFinderModel_ahead_0 (by decide) ?_
  refine lv_lstore hx hb zd_LassoFinderModel_ahead_1 hl (by decide) rfl (fun ls hl => ?_)
  have hl : lv_has ls 12 [(5, .long 0), (0, .ref (ad 0)), (1, .int a0), (2, .long a1), (4, .int a2)] := hl
  refine lv_iconst (v := 0) hx hb zd_LassoFinderModel_ahead_3 (by decide) ?_
  refine lv_istore hx hb zd_LassoFinderModel_ahead_4 hl (by decide) rfl (fun ls hl => ?_)
  have hl : lv_has ls 12 [(7, .int 0), (5, .long 0), (0, .ref (ad 0)), (1, .int a0), (2, .long a1), (4, .int a2)] := hl
  obtain ⟨n9, hok⟩ := hok
  exact wL_LassoFinderModel_ahead_6 G K ad a0 a1 a2 Post C n9 a0 a1 a2 0 0 I J B D ls H locs hok (lv_sub hl [2, 3, 4, 5, 1, 0] rfl) hw
def wc_LassoFinderModel_measure_294 (a0 : Int32) (a1 : Int32) (Post : (Nat → Int32) → (Nat → Int64) → (Nat → Nat → Int32) → (Nat → Nat → Int64) → Prop)  (I : Nat → Int32) (J : Nat → Int64) (B : Nat → Nat → Int32) (D : Nat → Nat → Int64) : Prop :=
  Post I J B D
def wc_LassoFinderModel_measure_265 (a0 : Int32) (a1 : Int32) (K72 : Int32 → Int32 → Int32 → Int32 → (Nat → Int32) → (Nat → Int64) → (Nat → Nat → Int32) → (Nat → Nat → Int64) → Prop) (K120 : Int32 → Int32 → Int32 → Int32 → Int32 → Int32 → Int32 → Int32 → (Nat → Int32) → (Nat → Int64) → (Nat → Nat → Int32) → (Nat → Nat → Int64) → Prop) (K171 : Int32 → Int32 → Int32 → Int32 → Int32 → Int32 → Int32 → Int32 → Int32 → Int32 → Int32 → Int32 → (Nat → Int32) → (Nat → Int64) → (Nat → Nat → Int32) → (Nat → Nat → Int64) → Prop) (Post : (Nat → Int32) → (Nat → Int64) → (Nat → Nat → Int32) → (Nat → Nat → Int64) → Prop) (x3 : Int32) (x4 : Int32) (x5 : Int32) (x6 : Int32) (x7 : Int32) (x8 : Int32) (x9 : Int32) (x10 : Int32) (x11 : Int32) (x12 : Int32) (x13 : Int32) (x14 : Int32) (I : Nat → Int32) (J : Nat → Int64) (B : Nat → Nat → Int32) (D : Nat → Nat → Int64) : Prop :=
  ∀ z1 : Int32, z1 = (x14 + 1) → K171 x3 x4 x5 x6 x7 x8 x9 x10 x11 x12 x13 z1 I J B D
def wb_LassoFinderModel_measure_171 (a0 : Int32) (a1 : Int32) (K171 : Int32 → Int32 → Int32 → Int32 → Int32 → Int32 → Int32 → Int32 → Int32 → Int32 → Int32 → Int32 → (Nat → Int32) → (Nat → Int64) → (Nat → Nat → Int32) → (Nat → Nat → Int64) → Prop) (K72 : Int32 → Int32 → Int32 → Int32 → (Nat → Int32) → (Nat → Int64) → (Nat → Nat → Int32) → (Nat → Nat → Int64) → Prop) (K120 : Int32 → Int32 → Int32 → Int32 → Int32 → Int32 → Int32 → Int32 → (Nat → Int32) → (Nat → Int64) → (Nat → Nat → Int32) → (Nat → Nat → Int64) → Prop) (Post : (Nat → Int32) → (Nat → Int64) → (Nat → Nat → Int32) → (Nat → Nat → Int64) → Prop) (x3 : Int32) (x4 : Int32) (x5 : Int32) (x6 : Int32) (x7 : Int32) (x8 : Int32) (x9 : Int32) (x10 : Int32) (x11 : Int32) (x12 : Int32) (x13 : Int32) (x14 : Int32) (I : Nat → Int32) (J : Nat → Int64) (B : Nat → Nat → Int32) (D : Nat → Nat → Int64) : Prop :=
  ((x3 < x14 → ∀ z3 : Int32, z3 = (x10 + 1) → K120 x3 x4 x5 x6 x7 x8 x9 z3 I J B D) ∧ (¬ x3 < x14 → ∀ z4 : Int32, z4 = (64 * x11) → ∀ z5 : Int32, z5 = (8 * x12) → ∀ z6 : Int32, z6 = (z4 + z5) → ∀ z7 : Int32, z7 = (z6 + x14) → ∀ z8 : Int32, z8 = (x14 ||| x9) → ∀ z9 : Int32, z9 = (x6 &&& 7) → ((¬ z8 = z9 → wc_LassoFinderModel_measure_265 a0 a1 K72 K120 K171 Post x3 x4 x5 x6 x7 x8 x9 x10 x11 x12 x13 x14 I J B D) ∧ (z8 = z9 → ∀ z11 : Int32, z11 = (x14 ^^^ (-1)) → ∀ z12 : Int32, z12 = (x13 &&& z11) → ((¬ z12 = 0 → wc_LassoFinderModel_measure_265 a0 a1 K72 K120 K171 Post x3 x4 x5 x6 x7 x8 x9 x10 x11 x12 x13 x14 I J B D) ∧ (z12 = 0 → vp_in z7 6144 ∧ ∀ z14 : Int32, z14 = ((B 51) z7.toNatClampNeg) → ((z14 < 0 → wp_LassoFinderModel_away I J B D x6 (fun r16 I16 J16 B16 D16 => ∀ z17 : Int32, z17 = (r16 + 1) → vp_in z7 6144 ∧ vp_in x4 6144 ∧ ∀ z18 : Int32, z18 = ((upd (B16 51) z7.toNatClampNeg z17) x4.toNatClampNeg) → ∀ z19 : Int32, z19 = (z7 + 1) → ∀ z20 : Int32, z20 = (z19 <<< (12 &&& 31)) → ∀ z21 : Int32, z21 = (z18 + z20) → vp_in x4 6144 ∧ wc_LassoFinderModel_measure_265 a0 a1 K72 K120 K171 Post x3 z7 x5 x6 x7 x8 x9 x10 x11 x12 x13 x14 I16 J16 (va_up (va_up B16 51 (upd (B16 51) z7.toNatClampNeg z17)) 51 (upd (upd (B16 51) z7.toNatClampNeg z17) x4.toNatClampNeg z21)) D16)) ∧ (¬ z14 < 0 → wc_LassoFinderModel_measure_265 a0 a1 K72 K120 K171 Post x3 x4 x5 x6 x7 x8 x9 x10 x11 x12 x13 x14 I J B D))))))))
def wl_LassoFinderModel_measure_171 (a0 : Int32) (a1 : Int32) (K72 : Int32 → Int32 → Int32 → Int32 → (Nat → Int32) → (Nat → Int64) → (Nat → Nat → Int32) → (Nat → Nat → Int64) → Prop) (K120 : Int32 → Int32 → Int32 → Int32 → Int32 → Int32 → Int32 → Int32 → (Nat → Int32) → (Nat → Int64) → (Nat → Nat → Int32) → (Nat → Nat → Int64) → Prop) (Post : (Nat → Int32) → (Nat → Int64) → (Nat → Nat → Int32) → (Nat → Nat → Int64) → Prop) (n : Nat) : Int32 → Int32 → Int32 → Int32 → Int32 → Int32 → Int32 → Int32 → Int32 → Int32 → Int32 → Int32 → (Nat → Int32) → (Nat → Int64) → (Nat → Nat → Int32) → (Nat → Nat → Int64) → Prop := Nat.rec (fun _ _ _ _ _ _ _ _ _ _ _ _ _ _ _ _ => False) (fun _ r => wb_LassoFinderModel_measure_171 a0 a1 r K72 K120 Post) n
def wb_LassoFinderModel_measure_120 (a0 : Int32) (a1 : Int32) (K120 : Int32 → Int32 → Int32 → Int32 → Int32 → Int32 → Int32 → Int32 → (Nat → Int32) → (Nat → Int64) → (Nat → Nat → Int32) → (Nat → Nat → Int64) → Prop) (K72 : Int32 → Int32 → Int32 → Int32 → (Nat → Int32) → (Nat → Int64) → (Nat → Nat → Int32) → (Nat → Nat → Int64) → Prop) (Post : (Nat → Int32) → (Nat → Int64) → (Nat → Nat → Int32) → (Nat → Nat → Int64) → Prop) (x3 : Int32) (x4 : Int32) (x5 : Int32) (x6 : Int32) (x7 : Int32) (x8 : Int32) (x9 : Int32) (x10 : Int32) (I : Nat → Int32) (J : Nat → Int64) (B : Nat → Nat → Int32) (D : Nat → Nat → Int64) : Prop :=
  ∀ z22 : Int32, z22 = (x7 + 1) → vp_in z22 98 ∧ ∀ z23 : Int32, z23 = ((B 34) z22.toNatClampNeg) → ((z23 ≤ x10 → vp_in x6 6144 ∧ ∀ z25 : Int32, z25 = ((B 51) x6.toNatClampNeg) → ∀ z26 : Int32, z26 = (z25 >>> (12 &&& 31)) → ∀ z27 : Int32, z27 = (z26 - 1) → K72 x3 x4 x5 z27 I J B D) ∧ (¬ z23 ≤ x10 → vp_in x10 401 ∧ ∀ z28 : Int32, z28 = ((B 35) x10.toNatClampNeg) → vp_in z28 401 ∧ ∀ z29 : Int32, z29 = ((B 31) z28.toNatClampNeg) → wp_LassoFinderModel_truthAt I J B D z29 x8 (fun r30 I30 J30 B30 D30 => wp_LassoFinderModel_settled I30 J30 B30 D30 z29 r30 (fun r31 I31 J31 B31 D31 => ∃ n : Nat, wl_LassoFinderModel_measure_171 a0 a1 K72 K120 Post n x3 x4 x5 x6 x7 x8 x9 x10 z29 r30 r31 0 I31 J31 B31 D31))))
def wl_LassoFinderModel_measure_120 (a0 : Int32) (a1 : Int32) (K72 : Int32 → Int32 → Int32 → Int32 → (Nat → Int32) → (Nat → Int64) → (Nat → Nat → Int32) → (Nat → Nat → Int64) → Prop) (Post : (Nat → Int32) → (Nat → Int64) → (Nat → Nat → Int32) → (Nat → Nat → Int64) → Prop) (n : Nat) : Int32 → Int32 → Int32 → Int32 → Int32 → Int32 → Int32 → Int32 → (Nat → Int32) → (Nat → Int64) → (Nat → Nat → Int32) → (Nat → Nat → Int64) → Prop := Nat.rec (fun _ _ _ _ _ _ _ _ _ _ _ _ => False) (fun _ r => wb_LassoFinderModel_measure_120 a0 a1 r K72 Post) n
def wb_LassoFinderModel_measure_72 (a0 : Int32) (a1 : Int32) (K72 : Int32 → Int32 → Int32 → Int32 → (Nat → Int32) → (Nat → Int64) → (Nat → Nat → Int32) → (Nat → Nat → Int64) → Prop) (Post : (Nat → Int32) → (Nat → Int64) → (Nat → Nat → Int32) → (Nat → Nat → Int64) → Prop) (x3 : Int32) (x4 : Int32) (x5 : Int32) (x6 : Int32) (I : Nat → Int32) (J : Nat → Int64) (B : Nat → Nat → Int32) (D : Nat → Nat → Int64) : Prop :=
  ((x6 < 0 → wc_LassoFinderModel_measure_294 a0 a1 Post I J B D) ∧ (¬ x6 < 0 → ((x5 ≤ 0 → wc_LassoFinderModel_measure_294 a0 a1 Post I J B D) ∧ (¬ x5 ≤ 0 → ∀ z34 : Int32, z34 = (x5 + (-1)) → ∀ z35 : Int32, z35 = (x6 >>> (6 &&& 31)) → ∀ z36 : Int32, z36 = (x6 >>> (3 &&& 31)) → ∀ z37 : Int32, z37 = (z36 &&& 7) → wp_LassoFinderModel_settled I J B D z35 z37 (fun r38 I38 J38 B38 D38 => vp_in z35 98 ∧ ∀ z39 : Int32, z39 = ((B38 34) z35.toNatClampNeg) → ∃ n : Nat, wl_LassoFinderModel_measure_120 a0 a1 K72 Post n x3 x4 z34 x6 z35 z37 r38 z39 I38 J38 B38 D38)))))
def wl_LassoFinderModel_measure_72 (a0 : Int32) (a1 : Int32) (Post : (Nat → Int32) → (Nat → Int64) → (Nat → Nat → Int32) → (Nat → Nat → Int64) → Prop) (n : Nat) : Int32 → Int32 → Int32 → Int32 → (Nat → Int32) → (Nat → Int64) → (Nat → Nat → Int32) → (Nat → Nat → Int64) → Prop := Nat.rec (fun _ _ _ _ _ _ _ _ => False) (fun _ r => wb_LassoFinderModel_measure_72 a0 a1 r Post) n
def wb_LassoFinderModel_measure_12 (a0 : Int32) (a1 : Int32) (K12 : Int32 → Int32 → Int32 → Int32 → (Nat → Int32) → (Nat → Int64) → (Nat → Nat → Int32) → (Nat → Nat → Int64) → Prop) (Post : (Nat → Int32) → (Nat → Int64) → (Nat → Nat → Int32) → (Nat → Nat → Int64) → Prop) (x1 : Int32) (x2 : Int32) (x3 : Int32) (x4 : Int32) (I : Nat → Int32) (J : Nat → Int64) (B : Nat → Nat → Int32) (D : Nat → Nat → Int64) : Prop :=
  ∀ z40 : Int32, z40 = (64 * (I 14)) → ((z40 ≤ x4 → ∀ z42 : Int32, z42 = (64 * x1) → ∀ z43 : Int32, z43 = (8 * x2) → ∀ z44 : Int32, z44 = (z42 + z43) → ∀ z45 : Int32, z45 = (z44 + x3) → vp_in z45 6144 ∧ ∀ z46 : Int32, z46 = (64 * (I 14)) → ∃ n : Nat, wl_LassoFinderModel_measure_72 a0 a1 Post n x3 z45 z46 z45 I J (va_up B 51 (upd (B 51) z45.toNatClampNeg 0)) D) ∧ (¬ z40 ≤ x4 → vp_in x4 6144 ∧ ∀ z47 : Int32, z47 = (x4 + 1) → K12 x1 x2 x3 z47 I J (va_up B 51 (upd (B 51) x4.toNatClampNeg (-1))) D))
def wl_LassoFinderModel_measure_12 (a0 : Int32) (a1 : Int32) (Post : (Nat → Int32) → (Nat → Int64) → (Nat → Nat → Int32) → (Nat → Nat → Int64) → Prop) (n : Nat) : Int32 → Int32 → Int32 → Int32 → (Nat → Int32) → (Nat → Int64) → (Nat → Nat → Int32) → (Nat → Nat → Int64) → Prop := Nat.rec (fun _ _ _ _ _ _ _ _ => False) (fun _ r => wb_LassoFinderModel_measure_12 a0 a1 r Post) n
def wp_LassoFinderModel_measure (I : Nat → Int32) (J : Nat → Int64) (B : Nat → Nat → Int32) (D : Nat → Nat → Int64) (a0 : Int32) (a1 : Int32) (Post : (Nat → Int32) → (Nat → Int64) → (Nat → Nat → Int32) → (Nat → Nat → Int64) → Prop) : Prop :=
  ∀ z48 : Int32, z48 = (1 <<< ((I 20) &&& 31)) → ∀ z49 : Int32, z49 = (z48 - 1) → ∃ n : Nat, wl_LassoFinderModel_measure_12 a0 a1 Post n a0 a1 z49 0 I J B D
set_option maxHeartbeats 8000000 in
set_option maxRecDepth 100000 in
theorem wJ_LassoFinderModel_measure_294 {p : Program} {l : Launch} {e : Env} {s : State} {m : MethodId} {below : List Frame} {meth : Method} {c : Code} {A : Nat → Prop} (G : va_G) (K : Nat → ClassId) (ad : Nat → Nat) (a0 : Int32) (a1 : Int32) (Post : (Nat → Int32) → (Nat → Int64) → (Nat → Nat → Int32) → (Nat → Nat → Int64) → Prop) (C : zCx p s m ([.ref (ad 0), .int a0, .int a1] : List Value).toArray meth c A G K prog_14_method_56_code none 16 "LassoFinderModel") : ∀  (I : Nat → Int32) (J : Nat → Int64) (B : Nat → Nat → Int32) (D : Nat → Nat → Int64) (ls : Array Slot) (H : Heap) (locs : List Loc), wc_LassoFinderModel_measure_294 a0 a1 Post  I J B D → lv_has ls 16 [] → zW G A s.heap (wM ad K I J B D) H locs → W p l e { frames := 2, cells := 0, slots := 0, locals := 50 } s m ([.ref (ad 0), .int a0, .int a1] : List Value).toArray below meth c H locs 0 0 (MQ below (va_Qv (fun u : zS => Post u.1 u.2.1 u.2.2.1 u.2.2.2) (fun u t => zPost G K A (wM ad K u.1 u.2.1 u.2.2.1 u.2.2.2) t) A) ([.ref (ad 0), .int a0, .int a1] : List Value).toArray s 0 0 A) (F0 m 294 ls []) := by
  obtain ⟨hx, hb, hr, hml, hts, hown, hlocks, hA, hK⟩ := id C
  intro  I J B D ls H locs hok hl hw
  unfold wc_LassoFinderModel_measure_294 at hok
  exact (z_vret (u := (I, J, B, D)) hx hb hr hlocks hw (List.range 58) wM_all wM_nd hok (Nat.le_of_ble_eq_true rfl) (Nat.le_of_ble_eq_true rfl) zd_LassoFinderModel_measure_294)
set_option maxHeartbeats 8000000 in
set_option maxRecDepth 100000 in
theorem wJ_LassoFinderModel_measure_265 {p : Program} {l : Launch} {e : Env} {s : State} {m : MethodId} {below : List Frame} {meth : Method} {c : Code} {A : Nat → Prop} (G : va_G) (K : Nat → ClassId) (ad : Nat → Nat) (a0 : Int32) (a1 : Int32) (Post : (Nat → Int32) → (Nat → Int64) → (Nat → Nat → Int32) → (Nat → Nat → Int64) → Prop) (C : zCx p s m ([.ref (ad 0), .int a0, .int a1] : List Value).toArray meth c A G K prog_14_method_56_code none 16 "LassoFinderModel") (K72 : Int32 → Int32 → Int32 → Int32 → (Nat → Int32) → (Nat → Int64) → (Nat → Nat → Int32) → (Nat → Nat → Int64) → Prop) (kh72 : ∀ (x3 : Int32) (x4 : Int32) (x5 : Int32) (x6 : Int32) (I : Nat → Int32) (J : Nat → Int64) (B : Nat → Nat → Int32) (D : Nat → Nat → Int64) (ls : Array Slot) (H : Heap) (locs : List Loc), K72 x3 x4 x5 x6 I J B D → lv_has ls 16 [(0, .ref (ad 0)), (3, .int x3), (4, .int x4), (5, .int x5), (6, .int x6)] → zW G A s.heap (wM ad K I J B D) H locs → W p l e { frames := 2, cells := 0, slots := 0, locals := 50 } s m ([.ref (ad 0), .int a0, .int a1] : List Value).toArray below meth c H locs 0 0 (MQ below (va_Qv (fun u : zS => Post u.1 u.2.1 u.2.2.1 u.2.2.2) (fun u t => zPost G K A (wM ad K u.1 u.2.1 u.2.2.1 u.2.2.2) t) A) ([.ref (ad 0), .int a0, .int a1] : List Value).toArray s 0 0 A) (F0 m 72 ls [])) (K120 : Int32 → Int32 → Int32 → Int32 → Int32 → Int32 → Int32 → Int32 → (Nat → Int32) → (Nat → Int64) → (Nat → Nat → Int32) → (Nat → Nat → Int64) → Prop) (kh120 : ∀ (x3 : Int32) (x4 : Int32) (x5 : Int32) (x6 : Int32) (x7 : Int32) (x8 : Int32) (x9 : Int32) (x10 : Int32) (I : Nat → Int32) (J : Nat → Int64) (B : Nat → Nat → Int32) (D : Nat → Nat → Int64) (ls : Array Slot) (H : Heap) (locs : List Loc), K120 x3 x4 x5 x6 x7 x8 x9 x10 I J B D → lv_has ls 16 [(0, .ref (ad 0)), (3, .int x3), (4, .int x4), (5, .int x5), (6, .int x6), (7, .int x7), (8, .int x8), (9, .int x9), (10, .int x10)] → zW G A s.heap (wM ad K I J B D) H locs → W p l e { frames := 2, cells := 0, slots := 0, locals := 50 } s m ([.ref (ad 0), .int a0, .int a1] : List Value).toArray below meth c H locs 0 0 (MQ below (va_Qv (fun u : zS => Post u.1 u.2.1 u.2.2.1 u.2.2.2) (fun u t => zPost G K A (wM ad K u.1 u.2.1 u.2.2.1 u.2.2.2) t) A) ([.ref (ad 0), .int a0, .int a1] : List Value).toArray s 0 0 A) (F0 m 120 ls [])) (K171 : Int32 → Int32 → Int32 → Int32 → Int32 → Int32 → Int32 → Int32 → Int32 → Int32 → Int32 → Int32 → (Nat → Int32) → (Nat → Int64) → (Nat → Nat → Int32) → (Nat → Nat → Int64) → Prop) (kh171 : ∀ (x3 : Int32) (x4 : Int32) (x5 : Int32) (x6 : Int32) (x7 : Int32) (x8 : Int32) (x9 : Int32) (x10 : Int32) (x11 : Int32) (x12 : Int32) (x13 : Int32) (x14 : Int32) (I : Nat → Int32) (J : Nat → Int64) (B : Nat → Nat → Int32) (D : Nat → Nat → Int64) (ls : Array Slot) (H : Heap) (locs : List Loc), K171 x3 x4 x5 x6 x7 x8 x9 x10 x11 x12 x13 x14 I J B D → lv_has ls 16 [(0, .ref (ad 0)), (3, .int x3), (4, .int x4), (5, .int x5), (6, .int x6), (7, .int x7), (8, .int x8), (9, .int x9), (10, .int x10), (11, .int x11), (12, .int x12), (13, .int x13), (14, .int x14)] → zW G A s.heap (wM ad K I J B D) H locs → W p l e { frames := 2, cells := 0, slots := 0, locals := 50 } s m ([.ref (ad 0), .int a0, .int a1] : List Value).toArray below meth c H locs 0 0 (MQ below (va_Qv (fun u : zS => Post u.1 u.2.1 u.2.2.1 u.2.2.2) (fun u t => zPost G K A (wM ad K u.1 u.2.1 u.2.2.1 u.2.2.2) t) A) ([.ref (ad 0), .int a0, .int a1] : List Value).toArray s 0 0 A) (F0 m 171 ls [])) : ∀ (x3 : Int32) (x4 : Int32) (x5 : Int32) (x6 : Int32) (x7 : Int32) (x8 : Int32) (x9 : Int32) (x10 : Int32) (x11 : Int32) (x12 : Int32) (x13 : Int32) (x14 : Int32) (I : Nat → Int32) (J : Nat → Int64) (B : Nat → Nat → Int32) (D : Nat → Nat → Int64) (ls : Array Slot) (H : Heap) (locs : List Loc), wc_LassoFinderModel_measure_265 a0 a1 K72 K120 K171 Post x3 x4 x5 x6 x7 x8 x9 x10 x11 x12 x13 x14 I J B D → lv_has ls 16 [(0, .ref (ad 0)), (3, .int x3), (4, .int x4), (5, .int x5), (6, .int x6), (7, .int x7), (8, .int x8), (9, .int x9), (10, .int x10), (11, .int x11), (12, .int x12), (13, .int x13), (14, .int x14)] → zW G A s.heap (wM ad K I J B D) H locs → W p l e { frames := 2, cells := 0, slots := 0, locals := 50 } s m ([.ref (ad 0), .int a0, .int a1] : List Value).toArray below meth c H locs 0 0 (MQ below (va_Qv (fun u : zS => Post u.1 u.2.1 u.2.2.1 u.2.2.2) (fun u t => zPost G K A (wM ad K u.1 u.2.1 u.2.2.1 u.2.2.2) t) A) ([.ref (ad 0), .int a0, .int a1] : List Value).toArray s 0 0 A) (F0 m 265 ls []) := by
  obtain ⟨hx, hb, hr, hml, hts, hown, hlocks, hA, hK⟩ := id C
  intro x3 x4 x5 x6 x7 x8 x9 x10 x11 x12 x13 x14 I J B D ls H locs hok hl hw
  unfold wc_LassoFinderModel_measure_265 at hok
  obtain ⟨z1, ez1⟩ : ∃ z : Int32, z = (x14 + 1) := ⟨_, rfl⟩
  have hok := hok z1 ez1
  refine lv_iinc (v := z1) hx hb zd_LassoFinderModel_measure_265 hl (k := 12) rfl ez1.symm (by decide) rfl (fun ls hl => ?_)
  have hl : lv_has ls 16 [(14, .int z1), (0, .ref (ad 0)), (3, .int x3), (4, .int x4), (5, .int x5), (6, .int x6), (7, .int x7), (8, .int x8), (9, .int x9), (10, .int x10), (11, .int x11), (12, .int x12), (13, .int x13)] := hl
  refine lv_goto (tgt := 171) hx hb zd_LassoFinderModel_measure_268 (by decide) ?_
  exact kh171 x3 x4 x5 x6 x7 x8 x9 x10 x11 x12 x13 z1 I J B D ls H locs hok (lv_sub hl [1, 2, 3, 4, 5, 6, 7, 8, 9, 10, 11, 12, 0] rfl) hw
set_option maxHeartbeats 8000000 in
set_option maxRecDepth 100000 in
theorem wB_LassoFinderModel_measure_171 {p : Program} {l : Launch} {e : Env} {s : State} {m : MethodId} {below : List Frame} {meth : Method} {c : Code} {A : Nat → Prop} (G : va_G) (K : Nat → ClassId) (ad : Nat → Nat) (a0 : Int32) (a1 : Int32) (Post : (Nat → Int32) → (Nat → Int64) → (Nat → Nat → Int32) → (Nat → Nat → Int64) → Prop) (C : zCx p s m ([.ref (ad 0), .int a0, .int a1] : List Value).toArray meth c A G K prog_14_method_56_code none 16 "LassoFinderModel") (K72 : Int32 → Int32 → Int32 → Int32 → (Nat → Int32) → (Nat → Int64) → (Nat → Nat → Int32) → (Nat → Nat → Int64) → Prop) (kh72 : ∀ (x3 : Int32) (x4 : Int32) (x5 : Int32) (x6 : Int32) (I : Nat → Int32) (J : Nat → Int64) (B : Nat → Nat → Int32) (D : Nat → Nat → Int64) (ls : Array Slot) (H : Heap) (locs : List Loc), K72 x3 x4 x5 x6 I J B D → lv_has ls 16 [(0, .ref (ad 0)), (3, .int x3), (4, .int x4), (5, .int x5), (6, .int x6)] → zW G A s.heap (wM ad K I J B D) H locs → W p l e { frames := 2, cells := 0, slots := 0, locals := 50 } s m ([.ref (ad 0), .int a0, .int a1] : List Value).toArray below meth c H locs 0 0 (MQ below (va_Qv (fun u : zS => Post u.1 u.2.1 u.2.2.1 u.2.2.2) (fun u t => zPost G K A (wM ad K u.1 u.2.1 u.2.2.1 u.2.2.2) t) A) ([.ref (ad 0), .int a0, .int a1] : List Value).toArray s 0 0 A) (F0 m 72 ls [])) (K120 : Int32 → Int32 → Int32 → Int32 → Int32 → Int32 → Int32 → Int32 → (Nat → Int32) → (Nat → Int64) → (Nat → Nat → Int32) → (Nat → Nat → Int64) → Prop) (kh120 : ∀ (x3 : Int32) (x4 : Int32) (x5 : Int32) (x6 : Int32) (x7 : Int32) (x8 : Int32) (x9 : Int32) (x10 : Int32) (I : Nat → Int32) (J : Nat → Int64) (B : Nat → Nat → Int32) (D : Nat → Nat → Int64) (ls : Array Slot) (H : Heap) (locs : List Loc), K120 x3 x4 x5 x6 x7 x8 x9 x10 I J B D → lv_has ls 16 [(0, .ref (ad 0)), (3, .int x3), (4, .int x4), (5, .int x5), (6, .int x6), (7, .int x7), (8, .int x8), (9, .int x9), (10, .int x10)] → zW G A s.heap (wM ad K I J B D) H locs → W p l e { frames := 2, cells := 0, slots := 0, locals := 50 } s m ([.ref (ad 0), .int a0, .int a1] : List Value).toArray below meth c H locs 0 0 (MQ below (va_Qv (fun u : zS => Post u.1 u.2.1 u.2.2.1 u.2.2.2) (fun u t => zPost G K A (wM ad K u.1 u.2.1 u.2.2.1 u.2.2.2) t) A) ([.ref (ad 0), .int a0, .int a1] : List Value).toArray s 0 0 A) (F0 m 120 ls [])) (K171 : Int32 → Int32 → Int32 → Int32 → Int32 → Int32 → Int32 → Int32 → Int32 → Int32 → Int32 → Int32 → (Nat → Int32) → (Nat → Int64) → (Nat → Nat → Int32) → (Nat → Nat → Int64) → Prop) (kh171 : ∀ (x3 : Int32) (x4 : Int32) (x5 : Int32) (x6 : Int32) (x7 : Int32) (x8 : Int32) (x9 : Int32) (x10 : Int32) (x11 : Int32) (x12 : Int32) (x13 : Int32) (x14 : Int32) (I : Nat → Int32) (J : Nat → Int64) (B : Nat → Nat → Int32) (D : Nat → Nat → Int64) (ls : Array Slot) (H : Heap) (locs : List Loc), K171 x3 x4 x5 x6 x7 x8 x9 x10 x11 x12 x13 x14 I J B D → lv_has ls 16 [(0, .ref (ad 0)), (3, .int x3), (4, .int x4), (5, .int x5), (6, .int x6), (7, .int x7), (8, .int x8), (9, .int x9), (10, .int x10), (11, .int x11), (12, .int x12), (13, .int x13), (14, .int x14)] → zW G A s.heap (wM ad K I J B D) H locs → W p l e { frames := 2, cells := 0, slots := 0, locals := 50 } s m ([.ref (ad 0), .int a0, .int a1] : List Value).toArray below meth c H locs 0 0 (MQ below (va_Qv (fun u : zS => Post u.1 u.2.1 u.2.2.1 u.2.2.2) (fun u t => zPost G K A (wM ad K u.1 u.2.1 u.2.2.1 u.2.2.2) t) A) ([.ref (ad 0), .int a0, .int a1] : List Value).toArray s 0 0 A) (F0 m 171 ls [])) : ∀ (x3 : Int32) (x4 : Int32) (x5 : Int32) (x6 : Int32) (x7 : Int32) (x8 : Int32) (x9 : Int32) (x10 : Int32) (x11 : Int32) (x12 : Int32) (x13 : Int32) (x14 : Int32) (I : Nat → Int32) (J : Nat → Int64) (B : Nat → Nat → Int32) (D : Nat → Nat → Int64) (ls : Array Slot) (H : Heap) (locs : List Loc), wb_LassoFinderModel_measure_171 a0 a1 K171 K72 K120 Post x3 x4 x5 x6 x7 x8 x9 x10 x11 x12 x13 x14 I J B D → lv_has ls 16 [(0, .ref (ad 0)), (3, .int x3), (4, .int x4), (5, .int x5), (6, .int x6), (7, .int x7), (8, .int x8), (9, .int x9), (10, .int x10), (11, .int x11), (12, .int x12), (13, .int x13), (14, .int x14)] → zW G A s.heap (wM ad K I J B D) H locs → W p l e { frames := 2, cells := 0, slots := 0, locals := 50 } s m ([.ref (ad 0), .int a0, .int a1] : List Value).toArray below meth c H locs 0 0 (MQ below (va_Qv (fun u : zS => Post u.1 u.2.1 u.2.2.1 u.2.2.2) (fun u t => zPost G K A (wM ad K u.1 u.2.1 u.2.2.1 u.2.2.2) t) A) ([.ref (ad 0), .int a0, .int a1] : List Value).toArray s 0 0 A) (F0 m 171 ls []) := by
  obtain ⟨hx, hb, hr, hml, hts, hown, hlocks, hA, hK⟩ := id C
  intro x3 x4 x5 x6 x7 x8 x9 x10 x11 x12 x13 x14 I J B D ls H locs hok hl hw
  unfold wb_LassoFinderModel_measure_171 at hok
  refine lv_iload hx hb zd_LassoFinderModel_measure_171 (lv_at hl 12 rfl) ?_
  refine lv_iload_n hx hb zd_LassoFinderModel_measure_173 rfl (lv_at hl 1 rfl) ?_
  refine lv_icmp_gt (tgt := 271) hx hb zd_LassoFinderModel_measure_174 (by decide) (fun hc2 => ?_) (fun hc2 => ?_)
  · have hok := hok.1 hc2
    obtain ⟨z3, ez3⟩ : ∃ z : Int32, z = (x10 + 1) := ⟨_, rfl⟩
    have hok := hok z3 ez3
    refine lv_iinc (v := z3) hx hb zd_LassoFinderModel_measure_271 hl (k := 8) rfl ez3.symm (by decide) rfl (fun ls hl => ?_)
    have hl : lv_has ls 16 [(10, .int z3), (0, .ref (ad 0)), (3, .int x3), (4, .int x4), (5, .int x5), (6, .int x6), (7, .int x7), (8, .int x8), (9, .int x9), (11, .int x11), (12, .int x12), (13, .int x13), (14, .int x14)] := hl
    refine lv_goto (tgt := 120) hx hb zd_LassoFinderModel_measure_274 (by decide) ?_
    exact kh120 x3 x4 x5 x6 x7 x8 x9 z3 I J B D ls H locs hok (lv_sub hl [1, 2, 3, 4, 5, 6, 7, 8, 0] rfl) hw
  · have hok := hok.2 hc2
    refine lv_bipush (v := 64) hx hb zd_LassoFinderModel_measure_177 (by decide) ?_
    refine lv_iload hx hb zd_LassoFinderModel_measure_179 (lv_at hl 9 rfl) ?_
    refine lv_imul hx hb zd_LassoFinderModel_measure_181 ?_
    refine lv_topi (fun z4 ez4 => ?_)
    have hok := hok z4 ez4
    refine lv_bipush (v := 8) hx hb zd_LassoFinderModel_measure_182 (by decide) ?_
    refine lv_iload hx hb zd_LassoFinderModel_measure_184 (lv_at hl 10 rfl) ?_
    refine lv_imul hx hb zd_LassoFinderModel_measure_186 ?_
    refine lv_topi (fun z5 ez5 => ?_)
    have hok := hok z5 ez5
    refine lv_iadd hx hb zd_LassoFinderModel_measure_187 ?_
    refine lv_topi (fun z6 ez6 => ?_)
    have hok := hok z6 ez6
    refine lv_iload hx hb zd_LassoFinderModel_measure_188 (lv_at hl 12 rfl) ?_
    refine lv_iadd hx hb zd_LassoFinderModel_measure_190 ?_
    refine lv_topi (fun z7 ez7 => ?_)
    have hok := hok z7 ez7
    refine lv_istore hx hb zd_LassoFinderModel_measure_191 hl (by decide) rfl (fun ls hl => ?_)
    have hl : lv_has ls 16 [(15, .int z7), (0, .ref (ad 0)), (3, .int x3), (4, .int x4), (5, .int x5), (6, .int x6), (7, .int x7), (8, .int x8), (9, .int x9), (10, .int x10), (11, .int x11), (12, .int x12), (13, .int x13), (14, .int x14)] := hl
    refine lv_iload hx hb zd_LassoFinderModel_measure_193 (lv_at hl 13 rfl) ?_
    refine lv_iload hx hb zd_LassoFinderModel_measure_195 (lv_at hl 8 rfl) ?_
    refine lv_ior hx hb zd_LassoFinderModel_measure_197 ?_
    refine lv_topi (fun z8 ez8 => ?_)
    have hok := hok z8 ez8
    refine lv_iload hx hb zd_LassoFinderModel_measure_198 (lv_at hl 5 rfl) ?_
    refine lv_bipush (v := 7) hx hb zd_LassoFinderModel_measure_200 (by decide) ?_
    refine lv_iand hx hb zd_LassoFinderModel_measure_202 ?_
    refine lv_topi (fun z9 ez9 => ?_)
    have hok := hok z9 ez9
    refine lv_icmp_ne (tgt := 265) hx hb zd_LassoFinderModel_measure_203 (by decide) (fun hc10 => ?_) (fun hc10 => ?_)
    · have hok := hok.1 hc10
      exact wJ_LassoFinderModel_measure_265 G K ad a0 a1 Post C K72 kh72 K120 kh120 K171 kh171 x3 x4 x5 x6 x7 x8 x9 x10 x11 x12 x13 x14 I J B D ls H locs hok (lv_sub hl [1, 2, 3, 4, 5, 6, 7, 8, 9, 10, 11, 12, 13] rfl) hw
    · have hok := hok.2 hc10
      refine lv_iload hx hb zd_LassoFinderModel_measure_206 (lv_at hl 12 rfl) ?_
      refine lv_iload hx hb zd_LassoFinderModel_measure_208 (lv_at hl 13 rfl) ?_
      refine lv_iconst (v := (-1)) hx hb zd_LassoFinderModel_measure_210 (by decide) ?_
      refine lv_ixor hx hb zd_LassoFinderModel_measure_211 ?_
      refine lv_topi (fun z11 ez11 => ?_)
      have hok := hok z11 ez11
      refine lv_iand hx hb zd_LassoFinderModel_measure_212 ?_
      refine lv_topi (fun z12 ez12 => ?_)
      have hok := hok z12 ez12
      refine lv_if_ne (tgt := 265) hx hb zd_LassoFinderModel_measure_213 (by decide) (fun hc13 => ?_) (fun hc13 => ?_)
      · have hok := hok.1 hc13
        exact wJ_LassoFinderModel_measure_265 G K ad a0 a1 Post C K72 kh72 K120 kh120 K171 kh171 x3 x4 x5 x6 x7 x8 x9 x10 x11 x12 x13 x14 I J B D ls H locs hok (lv_sub hl [1, 2, 3, 4, 5, 6, 7, 8, 9, 10, 11, 12, 13] rfl) hw
      · have hok := hok.2 hc13
        refine lv_aload_n hx hb zd_LassoFinderModel_measure_216 rfl (lv_at hl 1 rfl) ?_
        refine z_get (v := .ref (ad 54)) hx hb hts hown hK hw zZ12 0 wM_g0 77 (by decide) zm_288 rfl zd_LassoFinderModel_measure_217 ?_
        refine lv_iload hx hb zd_LassoFinderModel_measure_220 (lv_at hl 0 rfl) ?_
        refine va_iald (f := (B 51)) hx hb hK hw.1 54 0 wM_a54 rfl hok.1 zd_LassoFinderModel_measure_222 ?_
        have hok := hok.2
        refine lv_topi (fun z14 ez14 => ?_)
        have hok := hok z14 ez14
        refine lv_if_lt (tgt := 229) hx hb zd_LassoFinderModel_measure_223 (by decide) (fun hc15 => ?_) (fun hc15 => ?_)
        · have hok := hok.1 hc15
          refine lv_aload_n hx hb zd_LassoFinderModel_measure_229 rfl (lv_at hl 1 rfl) ?_
          refine z_get (v := .ref (ad 54)) hx hb hts hown hK hw zZ12 0 wM_g0 77 (by decide) zm_288 rfl zd_LassoFinderModel_measure_230 ?_
          refine lv_iload hx hb zd_LassoFinderModel_measure_233 (lv_at hl 0 rfl) ?_
          refine lv_aload_n hx hb zd_LassoFinderModel_measure_235 rfl (lv_at hl 1 rfl) ?_
          refine lv_iload hx hb zd_LassoFinderModel_measure_236 (lv_at hl 5 rfl) ?_
          refine z_calli (w1 := fun (u : zS) => wM ad K u.1 u.2.1 u.2.2.1 u.2.2.2) (wr := []) (z_runV (q0 := 0) (wc := (wM ad K I J B D)) (As := [.int x6]) (rest := [.int z7, .ref (ad 54)]) ⟨hx, hb, hml, hown, hts⟩ (w_LassoFinderModel_away l G K ad I J B D x6 _ H.size hok) zf_LassoFinderModel_away zm_376 ⟨Nat.le_of_ble_eq_true rfl, Nat.le_of_ble_eq_true rfl⟩ hK hw (List.range 58) wM_all wM_nd wM_g0 rfl rfl hl.1 rfl (Nat.le_of_ble_eq_true rfl) zd_LassoFinderModel_measure_238 ⟨Nat.le_of_ble_eq_true rfl, Nat.le_of_ble_eq_true rfl⟩) hw hA (List.range 58) [] wM_all rfl (by decide) (fun i hi => by cases hi) (fun r16 u H locs hok hw => ?_)
          obtain ⟨I16, J16, B16, D16⟩ := u
          dsimp only at hok
          have hw : zW G A s.heap (wM ad K I16 J16 B16 D16) H locs := hw
          refine lv_iconst (v := 1) hx hb zd_LassoFinderModel_measure_241 (by decide) ?_
          refine lv_iadd hx hb zd_LassoFinderModel_measure_242 ?_
          refine lv_topi (fun z17 ez17 => ?_)
          have hok := hok z17 ez17
          refine va_iast (f := (B16 51)) hx hb hK hw.1 hw.2.1 hw.2.2 54 0 wM_a54 rfl hok.1 zd_LassoFinderModel_measure_243 (fun H locs w91 w92 w93 => ?_)
          have hok := hok.2
          have hw := wM_t54 ⟨w91, w92, w93⟩
          refine lv_aload_n hx hb zd_LassoFinderModel_measure_244 rfl (lv_at hl 1 rfl) ?_
          refine z_get (v := .ref (ad 54)) hx hb hts hown hK hw zZ12 0 wM_g0 77 (by decide) zm_288 rfl zd_LassoFinderModel_measure_245 ?_
          refine lv_iload hx hb zd_LassoFinderModel_measure_248 (lv_at hl 3 rfl) ?_
          refine lv_dup2_11 hx hb zd_LassoFinderModel_measure_250 rfl rfl ?_
          refine va_iald (f := (upd (B16 51) z7.toNatClampNeg z17)) hx hb hK hw.1 54 0 wM_a54 rfl hok.1 zd_LassoFinderModel_measure_251 ?_
          have hok := hok.2
          refine lv_topi (fun z18 ez18 => ?_)
          have hok := hok z18 ez18
          refine lv_iload hx hb zd_LassoFinderModel_measure_252 (lv_at hl 0 rfl) ?_
          refine lv_iconst (v := 1) hx hb zd_LassoFinderModel_measure_254 (by decide) ?_
          refine lv_iadd hx hb zd_LassoFinderModel_measure_255 ?_
          refine lv_topi (fun z19 ez19 => ?_)
          have hok := hok z19 ez19
          refine lv_bipush (v := 12) hx hb zd_LassoFinderModel_measure_256 (by decide) ?_
          refine lv_ishl hx hb zd_LassoFinderModel_measure_258 ?_
          refine lv_topi (fun z20 ez20 => ?_)
          have hok := hok z20 ez20
          refine lv_iadd hx hb zd_LassoFinderModel_measure_259 ?_
          refine lv_topi (fun z21 ez21 => ?_)
          have hok := hok z21 ez21
          refine va_iast (f := (upd (B16 51) z7.toNatClampNeg z17)) hx hb hK hw.1 hw.2.1 hw.2.2 54 0 wM_a54 rfl hok.1 zd_LassoFinderModel_measure_260 (fun H locs w91 w92 w93 => ?_)
          have hok := hok.2
          have hw := wM_t54 ⟨w91, w92, w93⟩
          refine lv_iload hx hb zd_LassoFinderModel_measure_261 (lv_at hl 0 rfl) ?_
          refine lv_istore hx hb zd_LassoFinderModel_measure_263 hl (by decide) rfl (fun ls hl => ?_)
          have hl : lv_has ls 16 [(4, .int z7), (15, .int z7), (0, .ref (ad 0)), (3, .int x3), (5, .int x5), (6, .int x6), (7, .int x7), (8, .int x8), (9, .int x9), (10, .int x10), (11, .int x11), (12, .int x12), (13, .int x13), (14, .int x14)] := hl
          exact wJ_LassoFinderModel_measure_265 G K ad a0 a1 Post C K72 kh72 K120 kh120 K171 kh171 x3 z7 x5 x6 x7 x8 x9 x10 x11 x12 x13 x14 I16 J16 (va_up (va_up B16 51 (upd (B16 51) z7.toNatClampNeg z17)) 51 (upd (upd (B16 51) z7.toNatClampNeg z17) x4.toNatClampNeg z21)) D16 ls H locs hok (lv_sub hl [2, 3, 0, 4, 5, 6, 7, 8, 9, 10, 11, 12, 13] rfl) hw
        · have hok := hok.2 hc15
          refine lv_goto (tgt := 265) hx hb zd_LassoFinderModel_measure_226 (by decide) ?_
          exact wJ_LassoFinderModel_measure_265 G K ad a0 a1 Post C K72 kh72 K120 kh120 K171 kh171 x3 x4 x5 x6 x7 x8 x9 x10 x11 x12 x13 x14 I J B D ls H locs hok (lv_sub hl [1, 2, 3, 4, 5, 6, 7, 8, 9, 10, 11, 12, 13] rfl) hw
theorem wL_LassoFinderModel_measure_171 {p : Program} {l : Launch} {e : Env} {s : State} {m : MethodId} {below : List Frame} {meth : Method} {c : Code} {A : Nat → Prop} (G : va_G) (K : Nat → ClassId) (ad : Nat → Nat) (a0 : Int32) (a1 : Int32) (Post : (Nat → Int32) → (Nat → Int64) → (Nat → Nat → Int32) → (Nat → Nat → Int64) → Prop) (C : zCx p s m ([.ref (ad 0), .int a0, .int a1] : List Value).toArray meth c A G K prog_14_method_56_code none 16 "LassoFinderModel") (K72 : Int32 → Int32 → Int32 → Int32 → (Nat → Int32) → (Nat → Int64) → (Nat → Nat → Int32) → (Nat → Nat → Int64) → Prop) (kh72 : ∀ (x3 : Int32) (x4 : Int32) (x5 : Int32) (x6 : Int32) (I : Nat → Int32) (J : Nat → Int64) (B : Nat → Nat → Int32) (D : Nat → Nat → Int64) (ls : Array Slot) (H : Heap) (locs : List Loc), K72 x3 x4 x5 x6 I J B D → lv_has ls 16 [(0, .ref (ad 0)), (3, .int x3), (4, .int x4), (5, .int x5), (6, .int x6)] → zW G A s.heap (wM ad K I J B D) H locs → W p l e { frames := 2, cells := 0, slots := 0, locals := 50 } s m ([.ref (ad 0), .int a0, .int a1] : List Value).toArray below meth c H locs 0 0 (MQ below (va_Qv (fun u : zS => Post u.1 u.2.1 u.2.2.1 u.2.2.2) (fun u t => zPost G K A (wM ad K u.1 u.2.1 u.2.2.1 u.2.2.2) t) A) ([.ref (ad 0), .int a0, .int a1] : List Value).toArray s 0 0 A) (F0 m 72 ls [])) (K120 : Int32 → Int32 → Int32 → Int32 → Int32 → Int32 → Int32 → Int32 → (Nat → Int32) → (Nat → Int64) → (Nat → Nat → Int32) → (Nat → Nat → Int64) → Prop) (kh120 : ∀ (x3 : Int32) (x4 : Int32) (x5 : Int32) (x6 : Int32) (x7 : Int32) (x8 : Int32) (x9 : Int32) (x10 : Int32) (I : Nat → Int32) (J : Nat → Int64) (B : Nat → Nat → Int32) (D : Nat → Nat → Int64) (ls : Array Slot) (H : Heap) (locs : List Loc), K120 x3 x4 x5 x6 x7 x8 x9 x10 I J B D → lv_has ls 16 [(0, .ref (ad 0)), (3, .int x3), (4, .int x4), (5, .int x5), (6, .int x6), (7, .int x7), (8, .int x8), (9, .int x9), (10, .int x10)] → zW G A s.heap (wM ad K I J B D) H locs → W p l e { frames := 2, cells := 0, slots := 0, locals := 50 } s m ([.ref (ad 0), .int a0, .int a1] : List Value).toArray below meth c H locs 0 0 (MQ below (va_Qv (fun u : zS => Post u.1 u.2.1 u.2.2.1 u.2.2.2) (fun u t => zPost G K A (wM ad K u.1 u.2.1 u.2.2.1 u.2.2.2) t) A) ([.ref (ad 0), .int a0, .int a1] : List Value).toArray s 0 0 A) (F0 m 120 ls [])) : ∀ (n : Nat) (x3 : Int32) (x4 : Int32) (x5 : Int32) (x6 : Int32) (x7 : Int32) (x8 : Int32) (x9 : Int32) (x10 : Int32) (x11 : Int32) (x12 : Int32) (x13 : Int32) (x14 : Int32) (I : Nat → Int32) (J : Nat → Int64) (B : Nat → Nat → Int32) (D : Nat → Nat → Int64) (ls : Array Slot) (H : Heap) (locs : List Loc), wl_LassoFinderModel_measure_171 a0 a1 K72 K120 Post n x3 x4 x5 x6 x7 x8 x9 x10 x11 x12 x13 x14 I J B D → lv_has ls 16 [(0, .ref (ad 0)), (3, .int x3), (4, .int x4), (5, .int x5), (6, .int x6), (7, .int x7), (8, .int x8), (9, .int x9), (10, .int x10), (11, .int x11), (12, .int x12), (13, .int x13), (14, .int x14)] → zW G A s.heap (wM ad K I J B D) H locs → W p l e { frames := 2, cells := 0, slots := 0, locals := 50 } s m ([.ref (ad 0), .int a0, .int a1] : List Value).toArray below meth c H locs 0 0 (MQ below (va_Qv (fun u : zS => Post u.1 u.2.1 u.2.2.1 u.2.2.2) (fun u t => zPost G K A (wM ad K u.1 u.2.1 u.2.2.1 u.2.2.2) t) A) ([.ref (ad 0), .int a0, .int a1] : List Value).toArray s 0 0 A) (F0 m 171 ls []) := by
  intro n
  induction n with
  | zero => intro x3 x4 x5 x6 x7 x8 x9 x10 x11 x12 x13 x14 I J B D ls H locs hok; exact hok.elim
  | succ n ih => exact wB_LassoFinderModel_measure_171 G K ad a0 a1 Post C K72 kh72 K120 kh120 (wl_LassoFinderModel_measure_171 a0 a1 K72 K120 Post n) ih
set_option maxHeartbeats 8000000 in
set_option maxRecDepth 100000 in
theorem wB_LassoFinderModel_measure_120 {p : Program} {l : Launch} {e : Env} {s : State} {m : MethodId} {below : List Frame} {meth : Method} {c : Code} {A : Nat → Prop} (G : va_G) (K : Nat → ClassId) (ad : Nat → Nat) (a0 : Int32) (a1 : Int32) (Post : (Nat → Int32) → (Nat → Int64) → (Nat → Nat → Int32) → (Nat → Nat → Int64) → Prop) (C : zCx p s m ([.ref (ad 0), .int a0, .int a1] : List Value).toArray meth c A G K prog_14_method_56_code none 16 "LassoFinderModel") (K72 : Int32 → Int32 → Int32 → Int32 → (Nat → Int32) → (Nat → Int64) → (Nat → Nat → Int32) → (Nat → Nat → Int64) → Prop) (kh72 : ∀ (x3 : Int32) (x4 : Int32) (x5 : Int32) (x6 : Int32) (I : Nat → Int32) (J : Nat → Int64) (B : Nat → Nat → Int32) (D : Nat → Nat → Int64) (ls : Array Slot) (H : Heap) (locs : List Loc), K72 x3 x4 x5 x6 I J B D → lv_has ls 16 [(0, .ref (ad 0)), (3, .int x3), (4, .int x4), (5, .int x5), (6, .int x6)] → zW G A s.heap (wM ad K I J B D) H locs → W p l e { frames := 2, cells := 0, slots := 0, locals := 50 } s m ([.ref (ad 0), .int a0, .int a1] : List Value).toArray below meth c H locs 0 0 (MQ below (va_Qv (fun u : zS => Post u.1 u.2.1 u.2.2.1 u.2.2.2) (fun u t => zPost G K A (wM ad K u.1 u.2.1 u.2.2.1 u.2.2.2) t) A) ([.ref (ad 0), .int a0, .int a1] : List Value).toArray s 0 0 A) (F0 m 72 ls [])) (K120 : Int32 → Int32 → Int32 → Int32 → Int32 → Int32 → Int32 → Int32 → (Nat → Int32) → (Nat → Int64) → (Nat → Nat → Int32) → (Nat → Nat → Int64) → Prop) (kh120 : ∀ (x3 : Int32) (x4 : Int32) (x5 : Int32) (x6 : Int32) (x7 : Int32) (x8 : Int32) (x9 : Int32) (x10 : Int32) (I : Nat → Int32) (J : Nat → Int64) (B : Nat → Nat → Int32) (D : Nat → Nat → Int64) (ls : Array Slot) (H : Heap) (locs : List Loc), K120 x3 x4 x5 x6 x7 x8 x9 x10 I J B D → lv_has ls 16 [(0, .ref (ad 0)), (3, .int x3), (4, .int x4), (5, .int x5), (6, .int x6), (7, .int x7), (8, .int x8), (9, .int x9), (10, .int x10)] → zW G A s.heap (wM ad K I J B D) H locs → W p l e { frames := 2, cells := 0, slots := 0, locals := 50 } s m ([.ref (ad 0), .int a0, .int a1] : List Value).toArray below meth c H locs 0 0 (MQ below (va_Qv (fun u : zS => Post u.1 u.2.1 u.2.2.1 u.2.2.2) (fun u t => zPost G K A (wM ad K u.1 u.2.1 u.2.2.1 u.2.2.2) t) A) ([.ref (ad 0), .int a0, .int a1] : List Value).toArray s 0 0 A) (F0 m 120 ls [])) : ∀ (x3 : Int32) (x4 : Int32) (x5 : Int32) (x6 : Int32) (x7 : Int32) (x8 : Int32) (x9 : Int32) (x10 : Int32) (I : Nat → Int32) (J : Nat → Int64) (B : Nat → Nat → Int32) (D : Nat → Nat → Int64) (ls : Array Slot) (H : Heap) (locs : List Loc), wb_LassoFinderModel_measure_120 a0 a1 K120 K72 Post x3 x4 x5 x6 x7 x8 x9 x10 I J B D → lv_has ls 16 [(0, .ref (ad 0)), (3, .int x3), (4, .int x4), (5, .int x5), (6, .int x6), (7, .int x7), (8, .int x8), (9, .int x9), (10, .int x10)] → zW G A s.heap (wM ad K I J B D) H locs → W p l e { frames := 2, cells := 0, slots := 0, locals := 50 } s m ([.ref (ad 0), .int a0, .int a1] : List Value).toArray below meth c H locs 0 0 (MQ below (va_Qv (fun u : zS => Post u.1 u.2.1 u.2.2.1 u.2.2.2) (fun u t => zPost G K A (wM ad K u.1 u.2.1 u.2.2.1 u.2.2.2) t) A) ([.ref (ad 0), .int a0, .int a1] : List Value).toArray s 0 0 A) (F0 m 120 ls []) := by
  obtain ⟨hx, hb, hr, hml, hts, hown, hlocks, hA, hK⟩ := id C
  intro x3 x4 x5 x6 x7 x8 x9 x10 I J B D ls H locs hok hl hw
  unfold wb_LassoFinderModel_measure_120 at hok
  refine lv_iload hx hb zd_LassoFinderModel_measure_120 (lv_at hl 8 rfl) ?_
  refine lv_aload_n hx hb zd_LassoFinderModel_measure_122 rfl (lv_at hl 0 rfl) ?_
  refine z_get (v := .ref (ad 37)) hx hb hts hown hK hw zZ12 0 wM_g0 53 (by decide) zm_271 rfl zd_LassoFinderModel_measure_123 ?_
  refine lv_iload hx hb zd_LassoFinderModel_measure_126 (lv_at hl 5 rfl) ?_
  refine lv_iconst (v := 1) hx hb zd_LassoFinderModel_measure_128 (by decide) ?_
  refine lv_iadd hx hb zd_LassoFinderModel_measure_129 ?_
  refine lv_topi (fun z22 ez22 => ?_)
  have hok := hok z22 ez22
  refine va_iald (f := (B 34)) hx hb hK hw.1 37 0 wM_a37 rfl hok.1 zd_LassoFinderModel_measure_130 ?_
  have hok := hok.2
  refine lv_topi (fun z23 ez23 => ?_)
  have hok := hok z23 ez23
  refine lv_icmp_ge (tgt := 277) hx hb zd_LassoFinderModel_measure_131 (by decide) (fun hc24 => ?_) (fun hc24 => ?_)
  · have hok := hok.1 hc24
    refine lv_aload_n hx hb zd_LassoFinderModel_measure_277 rfl (lv_at hl 0 rfl) ?_
    refine z_get (v := .ref (ad 54)) hx hb hts hown hK hw zZ12 0 wM_g0 77 (by decide) zm_288 rfl zd_LassoFinderModel_measure_278 ?_
    refine lv_iload hx hb zd_LassoFinderModel_measure_281 (lv_at hl 4 rfl) ?_
    refine va_iald (f := (B 51)) hx hb hK hw.1 54 0 wM_a54 rfl hok.1 zd_LassoFinderModel_measure_283 ?_
    have hok := hok.2
    refine lv_topi (fun z25 ez25 => ?_)
    have hok := hok z25 ez25
    refine lv_bipush (v := 12) hx hb zd_LassoFinderModel_measure_284 (by decide) ?_
    refine lv_ishr hx hb zd_LassoFinderModel_measure_286 ?_
    refine lv_topi (fun z26 ez26 => ?_)
    have hok := hok z26 ez26
    refine lv_iconst (v := 1) hx hb zd_LassoFinderModel_measure_287 (by decide) ?_
    refine lv_isub hx hb zd_LassoFinderModel_measure_288 ?_
    refine lv_topi (fun z27 ez27 => ?_)
    have hok := hok z27 ez27
    refine lv_istore hx hb zd_LassoFinderModel_measure_289 hl (by decide) rfl (fun ls hl => ?_)
    have hl : lv_has ls 16 [(6, .int z27), (0, .ref (ad 0)), (3, .int x3), (4, .int x4), (5, .int x5), (7, .int x7), (8, .int x8), (9, .int x9), (10, .int x10)] := hl
    refine lv_goto (tgt := 72) hx hb zd_LassoFinderModel_measure_291 (by decide) ?_
    exact kh72 x3 x4 x5 z27 I J B D ls H locs hok (lv_sub hl [1, 2, 3, 4, 0] rfl) hw
  · have hok := hok.2 hc24
    refine lv_aload_n hx hb zd_LassoFinderModel_measure_134 rfl (lv_at hl 0 rfl) ?_
    refine z_get (v := .ref (ad 34)) hx hb hts hown hK hw zZ12 0 wM_g0 50 (by decide) zm_268 rfl zd_LassoFinderModel_measure_135 ?_
    refine lv_aload_n hx hb zd_LassoFinderModel_measure_138 rfl (lv_at hl 0 rfl) ?_
    refine z_get (v := .ref (ad 38)) hx hb hts hown hK hw zZ12 0 wM_g0 54 (by decide) zm_272 rfl zd_LassoFinderModel_measure_139 ?_
    refine lv_iload hx hb zd_LassoFinderModel_measure_142 (lv_at hl 8 rfl) ?_
    refine va_iald (f := (B 35)) hx hb hK hw.1 38 0 wM_a38 rfl hok.1 zd_LassoFinderModel_measure_144 ?_
    have hok := hok.2
    refine lv_topi (fun z28 ez28 => ?_)
    have hok := hok z28 ez28
    refine va_iald (f := (B 31)) hx hb hK hw.1 34 0 wM_a34 rfl hok.1 zd_LassoFinderModel_measure_145 ?_
    have hok := hok.2
    refine lv_topi (fun z29 ez29 => ?_)
    have hok := hok z29 ez29
    refine lv_istore hx hb zd_LassoFinderModel_measure_146 hl (by decide) rfl (fun ls hl => ?_)
    have hl : lv_has ls 16 [(11, .int z29), (0, .ref (ad 0)), (3, .int x3), (4, .int x4), (5, .int x5), (6, .int x6), (7, .int x7), (8, .int x8), (9, .int x9), (10, .int x10)] := hl
    refine lv_aload_n hx hb zd_LassoFinderModel_measure_148 rfl (lv_at hl 1 rfl) ?_
    refine lv_iload hx hb zd_LassoFinderModel_measure_149 (lv_at hl 0 rfl) ?_
    refine lv_iload hx hb zd_LassoFinderModel_measure_151 (lv_at hl 7 rfl) ?_
    refine z_calli (w1 := fun (u : zS) => wM ad K u.1 u.2.1 u.2.2.1 u.2.2.2) (wr := []) (z_runV (q0 := 0) (wc := (wM ad K I J B D)) (As := [.int z29, .int x8]) (rest := []) ⟨hx, hb, hml, hown, hts⟩ (w_LassoFinderModel_truthAt l G K ad I J B D z29 x8 _ H.size hok) zf_LassoFinderModel_truthAt zm_375 ⟨Nat.le_of_ble_eq_true rfl, Nat.le_of_ble_eq_true rfl⟩ hK hw (List.range 58) wM_all wM_nd wM_g0 rfl rfl hl.1 rfl (Nat.le_of_ble_eq_true rfl) zd_LassoFinderModel_measure_153 ⟨Nat.le_of_ble_eq_true rfl, Nat.le_of_ble_eq_true rfl⟩) hw hA (List.range 58) [] wM_all rfl (by decide) (fun i hi => by cases hi) (fun r30 u H locs hok hw => ?_)
    obtain ⟨I30, J30, B30, D30⟩ := u
    dsimp only at hok
    have hw : zW G A s.heap (wM ad K I30 J30 B30 D30) H locs := hw
    refine lv_istore hx hb zd_LassoFinderModel_measure_156 hl (by decide) rfl (fun ls hl => ?_)
    have hl : lv_has ls 16 [(12, .int r30), (11, .int z29), (0, .ref (ad 0)), (3, .int x3), (4, .int x4), (5, .int x5), (6, .int x6), (7, .int x7), (8, .int x8), (9, .int x9), (10, .int x10)] := hl
    refine lv_aload_n hx hb zd_LassoFinderModel_measure_158 rfl (lv_at hl 2 rfl) ?_
    refine lv_iload hx hb zd_LassoFinderModel_measure_159 (lv_at hl 1 rfl) ?_
    refine lv_iload hx hb zd_LassoFinderModel_measure_161 (lv_at hl 0 rfl) ?_
    refine z_calli (w1 := fun (u : zS) => wM ad K u.1 u.2.1 u.2.2.1 u.2.2.2) (wr := []) (z_runV (q0 := 0) (wc := (wM ad K I30 J30 B30 D30)) (As := [.int z29, .int r30]) (rest := []) ⟨hx, hb, hml, hown, hts⟩ (w_LassoFinderModel_settled l G K ad I30 J30 B30 D30 z29 r30 _ H.size hok) zf_LassoFinderModel_settled zm_373 ⟨Nat.le_of_ble_eq_true rfl, Nat.le_of_ble_eq_true rfl⟩ hK hw (List.range 58) wM_all wM_nd wM_g0 rfl rfl hl.1 rfl (Nat.le_of_ble_eq_true rfl) zd_LassoFinderModel_measure_163 ⟨Nat.le_of_ble_eq_true rfl, Nat.le_of_ble_eq_true rfl⟩) hw hA (List.range 58) [] wM_all rfl (by decide) (fun i hi => by cases hi) (fun r31 u H locs hok hw => ?_)
    obtain ⟨I31, J31, B31, D31⟩ := u
    dsimp only at hok
    have hw : zW G A s.heap (wM ad K I31 J31 B31 D31) H locs := hw
    refine lv_istore hx hb zd_LassoFinderModel_measure_166 hl (by decide) rfl (fun ls hl => ?_)
    have hl : lv_has ls 16 [(13, .int r31), (12, .int r30), (11, .int z29), (0, .ref (ad 0)), (3, .int x3), (4, .int x4), (5, .int x5), (6, .int x6), (7, .int x7), (8, .int x8), (9, .int x9), (10, .int x10)] := hl
    refine lv_iconst (v := 0) hx hb zd_LassoFinderModel_measure_168 (by decide) ?_
    refine lv_istore hx hb zd_LassoFinderModel_measure_169 hl (by decide) rfl (fun ls hl => ?_)
    have hl : lv_has ls 16 [(14, .int 0), (13, .int r31), (12, .int r30), (11, .int z29), (0, .ref (ad 0)), (3, .int x3), (4, .int x4), (5, .int x5), (6, .int x6), (7, .int x7), (8, .int x8), (9, .int x9), (10, .int x10)] := hl
    obtain ⟨n9, hok⟩ := hok
    exact wL_LassoFinderModel_measure_171 G K ad a0 a1 Post C K72 kh72 K120 kh120 n9 x3 x4 x5 x6 x7 x8 x9 x10 z29 r30 r31 0 I31 J31 B31 D31 ls H locs hok (lv_sub hl [4, 5, 6, 7, 8, 9, 10, 11, 12, 3, 2, 1, 0] rfl) hw
theorem wL_LassoFinderModel_measure_120 {p : Program} {l : Launch} {e : Env} {s : State} {m : MethodId} {below : List Frame} {meth : Method} {c : Code} {A : Nat → Prop} (G : va_G) (K : Nat → ClassId) (ad : Nat → Nat) (a0 : Int32) (a1 : Int32) (Post : (Nat → Int32) → (Nat → Int64) → (Nat → Nat → Int32) → (Nat → Nat → Int64) → Prop) (C : zCx p s m ([.ref (ad 0), .int a0, .int a1] : List Value).toArray meth c A G K prog_14_method_56_code none 16 "LassoFinderModel") (K72 : Int32 → Int32 → Int32 → Int32 → (Nat → Int32) → (Nat → Int64) → (Nat → Nat → Int32) → (Nat → Nat → Int64) → Prop) (kh72 : ∀ (x3 : Int32) (x4 : Int32) (x5 : Int32) (x6 : Int32) (I : Nat → Int32) (J : Nat → Int64) (B : Nat → Nat → Int32) (D : Nat → Nat → Int64) (ls : Array Slot) (H : Heap) (locs : List Loc), K72 x3 x4 x5 x6 I J B D → lv_has ls 16 [(0, .ref (ad 0)), (3, .int x3), (4, .int x4), (5, .int x5), (6, .int x6)] → zW G A s.heap (wM ad K I J B D) H locs → W p l e { frames := 2, cells := 0, slots := 0, locals := 50 } s m ([.ref (ad 0), .int a0, .int a1] : List Value).toArray below meth c H locs 0 0 (MQ below (va_Qv (fun u : zS => Post u.1 u.2.1 u.2.2.1 u.2.2.2) (fun u t => zPost G K A (wM ad K u.1 u.2.1 u.2.2.1 u.2.2.2) t) A) ([.ref (ad 0), .int a0, .int a1] : List Value).toArray s 0 0 A) (F0 m 72 ls [])) : ∀ (n : Nat) (x3 : Int32) (x4 : Int32) (x5 : Int32) (x6 : Int32) (x7 : Int32) (x8 : Int32) (x9 : Int32) (x10 : Int32) (I : Nat → Int32) (J : Nat → Int64) (B : Nat → Nat → Int32) (D : Nat → Nat → Int64) (ls : Array Slot) (H : Heap) (locs : List Loc), wl_LassoFinderModel_measure_120 a0 a1 K72 Post n x3 x4 x5 x6 x7 x8 x9 x10 I J B D → lv_has ls 16 [(0, .ref (ad 0)), (3, .int x3), (4, .int x4), (5, .int x5), (6, .int x6), (7, .int x7), (8, .int x8), (9, .int x9), (10, .int x10)] → zW G A s.heap (wM ad K I J B D) H locs → W p l e { frames := 2, cells := 0, slots := 0, locals := 50 } s m ([.ref (ad 0), .int a0, .int a1] : List Value).toArray below meth c H locs 0 0 (MQ below (va_Qv (fun u : zS => Post u.1 u.2.1 u.2.2.1 u.2.2.2) (fun u t => zPost G K A (wM ad K u.1 u.2.1 u.2.2.1 u.2.2.2) t) A) ([.ref (ad 0), .int a0, .int a1] : List Value).toArray s 0 0 A) (F0 m 120 ls []) := by
  intro n
  induction n with
  | zero => intro x3 x4 x5 x6 x7 x8 x9 x10 I J B D ls H locs hok; exact hok.elim
  | succ n ih => exact wB_LassoFinderModel_measure_120 G K ad a0 a1 Post C K72 kh72 (wl_LassoFinderModel_measure_120 a0 a1 K72 Post n) ih
set_option maxHeartbeats 8000000 in
set_option maxRecDepth 100000 in
theorem wB_LassoFinderModel_measure_72 {p : Program} {l : Launch} {e : Env} {s : State} {m : MethodId} {below : List Frame} {meth : Method} {c : Code} {A : Nat → Prop} (G : va_G) (K : Nat → ClassId) (ad : Nat → Nat) (a0 : Int32) (a1 : Int32) (Post : (Nat → Int32) → (Nat → Int64) → (Nat → Nat → Int32) → (Nat → Nat → Int64) → Prop) (C : zCx p s m ([.ref (ad 0), .int a0, .int a1] : List Value).toArray meth c A G K prog_14_method_56_code none 16 "LassoFinderModel") (K72 : Int32 → Int32 → Int32 → Int32 → (Nat → Int32) → (Nat → Int64) → (Nat → Nat → Int32) → (Nat → Nat → Int64) → Prop) (kh72 : ∀ (x3 : Int32) (x4 : Int32) (x5 : Int32) (x6 : Int32) (I : Nat → Int32) (J : Nat → Int64) (B : Nat → Nat → Int32) (D : Nat → Nat → Int64) (ls : Array Slot) (H : Heap) (locs : List Loc), K72 x3 x4 x5 x6 I J B D → lv_has ls 16 [(0, .ref (ad 0)), (3, .int x3), (4, .int x4), (5, .int x5), (6, .int x6)] → zW G A s.heap (wM ad K I J B D) H locs → W p l e { frames := 2, cells := 0, slots := 0, locals := 50 } s m ([.ref (ad 0), .int a0, .int a1] : List Value).toArray below meth c H locs 0 0 (MQ below (va_Qv (fun u : zS => Post u.1 u.2.1 u.2.2.1 u.2.2.2) (fun u t => zPost G K A (wM ad K u.1 u.2.1 u.2.2.1 u.2.2.2) t) A) ([.ref (ad 0), .int a0, .int a1] : List Value).toArray s 0 0 A) (F0 m 72 ls [])) : ∀ (x3 : Int32) (x4 : Int32) (x5 : Int32) (x6 : Int32) (I : Nat → Int32) (J : Nat → Int64) (B : Nat → Nat → Int32) (D : Nat → Nat → Int64) (ls : Array Slot) (H : Heap) (locs : List Loc), wb_LassoFinderModel_measure_72 a0 a1 K72 Post x3 x4 x5 x6 I J B D → lv_has ls 16 [(0, .ref (ad 0)), (3, .int x3), (4, .int x4), (5, .int x5), (6, .int x6)] → zW G A s.heap (wM ad K I J B D) H locs → W p l e { frames := 2, cells := 0, slots := 0, locals := 50 } s m ([.ref (ad 0), .int a0, .int a1] : List Value).toArray below meth c H locs 0 0 (MQ below (va_Qv (fun u : zS => Post u.1 u.2.1 u.2.2.1 u.2.2.2) (fun u t => zPost G K A (wM ad K u.1 u.2.1 u.2.2.1 u.2.2.2) t) A) ([.ref (ad 0), .int a0, .int a1] : List Value).toArray s 0 0 A) (F0 m 72 ls []) := by
  obtain ⟨hx, hb, hr, hml, hts, hown, hlocks, hA, hK⟩ := id C
  intro x3 x4 x5 x6 I J B D ls H locs hok hl hw
  unfold wb_LassoFinderModel_measure_72 at hok
  refine lv_iload hx hb zd_LassoFinderModel_measure_72 (lv_at hl 4 rfl) ?_
  refine lv_if_lt (tgt := 294) hx hb zd_LassoFinderModel_measure_74 (by decide) (fun hc32 => ?_) (fun hc32 => ?_)
  · have hok := hok.1 hc32
    exact wJ_LassoFinderModel_measure_294 G K ad a0 a1 Post C I J B D ls H locs hok (lv_sub hl [] rfl) hw
  · have hok := hok.2 hc32
    refine lv_iload hx hb zd_LassoFinderModel_measure_77 (lv_at hl 3 rfl) ?_
    refine lv_if_le (tgt := 294) hx hb zd_LassoFinderModel_measure_79 (by decide) (fun hc33 => ?_) (fun hc33 => ?_)
    · have hok := hok.1 hc33
      exact wJ_LassoFinderModel_measure_294 G K ad a0 a1 Post C I J B D ls H locs hok (lv_sub hl [] rfl) hw
    · have hok := hok.2 hc33
      obtain ⟨z34, ez34⟩ : ∃ z : Int32, z = (x5 + (-1)) := ⟨_, rfl⟩
      have hok := hok z34 ez34
      refine lv_iinc (v := z34) hx hb zd_LassoFinderModel_measure_82 hl (k := 3) rfl ez34.symm (by decide) rfl (fun ls hl => ?_)
      have hl : lv_has ls 16 [(5, .int z34), (0, .ref (ad 0)), (3, .int x3), (4, .int x4), (6, .int x6)] := hl
      refine lv_iload hx hb zd_LassoFinderModel_measure_85 (lv_at hl 4 rfl) ?_
      refine lv_bipush (v := 6) hx hb zd_LassoFinderModel_measure_87 (by decide) ?_
      refine lv_ishr hx hb zd_LassoFinderModel_measure_89 ?_
      refine lv_topi (fun z35 ez35 => ?_)
      have hok := hok z35 ez35
      refine lv_istore hx hb zd_LassoFinderModel_measure_90 hl (by decide) rfl (fun ls hl => ?_)
      have hl : lv_has ls 16 [(7, .int z35), (5, .int z34), (0, .ref (ad 0)), (3, .int x3), (4, .int x4), (6, .int x6)] := hl
      refine lv_iload hx hb zd_LassoFinderModel_measure_92 (lv_at hl 5 rfl) ?_
      refine lv_iconst (v := 3) hx hb zd_LassoFinderModel_measure_94 (by decide) ?_
      refine lv_ishr hx hb zd_LassoFinderModel_measure_95 ?_
      refine lv_topi (fun z36 ez36 => ?_)
      have hok := hok z36 ez36
      refine lv_bipush (v := 7) hx hb zd_LassoFinderModel_measure_96 (by decide) ?_
      refine lv_iand hx hb zd_LassoFinderModel_measure_98 ?_
      refine lv_topi (fun z37 ez37 => ?_)
      have hok := hok z37 ez37
      refine lv_istore hx hb zd_LassoFinderModel_measure_99 hl (by decide) rfl (fun ls hl => ?_)
      have hl : lv_has ls 16 [(8, .int z37), (7, .int z35), (5, .int z34), (0, .ref (ad 0)), (3, .int x3), (4, .int x4), (6, .int x6)] := hl
      refine lv_aload_n hx hb zd_LassoFinderModel_measure_101 rfl (lv_at hl 3 rfl) ?_
      refine lv_iload hx hb zd_LassoFinderModel_measure_102 (lv_at hl 1 rfl) ?_
      refine lv_iload hx hb zd_LassoFinderModel_measure_104 (lv_at hl 0 rfl) ?_
      refine z_calli (w1 := fun (u : zS) => wM ad K u.1 u.2.1 u.2.2.1 u.2.2.2) (wr := []) (z_runV (q0 := 0) (wc := (wM ad K I J B D)) (As := [.int z35, .int z37]) (rest := []) ⟨hx, hb, hml, hown, hts⟩ (w_LassoFinderModel_settled l G K ad I J B D z35 z37 _ H.size hok) zf_LassoFinderModel_settled zm_373 ⟨Nat.le_of_ble_eq_true rfl, Nat.le_of_ble_eq_true rfl⟩ hK hw (List.range 58) wM_all wM_nd wM_g0 rfl rfl hl.1 rfl (Nat.le_of_ble_eq_true rfl) zd_LassoFinderModel_measure_106 ⟨Nat.le_of_ble_eq_true rfl, Nat.le_of_ble_eq_true rfl⟩) hw hA (List.range 58) [] wM_all rfl (by decide) (fun i hi => by cases hi) (fun r38 u H locs hok hw => ?_)
      obtain ⟨I38, J38, B38, D38⟩ := u
      dsimp only at hok
      have hw : zW G A s.heap (wM ad K I38 J38 B38 D38) H locs := hw
      refine lv_istore hx hb zd_LassoFinderModel_measure_109 hl (by decide) rfl (fun ls hl => ?_)
      have hl : lv_has ls 16 [(9, .int r38), (8, .int z37), (7, .int z35), (5, .int z34), (0, .ref (ad 0)), (3, .int x3), (4, .int x4), (6, .int x6)] := hl
      refine lv_aload_n hx hb zd_LassoFinderModel_measure_111 rfl (lv_at hl 4 rfl) ?_
      refine z_get (v := .ref (ad 37)) hx hb hts hown hK hw zZ12 0 wM_g0 53 (by decide) zm_271 rfl zd_LassoFinderModel_measure_112 ?_
      refine lv_iload hx hb zd_LassoFinderModel_measure_115 (lv_at hl 2 rfl) ?_
      refine va_iald (f := (B38 34)) hx hb hK hw.1 37 0 wM_a37 rfl hok.1 zd_LassoFinderModel_measure_117 ?_
      have hok := hok.2
      refine lv_topi (fun z39 ez39 => ?_)
      have hok := hok z39 ez39
      refine lv_istore hx hb zd_LassoFinderModel_measure_118 hl (by decide) rfl (fun ls hl => ?_)
      have hl : lv_has ls 16 [(10, .int z39), (9, .int r38), (8, .int z37), (7, .int z35), (5, .int z34), (0, .ref (ad 0)), (3, .int x3), (4, .int x4), (6, .int x6)] := hl
      obtain ⟨n9, hok⟩ := hok
      exact wL_LassoFinderModel_measure_120 G K ad a0 a1 Post C K72 kh72 n9 x3 x4 z34 x6 z35 z37 r38 z39 I38 J38 B38 D38 ls H locs hok (lv_sub hl [5, 6, 7, 4, 8, 3, 2, 1, 0] rfl) hw
theorem wL_LassoFinderModel_measure_72 {p : Program} {l : Launch} {e : Env} {s : State} {m : MethodId} {below : List Frame} {meth : Method} {c : Code} {A : Nat → Prop} (G : va_G) (K : Nat → ClassId) (ad : Nat → Nat) (a0 : Int32) (a1 : Int32) (Post : (Nat → Int32) → (Nat → Int64) → (Nat → Nat → Int32) → (Nat → Nat → Int64) → Prop) (C : zCx p s m ([.ref (ad 0), .int a0, .int a1] : List Value).toArray meth c A G K prog_14_method_56_code none 16 "LassoFinderModel") : ∀ (n : Nat) (x3 : Int32) (x4 : Int32) (x5 : Int32) (x6 : Int32) (I : Nat → Int32) (J : Nat → Int64) (B : Nat → Nat → Int32) (D : Nat → Nat → Int64) (ls : Array Slot) (H : Heap) (locs : List Loc), wl_LassoFinderModel_measure_72 a0 a1 Post n x3 x4 x5 x6 I J B D → lv_has ls 16 [(0, .ref (ad 0)), (3, .int x3), (4, .int x4), (5, .int x5), (6, .int x6)] → zW G A s.heap (wM ad K I J B D) H locs → W p l e { frames := 2, cells := 0, slots := 0, locals := 50 } s m ([.ref (ad 0), .int a0, .int a1] : List Value).toArray below meth c H locs 0 0 (MQ below (va_Qv (fun u : zS => Post u.1 u.2.1 u.2.2.1 u.2.2.2) (fun u t => zPost G K A (wM ad K u.1 u.2.1 u.2.2.1 u.2.2.2) t) A) ([.ref (ad 0), .int a0, .int a1] : List Value).toArray s 0 0 A) (F0 m 72 ls []) := by
  intro n
  induction n with
  | zero => intro x3 x4 x5 x6 I J B D ls H locs hok; exact hok.elim
  | succ n ih => exact wB_LassoFinderModel_measure_72 G K ad a0 a1 Post C (wl_LassoFinderModel_measure_72 a0 a1 Post n) ih
set_option maxHeartbeats 8000000 in
set_option maxRecDepth 100000 in
theorem wB_LassoFinderModel_measure_12 {p : Program} {l : Launch} {e : Env} {s : State} {m : MethodId} {below : List Frame} {meth : Method} {c : Code} {A : Nat → Prop} (G : va_G) (K : Nat → ClassId) (ad : Nat → Nat) (a0 : Int32) (a1 : Int32) (Post : (Nat → Int32) → (Nat → Int64) → (Nat → Nat → Int32) → (Nat → Nat → Int64) → Prop) (C : zCx p s m ([.ref (ad 0), .int a0, .int a1] : List Value).toArray meth c A G K prog_14_method_56_code none 16 "LassoFinderModel") (K12 : Int32 → Int32 → Int32 → Int32 → (Nat → Int32) → (Nat → Int64) → (Nat → Nat → Int32) → (Nat → Nat → Int64) → Prop) (kh12 : ∀ (x1 : Int32) (x2 : Int32) (x3 : Int32) (x4 : Int32) (I : Nat → Int32) (J : Nat → Int64) (B : Nat → Nat → Int32) (D : Nat → Nat → Int64) (ls : Array Slot) (H : Heap) (locs : List Loc), K12 x1 x2 x3 x4 I J B D → lv_has ls 16 [(0, .ref (ad 0)), (1, .int x1), (2, .int x2), (3, .int x3), (4, .int x4)] → zW G A s.heap (wM ad K I J B D) H locs → W p l e { frames := 2, cells := 0, slots := 0, locals := 50 } s m ([.ref (ad 0), .int a0, .int a1] : List Value).toArray below meth c H locs 0 0 (MQ below (va_Qv (fun u : zS => Post u.1 u.2.1 u.2.2.1 u.2.2.2) (fun u t => zPost G K A (wM ad K u.1 u.2.1 u.2.2.1 u.2.2.2) t) A) ([.ref (ad 0), .int a0, .int a1] : List Value).toArray s 0 0 A) (F0 m 12 ls [])) : ∀ (x1 : Int32) (x2 : Int32) (x3 : Int32) (x4 : Int32) (I : Nat → Int32) (J : Nat → Int64) (B : Nat → Nat → Int32) (D : Nat → Nat → Int64) (ls : Array Slot) (H : Heap) (locs : List Loc), wb_LassoFinderModel_measure_12 a0 a1 K12 Post x1 x2 x3 x4 I J B D → lv_has ls 16 [(0, .ref (ad 0)), (1, .int x1), (2, .int x2), (3, .int x3), (4, .int x4)] → zW G A s.heap (wM ad K I J B D) H locs → W p l e { frames := 2, cells := 0, slots := 0, locals := 50 } s m ([.ref (ad 0), .int a0, .int a1] : List Value).toArray below meth c H locs 0 0 (MQ below (va_Qv (fun u : zS => Post u.1 u.2.1 u.2.2.1 u.2.2.2) (fun u t => zPost G K A (wM ad K u.1 u.2.1 u.2.2.1 u.2.2.2) t) A) ([.ref (ad 0), .int a0, .int a1] : List Value).toArray s 0 0 A) (F0 m 12 ls []) := by
  obtain ⟨hx, hb, hr, hml, hts, hown, hlocks, hA, hK⟩ := id C
  intro x1 x2 x3 x4 I J B D ls H locs hok hl hw
  unfold wb_LassoFinderModel_measure_12 at hok
  refine lv_iload hx hb zd_LassoFinderModel_measure_12 (lv_at hl 4 rfl) ?_
  refine lv_bipush (v := 64) hx hb zd_LassoFinderModel_measure_14 (by decide) ?_
  refine lv_aload_n hx hb zd_LassoFinderModel_measure_16 rfl (lv_at hl 0 rfl) ?_
  refine z_get (v := .int (I 14)) hx hb hts hown hK hw zZ12 0 wM_g0 44 (by decide) zm_300 rfl zd_LassoFinderModel_measure_17 ?_
  refine lv_imul hx hb zd_LassoFinderModel_measure_20 ?_
  refine lv_topi (fun z40 ez40 => ?_)
  have hok := hok z40 ez40
  refine lv_icmp_ge (tgt := 38) hx hb zd_LassoFinderModel_measure_21 (by decide) (fun hc41 => ?_) (fun hc41 => ?_)
  · have hok := hok.1 hc41
    refine lv_bipush (v := 64) hx hb zd_LassoFinderModel_measure_38 (by decide) ?_
    refine lv_iload_n hx hb zd_LassoFinderModel_measure_40 rfl (lv_at hl 1 rfl) ?_
    refine lv_imul hx hb zd_LassoFinderModel_measure_41 ?_
    refine lv_topi (fun z42 ez42 => ?_)
    have hok := hok z42 ez42
    refine lv_bipush (v := 8) hx hb zd_LassoFinderModel_measure_42 (by decide) ?_
    refine lv_iload_n hx hb zd_LassoFinderModel_measure_44 rfl (lv_at hl 2 rfl) ?_
    refine lv_imul hx hb zd_LassoFinderModel_measure_45 ?_
    refine lv_topi (fun z43 ez43 => ?_)
    have hok := hok z43 ez43
    refine lv_iadd hx hb zd_LassoFinderModel_measure_46 ?_
    refine lv_topi (fun z44 ez44 => ?_)
    have hok := hok z44 ez44
    refine lv_iload_n hx hb zd_LassoFinderModel_measure_47 rfl (lv_at hl 3 rfl) ?_
    refine lv_iadd hx hb zd_LassoFinderModel_measure_48 ?_
    refine lv_topi (fun z45 ez45 => ?_)
    have hok := hok z45 ez45
    refine lv_istore hx hb zd_LassoFinderModel_measure_49 hl (by decide) rfl (fun ls hl => ?_)
    have hl : lv_has ls 16 [(4, .int z45), (0, .ref (ad 0)), (1, .int x1), (2, .int x2), (3, .int x3)] := hl
    refine lv_aload_n hx hb zd_LassoFinderModel_measure_51 rfl (lv_at hl 1 rfl) ?_
    refine z_get (v := .ref (ad 54)) hx hb hts hown hK hw zZ12 0 wM_g0 77 (by decide) zm_288 rfl zd_LassoFinderModel_measure_52 ?_
    refine lv_iload hx hb zd_LassoFinderModel_measure_55 (lv_at hl 0 rfl) ?_
    refine lv_iconst (v := 0) hx hb zd_LassoFinderModel_measure_57 (by decide) ?_
    refine va_iast (f := (B 51)) hx hb hK hw.1 hw.2.1 hw.2.2 54 0 wM_a54 rfl hok.1 zd_LassoFinderModel_measure_58 (fun H locs w91 w92 w93 => ?_)
    have hok := hok.2
    have hw := wM_t54 ⟨w91, w92, w93⟩
    refine lv_bipush (v := 64) hx hb zd_LassoFinderModel_measure_59 (by decide) ?_
    refine lv_aload_n hx hb zd_LassoFinderModel_measure_61 rfl (lv_at hl 1 rfl) ?_
    refine z_get (v := .int (I 14)) hx hb hts hown hK hw zZ12 0 wM_g0 44 (by decide) zm_300 rfl zd_LassoFinderModel_measure_62 ?_
    refine lv_imul hx hb zd_LassoFinderModel_measure_65 ?_
    refine lv_topi (fun z46 ez46 => ?_)
    have hok := hok z46 ez46
    refine lv_istore hx hb zd_LassoFinderModel_measure_66 hl (by decide) rfl (fun ls hl => ?_)
    have hl : lv_has ls 16 [(5, .int z46), (4, .int z45), (0, .ref (ad 0)), (1, .int x1), (2, .int x2), (3, .int x3)] := hl
    refine lv_iload hx hb zd_LassoFinderModel_measure_68 (lv_at hl 1 rfl) ?_
    refine lv_istore hx hb zd_LassoFinderModel_measure_70 hl (by decide) rfl (fun ls hl => ?_)
    have hl : lv_has ls 16 [(6, .int z45), (5, .int z46), (4, .int z45), (0, .ref (ad 0)), (1, .int x1), (2, .int x2), (3, .int x3)] := hl
    obtain ⟨n9, hok⟩ := hok
    exact wL_LassoFinderModel_measure_72 G K ad a0 a1 Post C n9 x3 z45 z46 z45 I J (va_up B 51 (upd (B 51) z45.toNatClampNeg 0)) D ls H locs hok (lv_sub hl [3, 6, 2, 1, 0] rfl) hw
  · have hok := hok.2 hc41
    refine lv_aload_n hx hb zd_LassoFinderModel_measure_24 rfl (lv_at hl 0 rfl) ?_
    refine z_get (v := .ref (ad 54)) hx hb hts hown hK hw zZ12 0 wM_g0 77 (by decide) zm_288 rfl zd_LassoFinderModel_measure_25 ?_
    refine lv_iload hx hb zd_LassoFinderModel_measure_28 (lv_at hl 4 rfl) ?_
    refine lv_iconst (v := (-1)) hx hb zd_LassoFinderModel_measure_30 (by decide) ?_
    refine va_iast (f := (B 51)) hx hb hK hw.1 hw.2.1 hw.2.2 54 0 wM_a54 rfl hok.1 zd_LassoFinderModel_measure_31 (fun H locs w91 w92 w93 => ?_)
    have hok := hok.2
    have hw := wM_t54 ⟨w91, w92, w93⟩
    obtain ⟨z47, ez47⟩ : ∃ z : Int32, z = (x4 + 1) := ⟨_, rfl⟩
    have hok := hok z47 ez47
    refine lv_iinc (v := z47) hx hb zd_LassoFinderModel_measure_32 hl (k := 4) rfl ez47.symm (by decide) rfl (fun ls hl => ?_)
    have hl : lv_has ls 16 [(4, .int z47), (0, .ref (ad 0)), (1, .int x1), (2, .int x2), (3, .int x3)] := hl
    refine lv_goto (tgt := 12) hx hb zd_LassoFinderModel_measure_35 (by decide) ?_
    exact kh12 x1 x2 x3 z47 I J (va_up B 51 (upd (B 51) x4.toNatClampNeg (-1))) D ls H locs hok (lv_sub hl [1, 2, 3, 4, 0] rfl) hw
theorem wL_LassoFinderModel_measure_12 {p : Program} {l : Launch} {e : Env} {s : State} {m : MethodId} {below : List Frame} {meth : Method} {c : Code} {A : Nat → Prop} (G : va_G) (K : Nat → ClassId) (ad : Nat → Nat) (a0 : Int32) (a1 : Int32) (Post : (Nat → Int32) → (Nat → Int64) → (Nat → Nat → Int32) → (Nat → Nat → Int64) → Prop) (C : zCx p s m ([.ref (ad 0), .int a0, .int a1] : List Value).toArray meth c A G K prog_14_method_56_code none 16 "LassoFinderModel") : ∀ (n : Nat) (x1 : Int32) (x2 : Int32) (x3 : Int32) (x4 : Int32) (I : Nat → Int32) (J : Nat → Int64) (B : Nat → Nat → Int32) (D : Nat → Nat → Int64) (ls : Array Slot) (H : Heap) (locs : List Loc), wl_LassoFinderModel_measure_12 a0 a1 Post n x1 x2 x3 x4 I J B D → lv_has ls 16 [(0, .ref (ad 0)), (1, .int x1), (2, .int x2), (3, .int x3), (4, .int x4)] → zW G A s.heap (wM ad K I J B D) H locs → W p l e { frames := 2, cells := 0, slots := 0, locals := 50 } s m ([.ref (ad 0), .int a0, .int a1] : List Value).toArray below meth c H locs 0 0 (MQ below (va_Qv (fun u : zS => Post u.1 u.2.1 u.2.2.1 u.2.2.2) (fun u t => zPost G K A (wM ad K u.1 u.2.1 u.2.2.1 u.2.2.2) t) A) ([.ref (ad 0), .int a0, .int a1] : List Value).toArray s 0 0 A) (F0 m 12 ls []) := by
  intro n
  induction n with
  | zero => intro x1 x2 x3 x4 I J B D ls H locs hok; exact hok.elim
  | succ n ih => exact wB_LassoFinderModel_measure_12 G K ad a0 a1 Post C (wl_LassoFinderModel_measure_12 a0 a1 Post n) ih
set_option maxHeartbeats 8000000 in
set_option maxRecDepth 100000 in
theorem w_LassoFinderModel_measure (l : Launch) (G : va_G) (K : Nat → ClassId) (ad : Nat → Nat) (I : Nat → Int32) (J : Nat → Int64) (B : Nat → Nat → Int32) (D : Nat → Nat → Int64) (a0 : Int32) (a1 : Int32) (Post : (Nat → Int32) → (Nat → Int64) → (Nat → Nat → Int32) → (Nat → Nat → Int64) → Prop) (sz : Nat) (hok : wp_LassoFinderModel_measure I J B D a0 a1 Post) : Met l zy_LassoFinderModel_measure (Cond.code zy_LassoFinderModel_measure prog_14_method_56_code 16 none :: zTB) { frames := 2, cells := 0, slots := 0, locals := 50 } (va_Pc [.ref (ad 0), .int a0, .int a1] (zPre G K (wM ad K I J B D) sz)) (va_Qv (fun u : zS => Post u.1 u.2.1 u.2.2.1 u.2.2.2) (fun u t => zPost G K (va_A (wM ad K I J B D) sz) (wM ad K u.1 u.2.1 u.2.2.1 u.2.2.2) t) (va_A (wM ad K I J B D) sz)) 0 0 (va_A (wM ad K I J B D) sz) := by
  refine zMet (y := zy_LassoFinderModel_measure) (av := [.ref (ad 0), .int a0, .int a1]) (maxL := 16) (cc := prog_14_method_56_code) (ret := none) (W0 := (wM ad K I J B D)) (sz := sz) (G := G) (K := K) (wt := zTB) (mc := 0) (ms := 0) (Qf := fun A => va_Qv (fun u : zS => Post u.1 u.2.1 u.2.2.1 u.2.2.2) (fun u t => zPost G K A (wM ad K u.1 u.2.1 u.2.2.1 u.2.2.2) t) A) (by decide) (Nat.le_of_ble_eq_true rfl) ?_
  intro p e s m below meth c ls A hx hb hr hml hts hown hlocks hin hA hK H locs hw hsz hl
  clear hsz
  have hown : s.vm.findClass "LassoFinderModel" = some m.cls := hown
  have C : zCx p s m ([.ref (ad 0), .int a0, .int a1] : List Value).toArray meth c A G K prog_14_method_56_code none 16 "LassoFinderModel" := ⟨hx, hb, hr, hml, hts, hown, hlocks, hA, hK⟩
  have hl : lv_has ls 16 [(0, .ref (ad 0)), (1, .int a0), (2, .int a1)] := hl
  have hw : zW G A s.heap (wM ad K I J B D) H locs := hw
  unfold wp_LassoFinderModel_measure at hok
  refine lv_iconst (v := 1) hx hb zd_LassoFinderModel_measure_0 (by decide) ?_
  refine lv_aload_n hx hb zd_LassoFinderModel_measure_1 rfl (lv_at hl 0 rfl) ?_
  refine z_get (v := .int (I 20)) hx hb hts hown hK hw zZ12 0 wM_g0 64 (by decide) zm_356 rfl zd_LassoFinderModel_measure_2 ?_
  refine lv_ishl hx hb zd_LassoFinderModel_measure_5 ?_
  refine lv_topi (fun z48 ez48 => ?_)
  have hok := hok z48 ez48
  refine lv_iconst (v := 1) hx hb zd_LassoFinderModel_measure_6 (by decide) ?_
  refine lv_isub hx hb zd_LassoFinderModel_measure_7 ?_
  refine lv_topi (fun z49 ez49 => ?_)
  have hok := hok z49 ez49
  refine lv_istore_n hx hb zd_LassoFinderModel_measure_8 rfl hl (by decide) rfl (fun ls hl => ?_)
  have hl : lv_has ls 16 [(3, .int z49), (0, .ref (ad 0)), (1, .int a0), (2, .int a1)] := hl
  refine lv_iconst (v := 0) hx hb zd_LassoFinderModel_measure_9 (by decide) ?_
  refine lv_istore hx hb zd_LassoFinderModel_measure_10 hl (by decide) rfl (fun ls hl => ?_)
  have hl : lv_has ls 16 [(4, .int 0), (3, .int z49), (0, .ref (ad 0)), (1, .int a0), (2, .int a1)] := hl
  obtain ⟨n9, hok⟩ := hok
  exact wL_LassoFinderModel_measure_12 G K ad a0 a1 Post C n9 a0 a1 z49 0 I J B D ls H locs hok (lv_sub hl [2, 3, 4, 1, 0] rfl) hw
